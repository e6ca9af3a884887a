theorem dX3_gather_0 : decode cX3_gather 0 = .ok (.aload_n 0, 1) := by decide +kernel
theorem dX3_gather_1 : decode cX3_gather 1 = .ok (.getfield 15, 3) := by decide +kernel
theorem dX3_gather_4 : decode cX3_gather 4 = .ok (.iconst 0, 1) := by decide +kernel
theorem dX3_gather_5 : decode cX3_gather 5 = .ok (.invokestatic 26, 3) := by decide +kernel
theorem dX3_gather_8 : decode cX3_gather 8 = .ok (.aload_n 0, 1) := by decide +kernel
theorem dX3_gather_9 : decode cX3_gather 9 = .ok (.iconst 0, 1) := by decide +kernel
theorem dX3_gather_10 : decode cX3_gather 10 = .ok (.putfield 32, 3) := by decide +kernel
theorem dX3_gather_13 : decode cX3_gather 13 = .ok (.aload_n 0, 1) := by decide +kernel
theorem dX3_gather_14 : decode cX3_gather 14 = .ok (.lconst 0, 1) := by decide +kernel
theorem dX3_gather_15 : decode cX3_gather 15 = .ok (.putfield 36, 3) := by decide +kernel
theorem dX3_gather_18 : decode cX3_gather 18 = .ok (.iconst 0, 1) := by decide +kernel
theorem dX3_gather_19 : decode cX3_gather 19 = .ok (.istore_n 2, 1) := by decide +kernel
theorem dX3_gather_20 : decode cX3_gather 20 = .ok (.iload_n 2, 1) := by decide +kernel
theorem dX3_gather_21 : decode cX3_gather 21 = .ok (.aload_n 0, 1) := by decide +kernel
theorem dX3_gather_22 : decode cX3_gather 22 = .ok (.getfield 18, 3) := by decide +kernel
theorem dX3_gather_25 : decode cX3_gather 25 = .ok (.getfield 40, 3) := by decide +kernel
theorem dX3_gather_28 : decode cX3_gather 28 = .ok (.if_icmp .ge 99, 3) := by decide +kernel
theorem dX3_gather_31 : decode cX3_gather 31 = .ok (.aload_n 0, 1) := by decide +kernel
theorem dX3_gather_32 : decode cX3_gather 32 = .ok (.getfield 22, 3) := by decide +kernel
theorem dX3_gather_35 : decode cX3_gather 35 = .ok (.iload_n 2, 1) := by decide +kernel
theorem dX3_gather_36 : decode cX3_gather 36 = .ok (.iload_n 1, 1) := by decide +kernel
theorem dX3_gather_37 : decode cX3_gather 37 = .ok (.invokevirtual 43, 3) := by decide +kernel
theorem dX3_gather_40 : decode cX3_gather 40 = .ok (.ifCond .eq 81, 3) := by decide +kernel
theorem dX3_gather_43 : decode cX3_gather 43 = .ok (.aload_n 0, 1) := by decide +kernel
theorem dX3_gather_44 : decode cX3_gather 44 = .ok (.getfield 22, 3) := by decide +kernel
theorem dX3_gather_47 : decode cX3_gather 47 = .ok (.getfield 49, 3) := by decide +kernel
theorem dX3_gather_50 : decode cX3_gather 50 = .ok (.iload_n 1, 1) := by decide +kernel
theorem dX3_gather_51 : decode cX3_gather 51 = .ok (.aaload, 1) := by decide +kernel
theorem dX3_gather_52 : decode cX3_gather 52 = .ok (.iload_n 2, 1) := by decide +kernel
theorem dX3_gather_53 : decode cX3_gather 53 = .ok (.iaload, 1) := by decide +kernel
theorem dX3_gather_54 : decode cX3_gather 54 = .ok (.istore_n 3, 1) := by decide +kernel
theorem dX3_gather_55 : decode cX3_gather 55 = .ok (.aload_n 0, 1) := by decide +kernel
theorem dX3_gather_56 : decode cX3_gather 56 = .ok (.getfield 9, 3) := by decide +kernel
theorem dX3_gather_59 : decode cX3_gather 59 = .ok (.aload_n 0, 1) := by decide +kernel
theorem dX3_gather_60 : decode cX3_gather 60 = .ok (.getfield 32, 3) := by decide +kernel
theorem dX3_gather_63 : decode cX3_gather 63 = .ok (.iload_n 3, 1) := by decide +kernel
theorem dX3_gather_64 : decode cX3_gather 64 = .ok (.iastore, 1) := by decide +kernel
theorem dX3_gather_65 : decode cX3_gather 65 = .ok (.aload_n 0, 1) := by decide +kernel
theorem dX3_gather_66 : decode cX3_gather 66 = .ok (.dup, 1) := by decide +kernel
theorem dX3_gather_67 : decode cX3_gather 67 = .ok (.getfield 32, 3) := by decide +kernel
theorem dX3_gather_70 : decode cX3_gather 70 = .ok (.iconst 1, 1) := by decide +kernel
theorem dX3_gather_71 : decode cX3_gather 71 = .ok (.iadd, 1) := by decide +kernel
theorem dX3_gather_72 : decode cX3_gather 72 = .ok (.putfield 32, 3) := by decide +kernel
theorem dX3_gather_75 : decode cX3_gather 75 = .ok (.aload_n 0, 1) := by decide +kernel
theorem dX3_gather_76 : decode cX3_gather 76 = .ok (.getfield 15, 3) := by decide +kernel
theorem dX3_gather_79 : decode cX3_gather 79 = .ok (.aload_n 0, 1) := by decide +kernel
theorem dX3_gather_80 : decode cX3_gather 80 = .ok (.getfield 18, 3) := by decide +kernel
theorem dX3_gather_83 : decode cX3_gather 83 = .ok (.getfield 53, 3) := by decide +kernel
theorem dX3_gather_86 : decode cX3_gather 86 = .ok (.iload_n 2, 1) := by decide +kernel
theorem dX3_gather_87 : decode cX3_gather 87 = .ok (.iaload, 1) := by decide +kernel
theorem dX3_gather_88 : decode cX3_gather 88 = .ok (.dup2, 1) := by decide +kernel
theorem dX3_gather_89 : decode cX3_gather 89 = .ok (.iaload, 1) := by decide +kernel
theorem dX3_gather_90 : decode cX3_gather 90 = .ok (.iconst 1, 1) := by decide +kernel
theorem dX3_gather_91 : decode cX3_gather 91 = .ok (.iadd, 1) := by decide +kernel
theorem dX3_gather_92 : decode cX3_gather 92 = .ok (.iastore, 1) := by decide +kernel
theorem dX3_gather_93 : decode cX3_gather 93 = .ok (.aload_n 0, 1) := by decide +kernel
theorem dX3_gather_94 : decode cX3_gather 94 = .ok (.dup, 1) := by decide +kernel
theorem dX3_gather_95 : decode cX3_gather 95 = .ok (.getfield 36, 3) := by decide +kernel
theorem dX3_gather_98 : decode cX3_gather 98 = .ok (.aload_n 0, 1) := by decide +kernel
theorem dX3_gather_99 : decode cX3_gather 99 = .ok (.getfield 18, 3) := by decide +kernel
theorem dX3_gather_102 : decode cX3_gather 102 = .ok (.getfield 53, 3) := by decide +kernel
theorem dX3_gather_105 : decode cX3_gather 105 = .ok (.iload_n 2, 1) := by decide +kernel
theorem dX3_gather_106 : decode cX3_gather 106 = .ok (.iaload, 1) := by decide +kernel
theorem dX3_gather_107 : decode cX3_gather 107 = .ok (.iconst 1, 1) := by decide +kernel
theorem dX3_gather_108 : decode cX3_gather 108 = .ok (.if_icmp .ne 8, 3) := by decide +kernel
theorem dX3_gather_111 : decode cX3_gather 111 = .ok (.iload_n 3, 1) := by decide +kernel
theorem dX3_gather_112 : decode cX3_gather 112 = .ok (.i2l, 1) := by decide +kernel
theorem dX3_gather_113 : decode cX3_gather 113 = .ok (.goto 4, 3) := by decide +kernel
theorem dX3_gather_116 : decode cX3_gather 116 = .ok (.lconst 0, 1) := by decide +kernel
theorem dX3_gather_117 : decode cX3_gather 117 = .ok (.ladd, 1) := by decide +kernel
theorem dX3_gather_118 : decode cX3_gather 118 = .ok (.putfield 36, 3) := by decide +kernel
theorem dX3_gather_121 : decode cX3_gather 121 = .ok (.iinc 2 1, 3) := by decide +kernel
theorem dX3_gather_124 : decode cX3_gather 124 = .ok (.goto (-104), 3) := by decide +kernel
theorem dX3_gather_127 : decode cX3_gather 127 = .ok (.return_, 1) := by decide +kernel
def wX3_gather_117 (post : Sto → Prop)  (K20 : Int32 → Int32 → Sto → Prop) (x1 : Int32) (x2 : Int32) (y0 : Int64) (y1 : Int64) (σ : Sto) : Prop := K20 x1 (x2 + (1 : Int32)) (wL σ 7 5 (y1 + y0))
set_option maxRecDepth 100000 in
set_option maxHeartbeats 4000000 in
theorem vX3_gather_117 (E : Ev) (post : Sto → Prop)   (K20 : Int32 → Int32 → Sto → Prop) (HK20 : ∀ (x1 : Int32) (x2 : Int32) (σ : Sto), K20 x1 x2 σ → V E 1 mX3_gather (pV post) 20 [(0, .ref 7), (1, .int x1), (2, .int x2)] [] σ) (x1 : Int32) (x2 : Int32) (y0 : Int64) (y1 : Int64) (σ : Sto) (h : wX3_gather_117 post  K20 x1 x2 y0 y1 σ) : V E 1 mX3_gather (pV post) 117 [(0, .ref 7), (1, .int x1), (2, .int x2)] [.long y0, .long y1, .ref 7] σ := by
  unfold wX3_gather_117 at h
  refine V_ladd (pc := 117) dX3_gather_117 ?_
  refine V_putL (pc := 118) dX3_gather_118 fl_X3_36 po_X3_5 sh_7 rfl rfl rfl ?_
  refine V_iinc (pc := 121) 2 (v := 1) dX3_gather_121 rfl (by decide) (by decide) ?_
  refine V_goto (pc := 124) (tgt := 20) dX3_gather_124 (by decide) ?_
  exact V_loc [1, 2, 0] rfl (HK20 x1 (x2 + (1 : Int32)) (wL σ 7 5 (y1 + y0))  h)
def wX3_gather_20 (post : Sto → Prop)  (K127 : Sto → Prop) : Nat → Int32 → Int32 → Sto → Prop
  | 0, _, _, _ => False
  | n + 1, x1, x2, σ => (((σ.1 1 2) ≤ x2) → (K127  σ)) ∧ ((¬ ((σ.1 1 2) ≤ x2)) → (wX7_takesPart  x2 x1 σ (fun (r37 : Bool) (s37 : Sto) => ((r37 = false) → (wX3_gather_20 post  K127 n x1 (x2 + (1 : Int32)) s37)) ∧ ((r37 = true) → (vp_in x1 4 ∧ (vp_in x2 14 ∧ (vp_in (s37.1 7 4) 14 ∧ (vp_in x2 14 ∧ (vp_in (s37.1 13 x2.toNatClampNeg) 2 ∧ (vp_in (s37.1 13 x2.toNatClampNeg) 2 ∧ (vp_in x2 14 ∧ (((¬ (s37.1 13 x2.toNatClampNeg) = ((1 : Int32))) → (wX3_gather_117 post  (wX3_gather_20 post  K127 n) x1 x2 ((0 : Int64)) (s37.2 7 5) (wI (wI (wI s37 57 (s37.1 7 4).toNatClampNeg (s37.1 (45 + x1.toNatClampNeg) x2.toNatClampNeg)) 7 4 ((s37.1 7 4) + ((1 : Int32)))) 58 (s37.1 13 x2.toNatClampNeg).toNatClampNeg ((s37.1 58 (s37.1 13 x2.toNatClampNeg).toNatClampNeg) + ((1 : Int32)))))) ∧ (((s37.1 13 x2.toNatClampNeg) = ((1 : Int32))) → (wX3_gather_117 post  (wX3_gather_20 post  K127 n) x1 x2 ((s37.1 (45 + x1.toNatClampNeg) x2.toNatClampNeg).toInt64) (s37.2 7 5) (wI (wI (wI s37 57 (s37.1 7 4).toNatClampNeg (s37.1 (45 + x1.toNatClampNeg) x2.toNatClampNeg)) 7 4 ((s37.1 7 4) + ((1 : Int32)))) 58 (s37.1 13 x2.toNatClampNeg).toNatClampNeg ((s37.1 58 (s37.1 13 x2.toNatClampNeg).toNatClampNeg) + ((1 : Int32))))))))))))))))))
set_option maxRecDepth 100000 in
set_option maxHeartbeats 4000000 in
theorem vX3_gather_20 (E : Ev) (post : Sto → Prop)   (K127 : Sto → Prop) (HK127 : ∀  (σ : Sto), K127  σ → V E 1 mX3_gather (pV post) 127 [] [] σ) : ∀ (n : Nat) (x1 : Int32) (x2 : Int32) (σ : Sto), wX3_gather_20 post  K127 n x1 x2 σ → V E 1 mX3_gather (pV post) 20 [(0, .ref 7), (1, .int x1), (2, .int x2)] [] σ := by
  intro n
  induction n with
  | zero => intro x1 x2 σ h; exact h.elim
  | succ n ih =>
    intro x1 x2 σ h
    unfold wX3_gather_20 at h
    refine V_iload_n (pc := 20) 2 dX3_gather_20 rfl ?_
    refine V_aload_n (pc := 21) 0 dX3_gather_21 rfl ?_
    refine V_getR (pc := 22) dX3_gather_22 fl_X3_18 sh_7 rfl ?_
    refine V_getI (pc := 25) dX3_gather_25 fl_X3_40 sh_1 rfl ?_
    refine V_icmp_ge (pc := 28) (tgt := 127) dX3_gather_28 (by decide) (fun hc => ?_) (fun hc => ?_)
    · replace h := h.1 hc
      exact V_loc [] rfl (HK127  σ  h)
    · replace h := h.2 hc
      refine V_aload_n (pc := 31) 0 dX3_gather_31 rfl ?_
      refine V_getR (pc := 32) dX3_gather_32 fl_X3_22 sh_7 rfl ?_
      refine V_iload_n (pc := 35) 2 dX3_gather_35 rfl ?_
      refine V_iload_n (pc := 36) 1 dX3_gather_36 rfl ?_
      refine V_callV (pc := 37) (M' := mX7_takesPart) dX3_gather_37 ml_X3_43 kv_X7_takesPart ko_X7_takesPart sh_2 (by decide) (by decide) rfl rfl (Nat.le_of_ble_eq_true rfl) (Nat.le_of_ble_eq_true rfl) (vX7_takesPart E  x2 x1 σ _  h) (kB (fun r37 s37 h => ?_))
      refine V_ifz (pc := 40) (tgt := 121) dX3_gather_40 (by decide) (fun hc => ?_) (fun hc => ?_)
      · replace h := h.1 hc
        refine V_iinc (pc := 121) 2 (v := 1) dX3_gather_121 rfl (by decide) (by decide) ?_
        refine V_goto (pc := 124) (tgt := 20) dX3_gather_124 (by decide) ?_
        exact V_loc [1, 2, 0] rfl (ih x1 (x2 + (1 : Int32)) s37  h)
      · replace h := h.2 hc
        refine V_aload_n (pc := 43) 0 dX3_gather_43 rfl ?_
        refine V_getR (pc := 44) dX3_gather_44 fl_X3_22 sh_7 rfl ?_
        refine V_getR (pc := 47) dX3_gather_47 fl_X3_49 sh_2 rfl ?_
        refine V_iload_n (pc := 50) 1 dX3_gather_50 rfl ?_
        obtain ⟨i51, h⟩ := h
        refine V_aald (pc := 51) dX3_gather_51 sh_44 i51 ?_
        refine V_iload_n (pc := 52) 2 dX3_gather_52 rfl ?_
        obtain ⟨i53, h⟩ := h
        refine V_iald (pc := 53) dX3_gather_53 (sr_45 (vp_lt i51)) i53 ?_
        refine V_istore_n (pc := 54) dX3_gather_54 (by decide) ?_
        refine V_aload_n (pc := 55) 1 dX3_gather_55 rfl ?_
        refine V_getR (pc := 56) dX3_gather_56 fl_X3_9 sh_7 rfl ?_
        refine V_aload_n (pc := 59) 1 dX3_gather_59 rfl ?_
        refine V_getI (pc := 60) dX3_gather_60 fl_X3_32 sh_7 rfl ?_
        refine V_iload_n (pc := 63) 0 dX3_gather_63 rfl ?_
        obtain ⟨i64, h⟩ := h
        refine V_iast (pc := 64) dX3_gather_64 sh_57 i64 ?_
        refine V_aload_n (pc := 65) 1 dX3_gather_65 rfl ?_
        refine V_dup (pc := 66) dX3_gather_66 rfl ?_
        refine V_getI (pc := 67) dX3_gather_67 fl_X3_32 sh_7 rfl ?_
        refine V_iconst (pc := 70) (v := 1) dX3_gather_70 (by decide) ?_
        refine V_iadd (pc := 71) dX3_gather_71 ?_
        refine V_putI (pc := 72) dX3_gather_72 fl_X3_32 po_X3_4 sh_7 rfl rfl rfl ?_
        refine V_aload_n (pc := 75) 1 dX3_gather_75 rfl ?_
        refine V_getR (pc := 76) dX3_gather_76 fl_X3_15 sh_7 rfl ?_
        refine V_aload_n (pc := 79) 1 dX3_gather_79 rfl ?_
        refine V_getR (pc := 80) dX3_gather_80 fl_X3_18 sh_7 rfl ?_
        refine V_getR (pc := 83) dX3_gather_83 fl_X3_53 sh_1 rfl ?_
        refine V_iload_n (pc := 86) 3 dX3_gather_86 rfl ?_
        obtain ⟨i87, h⟩ := h
        refine V_iald (pc := 87) dX3_gather_87 sh_13 i87 ?_
        refine V_dup2_11 (pc := 88) dX3_gather_88 rfl rfl ?_
        obtain ⟨i89, h⟩ := h
        refine V_iald (pc := 89) dX3_gather_89 sh_58 i89 ?_
        refine V_iconst (pc := 90) (v := 1) dX3_gather_90 (by decide) ?_
        refine V_iadd (pc := 91) dX3_gather_91 ?_
        obtain ⟨i92, h⟩ := h
        refine V_iast (pc := 92) dX3_gather_92 sh_58 i92 ?_
        refine V_aload_n (pc := 93) 1 dX3_gather_93 rfl ?_
        refine V_dup (pc := 94) dX3_gather_94 rfl ?_
        refine V_getL (pc := 95) dX3_gather_95 fl_X3_36 sh_7 rfl ?_
        refine V_aload_n (pc := 98) 1 dX3_gather_98 rfl ?_
        refine V_getR (pc := 99) dX3_gather_99 fl_X3_18 sh_7 rfl ?_
        refine V_getR (pc := 102) dX3_gather_102 fl_X3_53 sh_1 rfl ?_
        refine V_iload_n (pc := 105) 3 dX3_gather_105 rfl ?_
        obtain ⟨i106, h⟩ := h
        refine V_iald (pc := 106) dX3_gather_106 sh_13 i106 ?_
        refine V_iconst (pc := 107) (v := 1) dX3_gather_107 (by decide) ?_
        refine V_icmp_ne (pc := 108) (tgt := 116) dX3_gather_108 (by decide) (fun hc => ?_) (fun hc => ?_)
        · replace h := h.1 hc
          refine V_lconst (pc := 116) (v := 0) dX3_gather_116 (by decide) ?_
          refine V_loc [1, 2, 3] rfl (vX3_gather_117 E post   _ ih x1 x2 ((0 : Int64)) (s37.2 7 5) (wI (wI (wI s37 57 (s37.1 7 4).toNatClampNeg (s37.1 (45 + x1.toNatClampNeg) x2.toNatClampNeg)) 7 4 ((s37.1 7 4) + ((1 : Int32)))) 58 (s37.1 13 x2.toNatClampNeg).toNatClampNeg ((s37.1 58 (s37.1 13 x2.toNatClampNeg).toNatClampNeg) + ((1 : Int32))))  h)
        · replace h := h.2 hc
          refine V_iload_n (pc := 111) 0 dX3_gather_111 rfl ?_
          refine V_i2l (pc := 112) dX3_gather_112 ?_
          refine V_goto (pc := 113) (tgt := 117) dX3_gather_113 (by decide) ?_
          refine V_loc [1, 2, 3] rfl (vX3_gather_117 E post   _ ih x1 x2 ((s37.1 (45 + x1.toNatClampNeg) x2.toNatClampNeg).toInt64) (s37.2 7 5) (wI (wI (wI s37 57 (s37.1 7 4).toNatClampNeg (s37.1 (45 + x1.toNatClampNeg) x2.toNatClampNeg)) 7 4 ((s37.1 7 4) + ((1 : Int32)))) 58 (s37.1 13 x2.toNatClampNeg).toNatClampNeg ((s37.1 58 (s37.1 13 x2.toNatClampNeg).toNatClampNeg) + ((1 : Int32))))  h)
def wX3_gather  (x1 : Int32) (σ : Sto) (post : Sto → Prop) : Prop := wJ7_fill_53178 58 2 ((0 : Int32)) σ (fun (s5 : Sto) => ∃ n20, wX3_gather_20 post  (fun  (σ_1 : Sto) => post σ_1) n20 x1 ((0 : Int32)) (wL (wI s5 7 4 ((0 : Int32))) 7 5 ((0 : Int64))))
set_option maxRecDepth 100000 in
set_option maxHeartbeats 4000000 in
theorem vX3_gather (E : Ev)  (x1 : Int32) (σ : Sto) (post : Sto → Prop)  (h : wX3_gather  x1 σ post) : V E 1 mX3_gather (pV post) 0 [(0, .ref 7), (1, .int x1)] [] σ := by
  unfold wX3_gather at h
  refine V_aload_n (pc := 0) 0 dX3_gather_0 rfl ?_
  refine V_getR (pc := 1) dX3_gather_1 fl_X3_15 sh_7 rfl ?_
  refine V_iconst (pc := 4) (v := 0) dX3_gather_4 (by decide) ?_
  refine V_callS (pc := 5) (M' := mJ7_fill_53178) dX3_gather_5 ml_X3_26 ks_J7_fill_53178 ko_J7_fill_53178 (by decide) rfl (Nat.le_of_ble_eq_true rfl) (Nat.le_of_ble_eq_true rfl) (vJ7_fill_53178 E 58 2 ((0 : Int32)) σ _ sh_58 h) (kV (fun s5 h => ?_))
  refine V_aload_n (pc := 8) 0 dX3_gather_8 rfl ?_
  refine V_iconst (pc := 9) (v := 0) dX3_gather_9 (by decide) ?_
  refine V_putI (pc := 10) dX3_gather_10 fl_X3_32 po_X3_4 sh_7 rfl rfl rfl ?_
  refine V_aload_n (pc := 13) 0 dX3_gather_13 rfl ?_
  refine V_lconst (pc := 14) (v := 0) dX3_gather_14 (by decide) ?_
  refine V_putL (pc := 15) dX3_gather_15 fl_X3_36 po_X3_5 sh_7 rfl rfl rfl ?_
  refine V_iconst (pc := 18) (v := 0) dX3_gather_18 (by decide) ?_
  refine V_istore_n (pc := 19) dX3_gather_19 (by decide) ?_
  obtain ⟨n20, h⟩ := h
  refine V_loc [1, 2, 0] rfl (vX3_gather_20 E post   _ (fun σ_1 h => ?_) n20 x1 ((0 : Int32)) (wL (wI s5 7 4 ((0 : Int32))) 7 5 ((0 : Int64)))  h)
  · exact V_vret dX3_gather_127 rfl h
theorem dX3_choices_0 : decode cX3_choices 0 = .ok (.lconst 1, 1) := by decide +kernel
theorem dX3_choices_1 : decode cX3_choices 1 = .ok (.lstore_n 2, 1) := by decide +kernel
theorem dX3_choices_2 : decode cX3_choices 2 = .ok (.iconst 1, 1) := by decide +kernel
theorem dX3_choices_3 : decode cX3_choices 3 = .ok (.istore 4, 2) := by decide +kernel
theorem dX3_choices_5 : decode cX3_choices 5 = .ok (.iload 4, 2) := by decide +kernel
theorem dX3_choices_7 : decode cX3_choices 7 = .ok (.iload_n 1, 1) := by decide +kernel
theorem dX3_choices_8 : decode cX3_choices 8 = .ok (.if_icmp .gt 23, 3) := by decide +kernel
theorem dX3_choices_11 : decode cX3_choices 11 = .ok (.lload_n 2, 1) := by decide +kernel
theorem dX3_choices_12 : decode cX3_choices 12 = .ok (.iload_n 0, 1) := by decide +kernel
theorem dX3_choices_13 : decode cX3_choices 13 = .ok (.iload_n 1, 1) := by decide +kernel
theorem dX3_choices_14 : decode cX3_choices 14 = .ok (.isub, 1) := by decide +kernel
theorem dX3_choices_15 : decode cX3_choices 15 = .ok (.iload 4, 2) := by decide +kernel
theorem dX3_choices_17 : decode cX3_choices 17 = .ok (.iadd, 1) := by decide +kernel
theorem dX3_choices_18 : decode cX3_choices 18 = .ok (.i2l, 1) := by decide +kernel
theorem dX3_choices_19 : decode cX3_choices 19 = .ok (.lmul, 1) := by decide +kernel
theorem dX3_choices_20 : decode cX3_choices 20 = .ok (.iload 4, 2) := by decide +kernel
theorem dX3_choices_22 : decode cX3_choices 22 = .ok (.i2l, 1) := by decide +kernel
theorem dX3_choices_23 : decode cX3_choices 23 = .ok (.ldiv, 1) := by decide +kernel
theorem dX3_choices_24 : decode cX3_choices 24 = .ok (.lstore_n 2, 1) := by decide +kernel
theorem dX3_choices_25 : decode cX3_choices 25 = .ok (.iinc 4 1, 3) := by decide +kernel
theorem dX3_choices_28 : decode cX3_choices 28 = .ok (.goto (-23), 3) := by decide +kernel
theorem dX3_choices_31 : decode cX3_choices 31 = .ok (.lload_n 2, 1) := by decide +kernel
theorem dX3_choices_32 : decode cX3_choices 32 = .ok (.lreturn, 1) := by decide +kernel
def wX3_choices_5 (post : Int64 → Sto → Prop)  (K31 : Int64 → Sto → Prop) : Nat → Int32 → Int32 → Int64 → Int32 → Sto → Prop
  | 0, _, _, _, _, _ => False
  | n + 1, x0, x1, x2, x4, σ => ((x1 < x4) → (K31 x2 σ)) ∧ ((¬ (x1 < x4)) → ((¬ x4.toInt64 = 0) ∧ (wX3_choices_5 post  K31 n x0 x1 ((x2 * (((x0 - x1) + x4).toInt64)) / x4.toInt64) (x4 + (1 : Int32)) σ)))
set_option maxRecDepth 100000 in
set_option maxHeartbeats 4000000 in
theorem vX3_choices_5 (E : Ev) (post : Int64 → Sto → Prop)   (K31 : Int64 → Sto → Prop) (HK31 : ∀ (x2 : Int64) (σ : Sto), K31 x2 σ → V E 0 mX3_choices (pL post) 31 [(2, .long x2)] [] σ) : ∀ (n : Nat) (x0 : Int32) (x1 : Int32) (x2 : Int64) (x4 : Int32) (σ : Sto), wX3_choices_5 post  K31 n x0 x1 x2 x4 σ → V E 0 mX3_choices (pL post) 5 [(0, .int x0), (1, .int x1), (2, .long x2), (4, .int x4)] [] σ := by
  intro n
  induction n with
  | zero => intro x0 x1 x2 x4 σ h; exact h.elim
  | succ n ih =>
    intro x0 x1 x2 x4 σ h
    unfold wX3_choices_5 at h
    refine V_iload (pc := 5) 3 dX3_choices_5 rfl ?_
    refine V_iload_n (pc := 7) 1 dX3_choices_7 rfl ?_
    refine V_icmp_gt (pc := 8) (tgt := 31) dX3_choices_8 (by decide) (fun hc => ?_) (fun hc => ?_)
    · replace h := h.1 hc
      exact V_loc [2] rfl (HK31 x2 σ  h)
    · replace h := h.2 hc
      refine V_lload_n (pc := 11) 2 dX3_choices_11 rfl ?_
      refine V_iload_n (pc := 12) 0 dX3_choices_12 rfl ?_
      refine V_iload_n (pc := 13) 1 dX3_choices_13 rfl ?_
      refine V_isub (pc := 14) dX3_choices_14 ?_
      refine V_iload (pc := 15) 3 dX3_choices_15 rfl ?_
      refine V_iadd (pc := 17) dX3_choices_17 ?_
      refine V_i2l (pc := 18) dX3_choices_18 ?_
      refine V_lmul (pc := 19) dX3_choices_19 ?_
      refine V_iload (pc := 20) 3 dX3_choices_20 rfl ?_
      refine V_i2l (pc := 22) dX3_choices_22 ?_
      obtain ⟨z23, h⟩ := h
      refine V_ldiv (pc := 23) dX3_choices_23 z23 ?_
      refine V_lstore_n (pc := 24) dX3_choices_24 (by decide) ?_
      refine V_iinc (pc := 25) 3 (v := 1) dX3_choices_25 rfl (by decide) (by decide) ?_
      refine V_goto (pc := 28) (tgt := 5) dX3_choices_28 (by decide) ?_
      exact V_loc [2, 3, 1, 0] rfl (ih x0 x1 ((x2 * (((x0 - x1) + x4).toInt64)) / x4.toInt64) (x4 + (1 : Int32)) σ  h)
def wX3_choices  (x0 : Int32) (x1 : Int32) (σ : Sto) (post : Int64 → Sto → Prop) : Prop := ∃ n5, wX3_choices_5 post  (fun (x2_1 : Int64) (σ_1 : Sto) => post x2_1 σ_1) n5 x0 x1 ((1 : Int64)) ((1 : Int32)) σ
set_option maxRecDepth 100000 in
set_option maxHeartbeats 4000000 in
theorem vX3_choices (E : Ev)  (x0 : Int32) (x1 : Int32) (σ : Sto) (post : Int64 → Sto → Prop)  (h : wX3_choices  x0 x1 σ post) : V E 0 mX3_choices (pL post) 0 [(0, .int x0), (1, .int x1)] [] σ := by
  unfold wX3_choices at h
  refine V_lconst (pc := 0) (v := 1) dX3_choices_0 (by decide) ?_
  refine V_lstore_n (pc := 1) dX3_choices_1 (by decide) ?_
  refine V_iconst (pc := 2) (v := 1) dX3_choices_2 (by decide) ?_
  refine V_istore (pc := 3) dX3_choices_3 (by decide) ?_
  obtain ⟨n5, h⟩ := h
  refine V_loc [2, 3, 1, 0] rfl (vX3_choices_5 E post   _ (fun x2_1 σ_1 h => ?_) n5 x0 x1 ((1 : Int64)) ((1 : Int32)) σ  h)
  · refine V_lload_n (pc := 31) 0 dX3_choices_31 rfl ?_
    exact V_lret dX3_choices_32 rfl h
theorem dX3_dealt_0 : decode cX3_dealt 0 = .ok (.iload_n 2, 1) := by decide +kernel
theorem dX3_dealt_1 : decode cX3_dealt 1 = .ok (.ifCond .gt 15, 3) := by decide +kernel
theorem dX3_dealt_4 : decode cX3_dealt 4 = .ok (.lload_n 3, 1) := by decide +kernel
theorem dX3_dealt_5 : decode cX3_dealt 5 = .ok (.lconst 0, 1) := by decide +kernel
theorem dX3_dealt_6 : decode cX3_dealt 6 = .ok (.lcmp, 1) := by decide +kernel
theorem dX3_dealt_7 : decode cX3_dealt 7 = .ok (.ifCond .gt 7, 3) := by decide +kernel
theorem dX3_dealt_10 : decode cX3_dealt 10 = .ok (.iconst 1, 1) := by decide +kernel
theorem dX3_dealt_11 : decode cX3_dealt 11 = .ok (.goto 4, 3) := by decide +kernel
theorem dX3_dealt_14 : decode cX3_dealt 14 = .ok (.iconst 0, 1) := by decide +kernel
theorem dX3_dealt_15 : decode cX3_dealt 15 = .ok (.ireturn, 1) := by decide +kernel
theorem dX3_dealt_16 : decode cX3_dealt 16 = .ok (.iload_n 1, 1) := by decide +kernel
theorem dX3_dealt_17 : decode cX3_dealt 17 = .ok (.iload_n 2, 1) := by decide +kernel
theorem dX3_dealt_18 : decode cX3_dealt 18 = .ok (.if_icmp .lt 9, 3) := by decide +kernel
theorem dX3_dealt_21 : decode cX3_dealt 21 = .ok (.iload_n 1, 1) := by decide +kernel
theorem dX3_dealt_22 : decode cX3_dealt 22 = .ok (.aload_n 0, 1) := by decide +kernel
theorem dX3_dealt_23 : decode cX3_dealt 23 = .ok (.arraylength, 1) := by decide +kernel
theorem dX3_dealt_24 : decode cX3_dealt 24 = .ok (.if_icmp .le 5, 3) := by decide +kernel
theorem dX3_dealt_27 : decode cX3_dealt 27 = .ok (.iconst 0, 1) := by decide +kernel
theorem dX3_dealt_28 : decode cX3_dealt 28 = .ok (.ireturn, 1) := by decide +kernel
theorem dX3_dealt_29 : decode cX3_dealt 29 = .ok (.aload_n 0, 1) := by decide +kernel
theorem dX3_dealt_30 : decode cX3_dealt 30 = .ok (.iload_n 1, 1) := by decide +kernel
theorem dX3_dealt_31 : decode cX3_dealt 31 = .ok (.iconst 1, 1) := by decide +kernel
theorem dX3_dealt_32 : decode cX3_dealt 32 = .ok (.isub, 1) := by decide +kernel
theorem dX3_dealt_33 : decode cX3_dealt 33 = .ok (.iload_n 2, 1) := by decide +kernel
theorem dX3_dealt_34 : decode cX3_dealt 34 = .ok (.iconst 1, 1) := by decide +kernel
theorem dX3_dealt_35 : decode cX3_dealt 35 = .ok (.isub, 1) := by decide +kernel
theorem dX3_dealt_36 : decode cX3_dealt 36 = .ok (.lload_n 3, 1) := by decide +kernel
theorem dX3_dealt_37 : decode cX3_dealt 37 = .ok (.aload_n 0, 1) := by decide +kernel
theorem dX3_dealt_38 : decode cX3_dealt 38 = .ok (.iload_n 1, 1) := by decide +kernel
theorem dX3_dealt_39 : decode cX3_dealt 39 = .ok (.iconst 1, 1) := by decide +kernel
theorem dX3_dealt_40 : decode cX3_dealt 40 = .ok (.isub, 1) := by decide +kernel
theorem dX3_dealt_41 : decode cX3_dealt 41 = .ok (.iaload, 1) := by decide +kernel
theorem dX3_dealt_42 : decode cX3_dealt 42 = .ok (.i2l, 1) := by decide +kernel
theorem dX3_dealt_43 : decode cX3_dealt 43 = .ok (.lsub, 1) := by decide +kernel
theorem dX3_dealt_44 : decode cX3_dealt 44 = .ok (.invokestatic 60, 3) := by decide +kernel
theorem dX3_dealt_47 : decode cX3_dealt 47 = .ok (.aload_n 0, 1) := by decide +kernel
theorem dX3_dealt_48 : decode cX3_dealt 48 = .ok (.iload_n 1, 1) := by decide +kernel
theorem dX3_dealt_49 : decode cX3_dealt 49 = .ok (.iconst 1, 1) := by decide +kernel
theorem dX3_dealt_50 : decode cX3_dealt 50 = .ok (.isub, 1) := by decide +kernel
theorem dX3_dealt_51 : decode cX3_dealt 51 = .ok (.iload_n 2, 1) := by decide +kernel
theorem dX3_dealt_52 : decode cX3_dealt 52 = .ok (.lload_n 3, 1) := by decide +kernel
theorem dX3_dealt_53 : decode cX3_dealt 53 = .ok (.invokestatic 60, 3) := by decide +kernel
theorem dX3_dealt_56 : decode cX3_dealt 56 = .ok (.iadd, 1) := by decide +kernel
theorem dX3_dealt_57 : decode cX3_dealt 57 = .ok (.ireturn, 1) := by decide +kernel
def wX3_dealt : Nat → Nat → Nat → Int32 → Int32 → Int64 → Sto → (Int32 → Sto → Prop) → Prop
  | 0, _, _, _, _, _, _, _ => False
  | n + 1, c0, n0, x1, x2, x3, σ, post => ((0 < x2) → (((x1 < x2) → (post ((0 : Int32)) σ)) ∧ ((¬ (x1 < x2)) → (((x1 ≤ (Int32.ofNat n0)) → (vp_in (x1 - ((1 : Int32))) n0 ∧ (wX3_dealt n c0 n0 (x1 - ((1 : Int32))) (x2 - ((1 : Int32))) (x3 - ((σ.1 c0 (x1 - ((1 : Int32))).toNatClampNeg).toInt64)) σ (fun (r44 : Int32) (s44 : Sto) => wX3_dealt n c0 n0 (x1 - ((1 : Int32))) x2 x3 s44 (fun (r53 : Int32) (s53 : Sto) => post (r44 + r53) s53))))) ∧ ((¬ (x1 ≤ (Int32.ofNat n0))) → (post ((0 : Int32)) σ)))))) ∧ ((¬ (0 < x2)) → (((((0 : Int64)) < x3) → (post ((0 : Int32)) σ)) ∧ ((¬ (((0 : Int64)) < x3)) → (post ((1 : Int32)) σ))))
set_option maxRecDepth 100000 in
set_option maxHeartbeats 4000000 in
theorem vX3_dealt (E : Ev) : ∀ (n : Nat) (c0 : Nat) (n0 : Nat) (x1 : Int32) (x2 : Int32) (x3 : Int64) (σ : Sto) (post : Int32 → Sto → Prop) (hs_c0 : gs c0 = .inl (0, n0, 0)), wX3_dealt n c0 n0 x1 x2 x3 σ post → V E (9 + n) mX3_dealt (pI post) 0 [(0, .ref c0), (1, .int x1), (2, .int x2), (3, .long x3)] [] σ := by
  intro n
  induction n with
  | zero => intros; rename_i h; exact h.elim
  | succ n ih =>
    intro c0 n0 x1 x2 x3 σ post hs_c0 h
    unfold wX3_dealt at h
    refine V_iload_n (pc := 0) 2 dX3_dealt_0 rfl ?_
    refine V_if_gt (pc := 1) (tgt := 16) dX3_dealt_1 (by decide) (fun hc => ?_) (fun hc => ?_)
    · replace h := h.1 hc
      refine V_iload_n (pc := 16) 1 dX3_dealt_16 rfl ?_
      refine V_iload_n (pc := 17) 2 dX3_dealt_17 rfl ?_
      refine V_icmp_lt (pc := 18) (tgt := 27) dX3_dealt_18 (by decide) (fun hc => ?_) (fun hc => ?_)
      · replace h := h.1 hc
        refine V_iconst (pc := 27) (v := 0) dX3_dealt_27 (by decide) ?_
        exact V_iret dX3_dealt_28 rfl h
      · replace h := h.2 hc
        refine V_iload_n (pc := 21) 1 dX3_dealt_21 rfl ?_
        refine V_aload_n (pc := 22) 0 dX3_dealt_22 rfl ?_
        refine V_alen (pc := 23) (by decide) dX3_dealt_23 hs_c0 rfl ?_
        refine V_icmp_le (pc := 24) (tgt := 29) dX3_dealt_24 (by decide) (fun hc => ?_) (fun hc => ?_)
        · replace h := h.1 hc
          refine V_aload_n (pc := 29) 0 dX3_dealt_29 rfl ?_
          refine V_iload_n (pc := 30) 1 dX3_dealt_30 rfl ?_
          refine V_iconst (pc := 31) (v := 1) dX3_dealt_31 (by decide) ?_
          refine V_isub (pc := 32) dX3_dealt_32 ?_
          refine V_iload_n (pc := 33) 2 dX3_dealt_33 rfl ?_
          refine V_iconst (pc := 34) (v := 1) dX3_dealt_34 (by decide) ?_
          refine V_isub (pc := 35) dX3_dealt_35 ?_
          refine V_lload_n (pc := 36) 3 dX3_dealt_36 rfl ?_
          refine V_aload_n (pc := 37) 0 dX3_dealt_37 rfl ?_
          refine V_iload_n (pc := 38) 1 dX3_dealt_38 rfl ?_
          refine V_iconst (pc := 39) (v := 1) dX3_dealt_39 (by decide) ?_
          refine V_isub (pc := 40) dX3_dealt_40 ?_
          obtain ⟨i41, h⟩ := h
          refine V_iald (pc := 41) dX3_dealt_41 hs_c0 i41 ?_
          refine V_i2l (pc := 42) dX3_dealt_42 ?_
          refine V_lsub (pc := 43) dX3_dealt_43 ?_
          refine V_callS (pc := 44) (M' := mX3_dealt) dX3_dealt_44 ml_X3_60 ks_X3_dealt ko_X3_dealt (by omega) rfl (Nat.le_of_ble_eq_true rfl) (Nat.le_of_ble_eq_true rfl) (ih c0 n0 (x1 - ((1 : Int32))) (x2 - ((1 : Int32))) (x3 - ((σ.1 c0 (x1 - ((1 : Int32))).toNatClampNeg).toInt64)) σ _ hs_c0 h) (kI (fun r44 s44 h => ?_))
          refine V_aload_n (pc := 47) 0 dX3_dealt_47 rfl ?_
          refine V_iload_n (pc := 48) 1 dX3_dealt_48 rfl ?_
          refine V_iconst (pc := 49) (v := 1) dX3_dealt_49 (by decide) ?_
          refine V_isub (pc := 50) dX3_dealt_50 ?_
          refine V_iload_n (pc := 51) 2 dX3_dealt_51 rfl ?_
          refine V_lload_n (pc := 52) 3 dX3_dealt_52 rfl ?_
          refine V_callS (pc := 53) (M' := mX3_dealt) dX3_dealt_53 ml_X3_60 ks_X3_dealt ko_X3_dealt (by omega) rfl (Nat.le_of_ble_eq_true rfl) (Nat.le_of_ble_eq_true rfl) (ih c0 n0 (x1 - ((1 : Int32))) x2 x3 s44 _ hs_c0 h) (kI (fun r53 s53 h => ?_))
          refine V_iadd (pc := 56) dX3_dealt_56 ?_
          exact V_iret dX3_dealt_57 rfl h
        · replace h := h.2 hc
          refine V_iconst (pc := 27) (v := 0) dX3_dealt_27 (by decide) ?_
          exact V_iret dX3_dealt_28 rfl h
    · replace h := h.2 hc
      refine V_lload_n (pc := 4) 3 dX3_dealt_4 rfl ?_
      refine V_lconst (pc := 5) (v := 0) dX3_dealt_5 (by decide) ?_
      refine V_lc_gt (pc := 6) (tgt := 14) dX3_dealt_6 dX3_dealt_7 (by decide) (fun hc => ?_) (fun hc => ?_)
      · replace h := h.1 hc
        refine V_iconst (pc := 14) (v := 0) dX3_dealt_14 (by decide) ?_
        exact V_iret dX3_dealt_15 rfl h
      · replace h := h.2 hc
        refine V_iconst (pc := 10) (v := 1) dX3_dealt_10 (by decide) ?_
        refine V_goto (pc := 11) (tgt := 15) dX3_dealt_11 (by decide) ?_
        exact V_iret dX3_dealt_15 rfl h
theorem dX3_chance_0 : decode cX3_chance 0 = .ok (.aload_n 0, 1) := by decide +kernel
theorem dX3_chance_1 : decode cX3_chance 1 = .ok (.getfield 32, 3) := by decide +kernel
theorem dX3_chance_4 : decode cX3_chance 4 = .ok (.aload_n 0, 1) := by decide +kernel
theorem dX3_chance_5 : decode cX3_chance 5 = .ok (.getfield 15, 3) := by decide +kernel
theorem dX3_chance_8 : decode cX3_chance 8 = .ok (.iconst 1, 1) := by decide +kernel
theorem dX3_chance_9 : decode cX3_chance 9 = .ok (.iaload, 1) := by decide +kernel
theorem dX3_chance_10 : decode cX3_chance 10 = .ok (.invokestatic 56, 3) := by decide +kernel
theorem dX3_chance_13 : decode cX3_chance 13 = .ok (.lstore_n 1, 1) := by decide +kernel
theorem dX3_chance_14 : decode cX3_chance 14 = .ok (.aload_n 0, 1) := by decide +kernel
theorem dX3_chance_15 : decode cX3_chance 15 = .ok (.getfield 9, 3) := by decide +kernel
theorem dX3_chance_18 : decode cX3_chance 18 = .ok (.aload_n 0, 1) := by decide +kernel
theorem dX3_chance_19 : decode cX3_chance 19 = .ok (.getfield 32, 3) := by decide +kernel
theorem dX3_chance_22 : decode cX3_chance 22 = .ok (.aload_n 0, 1) := by decide +kernel
theorem dX3_chance_23 : decode cX3_chance 23 = .ok (.getfield 15, 3) := by decide +kernel
theorem dX3_chance_26 : decode cX3_chance 26 = .ok (.iconst 1, 1) := by decide +kernel
theorem dX3_chance_27 : decode cX3_chance 27 = .ok (.iaload, 1) := by decide +kernel
theorem dX3_chance_28 : decode cX3_chance 28 = .ok (.aload_n 0, 1) := by decide +kernel
theorem dX3_chance_29 : decode cX3_chance 29 = .ok (.getfield 36, 3) := by decide +kernel
theorem dX3_chance_32 : decode cX3_chance 32 = .ok (.invokestatic 60, 3) := by decide +kernel
theorem dX3_chance_35 : decode cX3_chance 35 = .ok (.i2l, 1) := by decide +kernel
theorem dX3_chance_36 : decode cX3_chance 36 = .ok (.lstore_n 3, 1) := by decide +kernel
theorem dX3_chance_37 : decode cX3_chance 37 = .ok (.lload_n 1, 1) := by decide +kernel
theorem dX3_chance_38 : decode cX3_chance 38 = .ok (.lconst 0, 1) := by decide +kernel
theorem dX3_chance_39 : decode cX3_chance 39 = .ok (.lcmp, 1) := by decide +kernel
theorem dX3_chance_40 : decode cX3_chance 40 = .ok (.ifCond .le 14, 3) := by decide +kernel
theorem dX3_chance_43 : decode cX3_chance 43 = .ok (.lload_n 3, 1) := by decide +kernel
theorem dX3_chance_44 : decode cX3_chance 44 = .ok (.ldc2_w 64, 3) := by decide +kernel
theorem dX3_chance_47 : decode cX3_chance 47 = .ok (.lmul, 1) := by decide +kernel
theorem dX3_chance_48 : decode cX3_chance 48 = .ok (.lload_n 1, 1) := by decide +kernel
theorem dX3_chance_49 : decode cX3_chance 49 = .ok (.ldiv, 1) := by decide +kernel
theorem dX3_chance_50 : decode cX3_chance 50 = .ok (.l2i, 1) := by decide +kernel
theorem dX3_chance_51 : decode cX3_chance 51 = .ok (.goto 4, 3) := by decide +kernel
theorem dX3_chance_54 : decode cX3_chance 54 = .ok (.iconst 0, 1) := by decide +kernel
theorem dX3_chance_55 : decode cX3_chance 55 = .ok (.ireturn, 1) := by decide +kernel
def wX3_chance   (σ : Sto) (post : Int32 → Sto → Prop) : Prop := vp_in ((1 : Int32)) 2 ∧ (wX3_choices  (σ.1 7 4) (σ.1 58 ((1 : Int32)).toNatClampNeg) σ (fun (r10 : Int64) (s10 : Sto) => vp_in ((1 : Int32)) 2 ∧ (wX3_dealt 20 57 14 (s10.1 7 4) (s10.1 58 ((1 : Int32)).toNatClampNeg) (s10.2 7 5) s10 (fun (r32 : Int32) (s32 : Sto) => ((r10 ≤ ((0 : Int64))) → (post ((0 : Int32)) s32)) ∧ ((¬ (r10 ≤ ((0 : Int64)))) → ((¬ r10 = 0) ∧ (post (((r32.toInt64 * ((1000000 : Int64))) / r10).toInt32) s32)))))))
set_option maxRecDepth 100000 in
set_option maxHeartbeats 4000000 in
theorem vX3_chance (E : Ev)   (σ : Sto) (post : Int32 → Sto → Prop)  (h : wX3_chance   σ post) : V E 30 mX3_chance (pI post) 0 [(0, .ref 7)] [] σ := by
  unfold wX3_chance at h
  refine V_aload_n (pc := 0) 0 dX3_chance_0 rfl ?_
  refine V_getI (pc := 1) dX3_chance_1 fl_X3_32 sh_7 rfl ?_
  refine V_aload_n (pc := 4) 0 dX3_chance_4 rfl ?_
  refine V_getR (pc := 5) dX3_chance_5 fl_X3_15 sh_7 rfl ?_
  refine V_iconst (pc := 8) (v := 1) dX3_chance_8 (by decide) ?_
  obtain ⟨i9, h⟩ := h
  refine V_iald (pc := 9) dX3_chance_9 sh_58 i9 ?_
  refine V_callS (pc := 10) (M' := mX3_choices) dX3_chance_10 ml_X3_56 ks_X3_choices ko_X3_choices (by decide) rfl (Nat.le_of_ble_eq_true rfl) (Nat.le_of_ble_eq_true rfl) (vX3_choices E  (σ.1 7 4) (σ.1 58 ((1 : Int32)).toNatClampNeg) σ _  h) (kL (fun r10 s10 h => ?_))
  refine V_lstore_n (pc := 13) dX3_chance_13 (by decide) ?_
  refine V_aload_n (pc := 14) 1 dX3_chance_14 rfl ?_
  refine V_getR (pc := 15) dX3_chance_15 fl_X3_9 sh_7 rfl ?_
  refine V_aload_n (pc := 18) 1 dX3_chance_18 rfl ?_
  refine V_getI (pc := 19) dX3_chance_19 fl_X3_32 sh_7 rfl ?_
  refine V_aload_n (pc := 22) 1 dX3_chance_22 rfl ?_
  refine V_getR (pc := 23) dX3_chance_23 fl_X3_15 sh_7 rfl ?_
  refine V_iconst (pc := 26) (v := 1) dX3_chance_26 (by decide) ?_
  obtain ⟨i27, h⟩ := h
  refine V_iald (pc := 27) dX3_chance_27 sh_58 i27 ?_
  refine V_aload_n (pc := 28) 1 dX3_chance_28 rfl ?_
  refine V_getL (pc := 29) dX3_chance_29 fl_X3_36 sh_7 rfl ?_
  refine V_callS (pc := 32) (M' := mX3_dealt) dX3_chance_32 ml_X3_60 ks_X3_dealt ko_X3_dealt (by decide) rfl (Nat.le_of_ble_eq_true rfl) (Nat.le_of_ble_eq_true rfl) (vX3_dealt E 20 57 14 (s10.1 7 4) (s10.1 58 ((1 : Int32)).toNatClampNeg) (s10.2 7 5) s10 _ sh_57 h) (kI (fun r32 s32 h => ?_))
  refine V_i2l (pc := 35) dX3_chance_35 ?_
  refine V_lstore_n (pc := 36) dX3_chance_36 (by decide) ?_
  refine V_lload_n (pc := 37) 1 dX3_chance_37 rfl ?_
  refine V_lconst (pc := 38) (v := 0) dX3_chance_38 (by decide) ?_
  refine V_lc_le (pc := 39) (tgt := 54) dX3_chance_39 dX3_chance_40 (by decide) (fun hc => ?_) (fun hc => ?_)
  · replace h := h.1 hc
    refine V_iconst (pc := 54) (v := 0) dX3_chance_54 (by decide) ?_
    exact V_iret dX3_chance_55 rfl h
  · replace h := h.2 hc
    refine V_lload_n (pc := 43) 0 dX3_chance_43 rfl ?_
    refine V_ldc2 (pc := 44) dX3_chance_44 cl_X3_64 ?_
    refine V_lmul (pc := 47) dX3_chance_47 ?_
    refine V_lload_n (pc := 48) 1 dX3_chance_48 rfl ?_
    obtain ⟨z49, h⟩ := h
    refine V_ldiv (pc := 49) dX3_chance_49 z49 ?_
    refine V_l2i (pc := 50) dX3_chance_50 ?_
    refine V_goto (pc := 51) (tgt := 55) dX3_chance_51 (by decide) ?_
    exact V_iret dX3_chance_55 rfl h
theorem dX8_gather_0 : decode cX8_gather 0 = .ok (.aload_n 0, 1) := by decide +kernel
theorem dX8_gather_1 : decode cX8_gather 1 = .ok (.getfield 9, 3) := by decide +kernel
theorem dX8_gather_4 : decode cX8_gather 4 = .ok (.lconst 0, 1) := by decide +kernel
theorem dX8_gather_5 : decode cX8_gather 5 = .ok (.invokestatic 33, 3) := by decide +kernel
theorem dX8_gather_8 : decode cX8_gather 8 = .ok (.aload_n 0, 1) := by decide +kernel
theorem dX8_gather_9 : decode cX8_gather 9 = .ok (.getfield 15, 3) := by decide +kernel
theorem dX8_gather_12 : decode cX8_gather 12 = .ok (.lconst 0, 1) := by decide +kernel
theorem dX8_gather_13 : decode cX8_gather 13 = .ok (.invokestatic 33, 3) := by decide +kernel
theorem dX8_gather_16 : decode cX8_gather 16 = .ok (.iconst 0, 1) := by decide +kernel
theorem dX8_gather_17 : decode cX8_gather 17 = .ok (.istore_n 2, 1) := by decide +kernel
theorem dX8_gather_18 : decode cX8_gather 18 = .ok (.iload_n 2, 1) := by decide +kernel
theorem dX8_gather_19 : decode cX8_gather 19 = .ok (.aload_n 0, 1) := by decide +kernel
theorem dX8_gather_20 : decode cX8_gather 20 = .ok (.getfield 25, 3) := by decide +kernel
theorem dX8_gather_23 : decode cX8_gather 23 = .ok (.getfield 39, 3) := by decide +kernel
theorem dX8_gather_26 : decode cX8_gather 26 = .ok (.if_icmp .ge 76, 3) := by decide +kernel
theorem dX8_gather_29 : decode cX8_gather 29 = .ok (.aload_n 0, 1) := by decide +kernel
theorem dX8_gather_30 : decode cX8_gather 30 = .ok (.getfield 25, 3) := by decide +kernel
theorem dX8_gather_33 : decode cX8_gather 33 = .ok (.iload_n 2, 1) := by decide +kernel
theorem dX8_gather_34 : decode cX8_gather 34 = .ok (.iload_n 1, 1) := by decide +kernel
theorem dX8_gather_35 : decode cX8_gather 35 = .ok (.invokevirtual 45, 3) := by decide +kernel
theorem dX8_gather_38 : decode cX8_gather 38 = .ok (.ifCond .eq 58, 3) := by decide +kernel
theorem dX8_gather_41 : decode cX8_gather 41 = .ok (.aload_n 0, 1) := by decide +kernel
theorem dX8_gather_42 : decode cX8_gather 42 = .ok (.getfield 29, 3) := by decide +kernel
theorem dX8_gather_45 : decode cX8_gather 45 = .ok (.getfield 49, 3) := by decide +kernel
theorem dX8_gather_48 : decode cX8_gather 48 = .ok (.iload_n 2, 1) := by decide +kernel
theorem dX8_gather_49 : decode cX8_gather 49 = .ok (.iaload, 1) := by decide +kernel
theorem dX8_gather_50 : decode cX8_gather 50 = .ok (.i2l, 1) := by decide +kernel
theorem dX8_gather_51 : decode cX8_gather 51 = .ok (.ldc2_w 55, 3) := by decide +kernel
theorem dX8_gather_54 : decode cX8_gather 54 = .ok (.invokestatic 57, 3) := by decide +kernel
theorem dX8_gather_57 : decode cX8_gather 57 = .ok (.lstore_n 3, 1) := by decide +kernel
theorem dX8_gather_58 : decode cX8_gather 58 = .ok (.aload_n 0, 1) := by decide +kernel
theorem dX8_gather_59 : decode cX8_gather 59 = .ok (.getfield 9, 3) := by decide +kernel
theorem dX8_gather_62 : decode cX8_gather 62 = .ok (.aload_n 0, 1) := by decide +kernel
theorem dX8_gather_63 : decode cX8_gather 63 = .ok (.getfield 25, 3) := by decide +kernel
theorem dX8_gather_66 : decode cX8_gather 66 = .ok (.getfield 61, 3) := by decide +kernel
theorem dX8_gather_69 : decode cX8_gather 69 = .ok (.iload_n 2, 1) := by decide +kernel
theorem dX8_gather_70 : decode cX8_gather 70 = .ok (.iaload, 1) := by decide +kernel
theorem dX8_gather_71 : decode cX8_gather 71 = .ok (.dup2, 1) := by decide +kernel
theorem dX8_gather_72 : decode cX8_gather 72 = .ok (.laload, 1) := by decide +kernel
theorem dX8_gather_73 : decode cX8_gather 73 = .ok (.lload_n 3, 1) := by decide +kernel
theorem dX8_gather_74 : decode cX8_gather 74 = .ok (.ladd, 1) := by decide +kernel
theorem dX8_gather_75 : decode cX8_gather 75 = .ok (.lastore, 1) := by decide +kernel
theorem dX8_gather_76 : decode cX8_gather 76 = .ok (.aload_n 0, 1) := by decide +kernel
theorem dX8_gather_77 : decode cX8_gather 77 = .ok (.getfield 15, 3) := by decide +kernel
theorem dX8_gather_80 : decode cX8_gather 80 = .ok (.aload_n 0, 1) := by decide +kernel
theorem dX8_gather_81 : decode cX8_gather 81 = .ok (.getfield 25, 3) := by decide +kernel
theorem dX8_gather_84 : decode cX8_gather 84 = .ok (.getfield 61, 3) := by decide +kernel
theorem dX8_gather_87 : decode cX8_gather 87 = .ok (.iload_n 2, 1) := by decide +kernel
theorem dX8_gather_88 : decode cX8_gather 88 = .ok (.iaload, 1) := by decide +kernel
theorem dX8_gather_89 : decode cX8_gather 89 = .ok (.dup2, 1) := by decide +kernel
theorem dX8_gather_90 : decode cX8_gather 90 = .ok (.laload, 1) := by decide +kernel
theorem dX8_gather_91 : decode cX8_gather 91 = .ok (.lload_n 3, 1) := by decide +kernel
theorem dX8_gather_92 : decode cX8_gather 92 = .ok (.lload_n 3, 1) := by decide +kernel
theorem dX8_gather_93 : decode cX8_gather 93 = .ok (.lmul, 1) := by decide +kernel
theorem dX8_gather_94 : decode cX8_gather 94 = .ok (.ladd, 1) := by decide +kernel
theorem dX8_gather_95 : decode cX8_gather 95 = .ok (.lastore, 1) := by decide +kernel
theorem dX8_gather_96 : decode cX8_gather 96 = .ok (.iinc 2 1, 3) := by decide +kernel
theorem dX8_gather_99 : decode cX8_gather 99 = .ok (.goto (-81), 3) := by decide +kernel
theorem dX8_gather_102 : decode cX8_gather 102 = .ok (.return_, 1) := by decide +kernel
def wX8_gather_18 (post : Sto → Prop)  (K102 : Sto → Prop) : Nat → Int32 → Int32 → Sto → Prop
  | 0, _, _, _ => False
  | n + 1, x1, x2, σ => (((σ.1 1 5) ≤ x2) → (K102  σ)) ∧ ((¬ ((σ.1 1 5) ≤ x2)) → (wX1_isKnownOf  x2 x1 σ (fun (r35 : Bool) (s35 : Sto) => ((r35 = false) → (wX8_gather_18 post  K102 n x1 (x2 + (1 : Int32)) s35)) ∧ ((r35 = true) → (vp_in x2 150 ∧ (wX10_nearest  ((s35.1 38 x2.toNatClampNeg).toInt64) ((1000 : Int64)) s35 (fun (r54 : Int64) (s54 : Sto) => vp_in x2 150 ∧ (vp_in (s54.1 15 x2.toNatClampNeg) 14 ∧ (vp_in (s54.1 15 x2.toNatClampNeg) 14 ∧ (vp_in x2 150 ∧ (vp_in (s54.1 15 x2.toNatClampNeg) 14 ∧ (vp_in (s54.1 15 x2.toNatClampNeg) 14 ∧ (wX8_gather_18 post  K102 n x1 (x2 + (1 : Int32)) (wL (wL s54 55 (s54.1 15 x2.toNatClampNeg).toNatClampNeg ((s54.2 55 (s54.1 15 x2.toNatClampNeg).toNatClampNeg) + r54)) 56 (s54.1 15 x2.toNatClampNeg).toNatClampNeg ((s54.2 56 (s54.1 15 x2.toNatClampNeg).toNatClampNeg) + (r54 * r54))))))))))))))))
set_option maxRecDepth 100000 in
set_option maxHeartbeats 4000000 in
theorem vX8_gather_18 (E : Ev) (post : Sto → Prop)   (K102 : Sto → Prop) (HK102 : ∀  (σ : Sto), K102  σ → V E 2 mX8_gather (pV post) 102 [] [] σ) : ∀ (n : Nat) (x1 : Int32) (x2 : Int32) (σ : Sto), wX8_gather_18 post  K102 n x1 x2 σ → V E 2 mX8_gather (pV post) 18 [(0, .ref 6), (1, .int x1), (2, .int x2)] [] σ := by
  intro n
  induction n with
  | zero => intro x1 x2 σ h; exact h.elim
  | succ n ih =>
    intro x1 x2 σ h
    unfold wX8_gather_18 at h
    refine V_iload_n (pc := 18) 2 dX8_gather_18 rfl ?_
    refine V_aload_n (pc := 19) 0 dX8_gather_19 rfl ?_
    refine V_getR (pc := 20) dX8_gather_20 fl_X8_25 sh_6 rfl ?_
    refine V_getI (pc := 23) dX8_gather_23 fl_X8_39 sh_1 rfl ?_
    refine V_icmp_ge (pc := 26) (tgt := 102) dX8_gather_26 (by decide) (fun hc => ?_) (fun hc => ?_)
    · replace h := h.1 hc
      exact V_loc [] rfl (HK102  σ  h)
    · replace h := h.2 hc
      refine V_aload_n (pc := 29) 0 dX8_gather_29 rfl ?_
      refine V_getR (pc := 30) dX8_gather_30 fl_X8_25 sh_6 rfl ?_
      refine V_iload_n (pc := 33) 2 dX8_gather_33 rfl ?_
      refine V_iload_n (pc := 34) 1 dX8_gather_34 rfl ?_
      refine V_callV (pc := 35) (M' := mX1_isKnownOf) dX8_gather_35 ml_X8_45 kv_X1_isKnownOf ko_X1_isKnownOf sh_1 (by decide) (by decide) rfl rfl (Nat.le_of_ble_eq_true rfl) (Nat.le_of_ble_eq_true rfl) (vX1_isKnownOf E  x2 x1 σ _  h) (kB (fun r35 s35 h => ?_))
      refine V_ifz (pc := 38) (tgt := 96) dX8_gather_38 (by decide) (fun hc => ?_) (fun hc => ?_)
      · replace h := h.1 hc
        refine V_iinc (pc := 96) 2 (v := 1) dX8_gather_96 rfl (by decide) (by decide) ?_
        refine V_goto (pc := 99) (tgt := 18) dX8_gather_99 (by decide) ?_
        exact V_loc [1, 2, 0] rfl (ih x1 (x2 + (1 : Int32)) s35  h)
      · replace h := h.2 hc
        refine V_aload_n (pc := 41) 0 dX8_gather_41 rfl ?_
        refine V_getR (pc := 42) dX8_gather_42 fl_X8_29 sh_6 rfl ?_
        refine V_getR (pc := 45) dX8_gather_45 fl_X8_49 sh_2 rfl ?_
        refine V_iload_n (pc := 48) 2 dX8_gather_48 rfl ?_
        obtain ⟨i49, h⟩ := h
        refine V_iald (pc := 49) dX8_gather_49 sh_38 i49 ?_
        refine V_i2l (pc := 50) dX8_gather_50 ?_
        refine V_ldc2 (pc := 51) dX8_gather_51 cl_X8_55 ?_
        refine V_callN (pc := 54) (M' := mX10_nearest) dX8_gather_54 mn_X8_57 ks_X10_nearest ko_X10_nearest (by decide) rfl (Nat.le_of_ble_eq_true rfl) (Nat.le_of_ble_eq_true rfl) (vX10_nearest E  ((s35.1 38 x2.toNatClampNeg).toInt64) ((1000 : Int64)) s35 _  h) (kL (fun r54 s54 h => ?_))
        refine V_lstore_n (pc := 57) dX8_gather_57 (by decide) ?_
        refine V_aload_n (pc := 58) 1 dX8_gather_58 rfl ?_
        refine V_getR (pc := 59) dX8_gather_59 fl_X8_9 sh_6 rfl ?_
        refine V_aload_n (pc := 62) 1 dX8_gather_62 rfl ?_
        refine V_getR (pc := 63) dX8_gather_63 fl_X8_25 sh_6 rfl ?_
        refine V_getR (pc := 66) dX8_gather_66 fl_X8_61 sh_1 rfl ?_
        refine V_iload_n (pc := 69) 3 dX8_gather_69 rfl ?_
        obtain ⟨i70, h⟩ := h
        refine V_iald (pc := 70) dX8_gather_70 sh_15 i70 ?_
        refine V_dup2_11 (pc := 71) dX8_gather_71 rfl rfl ?_
        obtain ⟨i72, h⟩ := h
        refine V_lald (pc := 72) dX8_gather_72 sh_55 i72 ?_
        refine V_lload_n (pc := 73) 0 dX8_gather_73 rfl ?_
        refine V_ladd (pc := 74) dX8_gather_74 ?_
        obtain ⟨i75, h⟩ := h
        refine V_last (pc := 75) dX8_gather_75 sh_55 i75 ?_
        refine V_aload_n (pc := 76) 1 dX8_gather_76 rfl ?_
        refine V_getR (pc := 77) dX8_gather_77 fl_X8_15 sh_6 rfl ?_
        refine V_aload_n (pc := 80) 1 dX8_gather_80 rfl ?_
        refine V_getR (pc := 81) dX8_gather_81 fl_X8_25 sh_6 rfl ?_
        refine V_getR (pc := 84) dX8_gather_84 fl_X8_61 sh_1 rfl ?_
        refine V_iload_n (pc := 87) 3 dX8_gather_87 rfl ?_
        obtain ⟨i88, h⟩ := h
        refine V_iald (pc := 88) dX8_gather_88 sh_15 i88 ?_
        refine V_dup2_11 (pc := 89) dX8_gather_89 rfl rfl ?_
        obtain ⟨i90, h⟩ := h
        refine V_lald (pc := 90) dX8_gather_90 sh_56 i90 ?_
        refine V_lload_n (pc := 91) 0 dX8_gather_91 rfl ?_
        refine V_lload_n (pc := 92) 0 dX8_gather_92 rfl ?_
        refine V_lmul (pc := 93) dX8_gather_93 ?_
        refine V_ladd (pc := 94) dX8_gather_94 ?_
        obtain ⟨i95, h⟩ := h
        refine V_last (pc := 95) dX8_gather_95 sh_56 i95 ?_
        refine V_iinc (pc := 96) 3 (v := 1) dX8_gather_96 rfl (by decide) (by decide) ?_
        refine V_goto (pc := 99) (tgt := 18) dX8_gather_99 (by decide) ?_
        exact V_loc [2, 3, 0] rfl (ih x1 (x2 + (1 : Int32)) (wL (wL s54 55 (s54.1 15 x2.toNatClampNeg).toNatClampNeg ((s54.2 55 (s54.1 15 x2.toNatClampNeg).toNatClampNeg) + r54)) 56 (s54.1 15 x2.toNatClampNeg).toNatClampNeg ((s54.2 56 (s54.1 15 x2.toNatClampNeg).toNatClampNeg) + (r54 * r54)))  h)
def wX8_gather  (x1 : Int32) (σ : Sto) (post : Sto → Prop) : Prop := wJ7_fill_d0a16 55 14 ((0 : Int64)) σ (fun (s5 : Sto) => wJ7_fill_d0a16 56 14 ((0 : Int64)) s5 (fun (s13 : Sto) => ∃ n18, wX8_gather_18 post  (fun  (σ_1 : Sto) => post σ_1) n18 x1 ((0 : Int32)) s13))
set_option maxRecDepth 100000 in
set_option maxHeartbeats 4000000 in
theorem vX8_gather (E : Ev)  (x1 : Int32) (σ : Sto) (post : Sto → Prop)  (h : wX8_gather  x1 σ post) : V E 2 mX8_gather (pV post) 0 [(0, .ref 6), (1, .int x1)] [] σ := by
  unfold wX8_gather at h
  refine V_aload_n (pc := 0) 0 dX8_gather_0 rfl ?_
  refine V_getR (pc := 1) dX8_gather_1 fl_X8_9 sh_6 rfl ?_
  refine V_lconst (pc := 4) (v := 0) dX8_gather_4 (by decide) ?_
  refine V_callS (pc := 5) (M' := mJ7_fill_d0a16) dX8_gather_5 ml_X8_33 ks_J7_fill_d0a16 ko_J7_fill_d0a16 (by decide) rfl (Nat.le_of_ble_eq_true rfl) (Nat.le_of_ble_eq_true rfl) (vJ7_fill_d0a16 E 55 14 ((0 : Int64)) σ _ sh_55 h) (kV (fun s5 h => ?_))
  refine V_aload_n (pc := 8) 0 dX8_gather_8 rfl ?_
  refine V_getR (pc := 9) dX8_gather_9 fl_X8_15 sh_6 rfl ?_
  refine V_lconst (pc := 12) (v := 0) dX8_gather_12 (by decide) ?_
  refine V_callS (pc := 13) (M' := mJ7_fill_d0a16) dX8_gather_13 ml_X8_33 ks_J7_fill_d0a16 ko_J7_fill_d0a16 (by decide) rfl (Nat.le_of_ble_eq_true rfl) (Nat.le_of_ble_eq_true rfl) (vJ7_fill_d0a16 E 56 14 ((0 : Int64)) s5 _ sh_56 h) (kV (fun s13 h => ?_))
  refine V_iconst (pc := 16) (v := 0) dX8_gather_16 (by decide) ?_
  refine V_istore_n (pc := 17) dX8_gather_17 (by decide) ?_
  obtain ⟨n18, h⟩ := h
  refine V_loc [1, 2, 0] rfl (vX8_gather_18 E post   _ (fun σ_1 h => ?_) n18 x1 ((0 : Int32)) s13  h)
  · exact V_vret dX8_gather_102 rfl h
theorem dX8_spread_0 : decode cX8_spread 0 = .ok (.lload_n 2, 1) := by decide +kernel
theorem dX8_spread_1 : decode cX8_spread 1 = .ok (.aload_n 0, 1) := by decide +kernel
theorem dX8_spread_2 : decode cX8_spread 2 = .ok (.getfield 15, 3) := by decide +kernel
theorem dX8_spread_5 : decode cX8_spread 5 = .ok (.iload_n 1, 1) := by decide +kernel
theorem dX8_spread_6 : decode cX8_spread 6 = .ok (.laload, 1) := by decide +kernel
theorem dX8_spread_7 : decode cX8_spread 7 = .ok (.lmul, 1) := by decide +kernel
theorem dX8_spread_8 : decode cX8_spread 8 = .ok (.aload_n 0, 1) := by decide +kernel
theorem dX8_spread_9 : decode cX8_spread 9 = .ok (.getfield 9, 3) := by decide +kernel
theorem dX8_spread_12 : decode cX8_spread 12 = .ok (.iload_n 1, 1) := by decide +kernel
theorem dX8_spread_13 : decode cX8_spread 13 = .ok (.laload, 1) := by decide +kernel
theorem dX8_spread_14 : decode cX8_spread 14 = .ok (.aload_n 0, 1) := by decide +kernel
theorem dX8_spread_15 : decode cX8_spread 15 = .ok (.getfield 9, 3) := by decide +kernel
theorem dX8_spread_18 : decode cX8_spread 18 = .ok (.iload_n 1, 1) := by decide +kernel
theorem dX8_spread_19 : decode cX8_spread 19 = .ok (.laload, 1) := by decide +kernel
theorem dX8_spread_20 : decode cX8_spread 20 = .ok (.lmul, 1) := by decide +kernel
theorem dX8_spread_21 : decode cX8_spread 21 = .ok (.lsub, 1) := by decide +kernel
theorem dX8_spread_22 : decode cX8_spread 22 = .ok (.lreturn, 1) := by decide +kernel
def wX8_spread  (x1 : Int32) (x2 : Int64) (σ : Sto) (post : Int64 → Sto → Prop) : Prop := vp_in x1 14 ∧ (vp_in x1 14 ∧ (vp_in x1 14 ∧ (post ((x2 * (σ.2 56 x1.toNatClampNeg)) - ((σ.2 55 x1.toNatClampNeg) * (σ.2 55 x1.toNatClampNeg))) σ)))
set_option maxRecDepth 100000 in
set_option maxHeartbeats 4000000 in
theorem vX8_spread (E : Ev)  (x1 : Int32) (x2 : Int64) (σ : Sto) (post : Int64 → Sto → Prop)  (h : wX8_spread  x1 x2 σ post) : V E 0 mX8_spread (pL post) 0 [(0, .ref 6), (1, .int x1), (2, .long x2)] [] σ := by
  unfold wX8_spread at h
  refine V_lload_n (pc := 0) 2 dX8_spread_0 rfl ?_
  refine V_aload_n (pc := 1) 0 dX8_spread_1 rfl ?_
  refine V_getR (pc := 2) dX8_spread_2 fl_X8_15 sh_6 rfl ?_
  refine V_iload_n (pc := 5) 1 dX8_spread_5 rfl ?_
  obtain ⟨i6, h⟩ := h
  refine V_lald (pc := 6) dX8_spread_6 sh_56 i6 ?_
  refine V_lmul (pc := 7) dX8_spread_7 ?_
  refine V_aload_n (pc := 8) 0 dX8_spread_8 rfl ?_
  refine V_getR (pc := 9) dX8_spread_9 fl_X8_9 sh_6 rfl ?_
  refine V_iload_n (pc := 12) 1 dX8_spread_12 rfl ?_
  obtain ⟨i13, h⟩ := h
  refine V_lald (pc := 13) dX8_spread_13 sh_55 i13 ?_
  refine V_aload_n (pc := 14) 0 dX8_spread_14 rfl ?_
  refine V_getR (pc := 15) dX8_spread_15 fl_X8_9 sh_6 rfl ?_
  refine V_iload_n (pc := 18) 1 dX8_spread_18 rfl ?_
  obtain ⟨i19, h⟩ := h
  refine V_lald (pc := 19) dX8_spread_19 sh_55 i19 ?_
  refine V_lmul (pc := 20) dX8_spread_20 ?_
  refine V_lsub (pc := 21) dX8_spread_21 ?_
  exact V_lret dX8_spread_22 rfl h
theorem dX8_reckonWithin_0 : decode cX8_reckonWithin 0 = .ok (.aload_n 0, 1) := by decide +kernel
theorem dX8_reckonWithin_1 : decode cX8_reckonWithin 1 = .ok (.getfield 29, 3) := by decide +kernel
theorem dX8_reckonWithin_4 : decode cX8_reckonWithin 4 = .ok (.getfield 64, 3) := by decide +kernel
theorem dX8_reckonWithin_7 : decode cX8_reckonWithin 7 = .ok (.iload_n 2, 1) := by decide +kernel
theorem dX8_reckonWithin_8 : decode cX8_reckonWithin 8 = .ok (.aaload, 1) := by decide +kernel
theorem dX8_reckonWithin_9 : decode cX8_reckonWithin 9 = .ok (.iload_n 1, 1) := by decide +kernel
theorem dX8_reckonWithin_10 : decode cX8_reckonWithin 10 = .ok (.iaload, 1) := by decide +kernel
theorem dX8_reckonWithin_11 : decode cX8_reckonWithin 11 = .ok (.i2l, 1) := by decide +kernel
theorem dX8_reckonWithin_12 : decode cX8_reckonWithin 12 = .ok (.lstore_n 3, 1) := by decide +kernel
theorem dX8_reckonWithin_13 : decode cX8_reckonWithin 13 = .ok (.lload_n 3, 1) := by decide +kernel
theorem dX8_reckonWithin_14 : decode cX8_reckonWithin 14 = .ok (.ldc2_w 68, 3) := by decide +kernel
theorem dX8_reckonWithin_17 : decode cX8_reckonWithin 17 = .ok (.lcmp, 1) := by decide +kernel
theorem dX8_reckonWithin_18 : decode cX8_reckonWithin 18 = .ok (.ifCond .ge 5, 3) := by decide +kernel
theorem dX8_reckonWithin_21 : decode cX8_reckonWithin 21 = .ok (.iconst 0, 1) := by decide +kernel
theorem dX8_reckonWithin_22 : decode cX8_reckonWithin 22 = .ok (.ireturn, 1) := by decide +kernel
theorem dX8_reckonWithin_23 : decode cX8_reckonWithin 23 = .ok (.aload_n 0, 1) := by decide +kernel
theorem dX8_reckonWithin_24 : decode cX8_reckonWithin 24 = .ok (.iload_n 2, 1) := by decide +kernel
theorem dX8_reckonWithin_25 : decode cX8_reckonWithin 25 = .ok (.invokevirtual 70, 3) := by decide +kernel
theorem dX8_reckonWithin_28 : decode cX8_reckonWithin 28 = .ok (.aload_n 0, 1) := by decide +kernel
theorem dX8_reckonWithin_29 : decode cX8_reckonWithin 29 = .ok (.getfield 21, 3) := by decide +kernel
theorem dX8_reckonWithin_32 : decode cX8_reckonWithin 32 = .ok (.aload_n 0, 1) := by decide +kernel
theorem dX8_reckonWithin_33 : decode cX8_reckonWithin 33 = .ok (.iload_n 1, 1) := by decide +kernel
theorem dX8_reckonWithin_34 : decode cX8_reckonWithin 34 = .ok (.lload_n 3, 1) := by decide +kernel
theorem dX8_reckonWithin_35 : decode cX8_reckonWithin 35 = .ok (.invokevirtual 74, 3) := by decide +kernel
theorem dX8_reckonWithin_38 : decode cX8_reckonWithin 38 = .ok (.lload_n 3, 1) := by decide +kernel
theorem dX8_reckonWithin_39 : decode cX8_reckonWithin 39 = .ok (.lload_n 3, 1) := by decide +kernel
theorem dX8_reckonWithin_40 : decode cX8_reckonWithin 40 = .ok (.lconst 1, 1) := by decide +kernel
theorem dX8_reckonWithin_41 : decode cX8_reckonWithin 41 = .ok (.lsub, 1) := by decide +kernel
theorem dX8_reckonWithin_42 : decode cX8_reckonWithin 42 = .ok (.lmul, 1) := by decide +kernel
theorem dX8_reckonWithin_43 : decode cX8_reckonWithin 43 = .ok (.invokevirtual 78, 3) := by decide +kernel
theorem dX8_reckonWithin_46 : decode cX8_reckonWithin 46 = .ok (.iconst 1, 1) := by decide +kernel
theorem dX8_reckonWithin_47 : decode cX8_reckonWithin 47 = .ok (.ireturn, 1) := by decide +kernel
def wX8_reckonWithin  (x1 : Int32) (x2 : Int32) (σ : Sto) (post : Bool → Sto → Prop) : Prop := vp_in x2 4 ∧ (vp_in x1 14 ∧ (((((2 : Int64)) ≤ ((σ.1 (40 + x2.toNatClampNeg) x1.toNatClampNeg).toInt64)) → (wX8_gather  x2 σ (fun (s25 : Sto) => wX8_spread  x1 ((σ.1 (40 + x2.toNatClampNeg) x1.toNatClampNeg).toInt64) s25 (fun (r35 : Int64) (s35 : Sto) => wX5_become 11 r35 (((σ.1 (40 + x2.toNatClampNeg) x1.toNatClampNeg).toInt64) * (((σ.1 (40 + x2.toNatClampNeg) x1.toNatClampNeg).toInt64) - ((1 : Int64)))) s35 (fun (s43 : Sto) => post true s43))))) ∧ ((¬ (((2 : Int64)) ≤ ((σ.1 (40 + x2.toNatClampNeg) x1.toNatClampNeg).toInt64))) → (post false σ))))
set_option maxRecDepth 100000 in
set_option maxHeartbeats 4000000 in
theorem vX8_reckonWithin (E : Ev)  (x1 : Int32) (x2 : Int32) (σ : Sto) (post : Bool → Sto → Prop)  (h : wX8_reckonWithin  x1 x2 σ post) : V E 3 mX8_reckonWithin (pB post) 0 [(0, .ref 6), (1, .int x1), (2, .int x2)] [] σ := by
  unfold wX8_reckonWithin at h
  refine V_aload_n (pc := 0) 0 dX8_reckonWithin_0 rfl ?_
  refine V_getR (pc := 1) dX8_reckonWithin_1 fl_X8_29 sh_6 rfl ?_
  refine V_getR (pc := 4) dX8_reckonWithin_4 fl_X8_64 sh_2 rfl ?_
  refine V_iload_n (pc := 7) 2 dX8_reckonWithin_7 rfl ?_
  obtain ⟨i8, h⟩ := h
  refine V_aald (pc := 8) dX8_reckonWithin_8 sh_39 i8 ?_
  refine V_iload_n (pc := 9) 1 dX8_reckonWithin_9 rfl ?_
  obtain ⟨i10, h⟩ := h
  refine V_iald (pc := 10) dX8_reckonWithin_10 (sr_40 (vp_lt i8)) i10 ?_
  refine V_i2l (pc := 11) dX8_reckonWithin_11 ?_
  refine V_lstore_n (pc := 12) dX8_reckonWithin_12 (by decide) ?_
  refine V_lload_n (pc := 13) 0 dX8_reckonWithin_13 rfl ?_
  refine V_ldc2 (pc := 14) dX8_reckonWithin_14 cl_X8_68 ?_
  refine V_lc_ge (pc := 17) (tgt := 23) dX8_reckonWithin_17 dX8_reckonWithin_18 (by decide) (fun hc => ?_) (fun hc => ?_)
  · replace h := h.1 hc
    refine V_aload_n (pc := 23) 1 dX8_reckonWithin_23 rfl ?_
    refine V_iload_n (pc := 24) 3 dX8_reckonWithin_24 rfl ?_
    refine V_callV (pc := 25) (M' := mX8_gather) dX8_reckonWithin_25 ml_X8_70 kv_X8_gather ko_X8_gather sh_6 (by decide) (by decide) rfl rfl (Nat.le_of_ble_eq_true rfl) (Nat.le_of_ble_eq_true rfl) (vX8_gather E  x2 σ _  h) (kV (fun s25 h => ?_))
    refine V_aload_n (pc := 28) 1 dX8_reckonWithin_28 rfl ?_
    refine V_getR (pc := 29) dX8_reckonWithin_29 fl_X8_21 sh_6 rfl ?_
    refine V_aload_n (pc := 32) 1 dX8_reckonWithin_32 rfl ?_
    refine V_iload_n (pc := 33) 2 dX8_reckonWithin_33 rfl ?_
    refine V_lload_n (pc := 34) 0 dX8_reckonWithin_34 rfl ?_
    refine V_callV (pc := 35) (M' := mX8_spread) dX8_reckonWithin_35 ml_X8_74 kv_X8_spread ko_X8_spread sh_6 (by decide) (by decide) rfl rfl (Nat.le_of_ble_eq_true rfl) (Nat.le_of_ble_eq_true rfl) (vX8_spread E  x1 ((σ.1 (40 + x2.toNatClampNeg) x1.toNatClampNeg).toInt64) s25 _  h) (kL (fun r35 s35 h => ?_))
    refine V_lload_n (pc := 38) 0 dX8_reckonWithin_38 rfl ?_
    refine V_lload_n (pc := 39) 0 dX8_reckonWithin_39 rfl ?_
    refine V_lconst (pc := 40) (v := 1) dX8_reckonWithin_40 (by decide) ?_
    refine V_lsub (pc := 41) dX8_reckonWithin_41 ?_
    refine V_lmul (pc := 42) dX8_reckonWithin_42 ?_
    refine V_callV (pc := 43) (M' := mX5_become) dX8_reckonWithin_43 ml_X8_78 kv_X5_become ko_X5_become sh_11 (by decide) (by decide) rfl rfl (Nat.le_of_ble_eq_true rfl) (Nat.le_of_ble_eq_true rfl) (vX5_become E 11 r35 (((σ.1 (40 + x2.toNatClampNeg) x1.toNatClampNeg).toInt64) * (((σ.1 (40 + x2.toNatClampNeg) x1.toNatClampNeg).toInt64) - ((1 : Int64)))) s35 _ sh_11 h) (kV (fun s43 h => ?_))
    refine V_iconst (pc := 46) (v := 1) dX8_reckonWithin_46 (by decide) ?_
    exact V_zret true rfl dX8_reckonWithin_47 rfl h
  · replace h := h.2 hc
    refine V_iconst (pc := 21) (v := 0) dX8_reckonWithin_21 (by decide) ?_
    exact V_zret false rfl dX8_reckonWithin_22 rfl h
theorem dX8_scaledWithin_0 : decode cX8_scaledWithin 0 = .ok (.aload_n 0, 1) := by decide +kernel
theorem dX8_scaledWithin_1 : decode cX8_scaledWithin 1 = .ok (.getfield 29, 3) := by decide +kernel
theorem dX8_scaledWithin_4 : decode cX8_scaledWithin 4 = .ok (.getfield 64, 3) := by decide +kernel
theorem dX8_scaledWithin_7 : decode cX8_scaledWithin 7 = .ok (.iload_n 2, 1) := by decide +kernel
theorem dX8_scaledWithin_8 : decode cX8_scaledWithin 8 = .ok (.aaload, 1) := by decide +kernel
theorem dX8_scaledWithin_9 : decode cX8_scaledWithin 9 = .ok (.iload_n 1, 1) := by decide +kernel
theorem dX8_scaledWithin_10 : decode cX8_scaledWithin 10 = .ok (.iaload, 1) := by decide +kernel
theorem dX8_scaledWithin_11 : decode cX8_scaledWithin 11 = .ok (.istore_n 3, 1) := by decide +kernel
theorem dX8_scaledWithin_12 : decode cX8_scaledWithin 12 = .ok (.iload_n 3, 1) := by decide +kernel
theorem dX8_scaledWithin_13 : decode cX8_scaledWithin 13 = .ok (.iconst 2, 1) := by decide +kernel
theorem dX8_scaledWithin_14 : decode cX8_scaledWithin 14 = .ok (.if_icmp .ge 9, 3) := by decide +kernel
theorem dX8_scaledWithin_17 : decode cX8_scaledWithin 17 = .ok (.ldc2_w 82, 3) := by decide +kernel
theorem dX8_scaledWithin_20 : decode cX8_scaledWithin 20 = .ok (.goto 21, 3) := by decide +kernel
theorem dX8_scaledWithin_23 : decode cX8_scaledWithin 23 = .ok (.aload_n 0, 1) := by decide +kernel
theorem dX8_scaledWithin_24 : decode cX8_scaledWithin 24 = .ok (.iload_n 1, 1) := by decide +kernel
theorem dX8_scaledWithin_25 : decode cX8_scaledWithin 25 = .ok (.iload_n 3, 1) := by decide +kernel
theorem dX8_scaledWithin_26 : decode cX8_scaledWithin 26 = .ok (.i2l, 1) := by decide +kernel
theorem dX8_scaledWithin_27 : decode cX8_scaledWithin 27 = .ok (.invokevirtual 74, 3) := by decide +kernel
theorem dX8_scaledWithin_30 : decode cX8_scaledWithin 30 = .ok (.sipush 840, 3) := by decide +kernel
theorem dX8_scaledWithin_33 : decode cX8_scaledWithin 33 = .ok (.iload_n 3, 1) := by decide +kernel
theorem dX8_scaledWithin_34 : decode cX8_scaledWithin 34 = .ok (.iload_n 3, 1) := by decide +kernel
theorem dX8_scaledWithin_35 : decode cX8_scaledWithin 35 = .ok (.iconst 1, 1) := by decide +kernel
theorem dX8_scaledWithin_36 : decode cX8_scaledWithin 36 = .ok (.isub, 1) := by decide +kernel
theorem dX8_scaledWithin_37 : decode cX8_scaledWithin 37 = .ok (.imul, 1) := by decide +kernel
theorem dX8_scaledWithin_38 : decode cX8_scaledWithin 38 = .ok (.idiv, 1) := by decide +kernel
theorem dX8_scaledWithin_39 : decode cX8_scaledWithin 39 = .ok (.i2l, 1) := by decide +kernel
theorem dX8_scaledWithin_40 : decode cX8_scaledWithin 40 = .ok (.lmul, 1) := by decide +kernel
theorem dX8_scaledWithin_41 : decode cX8_scaledWithin 41 = .ok (.lreturn, 1) := by decide +kernel
def wX8_scaledWithin  (x1 : Int32) (x2 : Int32) (σ : Sto) (post : Int64 → Sto → Prop) : Prop := vp_in x2 4 ∧ (vp_in x1 14 ∧ (((((2 : Int32)) ≤ (σ.1 (40 + x2.toNatClampNeg) x1.toNatClampNeg)) → (wX8_spread  x1 ((σ.1 (40 + x2.toNatClampNeg) x1.toNatClampNeg).toInt64) σ (fun (r27 : Int64) (s27 : Sto) => (¬ ((σ.1 (40 + x2.toNatClampNeg) x1.toNatClampNeg) * ((σ.1 (40 + x2.toNatClampNeg) x1.toNatClampNeg) - ((1 : Int32)))) = 0) ∧ (post (r27 * ((((840 : Int32)) / ((σ.1 (40 + x2.toNatClampNeg) x1.toNatClampNeg) * ((σ.1 (40 + x2.toNatClampNeg) x1.toNatClampNeg) - ((1 : Int32))))).toInt64)) s27)))) ∧ ((¬ (((2 : Int32)) ≤ (σ.1 (40 + x2.toNatClampNeg) x1.toNatClampNeg))) → (post ((-1 : Int64)) σ))))
set_option maxRecDepth 100000 in
set_option maxHeartbeats 4000000 in
theorem vX8_scaledWithin (E : Ev)  (x1 : Int32) (x2 : Int32) (σ : Sto) (post : Int64 → Sto → Prop)  (h : wX8_scaledWithin  x1 x2 σ post) : V E 1 mX8_scaledWithin (pL post) 0 [(0, .ref 6), (1, .int x1), (2, .int x2)] [] σ := by
  unfold wX8_scaledWithin at h
  refine V_aload_n (pc := 0) 0 dX8_scaledWithin_0 rfl ?_
  refine V_getR (pc := 1) dX8_scaledWithin_1 fl_X8_29 sh_6 rfl ?_
  refine V_getR (pc := 4) dX8_scaledWithin_4 fl_X8_64 sh_2 rfl ?_
  refine V_iload_n (pc := 7) 2 dX8_scaledWithin_7 rfl ?_
  obtain ⟨i8, h⟩ := h
  refine V_aald (pc := 8) dX8_scaledWithin_8 sh_39 i8 ?_
  refine V_iload_n (pc := 9) 1 dX8_scaledWithin_9 rfl ?_
  obtain ⟨i10, h⟩ := h
  refine V_iald (pc := 10) dX8_scaledWithin_10 (sr_40 (vp_lt i8)) i10 ?_
  refine V_istore_n (pc := 11) dX8_scaledWithin_11 (by decide) ?_
  refine V_iload_n (pc := 12) 0 dX8_scaledWithin_12 rfl ?_
  refine V_iconst (pc := 13) (v := 2) dX8_scaledWithin_13 (by decide) ?_
  refine V_icmp_ge (pc := 14) (tgt := 23) dX8_scaledWithin_14 (by decide) (fun hc => ?_) (fun hc => ?_)
  · replace h := h.1 hc
    refine V_aload_n (pc := 23) 1 dX8_scaledWithin_23 rfl ?_
    refine V_iload_n (pc := 24) 2 dX8_scaledWithin_24 rfl ?_
    refine V_iload_n (pc := 25) 0 dX8_scaledWithin_25 rfl ?_
    refine V_i2l (pc := 26) dX8_scaledWithin_26 ?_
    refine V_callV (pc := 27) (M' := mX8_spread) dX8_scaledWithin_27 ml_X8_74 kv_X8_spread ko_X8_spread sh_6 (by decide) (by decide) rfl rfl (Nat.le_of_ble_eq_true rfl) (Nat.le_of_ble_eq_true rfl) (vX8_spread E  x1 ((σ.1 (40 + x2.toNatClampNeg) x1.toNatClampNeg).toInt64) σ _  h) (kL (fun r27 s27 h => ?_))
    refine V_sipush (pc := 30) (v := 840) dX8_scaledWithin_30 (by decide) ?_
    refine V_iload_n (pc := 33) 0 dX8_scaledWithin_33 rfl ?_
    refine V_iload_n (pc := 34) 0 dX8_scaledWithin_34 rfl ?_
    refine V_iconst (pc := 35) (v := 1) dX8_scaledWithin_35 (by decide) ?_
    refine V_isub (pc := 36) dX8_scaledWithin_36 ?_
    refine V_imul (pc := 37) dX8_scaledWithin_37 ?_
    obtain ⟨z38, h⟩ := h
    refine V_idiv (pc := 38) dX8_scaledWithin_38 z38 ?_
    refine V_i2l (pc := 39) dX8_scaledWithin_39 ?_
    refine V_lmul (pc := 40) dX8_scaledWithin_40 ?_
    exact V_lret dX8_scaledWithin_41 rfl h
  · replace h := h.2 hc
    refine V_ldc2 (pc := 17) dX8_scaledWithin_17 cl_X8_82 ?_
    refine V_goto (pc := 20) (tgt := 41) dX8_scaledWithin_20 (by decide) ?_
    exact V_lret dX8_scaledWithin_41 rfl h
theorem dX8_widestOf_0 : decode cX8_widestOf 0 = .ok (.iconst (-1), 1) := by decide +kernel
theorem dX8_widestOf_1 : decode cX8_widestOf 1 = .ok (.istore_n 2, 1) := by decide +kernel
theorem dX8_widestOf_2 : decode cX8_widestOf 2 = .ok (.ldc2_w 82, 3) := by decide +kernel
theorem dX8_widestOf_5 : decode cX8_widestOf 5 = .ok (.lstore_n 3, 1) := by decide +kernel
theorem dX8_widestOf_6 : decode cX8_widestOf 6 = .ok (.iconst 0, 1) := by decide +kernel
theorem dX8_widestOf_7 : decode cX8_widestOf 7 = .ok (.istore 5, 2) := by decide +kernel
theorem dX8_widestOf_9 : decode cX8_widestOf 9 = .ok (.iload 5, 2) := by decide +kernel
theorem dX8_widestOf_11 : decode cX8_widestOf 11 = .ok (.aload_n 0, 1) := by decide +kernel
theorem dX8_widestOf_12 : decode cX8_widestOf 12 = .ok (.getfield 25, 3) := by decide +kernel
theorem dX8_widestOf_15 : decode cX8_widestOf 15 = .ok (.getfield 84, 3) := by decide +kernel
theorem dX8_widestOf_18 : decode cX8_widestOf 18 = .ok (.if_icmp .ge 31, 3) := by decide +kernel
theorem dX8_widestOf_21 : decode cX8_widestOf 21 = .ok (.aload_n 0, 1) := by decide +kernel
theorem dX8_widestOf_22 : decode cX8_widestOf 22 = .ok (.iload 5, 2) := by decide +kernel
theorem dX8_widestOf_24 : decode cX8_widestOf 24 = .ok (.iload_n 1, 1) := by decide +kernel
theorem dX8_widestOf_25 : decode cX8_widestOf 25 = .ok (.invokevirtual 87, 3) := by decide +kernel
theorem dX8_widestOf_28 : decode cX8_widestOf 28 = .ok (.lstore 6, 2) := by decide +kernel
theorem dX8_widestOf_30 : decode cX8_widestOf 30 = .ok (.lload 6, 2) := by decide +kernel
theorem dX8_widestOf_32 : decode cX8_widestOf 32 = .ok (.lload_n 3, 1) := by decide +kernel
theorem dX8_widestOf_33 : decode cX8_widestOf 33 = .ok (.lcmp, 1) := by decide +kernel
theorem dX8_widestOf_34 : decode cX8_widestOf 34 = .ok (.ifCond .le 9, 3) := by decide +kernel
theorem dX8_widestOf_37 : decode cX8_widestOf 37 = .ok (.iload 5, 2) := by decide +kernel
theorem dX8_widestOf_39 : decode cX8_widestOf 39 = .ok (.istore_n 2, 1) := by decide +kernel
theorem dX8_widestOf_40 : decode cX8_widestOf 40 = .ok (.lload 6, 2) := by decide +kernel
theorem dX8_widestOf_42 : decode cX8_widestOf 42 = .ok (.lstore_n 3, 1) := by decide +kernel
theorem dX8_widestOf_43 : decode cX8_widestOf 43 = .ok (.iinc 5 1, 3) := by decide +kernel
theorem dX8_widestOf_46 : decode cX8_widestOf 46 = .ok (.goto (-37), 3) := by decide +kernel
theorem dX8_widestOf_49 : decode cX8_widestOf 49 = .ok (.iload_n 2, 1) := by decide +kernel
theorem dX8_widestOf_50 : decode cX8_widestOf 50 = .ok (.ireturn, 1) := by decide +kernel
def wX8_widestOf_9 (post : Int32 → Sto → Prop)  (K49 : Int32 → Sto → Prop) : Nat → Int32 → Int32 → Int64 → Int32 → Sto → Prop
  | 0, _, _, _, _, _ => False
  | n + 1, x1, x2, x3, x5, σ => (((σ.1 1 2) ≤ x5) → (K49 x2 σ)) ∧ ((¬ ((σ.1 1 2) ≤ x5)) → (wX8_scaledWithin  x5 x1 σ (fun (r25 : Int64) (s25 : Sto) => ((r25 ≤ x3) → (wX8_widestOf_9 post  K49 n x1 x2 x3 (x5 + (1 : Int32)) s25)) ∧ ((¬ (r25 ≤ x3)) → (wX8_widestOf_9 post  K49 n x1 x5 r25 (x5 + (1 : Int32)) s25)))))
set_option maxRecDepth 100000 in
set_option maxHeartbeats 4000000 in
theorem vX8_widestOf_9 (E : Ev) (post : Int32 → Sto → Prop)   (K49 : Int32 → Sto → Prop) (HK49 : ∀ (x2 : Int32) (σ : Sto), K49 x2 σ → V E 2 mX8_widestOf (pI post) 49 [(2, .int x2)] [] σ) : ∀ (n : Nat) (x1 : Int32) (x2 : Int32) (x3 : Int64) (x5 : Int32) (σ : Sto), wX8_widestOf_9 post  K49 n x1 x2 x3 x5 σ → V E 2 mX8_widestOf (pI post) 9 [(0, .ref 6), (1, .int x1), (2, .int x2), (3, .long x3), (5, .int x5)] [] σ := by
  intro n
  induction n with
  | zero => intro x1 x2 x3 x5 σ h; exact h.elim
  | succ n ih =>
    intro x1 x2 x3 x5 σ h
    unfold wX8_widestOf_9 at h
    refine V_iload (pc := 9) 4 dX8_widestOf_9 rfl ?_
    refine V_aload_n (pc := 11) 0 dX8_widestOf_11 rfl ?_
    refine V_getR (pc := 12) dX8_widestOf_12 fl_X8_25 sh_6 rfl ?_
    refine V_getI (pc := 15) dX8_widestOf_15 fl_X8_84 sh_1 rfl ?_
    refine V_icmp_ge (pc := 18) (tgt := 49) dX8_widestOf_18 (by decide) (fun hc => ?_) (fun hc => ?_)
    · replace h := h.1 hc
      exact V_loc [2] rfl (HK49 x2 σ  h)
    · replace h := h.2 hc
      refine V_aload_n (pc := 21) 0 dX8_widestOf_21 rfl ?_
      refine V_iload (pc := 22) 4 dX8_widestOf_22 rfl ?_
      refine V_iload_n (pc := 24) 1 dX8_widestOf_24 rfl ?_
      refine V_callV (pc := 25) (M' := mX8_scaledWithin) dX8_widestOf_25 ml_X8_87 kv_X8_scaledWithin ko_X8_scaledWithin sh_6 (by decide) (by decide) rfl rfl (Nat.le_of_ble_eq_true rfl) (Nat.le_of_ble_eq_true rfl) (vX8_scaledWithin E  x5 x1 σ _  h) (kL (fun r25 s25 h => ?_))
      refine V_lstore (pc := 28) dX8_widestOf_28 (by decide) ?_
      refine V_lload (pc := 30) 0 dX8_widestOf_30 rfl ?_
      refine V_lload_n (pc := 32) 4 dX8_widestOf_32 rfl ?_
      refine V_lc_le (pc := 33) (tgt := 43) dX8_widestOf_33 dX8_widestOf_34 (by decide) (fun hc => ?_) (fun hc => ?_)
      · replace h := h.1 hc
        refine V_iinc (pc := 43) 5 (v := 1) dX8_widestOf_43 rfl (by decide) (by decide) ?_
        refine V_goto (pc := 46) (tgt := 9) dX8_widestOf_46 (by decide) ?_
        exact V_loc [2, 3, 4, 5, 0] rfl (ih x1 x2 x3 (x5 + (1 : Int32)) s25  h)
      · replace h := h.2 hc
        refine V_iload (pc := 37) 5 dX8_widestOf_37 rfl ?_
        refine V_istore_n (pc := 39) dX8_widestOf_39 (by decide) ?_
        refine V_lload (pc := 40) 1 dX8_widestOf_40 rfl ?_
        refine V_lstore_n (pc := 42) dX8_widestOf_42 (by decide) ?_
        refine V_iinc (pc := 43) 5 (v := 1) dX8_widestOf_43 rfl (by decide) (by decide) ?_
        refine V_goto (pc := 46) (tgt := 9) dX8_widestOf_46 (by decide) ?_
        exact V_loc [4, 5, 2, 1, 0] rfl (ih x1 x5 r25 (x5 + (1 : Int32)) s25  h)
def wX8_widestOf  (x1 : Int32) (σ : Sto) (post : Int32 → Sto → Prop) : Prop := ∃ n9, wX8_widestOf_9 post  (fun (x2_1 : Int32) (σ_1 : Sto) => post x2_1 σ_1) n9 x1 ((-1 : Int32)) ((-1 : Int64)) ((0 : Int32)) σ
set_option maxRecDepth 100000 in
set_option maxHeartbeats 4000000 in
theorem vX8_widestOf (E : Ev)  (x1 : Int32) (σ : Sto) (post : Int32 → Sto → Prop)  (h : wX8_widestOf  x1 σ post) : V E 2 mX8_widestOf (pI post) 0 [(0, .ref 6), (1, .int x1)] [] σ := by
  unfold wX8_widestOf at h
  refine V_iconst (pc := 0) (v := -1) dX8_widestOf_0 (by decide) ?_
  refine V_istore_n (pc := 1) dX8_widestOf_1 (by decide) ?_
  refine V_ldc2 (pc := 2) dX8_widestOf_2 cl_X8_82 ?_
  refine V_lstore_n (pc := 5) dX8_widestOf_5 (by decide) ?_
  refine V_iconst (pc := 6) (v := 0) dX8_widestOf_6 (by decide) ?_
  refine V_istore (pc := 7) dX8_widestOf_7 (by decide) ?_
  obtain ⟨n9, h⟩ := h
  refine V_loc [3, 4, 2, 1, 0] rfl (vX8_widestOf_9 E post   _ (fun x2_1 σ_1 h => ?_) n9 x1 ((-1 : Int32)) ((-1 : Int64)) ((0 : Int32)) σ  h)
  · refine V_iload_n (pc := 49) 0 dX8_widestOf_49 rfl ?_
    exact V_iret dX8_widestOf_50 rfl h
theorem dX8_reckonShare_0 : decode cX8_reckonShare 0 = .ok (.aload_n 0, 1) := by decide +kernel
theorem dX8_reckonShare_1 : decode cX8_reckonShare 1 = .ok (.iload_n 1, 1) := by decide +kernel
theorem dX8_reckonShare_2 : decode cX8_reckonShare 2 = .ok (.invokevirtual 70, 3) := by decide +kernel
theorem dX8_reckonShare_5 : decode cX8_reckonShare 5 = .ok (.aload_n 0, 1) := by decide +kernel
theorem dX8_reckonShare_6 : decode cX8_reckonShare 6 = .ok (.iload_n 1, 1) := by decide +kernel
theorem dX8_reckonShare_7 : decode cX8_reckonShare 7 = .ok (.invokevirtual 91, 3) := by decide +kernel
theorem dX8_reckonShare_10 : decode cX8_reckonShare 10 = .ok (.istore_n 2, 1) := by decide +kernel
theorem dX8_reckonShare_11 : decode cX8_reckonShare 11 = .ok (.iload_n 2, 1) := by decide +kernel
theorem dX8_reckonShare_12 : decode cX8_reckonShare 12 = .ok (.iconst (-1), 1) := by decide +kernel
theorem dX8_reckonShare_13 : decode cX8_reckonShare 13 = .ok (.if_icmp .ne 5, 3) := by decide +kernel
theorem dX8_reckonShare_16 : decode cX8_reckonShare 16 = .ok (.iconst 0, 1) := by decide +kernel
theorem dX8_reckonShare_17 : decode cX8_reckonShare 17 = .ok (.ireturn, 1) := by decide +kernel
theorem dX8_reckonShare_18 : decode cX8_reckonShare 18 = .ok (.lconst 0, 1) := by decide +kernel
theorem dX8_reckonShare_19 : decode cX8_reckonShare 19 = .ok (.lstore_n 3, 1) := by decide +kernel
theorem dX8_reckonShare_20 : decode cX8_reckonShare 20 = .ok (.iconst 0, 1) := by decide +kernel
theorem dX8_reckonShare_21 : decode cX8_reckonShare 21 = .ok (.istore 5, 2) := by decide +kernel
theorem dX8_reckonShare_23 : decode cX8_reckonShare 23 = .ok (.iload 5, 2) := by decide +kernel
theorem dX8_reckonShare_25 : decode cX8_reckonShare 25 = .ok (.aload_n 0, 1) := by decide +kernel
theorem dX8_reckonShare_26 : decode cX8_reckonShare 26 = .ok (.getfield 25, 3) := by decide +kernel
theorem dX8_reckonShare_29 : decode cX8_reckonShare 29 = .ok (.getfield 84, 3) := by decide +kernel
theorem dX8_reckonShare_32 : decode cX8_reckonShare 32 = .ok (.if_icmp .ge 23, 3) := by decide +kernel
theorem dX8_reckonShare_35 : decode cX8_reckonShare 35 = .ok (.lload_n 3, 1) := by decide +kernel
theorem dX8_reckonShare_36 : decode cX8_reckonShare 36 = .ok (.lconst 0, 1) := by decide +kernel
theorem dX8_reckonShare_37 : decode cX8_reckonShare 37 = .ok (.aload_n 0, 1) := by decide +kernel
theorem dX8_reckonShare_38 : decode cX8_reckonShare 38 = .ok (.iload 5, 2) := by decide +kernel
theorem dX8_reckonShare_40 : decode cX8_reckonShare 40 = .ok (.iload_n 1, 1) := by decide +kernel
theorem dX8_reckonShare_41 : decode cX8_reckonShare 41 = .ok (.invokevirtual 87, 3) := by decide +kernel
theorem dX8_reckonShare_44 : decode cX8_reckonShare 44 = .ok (.invokestatic 95, 3) := by decide +kernel
theorem dX8_reckonShare_47 : decode cX8_reckonShare 47 = .ok (.ladd, 1) := by decide +kernel
theorem dX8_reckonShare_48 : decode cX8_reckonShare 48 = .ok (.lstore_n 3, 1) := by decide +kernel
theorem dX8_reckonShare_49 : decode cX8_reckonShare 49 = .ok (.iinc 5 1, 3) := by decide +kernel
theorem dX8_reckonShare_52 : decode cX8_reckonShare 52 = .ok (.goto (-29), 3) := by decide +kernel
theorem dX8_reckonShare_55 : decode cX8_reckonShare 55 = .ok (.aload_n 0, 1) := by decide +kernel
theorem dX8_reckonShare_56 : decode cX8_reckonShare 56 = .ok (.getfield 21, 3) := by decide +kernel
theorem dX8_reckonShare_59 : decode cX8_reckonShare 59 = .ok (.aload_n 0, 1) := by decide +kernel
theorem dX8_reckonShare_60 : decode cX8_reckonShare 60 = .ok (.iload_n 2, 1) := by decide +kernel
theorem dX8_reckonShare_61 : decode cX8_reckonShare 61 = .ok (.iload_n 1, 1) := by decide +kernel
theorem dX8_reckonShare_62 : decode cX8_reckonShare 62 = .ok (.invokevirtual 87, 3) := by decide +kernel
theorem dX8_reckonShare_65 : decode cX8_reckonShare 65 = .ok (.lload_n 3, 1) := by decide +kernel
theorem dX8_reckonShare_66 : decode cX8_reckonShare 66 = .ok (.invokevirtual 78, 3) := by decide +kernel
theorem dX8_reckonShare_69 : decode cX8_reckonShare 69 = .ok (.iconst 1, 1) := by decide +kernel
theorem dX8_reckonShare_70 : decode cX8_reckonShare 70 = .ok (.ireturn, 1) := by decide +kernel
def wX8_reckonShare_23 (post : Bool → Sto → Prop)  (K55 : Int32 → Int32 → Int64 → Sto → Prop) : Nat → Int32 → Int32 → Int64 → Int32 → Sto → Prop
  | 0, _, _, _, _, _ => False
  | n + 1, x1, x2, x3, x5, σ => (((σ.1 1 2) ≤ x5) → (K55 x1 x2 x3 σ)) ∧ ((¬ ((σ.1 1 2) ≤ x5)) → (wX8_scaledWithin  x5 x1 σ (fun (r41 : Int64) (s41 : Sto) => wJ9_max_f86c9  ((0 : Int64)) r41 s41 (fun (r44 : Int64) (s44 : Sto) => wX8_reckonShare_23 post  K55 n x1 x2 (x3 + r44) (x5 + (1 : Int32)) s44))))
set_option maxRecDepth 100000 in
set_option maxHeartbeats 4000000 in
theorem vX8_reckonShare_23 (E : Ev) (post : Bool → Sto → Prop)   (K55 : Int32 → Int32 → Int64 → Sto → Prop) (HK55 : ∀ (x1 : Int32) (x2 : Int32) (x3 : Int64) (σ : Sto), K55 x1 x2 x3 σ → V E 3 mX8_reckonShare (pB post) 55 [(0, .ref 6), (1, .int x1), (2, .int x2), (3, .long x3)] [] σ) : ∀ (n : Nat) (x1 : Int32) (x2 : Int32) (x3 : Int64) (x5 : Int32) (σ : Sto), wX8_reckonShare_23 post  K55 n x1 x2 x3 x5 σ → V E 3 mX8_reckonShare (pB post) 23 [(0, .ref 6), (1, .int x1), (2, .int x2), (3, .long x3), (5, .int x5)] [] σ := by
  intro n
  induction n with
  | zero => intro x1 x2 x3 x5 σ h; exact h.elim
  | succ n ih =>
    intro x1 x2 x3 x5 σ h
    unfold wX8_reckonShare_23 at h
    refine V_iload (pc := 23) 4 dX8_reckonShare_23 rfl ?_
    refine V_aload_n (pc := 25) 0 dX8_reckonShare_25 rfl ?_
    refine V_getR (pc := 26) dX8_reckonShare_26 fl_X8_25 sh_6 rfl ?_
    refine V_getI (pc := 29) dX8_reckonShare_29 fl_X8_84 sh_1 rfl ?_
    refine V_icmp_ge (pc := 32) (tgt := 55) dX8_reckonShare_32 (by decide) (fun hc => ?_) (fun hc => ?_)
    · replace h := h.1 hc
      exact V_loc [0, 1, 2, 3] rfl (HK55 x1 x2 x3 σ  h)
    · replace h := h.2 hc
      refine V_lload_n (pc := 35) 3 dX8_reckonShare_35 rfl ?_
      refine V_lconst (pc := 36) (v := 0) dX8_reckonShare_36 (by decide) ?_
      refine V_aload_n (pc := 37) 0 dX8_reckonShare_37 rfl ?_
      refine V_iload (pc := 38) 4 dX8_reckonShare_38 rfl ?_
      refine V_iload_n (pc := 40) 1 dX8_reckonShare_40 rfl ?_
      refine V_callV (pc := 41) (M' := mX8_scaledWithin) dX8_reckonShare_41 ml_X8_87 kv_X8_scaledWithin ko_X8_scaledWithin sh_6 (by decide) (by decide) rfl rfl (Nat.le_of_ble_eq_true rfl) (Nat.le_of_ble_eq_true rfl) (vX8_scaledWithin E  x5 x1 σ _  h) (kL (fun r41 s41 h => ?_))
      refine V_callS (pc := 44) (M' := mJ9_max_f86c9) dX8_reckonShare_44 ml_X8_95 ks_J9_max_f86c9 ko_J9_max_f86c9 (by decide) rfl (Nat.le_of_ble_eq_true rfl) (Nat.le_of_ble_eq_true rfl) (vJ9_max_f86c9 E  ((0 : Int64)) r41 s41 _  h) (kL (fun r44 s44 h => ?_))
      refine V_ladd (pc := 47) dX8_reckonShare_47 ?_
      refine V_lstore_n (pc := 48) dX8_reckonShare_48 (by decide) ?_
      refine V_iinc (pc := 49) 4 (v := 1) dX8_reckonShare_49 rfl (by decide) (by decide) ?_
      refine V_goto (pc := 52) (tgt := 23) dX8_reckonShare_52 (by decide) ?_
      exact V_loc [2, 3, 4, 1, 0] rfl (ih x1 x2 (x3 + r44) (x5 + (1 : Int32)) s44  h)
def wX8_reckonShare  (x1 : Int32) (σ : Sto) (post : Bool → Sto → Prop) : Prop := wX8_gather  x1 σ (fun (s2 : Sto) => wX8_widestOf  x1 s2 (fun (r7 : Int32) (s7 : Sto) => ((¬ r7 = ((-1 : Int32))) → (∃ n23, wX8_reckonShare_23 post  (fun (x1_1 : Int32) (x2_1 : Int32) (x3_1 : Int64) (σ_1 : Sto) => wX8_scaledWithin  x2_1 x1_1 σ_1 (fun (r62 : Int64) (s62 : Sto) => wX5_become 11 r62 x3_1 s62 (fun (s66 : Sto) => post true s66))) n23 x1 r7 ((0 : Int64)) ((0 : Int32)) s7)) ∧ ((r7 = ((-1 : Int32))) → (post false s7))))
set_option maxRecDepth 100000 in
set_option maxHeartbeats 4000000 in
theorem vX8_reckonShare (E : Ev)  (x1 : Int32) (σ : Sto) (post : Bool → Sto → Prop)  (h : wX8_reckonShare  x1 σ post) : V E 3 mX8_reckonShare (pB post) 0 [(0, .ref 6), (1, .int x1)] [] σ := by
  unfold wX8_reckonShare at h
  refine V_aload_n (pc := 0) 0 dX8_reckonShare_0 rfl ?_
  refine V_iload_n (pc := 1) 1 dX8_reckonShare_1 rfl ?_
  refine V_callV (pc := 2) (M' := mX8_gather) dX8_reckonShare_2 ml_X8_70 kv_X8_gather ko_X8_gather sh_6 (by decide) (by decide) rfl rfl (Nat.le_of_ble_eq_true rfl) (Nat.le_of_ble_eq_true rfl) (vX8_gather E  x1 σ _  h) (kV (fun s2 h => ?_))
  refine V_aload_n (pc := 5) 0 dX8_reckonShare_5 rfl ?_
  refine V_iload_n (pc := 6) 1 dX8_reckonShare_6 rfl ?_
  refine V_callV (pc := 7) (M' := mX8_widestOf) dX8_reckonShare_7 ml_X8_91 kv_X8_widestOf ko_X8_widestOf sh_6 (by decide) (by decide) rfl rfl (Nat.le_of_ble_eq_true rfl) (Nat.le_of_ble_eq_true rfl) (vX8_widestOf E  x1 s2 _  h) (kI (fun r7 s7 h => ?_))
  refine V_istore_n (pc := 10) dX8_reckonShare_10 (by decide) ?_
  refine V_iload_n (pc := 11) 0 dX8_reckonShare_11 rfl ?_
  refine V_iconst (pc := 12) (v := -1) dX8_reckonShare_12 (by decide) ?_
  refine V_icmp_ne (pc := 13) (tgt := 18) dX8_reckonShare_13 (by decide) (fun hc => ?_) (fun hc => ?_)
  · replace h := h.1 hc
    refine V_lconst (pc := 18) (v := 0) dX8_reckonShare_18 (by decide) ?_
    refine V_lstore_n (pc := 19) dX8_reckonShare_19 (by decide) ?_
    refine V_iconst (pc := 20) (v := 0) dX8_reckonShare_20 (by decide) ?_
    refine V_istore (pc := 21) dX8_reckonShare_21 (by decide) ?_
    obtain ⟨n23, h⟩ := h
    refine V_loc [3, 4, 2, 1, 0] rfl (vX8_reckonShare_23 E post   _ (fun x1_1 x2_1 x3_1 σ_1 h => ?_) n23 x1 r7 ((0 : Int64)) ((0 : Int32)) s7  h)
    · refine V_aload_n (pc := 55) 0 dX8_reckonShare_55 rfl ?_
      refine V_getR (pc := 56) dX8_reckonShare_56 fl_X8_21 sh_6 rfl ?_
      refine V_aload_n (pc := 59) 0 dX8_reckonShare_59 rfl ?_
      refine V_iload_n (pc := 60) 2 dX8_reckonShare_60 rfl ?_
      refine V_iload_n (pc := 61) 1 dX8_reckonShare_61 rfl ?_
      refine V_callV (pc := 62) (M' := mX8_scaledWithin) dX8_reckonShare_62 ml_X8_87 kv_X8_scaledWithin ko_X8_scaledWithin sh_6 (by decide) (by decide) rfl rfl (Nat.le_of_ble_eq_true rfl) (Nat.le_of_ble_eq_true rfl) (vX8_scaledWithin E  x2_1 x1_1 σ_1 _  h) (kL (fun r62 s62 h => ?_))
      refine V_lload_n (pc := 65) 3 dX8_reckonShare_65 rfl ?_
      refine V_callV (pc := 66) (M' := mX5_become) dX8_reckonShare_66 ml_X8_78 kv_X5_become ko_X5_become sh_11 (by decide) (by decide) rfl rfl (Nat.le_of_ble_eq_true rfl) (Nat.le_of_ble_eq_true rfl) (vX5_become E 11 r62 x3_1 s62 _ sh_11 h) (kV (fun s66 h => ?_))
      refine V_iconst (pc := 69) (v := 1) dX8_reckonShare_69 (by decide) ?_
      exact V_zret true rfl dX8_reckonShare_70 rfl h
  · replace h := h.2 hc
    refine V_iconst (pc := 16) (v := 0) dX8_reckonShare_16 (by decide) ?_
    exact V_zret false rfl dX8_reckonShare_17 rfl h
theorem dX8_likeMany_0 : decode cX8_likeMany 0 = .ok (.iconst 0, 1) := by decide +kernel
theorem dX8_likeMany_1 : decode cX8_likeMany 1 = .ok (.istore_n 2, 1) := by decide +kernel
theorem dX8_likeMany_2 : decode cX8_likeMany 2 = .ok (.iconst 0, 1) := by decide +kernel
theorem dX8_likeMany_3 : decode cX8_likeMany 3 = .ok (.istore_n 3, 1) := by decide +kernel
theorem dX8_likeMany_4 : decode cX8_likeMany 4 = .ok (.iload_n 3, 1) := by decide +kernel
theorem dX8_likeMany_5 : decode cX8_likeMany 5 = .ok (.aload_n 0, 1) := by decide +kernel
theorem dX8_likeMany_6 : decode cX8_likeMany 6 = .ok (.getfield 25, 3) := by decide +kernel
theorem dX8_likeMany_9 : decode cX8_likeMany 9 = .ok (.getfield 84, 3) := by decide +kernel
theorem dX8_likeMany_12 : decode cX8_likeMany 12 = .ok (.if_icmp .ge 46, 3) := by decide +kernel
theorem dX8_likeMany_15 : decode cX8_likeMany 15 = .ok (.aload_n 0, 1) := by decide +kernel
theorem dX8_likeMany_16 : decode cX8_likeMany 16 = .ok (.getfield 29, 3) := by decide +kernel
theorem dX8_likeMany_19 : decode cX8_likeMany 19 = .ok (.getfield 64, 3) := by decide +kernel
theorem dX8_likeMany_22 : decode cX8_likeMany 22 = .ok (.iload_n 1, 1) := by decide +kernel
theorem dX8_likeMany_23 : decode cX8_likeMany 23 = .ok (.aaload, 1) := by decide +kernel
theorem dX8_likeMany_24 : decode cX8_likeMany 24 = .ok (.iload_n 3, 1) := by decide +kernel
theorem dX8_likeMany_25 : decode cX8_likeMany 25 = .ok (.iaload, 1) := by decide +kernel
theorem dX8_likeMany_26 : decode cX8_likeMany 26 = .ok (.istore 4, 2) := by decide +kernel
theorem dX8_likeMany_28 : decode cX8_likeMany 28 = .ok (.iload 4, 2) := by decide +kernel
theorem dX8_likeMany_30 : decode cX8_likeMany 30 = .ok (.ifCond .le 15, 3) := by decide +kernel
theorem dX8_likeMany_33 : decode cX8_likeMany 33 = .ok (.iload_n 2, 1) := by decide +kernel
theorem dX8_likeMany_34 : decode cX8_likeMany 34 = .ok (.ifCond .le 11, 3) := by decide +kernel
theorem dX8_likeMany_37 : decode cX8_likeMany 37 = .ok (.iload 4, 2) := by decide +kernel
theorem dX8_likeMany_39 : decode cX8_likeMany 39 = .ok (.iload_n 2, 1) := by decide +kernel
theorem dX8_likeMany_40 : decode cX8_likeMany 40 = .ok (.if_icmp .eq 5, 3) := by decide +kernel
theorem dX8_likeMany_43 : decode cX8_likeMany 43 = .ok (.iconst 0, 1) := by decide +kernel
theorem dX8_likeMany_44 : decode cX8_likeMany 44 = .ok (.ireturn, 1) := by decide +kernel
theorem dX8_likeMany_45 : decode cX8_likeMany 45 = .ok (.iload_n 2, 1) := by decide +kernel
theorem dX8_likeMany_46 : decode cX8_likeMany 46 = .ok (.iload 4, 2) := by decide +kernel
theorem dX8_likeMany_48 : decode cX8_likeMany 48 = .ok (.invokestatic 100, 3) := by decide +kernel
theorem dX8_likeMany_51 : decode cX8_likeMany 51 = .ok (.istore_n 2, 1) := by decide +kernel
theorem dX8_likeMany_52 : decode cX8_likeMany 52 = .ok (.iinc 3 1, 3) := by decide +kernel
theorem dX8_likeMany_55 : decode cX8_likeMany 55 = .ok (.goto (-51), 3) := by decide +kernel
theorem dX8_likeMany_58 : decode cX8_likeMany 58 = .ok (.iload_n 2, 1) := by decide +kernel
theorem dX8_likeMany_59 : decode cX8_likeMany 59 = .ok (.ireturn, 1) := by decide +kernel
def wX8_likeMany_45 (post : Int32 → Sto → Prop)  (K4 : Int32 → Int32 → Int32 → Sto → Prop) (x1 : Int32) (x2 : Int32) (x3 : Int32) (x4 : Int32) (σ : Sto) : Prop := wJ9_max_7cf53  x2 x4 σ (fun (r48 : Int32) (s48 : Sto) => K4 x1 r48 (x3 + (1 : Int32)) s48)
set_option maxRecDepth 100000 in
set_option maxHeartbeats 4000000 in
theorem vX8_likeMany_45 (E : Ev) (post : Int32 → Sto → Prop)   (K4 : Int32 → Int32 → Int32 → Sto → Prop) (HK4 : ∀ (x1 : Int32) (x2 : Int32) (x3 : Int32) (σ : Sto), K4 x1 x2 x3 σ → V E 1 mX8_likeMany (pI post) 4 [(0, .ref 6), (1, .int x1), (2, .int x2), (3, .int x3)] [] σ) (x1 : Int32) (x2 : Int32) (x3 : Int32) (x4 : Int32) (σ : Sto) (h : wX8_likeMany_45 post  K4 x1 x2 x3 x4 σ) : V E 1 mX8_likeMany (pI post) 45 [(0, .ref 6), (1, .int x1), (2, .int x2), (3, .int x3), (4, .int x4)] [] σ := by
  unfold wX8_likeMany_45 at h
  refine V_iload_n (pc := 45) 2 dX8_likeMany_45 rfl ?_
  refine V_iload (pc := 46) 4 dX8_likeMany_46 rfl ?_
  refine V_callS (pc := 48) (M' := mJ9_max_7cf53) dX8_likeMany_48 ml_X8_100 ks_J9_max_7cf53 ko_J9_max_7cf53 (by decide) rfl (Nat.le_of_ble_eq_true rfl) (Nat.le_of_ble_eq_true rfl) (vJ9_max_7cf53 E  x2 x4 σ _  h) (kI (fun r48 s48 h => ?_))
  refine V_istore_n (pc := 51) dX8_likeMany_51 (by decide) ?_
  refine V_iinc (pc := 52) 3 (v := 1) dX8_likeMany_52 rfl (by decide) (by decide) ?_
  refine V_goto (pc := 55) (tgt := 4) dX8_likeMany_55 (by decide) ?_
  exact V_loc [2, 3, 1, 0] rfl (HK4 x1 r48 (x3 + (1 : Int32)) s48  h)
def wX8_likeMany_4 (post : Int32 → Sto → Prop)  (K58 : Int32 → Sto → Prop) (K43 : Sto → Prop) : Nat → Int32 → Int32 → Int32 → Sto → Prop
  | 0, _, _, _, _ => False
  | n + 1, x1, x2, x3, σ => (((σ.1 1 2) ≤ x3) → (K58 x2 σ)) ∧ ((¬ ((σ.1 1 2) ≤ x3)) → (vp_in x1 4 ∧ (vp_in x3 14 ∧ ((((σ.1 (40 + x1.toNatClampNeg) x3.toNatClampNeg) ≤ 0) → (wX8_likeMany_45 post  (wX8_likeMany_4 post  K58 K43 n) x1 x2 x3 (σ.1 (40 + x1.toNatClampNeg) x3.toNatClampNeg) σ)) ∧ ((¬ ((σ.1 (40 + x1.toNatClampNeg) x3.toNatClampNeg) ≤ 0)) → (((x2 ≤ 0) → (wX8_likeMany_45 post  (wX8_likeMany_4 post  K58 K43 n) x1 x2 x3 (σ.1 (40 + x1.toNatClampNeg) x3.toNatClampNeg) σ)) ∧ ((¬ (x2 ≤ 0)) → ((((σ.1 (40 + x1.toNatClampNeg) x3.toNatClampNeg) = x2) → (wX8_likeMany_45 post  (wX8_likeMany_4 post  K58 K43 n) x1 x2 x3 (σ.1 (40 + x1.toNatClampNeg) x3.toNatClampNeg) σ)) ∧ ((¬ ((σ.1 (40 + x1.toNatClampNeg) x3.toNatClampNeg) = x2)) → (K43  σ))))))))))
set_option maxRecDepth 100000 in
set_option maxHeartbeats 4000000 in
theorem vX8_likeMany_4 (E : Ev) (post : Int32 → Sto → Prop)   (K58 : Int32 → Sto → Prop) (K43 : Sto → Prop) (HK58 : ∀ (x2 : Int32) (σ : Sto), K58 x2 σ → V E 1 mX8_likeMany (pI post) 58 [(2, .int x2)] [] σ) (HK43 : ∀  (σ : Sto), K43  σ → V E 1 mX8_likeMany (pI post) 43 [] [] σ) : ∀ (n : Nat) (x1 : Int32) (x2 : Int32) (x3 : Int32) (σ : Sto), wX8_likeMany_4 post  K58 K43 n x1 x2 x3 σ → V E 1 mX8_likeMany (pI post) 4 [(0, .ref 6), (1, .int x1), (2, .int x2), (3, .int x3)] [] σ := by
  intro n
  induction n with
  | zero => intro x1 x2 x3 σ h; exact h.elim
  | succ n ih =>
    intro x1 x2 x3 σ h
    unfold wX8_likeMany_4 at h
    refine V_iload_n (pc := 4) 3 dX8_likeMany_4 rfl ?_
    refine V_aload_n (pc := 5) 0 dX8_likeMany_5 rfl ?_
    refine V_getR (pc := 6) dX8_likeMany_6 fl_X8_25 sh_6 rfl ?_
    refine V_getI (pc := 9) dX8_likeMany_9 fl_X8_84 sh_1 rfl ?_
    refine V_icmp_ge (pc := 12) (tgt := 58) dX8_likeMany_12 (by decide) (fun hc => ?_) (fun hc => ?_)
    · replace h := h.1 hc
      exact V_loc [2] rfl (HK58 x2 σ  h)
    · replace h := h.2 hc
      refine V_aload_n (pc := 15) 0 dX8_likeMany_15 rfl ?_
      refine V_getR (pc := 16) dX8_likeMany_16 fl_X8_29 sh_6 rfl ?_
      refine V_getR (pc := 19) dX8_likeMany_19 fl_X8_64 sh_2 rfl ?_
      refine V_iload_n (pc := 22) 1 dX8_likeMany_22 rfl ?_
      obtain ⟨i23, h⟩ := h
      refine V_aald (pc := 23) dX8_likeMany_23 sh_39 i23 ?_
      refine V_iload_n (pc := 24) 3 dX8_likeMany_24 rfl ?_
      obtain ⟨i25, h⟩ := h
      refine V_iald (pc := 25) dX8_likeMany_25 (sr_40 (vp_lt i23)) i25 ?_
      refine V_istore (pc := 26) dX8_likeMany_26 (by decide) ?_
      refine V_iload (pc := 28) 0 dX8_likeMany_28 rfl ?_
      refine V_if_le (pc := 30) (tgt := 45) dX8_likeMany_30 (by decide) (fun hc => ?_) (fun hc => ?_)
      · replace h := h.1 hc
        refine V_loc [1, 2, 3, 4, 0] rfl (vX8_likeMany_45 E post   _ ih x1 x2 x3 (σ.1 (40 + x1.toNatClampNeg) x3.toNatClampNeg) σ  h)
      · replace h := h.2 hc
        refine V_iload_n (pc := 33) 3 dX8_likeMany_33 rfl ?_
        refine V_if_le (pc := 34) (tgt := 45) dX8_likeMany_34 (by decide) (fun hc => ?_) (fun hc => ?_)
        · replace h := h.1 hc
          refine V_loc [1, 2, 3, 4, 0] rfl (vX8_likeMany_45 E post   _ ih x1 x2 x3 (σ.1 (40 + x1.toNatClampNeg) x3.toNatClampNeg) σ  h)
        · replace h := h.2 hc
          refine V_iload (pc := 37) 0 dX8_likeMany_37 rfl ?_
          refine V_iload_n (pc := 39) 3 dX8_likeMany_39 rfl ?_
          refine V_icmp_eq (pc := 40) (tgt := 45) dX8_likeMany_40 (by decide) (fun hc => ?_) (fun hc => ?_)
          · replace h := h.1 hc
            refine V_loc [1, 2, 3, 4, 0] rfl (vX8_likeMany_45 E post   _ ih x1 x2 x3 (σ.1 (40 + x1.toNatClampNeg) x3.toNatClampNeg) σ  h)
          · replace h := h.2 hc
            exact V_loc [] rfl (HK43  σ  h)
def wX8_likeMany  (x1 : Int32) (σ : Sto) (post : Int32 → Sto → Prop) : Prop := ∃ n4, wX8_likeMany_4 post  (fun (x2_1 : Int32) (σ_1 : Sto) => post x2_1 σ_1) (fun  (σ_2 : Sto) => post ((0 : Int32)) σ_2) n4 x1 ((0 : Int32)) ((0 : Int32)) σ
set_option maxRecDepth 100000 in
set_option maxHeartbeats 4000000 in
theorem vX8_likeMany (E : Ev)  (x1 : Int32) (σ : Sto) (post : Int32 → Sto → Prop)  (h : wX8_likeMany  x1 σ post) : V E 1 mX8_likeMany (pI post) 0 [(0, .ref 6), (1, .int x1)] [] σ := by
  unfold wX8_likeMany at h
  refine V_iconst (pc := 0) (v := 0) dX8_likeMany_0 (by decide) ?_
  refine V_istore_n (pc := 1) dX8_likeMany_1 (by decide) ?_
  refine V_iconst (pc := 2) (v := 0) dX8_likeMany_2 (by decide) ?_
  refine V_istore_n (pc := 3) dX8_likeMany_3 (by decide) ?_
  obtain ⟨n4, h⟩ := h
  refine V_loc [2, 3, 1, 0] rfl (vX8_likeMany_4 E post   _ _ (fun x2_1 σ_1 h => ?_) (fun σ_2 h => ?_) n4 x1 ((0 : Int32)) ((0 : Int32)) σ  h)
  · refine V_iload_n (pc := 58) 0 dX8_likeMany_58 rfl ?_
    exact V_iret dX8_likeMany_59 rfl h
  · refine V_iconst (pc := 43) (v := 0) dX8_likeMany_43 (by decide) ?_
    exact V_iret dX8_likeMany_44 rfl h
theorem dX8_reckonPart_0 : decode cX8_reckonPart 0 = .ok (.aload_n 0, 1) := by decide +kernel
theorem dX8_reckonPart_1 : decode cX8_reckonPart 1 = .ok (.iload_n 1, 1) := by decide +kernel
theorem dX8_reckonPart_2 : decode cX8_reckonPart 2 = .ok (.invokevirtual 103, 3) := by decide +kernel
theorem dX8_reckonPart_5 : decode cX8_reckonPart 5 = .ok (.i2l, 1) := by decide +kernel
theorem dX8_reckonPart_6 : decode cX8_reckonPart 6 = .ok (.lstore_n 3, 1) := by decide +kernel
theorem dX8_reckonPart_7 : decode cX8_reckonPart 7 = .ok (.aload_n 0, 1) := by decide +kernel
theorem dX8_reckonPart_8 : decode cX8_reckonPart 8 = .ok (.getfield 29, 3) := by decide +kernel
theorem dX8_reckonPart_11 : decode cX8_reckonPart 11 = .ok (.iload_n 1, 1) := by decide +kernel
theorem dX8_reckonPart_12 : decode cX8_reckonPart 12 = .ok (.invokevirtual 106, 3) := by decide +kernel
theorem dX8_reckonPart_15 : decode cX8_reckonPart 15 = .ok (.invokestatic 109, 3) := by decide +kernel
theorem dX8_reckonPart_18 : decode cX8_reckonPart 18 = .ok (.i2l, 1) := by decide +kernel
theorem dX8_reckonPart_19 : decode cX8_reckonPart 19 = .ok (.lstore 5, 2) := by decide +kernel
theorem dX8_reckonPart_21 : decode cX8_reckonPart 21 = .ok (.lload_n 3, 1) := by decide +kernel
theorem dX8_reckonPart_22 : decode cX8_reckonPart 22 = .ok (.ldc2_w 68, 3) := by decide +kernel
theorem dX8_reckonPart_25 : decode cX8_reckonPart 25 = .ok (.lcmp, 1) := by decide +kernel
theorem dX8_reckonPart_26 : decode cX8_reckonPart 26 = .ok (.ifCond .lt 12, 3) := by decide +kernel
theorem dX8_reckonPart_29 : decode cX8_reckonPart 29 = .ok (.lload 5, 2) := by decide +kernel
theorem dX8_reckonPart_31 : decode cX8_reckonPart 31 = .ok (.ldc2_w 68, 3) := by decide +kernel
theorem dX8_reckonPart_34 : decode cX8_reckonPart 34 = .ok (.lcmp, 1) := by decide +kernel
theorem dX8_reckonPart_35 : decode cX8_reckonPart 35 = .ok (.ifCond .ge 5, 3) := by decide +kernel
theorem dX8_reckonPart_38 : decode cX8_reckonPart 38 = .ok (.iconst 0, 1) := by decide +kernel
theorem dX8_reckonPart_39 : decode cX8_reckonPart 39 = .ok (.ireturn, 1) := by decide +kernel
theorem dX8_reckonPart_40 : decode cX8_reckonPart 40 = .ok (.aload_n 0, 1) := by decide +kernel
theorem dX8_reckonPart_41 : decode cX8_reckonPart 41 = .ok (.iload_n 1, 1) := by decide +kernel
theorem dX8_reckonPart_42 : decode cX8_reckonPart 42 = .ok (.invokevirtual 70, 3) := by decide +kernel
theorem dX8_reckonPart_45 : decode cX8_reckonPart 45 = .ok (.lconst 0, 1) := by decide +kernel
theorem dX8_reckonPart_46 : decode cX8_reckonPart 46 = .ok (.lstore 7, 2) := by decide +kernel
theorem dX8_reckonPart_48 : decode cX8_reckonPart 48 = .ok (.lconst 0, 1) := by decide +kernel
theorem dX8_reckonPart_49 : decode cX8_reckonPart 49 = .ok (.lstore 9, 2) := by decide +kernel
theorem dX8_reckonPart_51 : decode cX8_reckonPart 51 = .ok (.lconst 0, 1) := by decide +kernel
theorem dX8_reckonPart_52 : decode cX8_reckonPart 52 = .ok (.lstore 11, 2) := by decide +kernel
theorem dX8_reckonPart_54 : decode cX8_reckonPart 54 = .ok (.iconst 0, 1) := by decide +kernel
theorem dX8_reckonPart_55 : decode cX8_reckonPart 55 = .ok (.istore 13, 2) := by decide +kernel
theorem dX8_reckonPart_57 : decode cX8_reckonPart 57 = .ok (.iload 13, 2) := by decide +kernel
theorem dX8_reckonPart_59 : decode cX8_reckonPart 59 = .ok (.aload_n 0, 1) := by decide +kernel
theorem dX8_reckonPart_60 : decode cX8_reckonPart 60 = .ok (.getfield 25, 3) := by decide +kernel
theorem dX8_reckonPart_63 : decode cX8_reckonPart 63 = .ok (.getfield 84, 3) := by decide +kernel
theorem dX8_reckonPart_66 : decode cX8_reckonPart 66 = .ok (.if_icmp .ge 53, 3) := by decide +kernel
theorem dX8_reckonPart_69 : decode cX8_reckonPart 69 = .ok (.lload 7, 2) := by decide +kernel
theorem dX8_reckonPart_71 : decode cX8_reckonPart 71 = .ok (.aload_n 0, 1) := by decide +kernel
theorem dX8_reckonPart_72 : decode cX8_reckonPart 72 = .ok (.iload 13, 2) := by decide +kernel
theorem dX8_reckonPart_74 : decode cX8_reckonPart 74 = .ok (.lload_n 3, 1) := by decide +kernel
theorem dX8_reckonPart_75 : decode cX8_reckonPart 75 = .ok (.invokevirtual 74, 3) := by decide +kernel
theorem dX8_reckonPart_78 : decode cX8_reckonPart 78 = .ok (.ladd, 1) := by decide +kernel
theorem dX8_reckonPart_79 : decode cX8_reckonPart 79 = .ok (.lstore 7, 2) := by decide +kernel
theorem dX8_reckonPart_81 : decode cX8_reckonPart 81 = .ok (.lload 9, 2) := by decide +kernel
theorem dX8_reckonPart_83 : decode cX8_reckonPart 83 = .ok (.aload_n 0, 1) := by decide +kernel
theorem dX8_reckonPart_84 : decode cX8_reckonPart 84 = .ok (.getfield 9, 3) := by decide +kernel
theorem dX8_reckonPart_87 : decode cX8_reckonPart 87 = .ok (.iload 13, 2) := by decide +kernel
theorem dX8_reckonPart_89 : decode cX8_reckonPart 89 = .ok (.laload, 1) := by decide +kernel
theorem dX8_reckonPart_90 : decode cX8_reckonPart 90 = .ok (.ladd, 1) := by decide +kernel
theorem dX8_reckonPart_91 : decode cX8_reckonPart 91 = .ok (.lstore 9, 2) := by decide +kernel
theorem dX8_reckonPart_93 : decode cX8_reckonPart 93 = .ok (.lload 11, 2) := by decide +kernel
theorem dX8_reckonPart_95 : decode cX8_reckonPart 95 = .ok (.aload_n 0, 1) := by decide +kernel
theorem dX8_reckonPart_96 : decode cX8_reckonPart 96 = .ok (.getfield 9, 3) := by decide +kernel
theorem dX8_reckonPart_99 : decode cX8_reckonPart 99 = .ok (.iload 13, 2) := by decide +kernel
theorem dX8_reckonPart_101 : decode cX8_reckonPart 101 = .ok (.laload, 1) := by decide +kernel
theorem dX8_reckonPart_102 : decode cX8_reckonPart 102 = .ok (.aload_n 0, 1) := by decide +kernel
theorem dX8_reckonPart_103 : decode cX8_reckonPart 103 = .ok (.getfield 9, 3) := by decide +kernel
theorem dX8_reckonPart_106 : decode cX8_reckonPart 106 = .ok (.iload 13, 2) := by decide +kernel
theorem dX8_reckonPart_108 : decode cX8_reckonPart 108 = .ok (.laload, 1) := by decide +kernel
theorem dX8_reckonPart_109 : decode cX8_reckonPart 109 = .ok (.lmul, 1) := by decide +kernel
theorem dX8_reckonPart_110 : decode cX8_reckonPart 110 = .ok (.ladd, 1) := by decide +kernel
theorem dX8_reckonPart_111 : decode cX8_reckonPart 111 = .ok (.lstore 11, 2) := by decide +kernel
theorem dX8_reckonPart_113 : decode cX8_reckonPart 113 = .ok (.iinc 13 1, 3) := by decide +kernel
theorem dX8_reckonPart_116 : decode cX8_reckonPart 116 = .ok (.goto (-59), 3) := by decide +kernel
theorem dX8_reckonPart_119 : decode cX8_reckonPart 119 = .ok (.iload_n 2, 1) := by decide +kernel
theorem dX8_reckonPart_120 : decode cX8_reckonPart 120 = .ok (.ifCond .ne 23, 3) := by decide +kernel
theorem dX8_reckonPart_123 : decode cX8_reckonPart 123 = .ok (.aload_n 0, 1) := by decide +kernel
theorem dX8_reckonPart_124 : decode cX8_reckonPart 124 = .ok (.getfield 21, 3) := by decide +kernel
theorem dX8_reckonPart_127 : decode cX8_reckonPart 127 = .ok (.lload 7, 2) := by decide +kernel
theorem dX8_reckonPart_129 : decode cX8_reckonPart 129 = .ok (.lload 5, 2) := by decide +kernel
theorem dX8_reckonPart_131 : decode cX8_reckonPart 131 = .ok (.lload_n 3, 1) := by decide +kernel
theorem dX8_reckonPart_132 : decode cX8_reckonPart 132 = .ok (.lmul, 1) := by decide +kernel
theorem dX8_reckonPart_133 : decode cX8_reckonPart 133 = .ok (.lload_n 3, 1) := by decide +kernel
theorem dX8_reckonPart_134 : decode cX8_reckonPart 134 = .ok (.lconst 1, 1) := by decide +kernel
theorem dX8_reckonPart_135 : decode cX8_reckonPart 135 = .ok (.lsub, 1) := by decide +kernel
theorem dX8_reckonPart_136 : decode cX8_reckonPart 136 = .ok (.lmul, 1) := by decide +kernel
theorem dX8_reckonPart_137 : decode cX8_reckonPart 137 = .ok (.invokevirtual 78, 3) := by decide +kernel
theorem dX8_reckonPart_140 : decode cX8_reckonPart 140 = .ok (.goto 56, 3) := by decide +kernel
theorem dX8_reckonPart_143 : decode cX8_reckonPart 143 = .ok (.lload 5, 2) := by decide +kernel
theorem dX8_reckonPart_145 : decode cX8_reckonPart 145 = .ok (.lload 11, 2) := by decide +kernel
theorem dX8_reckonPart_147 : decode cX8_reckonPart 147 = .ok (.lmul, 1) := by decide +kernel
theorem dX8_reckonPart_148 : decode cX8_reckonPart 148 = .ok (.lload 9, 2) := by decide +kernel
theorem dX8_reckonPart_150 : decode cX8_reckonPart 150 = .ok (.lload 9, 2) := by decide +kernel
theorem dX8_reckonPart_152 : decode cX8_reckonPart 152 = .ok (.lmul, 1) := by decide +kernel
theorem dX8_reckonPart_153 : decode cX8_reckonPart 153 = .ok (.lsub, 1) := by decide +kernel
theorem dX8_reckonPart_154 : decode cX8_reckonPart 154 = .ok (.lload_n 3, 1) := by decide +kernel
theorem dX8_reckonPart_155 : decode cX8_reckonPart 155 = .ok (.lconst 1, 1) := by decide +kernel
theorem dX8_reckonPart_156 : decode cX8_reckonPart 156 = .ok (.lsub, 1) := by decide +kernel
theorem dX8_reckonPart_157 : decode cX8_reckonPart 157 = .ok (.lmul, 1) := by decide +kernel
theorem dX8_reckonPart_158 : decode cX8_reckonPart 158 = .ok (.lload 7, 2) := by decide +kernel
theorem dX8_reckonPart_160 : decode cX8_reckonPart 160 = .ok (.lload 5, 2) := by decide +kernel
theorem dX8_reckonPart_162 : decode cX8_reckonPart 162 = .ok (.lconst 1, 1) := by decide +kernel
theorem dX8_reckonPart_163 : decode cX8_reckonPart 163 = .ok (.lsub, 1) := by decide +kernel
theorem dX8_reckonPart_164 : decode cX8_reckonPart 164 = .ok (.lmul, 1) := by decide +kernel
theorem dX8_reckonPart_165 : decode cX8_reckonPart 165 = .ok (.lsub, 1) := by decide +kernel
theorem dX8_reckonPart_166 : decode cX8_reckonPart 166 = .ok (.lstore 13, 2) := by decide +kernel
theorem dX8_reckonPart_168 : decode cX8_reckonPart 168 = .ok (.aload_n 0, 1) := by decide +kernel
theorem dX8_reckonPart_169 : decode cX8_reckonPart 169 = .ok (.getfield 21, 3) := by decide +kernel
theorem dX8_reckonPart_172 : decode cX8_reckonPart 172 = .ok (.lconst 0, 1) := by decide +kernel
theorem dX8_reckonPart_173 : decode cX8_reckonPart 173 = .ok (.lload 13, 2) := by decide +kernel
theorem dX8_reckonPart_175 : decode cX8_reckonPart 175 = .ok (.invokestatic 95, 3) := by decide +kernel
theorem dX8_reckonPart_178 : decode cX8_reckonPart 178 = .ok (.lload_n 3, 1) := by decide +kernel
theorem dX8_reckonPart_179 : decode cX8_reckonPart 179 = .ok (.lload_n 3, 1) := by decide +kernel
theorem dX8_reckonPart_180 : decode cX8_reckonPart 180 = .ok (.lmul, 1) := by decide +kernel
theorem dX8_reckonPart_181 : decode cX8_reckonPart 181 = .ok (.lload_n 3, 1) := by decide +kernel
theorem dX8_reckonPart_182 : decode cX8_reckonPart 182 = .ok (.lconst 1, 1) := by decide +kernel
theorem dX8_reckonPart_183 : decode cX8_reckonPart 183 = .ok (.lsub, 1) := by decide +kernel
theorem dX8_reckonPart_184 : decode cX8_reckonPart 184 = .ok (.lmul, 1) := by decide +kernel
theorem dX8_reckonPart_185 : decode cX8_reckonPart 185 = .ok (.lload 5, 2) := by decide +kernel
theorem dX8_reckonPart_187 : decode cX8_reckonPart 187 = .ok (.lmul, 1) := by decide +kernel
theorem dX8_reckonPart_188 : decode cX8_reckonPart 188 = .ok (.lload 5, 2) := by decide +kernel
theorem dX8_reckonPart_190 : decode cX8_reckonPart 190 = .ok (.lconst 1, 1) := by decide +kernel
theorem dX8_reckonPart_191 : decode cX8_reckonPart 191 = .ok (.lsub, 1) := by decide +kernel
theorem dX8_reckonPart_192 : decode cX8_reckonPart 192 = .ok (.lmul, 1) := by decide +kernel
theorem dX8_reckonPart_193 : decode cX8_reckonPart 193 = .ok (.invokevirtual 78, 3) := by decide +kernel
theorem dX8_reckonPart_196 : decode cX8_reckonPart 196 = .ok (.iconst 1, 1) := by decide +kernel
theorem dX8_reckonPart_197 : decode cX8_reckonPart 197 = .ok (.ireturn, 1) := by decide +kernel
def wX8_reckonPart_57 (post : Bool → Sto → Prop)  (K119 : Int32 → Int64 → Int64 → Int64 → Int64 → Int64 → Sto → Prop) : Nat → Int32 → Int64 → Int64 → Int64 → Int64 → Int64 → Int32 → Sto → Prop
  | 0, _, _, _, _, _, _, _, _ => False
  | n + 1, x2, x3, x5, x7, x9, x11, x13, σ => (((σ.1 1 2) ≤ x13) → (K119 x2 x3 x5 x7 x9 x11 σ)) ∧ ((¬ ((σ.1 1 2) ≤ x13)) → (wX8_spread  x13 x3 σ (fun (r75 : Int64) (s75 : Sto) => vp_in x13 14 ∧ (vp_in x13 14 ∧ (vp_in x13 14 ∧ (wX8_reckonPart_57 post  K119 n x2 x3 x5 (x7 + r75) (x9 + (s75.2 55 x13.toNatClampNeg)) (x11 + ((s75.2 55 x13.toNatClampNeg) * (s75.2 55 x13.toNatClampNeg))) (x13 + (1 : Int32)) s75))))))
set_option maxRecDepth 100000 in
set_option maxHeartbeats 4000000 in
theorem vX8_reckonPart_57 (E : Ev) (post : Bool → Sto → Prop)   (K119 : Int32 → Int64 → Int64 → Int64 → Int64 → Int64 → Sto → Prop) (HK119 : ∀ (x2 : Int32) (x3 : Int64) (x5 : Int64) (x7 : Int64) (x9 : Int64) (x11 : Int64) (σ : Sto), K119 x2 x3 x5 x7 x9 x11 σ → V E 3 mX8_reckonPart (pB post) 119 [(0, .ref 6), (2, .int x2), (3, .long x3), (5, .long x5), (7, .long x7), (9, .long x9), (11, .long x11)] [] σ) : ∀ (n : Nat) (x2 : Int32) (x3 : Int64) (x5 : Int64) (x7 : Int64) (x9 : Int64) (x11 : Int64) (x13 : Int32) (σ : Sto), wX8_reckonPart_57 post  K119 n x2 x3 x5 x7 x9 x11 x13 σ → V E 3 mX8_reckonPart (pB post) 57 [(0, .ref 6), (2, .int x2), (3, .long x3), (5, .long x5), (7, .long x7), (9, .long x9), (11, .long x11), (13, .int x13)] [] σ := by
  intro n
  induction n with
  | zero => intro x2 x3 x5 x7 x9 x11 x13 σ h; exact h.elim
  | succ n ih =>
    intro x2 x3 x5 x7 x9 x11 x13 σ h
    unfold wX8_reckonPart_57 at h
    refine V_iload (pc := 57) 7 dX8_reckonPart_57 rfl ?_
    refine V_aload_n (pc := 59) 0 dX8_reckonPart_59 rfl ?_
    refine V_getR (pc := 60) dX8_reckonPart_60 fl_X8_25 sh_6 rfl ?_
    refine V_getI (pc := 63) dX8_reckonPart_63 fl_X8_84 sh_1 rfl ?_
    refine V_icmp_ge (pc := 66) (tgt := 119) dX8_reckonPart_66 (by decide) (fun hc => ?_) (fun hc => ?_)
    · replace h := h.1 hc
      exact V_loc [0, 1, 2, 3, 4, 5, 6] rfl (HK119 x2 x3 x5 x7 x9 x11 σ  h)
    · replace h := h.2 hc
      refine V_lload (pc := 69) 4 dX8_reckonPart_69 rfl ?_
      refine V_aload_n (pc := 71) 0 dX8_reckonPart_71 rfl ?_
      refine V_iload (pc := 72) 7 dX8_reckonPart_72 rfl ?_
      refine V_lload_n (pc := 74) 2 dX8_reckonPart_74 rfl ?_
      refine V_callV (pc := 75) (M' := mX8_spread) dX8_reckonPart_75 ml_X8_74 kv_X8_spread ko_X8_spread sh_6 (by decide) (by decide) rfl rfl (Nat.le_of_ble_eq_true rfl) (Nat.le_of_ble_eq_true rfl) (vX8_spread E  x13 x3 σ _  h) (kL (fun r75 s75 h => ?_))
      refine V_ladd (pc := 78) dX8_reckonPart_78 ?_
      refine V_lstore (pc := 79) dX8_reckonPart_79 (by decide) ?_
      refine V_lload (pc := 81) 5 dX8_reckonPart_81 rfl ?_
      refine V_aload_n (pc := 83) 1 dX8_reckonPart_83 rfl ?_
      refine V_getR (pc := 84) dX8_reckonPart_84 fl_X8_9 sh_6 rfl ?_
      refine V_iload (pc := 87) 7 dX8_reckonPart_87 rfl ?_
      obtain ⟨i89, h⟩ := h
      refine V_lald (pc := 89) dX8_reckonPart_89 sh_55 i89 ?_
      refine V_ladd (pc := 90) dX8_reckonPart_90 ?_
      refine V_lstore (pc := 91) dX8_reckonPart_91 (by decide) ?_
      refine V_lload (pc := 93) 6 dX8_reckonPart_93 rfl ?_
      refine V_aload_n (pc := 95) 2 dX8_reckonPart_95 rfl ?_
      refine V_getR (pc := 96) dX8_reckonPart_96 fl_X8_9 sh_6 rfl ?_
      refine V_iload (pc := 99) 7 dX8_reckonPart_99 rfl ?_
      obtain ⟨i101, h⟩ := h
      refine V_lald (pc := 101) dX8_reckonPart_101 sh_55 i101 ?_
      refine V_aload_n (pc := 102) 2 dX8_reckonPart_102 rfl ?_
      refine V_getR (pc := 103) dX8_reckonPart_103 fl_X8_9 sh_6 rfl ?_
      refine V_iload (pc := 106) 7 dX8_reckonPart_106 rfl ?_
      obtain ⟨i108, h⟩ := h
      refine V_lald (pc := 108) dX8_reckonPart_108 sh_55 i108 ?_
      refine V_lmul (pc := 109) dX8_reckonPart_109 ?_
      refine V_ladd (pc := 110) dX8_reckonPart_110 ?_
      refine V_lstore (pc := 111) dX8_reckonPart_111 (by decide) ?_
      refine V_iinc (pc := 113) 7 (v := 1) dX8_reckonPart_113 rfl (by decide) (by decide) ?_
      refine V_goto (pc := 116) (tgt := 57) dX8_reckonPart_116 (by decide) ?_
      exact V_loc [4, 5, 6, 7, 3, 2, 1, 0] rfl (ih x2 x3 x5 (x7 + r75) (x9 + (s75.2 55 x13.toNatClampNeg)) (x11 + ((s75.2 55 x13.toNatClampNeg) * (s75.2 55 x13.toNatClampNeg))) (x13 + (1 : Int32)) s75  h)
def wX8_reckonPart  (x1 : Int32) (x2 : Int32) (σ : Sto) (post : Bool → Sto → Prop) : Prop := wX8_likeMany  x1 σ (fun (r2 : Int32) (s2 : Sto) => wX7_takingPart  x1 s2 (fun (r12 : Int32) (s12 : Sto) => wJ6_bitCount_0f7a4  r12 s12 (fun (r15 : Int32) (s15 : Sto) => ((r2.toInt64 < ((2 : Int64))) → (post false s15)) ∧ ((¬ (r2.toInt64 < ((2 : Int64)))) → (((((2 : Int64)) ≤ r15.toInt64) → (wX8_gather  x1 s15 (fun (s42 : Sto) => ∃ n57, wX8_reckonPart_57 post  (fun (x2_1 : Int32) (x3_1 : Int64) (x5_1 : Int64) (x7_1 : Int64) (x9_1 : Int64) (x11_1 : Int64) (σ_1 : Sto) => ((¬ x2_1 = 0) → (wJ9_max_f86c9  ((0 : Int64)) ((((x5_1 * x11_1) - (x9_1 * x9_1)) * (x3_1 - ((1 : Int64)))) - (x7_1 * (x5_1 - ((1 : Int64))))) σ_1 (fun (r175 : Int64) (s175 : Sto) => wX5_become 11 r175 ((((x3_1 * x3_1) * (x3_1 - ((1 : Int64)))) * x5_1) * (x5_1 - ((1 : Int64)))) s175 (fun (s193 : Sto) => post true s193)))) ∧ ((x2_1 = 0) → (wX5_become 11 x7_1 ((x5_1 * x3_1) * (x3_1 - ((1 : Int64)))) σ_1 (fun (s137 : Sto) => post true s137)))) n57 x2 r2.toInt64 r15.toInt64 ((0 : Int64)) ((0 : Int64)) ((0 : Int64)) ((0 : Int32)) s42))) ∧ ((¬ (((2 : Int64)) ≤ r15.toInt64)) → (post false s15)))))))
set_option maxRecDepth 100000 in
set_option maxHeartbeats 4000000 in
theorem vX8_reckonPart (E : Ev)  (x1 : Int32) (x2 : Int32) (σ : Sto) (post : Bool → Sto → Prop)  (h : wX8_reckonPart  x1 x2 σ post) : V E 3 mX8_reckonPart (pB post) 0 [(0, .ref 6), (1, .int x1), (2, .int x2)] [] σ := by
  unfold wX8_reckonPart at h
  refine V_aload_n (pc := 0) 0 dX8_reckonPart_0 rfl ?_
  refine V_iload_n (pc := 1) 1 dX8_reckonPart_1 rfl ?_
  refine V_callV (pc := 2) (M' := mX8_likeMany) dX8_reckonPart_2 ml_X8_103 kv_X8_likeMany ko_X8_likeMany sh_6 (by decide) (by decide) rfl rfl (Nat.le_of_ble_eq_true rfl) (Nat.le_of_ble_eq_true rfl) (vX8_likeMany E  x1 σ _  h) (kI (fun r2 s2 h => ?_))
  refine V_i2l (pc := 5) dX8_reckonPart_5 ?_
  refine V_lstore_n (pc := 6) dX8_reckonPart_6 (by decide) ?_
  refine V_aload_n (pc := 7) 1 dX8_reckonPart_7 rfl ?_
  refine V_getR (pc := 8) dX8_reckonPart_8 fl_X8_29 sh_6 rfl ?_
  refine V_iload_n (pc := 11) 2 dX8_reckonPart_11 rfl ?_
  refine V_callV (pc := 12) (M' := mX7_takingPart) dX8_reckonPart_12 ml_X8_106 kv_X7_takingPart ko_X7_takingPart sh_2 (by decide) (by decide) rfl rfl (Nat.le_of_ble_eq_true rfl) (Nat.le_of_ble_eq_true rfl) (vX7_takingPart E  x1 s2 _  h) (kI (fun r12 s12 h => ?_))
  refine V_callS (pc := 15) (M' := mJ6_bitCount_0f7a4) dX8_reckonPart_15 ml_X8_109 ks_J6_bitCount_0f7a4 ko_J6_bitCount_0f7a4 (by decide) rfl (Nat.le_of_ble_eq_true rfl) (Nat.le_of_ble_eq_true rfl) (vJ6_bitCount_0f7a4 E  r12 s12 _  h) (kI (fun r15 s15 h => ?_))
  refine V_i2l (pc := 18) dX8_reckonPart_18 ?_
  refine V_lstore (pc := 19) dX8_reckonPart_19 (by decide) ?_
  refine V_lload_n (pc := 21) 1 dX8_reckonPart_21 rfl ?_
  refine V_ldc2 (pc := 22) dX8_reckonPart_22 cl_X8_68 ?_
  refine V_lc_lt (pc := 25) (tgt := 38) dX8_reckonPart_25 dX8_reckonPart_26 (by decide) (fun hc => ?_) (fun hc => ?_)
  · replace h := h.1 hc
    refine V_iconst (pc := 38) (v := 0) dX8_reckonPart_38 (by decide) ?_
    exact V_zret false rfl dX8_reckonPart_39 rfl h
  · replace h := h.2 hc
    refine V_lload (pc := 29) 0 dX8_reckonPart_29 rfl ?_
    refine V_ldc2 (pc := 31) dX8_reckonPart_31 cl_X8_68 ?_
    refine V_lc_ge (pc := 34) (tgt := 40) dX8_reckonPart_34 dX8_reckonPart_35 (by decide) (fun hc => ?_) (fun hc => ?_)
    · replace h := h.1 hc
      refine V_aload_n (pc := 40) 2 dX8_reckonPart_40 rfl ?_
      refine V_iload_n (pc := 41) 3 dX8_reckonPart_41 rfl ?_
      refine V_callV (pc := 42) (M' := mX8_gather) dX8_reckonPart_42 ml_X8_70 kv_X8_gather ko_X8_gather sh_6 (by decide) (by decide) rfl rfl (Nat.le_of_ble_eq_true rfl) (Nat.le_of_ble_eq_true rfl) (vX8_gather E  x1 s15 _  h) (kV (fun s42 h => ?_))
      refine V_lconst (pc := 45) (v := 0) dX8_reckonPart_45 (by decide) ?_
      refine V_lstore (pc := 46) dX8_reckonPart_46 (by decide) ?_
      refine V_lconst (pc := 48) (v := 0) dX8_reckonPart_48 (by decide) ?_
      refine V_lstore (pc := 49) dX8_reckonPart_49 (by decide) ?_
      refine V_lconst (pc := 51) (v := 0) dX8_reckonPart_51 (by decide) ?_
      refine V_lstore (pc := 52) dX8_reckonPart_52 (by decide) ?_
      refine V_iconst (pc := 54) (v := 0) dX8_reckonPart_54 (by decide) ?_
      refine V_istore (pc := 55) dX8_reckonPart_55 (by decide) ?_
      obtain ⟨n57, h⟩ := h
      refine V_loc [6, 8, 5, 4, 3, 2, 1, 0] rfl (vX8_reckonPart_57 E post   _ (fun x2_1 x3_1 x5_1 x7_1 x9_1 x11_1 σ_1 h => ?_) n57 x2 r2.toInt64 r15.toInt64 ((0 : Int64)) ((0 : Int64)) ((0 : Int64)) ((0 : Int32)) s42  h)
      · refine V_iload_n (pc := 119) 1 dX8_reckonPart_119 rfl ?_
        refine V_if_ne (pc := 120) (tgt := 143) dX8_reckonPart_120 (by decide) (fun hc => ?_) (fun hc => ?_)
        · replace h := h.1 hc
          refine V_lload (pc := 143) 3 dX8_reckonPart_143 rfl ?_
          refine V_lload (pc := 145) 6 dX8_reckonPart_145 rfl ?_
          refine V_lmul (pc := 147) dX8_reckonPart_147 ?_
          refine V_lload (pc := 148) 5 dX8_reckonPart_148 rfl ?_
          refine V_lload (pc := 150) 5 dX8_reckonPart_150 rfl ?_
          refine V_lmul (pc := 152) dX8_reckonPart_152 ?_
          refine V_lsub (pc := 153) dX8_reckonPart_153 ?_
          refine V_lload_n (pc := 154) 2 dX8_reckonPart_154 rfl ?_
          refine V_lconst (pc := 155) (v := 1) dX8_reckonPart_155 (by decide) ?_
          refine V_lsub (pc := 156) dX8_reckonPart_156 ?_
          refine V_lmul (pc := 157) dX8_reckonPart_157 ?_
          refine V_lload (pc := 158) 4 dX8_reckonPart_158 rfl ?_
          refine V_lload (pc := 160) 3 dX8_reckonPart_160 rfl ?_
          refine V_lconst (pc := 162) (v := 1) dX8_reckonPart_162 (by decide) ?_
          refine V_lsub (pc := 163) dX8_reckonPart_163 ?_
          refine V_lmul (pc := 164) dX8_reckonPart_164 ?_
          refine V_lsub (pc := 165) dX8_reckonPart_165 ?_
          refine V_lstore (pc := 166) dX8_reckonPart_166 (by decide) ?_
          refine V_aload_n (pc := 168) 1 dX8_reckonPart_168 rfl ?_
          refine V_getR (pc := 169) dX8_reckonPart_169 fl_X8_21 sh_6 rfl ?_
          refine V_lconst (pc := 172) (v := 0) dX8_reckonPart_172 (by decide) ?_
          refine V_lload (pc := 173) 0 dX8_reckonPart_173 rfl ?_
          refine V_callS (pc := 175) (M' := mJ9_max_f86c9) dX8_reckonPart_175 ml_X8_95 ks_J9_max_f86c9 ko_J9_max_f86c9 (by decide) rfl (Nat.le_of_ble_eq_true rfl) (Nat.le_of_ble_eq_true rfl) (vJ9_max_f86c9 E  ((0 : Int64)) ((((x5_1 * x11_1) - (x9_1 * x9_1)) * (x3_1 - ((1 : Int64)))) - (x7_1 * (x5_1 - ((1 : Int64))))) σ_1 _  h) (kL (fun r175 s175 h => ?_))
          refine V_lload_n (pc := 178) 3 dX8_reckonPart_178 rfl ?_
          refine V_lload_n (pc := 179) 3 dX8_reckonPart_179 rfl ?_
          refine V_lmul (pc := 180) dX8_reckonPart_180 ?_
          refine V_lload_n (pc := 181) 3 dX8_reckonPart_181 rfl ?_
          refine V_lconst (pc := 182) (v := 1) dX8_reckonPart_182 (by decide) ?_
          refine V_lsub (pc := 183) dX8_reckonPart_183 ?_
          refine V_lmul (pc := 184) dX8_reckonPart_184 ?_
          refine V_lload (pc := 185) 4 dX8_reckonPart_185 rfl ?_
          refine V_lmul (pc := 187) dX8_reckonPart_187 ?_
          refine V_lload (pc := 188) 4 dX8_reckonPart_188 rfl ?_
          refine V_lconst (pc := 190) (v := 1) dX8_reckonPart_190 (by decide) ?_
          refine V_lsub (pc := 191) dX8_reckonPart_191 ?_
          refine V_lmul (pc := 192) dX8_reckonPart_192 ?_
          refine V_callV (pc := 193) (M' := mX5_become) dX8_reckonPart_193 ml_X8_78 kv_X5_become ko_X5_become sh_11 (by decide) (by decide) rfl rfl (Nat.le_of_ble_eq_true rfl) (Nat.le_of_ble_eq_true rfl) (vX5_become E 11 r175 ((((x3_1 * x3_1) * (x3_1 - ((1 : Int64)))) * x5_1) * (x5_1 - ((1 : Int64)))) s175 _ sh_11 h) (kV (fun s193 h => ?_))
          refine V_iconst (pc := 196) (v := 1) dX8_reckonPart_196 (by decide) ?_
          exact V_zret true rfl dX8_reckonPart_197 rfl h
        · replace h := h.2 hc
          refine V_aload_n (pc := 123) 0 dX8_reckonPart_123 rfl ?_
          refine V_getR (pc := 124) dX8_reckonPart_124 fl_X8_21 sh_6 rfl ?_
          refine V_lload (pc := 127) 4 dX8_reckonPart_127 rfl ?_
          refine V_lload (pc := 129) 3 dX8_reckonPart_129 rfl ?_
          refine V_lload_n (pc := 131) 2 dX8_reckonPart_131 rfl ?_
          refine V_lmul (pc := 132) dX8_reckonPart_132 ?_
          refine V_lload_n (pc := 133) 2 dX8_reckonPart_133 rfl ?_
          refine V_lconst (pc := 134) (v := 1) dX8_reckonPart_134 (by decide) ?_
          refine V_lsub (pc := 135) dX8_reckonPart_135 ?_
          refine V_lmul (pc := 136) dX8_reckonPart_136 ?_
          refine V_callV (pc := 137) (M' := mX5_become) dX8_reckonPart_137 ml_X8_78 kv_X5_become ko_X5_become sh_11 (by decide) (by decide) rfl rfl (Nat.le_of_ble_eq_true rfl) (Nat.le_of_ble_eq_true rfl) (vX5_become E 11 x7_1 ((x5_1 * x3_1) * (x3_1 - ((1 : Int64)))) σ_1 _ sh_11 h) (kV (fun s137 h => ?_))
          refine V_goto (pc := 140) (tgt := 196) dX8_reckonPart_140 (by decide) ?_
          refine V_iconst (pc := 196) (v := 1) dX8_reckonPart_196 (by decide) ?_
          exact V_zret true rfl dX8_reckonPart_197 rfl h
    · replace h := h.2 hc
      refine V_iconst (pc := 38) (v := 0) dX8_reckonPart_38 (by decide) ?_
      exact V_zret false rfl dX8_reckonPart_39 rfl h

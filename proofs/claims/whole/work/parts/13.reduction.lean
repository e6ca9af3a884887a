theorem dX7_takesPart_0 : decode cX7_takesPart 0 = .ok (.aload_n 0, 1) := by decide +kernel
theorem dX7_takesPart_1 : decode cX7_takesPart 1 = .ok (.getfield 33, 3) := by decide +kernel
theorem dX7_takesPart_4 : decode cX7_takesPart 4 = .ok (.iload_n 2, 1) := by decide +kernel
theorem dX7_takesPart_5 : decode cX7_takesPart 5 = .ok (.aaload, 1) := by decide +kernel
theorem dX7_takesPart_6 : decode cX7_takesPart 6 = .ok (.iload_n 1, 1) := by decide +kernel
theorem dX7_takesPart_7 : decode cX7_takesPart 7 = .ok (.iaload, 1) := by decide +kernel
theorem dX7_takesPart_8 : decode cX7_takesPart 8 = .ok (.ifCond .le 7, 3) := by decide +kernel
theorem dX7_takesPart_11 : decode cX7_takesPart 11 = .ok (.iconst 1, 1) := by decide +kernel
theorem dX7_takesPart_12 : decode cX7_takesPart 12 = .ok (.goto 4, 3) := by decide +kernel
theorem dX7_takesPart_15 : decode cX7_takesPart 15 = .ok (.iconst 0, 1) := by decide +kernel
theorem dX7_takesPart_16 : decode cX7_takesPart 16 = .ok (.ireturn, 1) := by decide +kernel
def wX7_takesPart  (x1 : Int32) (x2 : Int32) (σ : Sto) (post : Bool → Sto → Prop) : Prop := vp_in x2 4 ∧ (vp_in x1 14 ∧ ((((σ.1 (40 + x2.toNatClampNeg) x1.toNatClampNeg) ≤ 0) → (post false σ)) ∧ ((¬ ((σ.1 (40 + x2.toNatClampNeg) x1.toNatClampNeg) ≤ 0)) → (post true σ))))
set_option maxRecDepth 100000 in
set_option maxHeartbeats 4000000 in
theorem vX7_takesPart (E : Ev)  (x1 : Int32) (x2 : Int32) (σ : Sto) (post : Bool → Sto → Prop)  (h : wX7_takesPart  x1 x2 σ post) : V E 0 mX7_takesPart (pB post) 0 [(0, .ref 2), (1, .int x1), (2, .int x2)] [] σ := by
  unfold wX7_takesPart at h
  refine V_aload_n (pc := 0) 0 dX7_takesPart_0 rfl ?_
  refine V_getR (pc := 1) dX7_takesPart_1 fl_X7_33 sh_2 rfl ?_
  refine V_iload_n (pc := 4) 2 dX7_takesPart_4 rfl ?_
  obtain ⟨i5, h⟩ := h
  refine V_aald (pc := 5) dX7_takesPart_5 sh_39 i5 ?_
  refine V_iload_n (pc := 6) 1 dX7_takesPart_6 rfl ?_
  obtain ⟨i7, h⟩ := h
  refine V_iald (pc := 7) dX7_takesPart_7 (sr_40 (vp_lt i5)) i7 ?_
  refine V_if_le (pc := 8) (tgt := 15) dX7_takesPart_8 (by decide) (fun hc => ?_) (fun hc => ?_)
  · replace h := h.1 hc
    refine V_iconst (pc := 15) (v := 0) dX7_takesPart_15 (by decide) ?_
    exact V_zret false rfl dX7_takesPart_16 rfl h
  · replace h := h.2 hc
    refine V_iconst (pc := 11) (v := 1) dX7_takesPart_11 (by decide) ?_
    refine V_goto (pc := 12) (tgt := 16) dX7_takesPart_12 (by decide) ?_
    exact V_zret true rfl dX7_takesPart_16 rfl h
theorem dX7_takingPart_0 : decode cX7_takingPart 0 = .ok (.iconst 0, 1) := by decide +kernel
theorem dX7_takingPart_1 : decode cX7_takingPart 1 = .ok (.istore_n 2, 1) := by decide +kernel
theorem dX7_takingPart_2 : decode cX7_takingPart 2 = .ok (.iconst 0, 1) := by decide +kernel
theorem dX7_takingPart_3 : decode cX7_takingPart 3 = .ok (.istore_n 3, 1) := by decide +kernel
theorem dX7_takingPart_4 : decode cX7_takingPart 4 = .ok (.iload_n 3, 1) := by decide +kernel
theorem dX7_takingPart_5 : decode cX7_takingPart 5 = .ok (.aload_n 0, 1) := by decide +kernel
theorem dX7_takingPart_6 : decode cX7_takingPart 6 = .ok (.getfield 39, 3) := by decide +kernel
theorem dX7_takingPart_9 : decode cX7_takingPart 9 = .ok (.getfield 43, 3) := by decide +kernel
theorem dX7_takingPart_12 : decode cX7_takingPart 12 = .ok (.if_icmp .ge 24, 3) := by decide +kernel
theorem dX7_takingPart_15 : decode cX7_takingPart 15 = .ok (.aload_n 0, 1) := by decide +kernel
theorem dX7_takingPart_16 : decode cX7_takingPart 16 = .ok (.iload_n 3, 1) := by decide +kernel
theorem dX7_takingPart_17 : decode cX7_takingPart 17 = .ok (.iload_n 1, 1) := by decide +kernel
theorem dX7_takingPart_18 : decode cX7_takingPart 18 = .ok (.invokevirtual 49, 3) := by decide +kernel
theorem dX7_takingPart_21 : decode cX7_takingPart 21 = .ok (.ifCond .eq 9, 3) := by decide +kernel
theorem dX7_takingPart_24 : decode cX7_takingPart 24 = .ok (.iload_n 2, 1) := by decide +kernel
theorem dX7_takingPart_25 : decode cX7_takingPart 25 = .ok (.iconst 1, 1) := by decide +kernel
theorem dX7_takingPart_26 : decode cX7_takingPart 26 = .ok (.iload_n 3, 1) := by decide +kernel
theorem dX7_takingPart_27 : decode cX7_takingPart 27 = .ok (.ishl, 1) := by decide +kernel
theorem dX7_takingPart_28 : decode cX7_takingPart 28 = .ok (.ior, 1) := by decide +kernel
theorem dX7_takingPart_29 : decode cX7_takingPart 29 = .ok (.istore_n 2, 1) := by decide +kernel
theorem dX7_takingPart_30 : decode cX7_takingPart 30 = .ok (.iinc 3 1, 3) := by decide +kernel
theorem dX7_takingPart_33 : decode cX7_takingPart 33 = .ok (.goto (-29), 3) := by decide +kernel
theorem dX7_takingPart_36 : decode cX7_takingPart 36 = .ok (.iload_n 2, 1) := by decide +kernel
theorem dX7_takingPart_37 : decode cX7_takingPart 37 = .ok (.ireturn, 1) := by decide +kernel
def wX7_takingPart_4 (post : Int32 → Sto → Prop)  (K36 : Int32 → Sto → Prop) : Nat → Int32 → Int32 → Int32 → Sto → Prop
  | 0, _, _, _, _ => False
  | n + 1, x1, x2, x3, σ => (((σ.1 1 2) ≤ x3) → (K36 x2 σ)) ∧ ((¬ ((σ.1 1 2) ≤ x3)) → (wX7_takesPart  x3 x1 σ (fun (r18 : Bool) (s18 : Sto) => ((r18 = false) → (wX7_takingPart_4 post  K36 n x1 x2 (x3 + (1 : Int32)) s18)) ∧ ((r18 = true) → (wX7_takingPart_4 post  K36 n x1 (x2 ||| (((1 : Int32)) <<< (x3 &&& 31))) (x3 + (1 : Int32)) s18)))))
set_option maxRecDepth 100000 in
set_option maxHeartbeats 4000000 in
theorem vX7_takingPart_4 (E : Ev) (post : Int32 → Sto → Prop)   (K36 : Int32 → Sto → Prop) (HK36 : ∀ (x2 : Int32) (σ : Sto), K36 x2 σ → V E 1 mX7_takingPart (pI post) 36 [(2, .int x2)] [] σ) : ∀ (n : Nat) (x1 : Int32) (x2 : Int32) (x3 : Int32) (σ : Sto), wX7_takingPart_4 post  K36 n x1 x2 x3 σ → V E 1 mX7_takingPart (pI post) 4 [(0, .ref 2), (1, .int x1), (2, .int x2), (3, .int x3)] [] σ := by
  intro n
  induction n with
  | zero => intro x1 x2 x3 σ h; exact h.elim
  | succ n ih =>
    intro x1 x2 x3 σ h
    unfold wX7_takingPart_4 at h
    refine V_iload_n (pc := 4) 3 dX7_takingPart_4 rfl ?_
    refine V_aload_n (pc := 5) 0 dX7_takingPart_5 rfl ?_
    refine V_getR (pc := 6) dX7_takingPart_6 fl_X7_39 sh_2 rfl ?_
    refine V_getI (pc := 9) dX7_takingPart_9 fl_X7_43 sh_1 rfl ?_
    refine V_icmp_ge (pc := 12) (tgt := 36) dX7_takingPart_12 (by decide) (fun hc => ?_) (fun hc => ?_)
    · replace h := h.1 hc
      exact V_loc [2] rfl (HK36 x2 σ  h)
    · replace h := h.2 hc
      refine V_aload_n (pc := 15) 0 dX7_takingPart_15 rfl ?_
      refine V_iload_n (pc := 16) 3 dX7_takingPart_16 rfl ?_
      refine V_iload_n (pc := 17) 1 dX7_takingPart_17 rfl ?_
      refine V_callV (pc := 18) (M' := mX7_takesPart) dX7_takingPart_18 ml_X7_49 kv_X7_takesPart ko_X7_takesPart sh_2 (by decide) (by decide) rfl rfl (Nat.le_of_ble_eq_true rfl) (Nat.le_of_ble_eq_true rfl) (vX7_takesPart E  x3 x1 σ _  h) (kB (fun r18 s18 h => ?_))
      refine V_ifz (pc := 21) (tgt := 30) dX7_takingPart_21 (by decide) (fun hc => ?_) (fun hc => ?_)
      · replace h := h.1 hc
        refine V_iinc (pc := 30) 3 (v := 1) dX7_takingPart_30 rfl (by decide) (by decide) ?_
        refine V_goto (pc := 33) (tgt := 4) dX7_takingPart_33 (by decide) ?_
        exact V_loc [1, 2, 3, 0] rfl (ih x1 x2 (x3 + (1 : Int32)) s18  h)
      · replace h := h.2 hc
        refine V_iload_n (pc := 24) 2 dX7_takingPart_24 rfl ?_
        refine V_iconst (pc := 25) (v := 1) dX7_takingPart_25 (by decide) ?_
        refine V_iload_n (pc := 26) 3 dX7_takingPart_26 rfl ?_
        refine V_ishl (pc := 27) dX7_takingPart_27 ?_
        refine V_ior (pc := 28) dX7_takingPart_28 ?_
        refine V_istore_n (pc := 29) dX7_takingPart_29 (by decide) ?_
        refine V_iinc (pc := 30) 3 (v := 1) dX7_takingPart_30 rfl (by decide) (by decide) ?_
        refine V_goto (pc := 33) (tgt := 4) dX7_takingPart_33 (by decide) ?_
        exact V_loc [2, 3, 1, 0] rfl (ih x1 (x2 ||| (((1 : Int32)) <<< (x3 &&& 31))) (x3 + (1 : Int32)) s18  h)
def wX7_takingPart  (x1 : Int32) (σ : Sto) (post : Int32 → Sto → Prop) : Prop := ∃ n4, wX7_takingPart_4 post  (fun (x2_1 : Int32) (σ_1 : Sto) => post x2_1 σ_1) n4 x1 ((0 : Int32)) ((0 : Int32)) σ
set_option maxRecDepth 100000 in
set_option maxHeartbeats 4000000 in
theorem vX7_takingPart (E : Ev)  (x1 : Int32) (σ : Sto) (post : Int32 → Sto → Prop)  (h : wX7_takingPart  x1 σ post) : V E 1 mX7_takingPart (pI post) 0 [(0, .ref 2), (1, .int x1)] [] σ := by
  unfold wX7_takingPart at h
  refine V_iconst (pc := 0) (v := 0) dX7_takingPart_0 (by decide) ?_
  refine V_istore_n (pc := 1) dX7_takingPart_1 (by decide) ?_
  refine V_iconst (pc := 2) (v := 0) dX7_takingPart_2 (by decide) ?_
  refine V_istore_n (pc := 3) dX7_takingPart_3 (by decide) ?_
  obtain ⟨n4, h⟩ := h
  refine V_loc [2, 3, 1, 0] rfl (vX7_takingPart_4 E post   _ (fun x2_1 σ_1 h => ?_) n4 x1 ((0 : Int32)) ((0 : Int32)) σ  h)
  · refine V_iload_n (pc := 36) 0 dX7_takingPart_36 rfl ?_
    exact V_iret dX7_takingPart_37 rfl h
theorem dX7_openPoint_0 : decode cX7_openPoint 0 = .ok (.aload_n 0, 1) := by decide +kernel
theorem dX7_openPoint_1 : decode cX7_openPoint 1 = .ok (.getfield 9, 3) := by decide +kernel
theorem dX7_openPoint_4 : decode cX7_openPoint 4 = .ok (.iload_n 1, 1) := by decide +kernel
theorem dX7_openPoint_5 : decode cX7_openPoint 5 = .ok (.iaload, 1) := by decide +kernel
theorem dX7_openPoint_6 : decode cX7_openPoint 6 = .ok (.istore 4, 2) := by decide +kernel
theorem dX7_openPoint_8 : decode cX7_openPoint 8 = .ok (.iload 4, 2) := by decide +kernel
theorem dX7_openPoint_10 : decode cX7_openPoint 10 = .ok (.iload_n 2, 1) := by decide +kernel
theorem dX7_openPoint_11 : decode cX7_openPoint 11 = .ok (.if_icmp .le 69, 3) := by decide +kernel
theorem dX7_openPoint_14 : decode cX7_openPoint 14 = .ok (.aload_n 0, 1) := by decide +kernel
theorem dX7_openPoint_15 : decode cX7_openPoint 15 = .ok (.getfield 17, 3) := by decide +kernel
theorem dX7_openPoint_18 : decode cX7_openPoint 18 = .ok (.iload_n 1, 1) := by decide +kernel
theorem dX7_openPoint_19 : decode cX7_openPoint 19 = .ok (.aaload, 1) := by decide +kernel
theorem dX7_openPoint_20 : decode cX7_openPoint 20 = .ok (.iload 4, 2) := by decide +kernel
theorem dX7_openPoint_22 : decode cX7_openPoint 22 = .ok (.aload_n 0, 1) := by decide +kernel
theorem dX7_openPoint_23 : decode cX7_openPoint 23 = .ok (.getfield 17, 3) := by decide +kernel
theorem dX7_openPoint_26 : decode cX7_openPoint 26 = .ok (.iload_n 1, 1) := by decide +kernel
theorem dX7_openPoint_27 : decode cX7_openPoint 27 = .ok (.aaload, 1) := by decide +kernel
theorem dX7_openPoint_28 : decode cX7_openPoint 28 = .ok (.iload 4, 2) := by decide +kernel
theorem dX7_openPoint_30 : decode cX7_openPoint 30 = .ok (.iconst 1, 1) := by decide +kernel
theorem dX7_openPoint_31 : decode cX7_openPoint 31 = .ok (.isub, 1) := by decide +kernel
theorem dX7_openPoint_32 : decode cX7_openPoint 32 = .ok (.iaload, 1) := by decide +kernel
theorem dX7_openPoint_33 : decode cX7_openPoint 33 = .ok (.iastore, 1) := by decide +kernel
theorem dX7_openPoint_34 : decode cX7_openPoint 34 = .ok (.aload_n 0, 1) := by decide +kernel
theorem dX7_openPoint_35 : decode cX7_openPoint 35 = .ok (.getfield 20, 3) := by decide +kernel
theorem dX7_openPoint_38 : decode cX7_openPoint 38 = .ok (.iload_n 1, 1) := by decide +kernel
theorem dX7_openPoint_39 : decode cX7_openPoint 39 = .ok (.aaload, 1) := by decide +kernel
theorem dX7_openPoint_40 : decode cX7_openPoint 40 = .ok (.iload 4, 2) := by decide +kernel
theorem dX7_openPoint_42 : decode cX7_openPoint 42 = .ok (.aload_n 0, 1) := by decide +kernel
theorem dX7_openPoint_43 : decode cX7_openPoint 43 = .ok (.getfield 20, 3) := by decide +kernel
theorem dX7_openPoint_46 : decode cX7_openPoint 46 = .ok (.iload_n 1, 1) := by decide +kernel
theorem dX7_openPoint_47 : decode cX7_openPoint 47 = .ok (.aaload, 1) := by decide +kernel
theorem dX7_openPoint_48 : decode cX7_openPoint 48 = .ok (.iload 4, 2) := by decide +kernel
theorem dX7_openPoint_50 : decode cX7_openPoint 50 = .ok (.iconst 1, 1) := by decide +kernel
theorem dX7_openPoint_51 : decode cX7_openPoint 51 = .ok (.isub, 1) := by decide +kernel
theorem dX7_openPoint_52 : decode cX7_openPoint 52 = .ok (.iaload, 1) := by decide +kernel
theorem dX7_openPoint_53 : decode cX7_openPoint 53 = .ok (.iastore, 1) := by decide +kernel
theorem dX7_openPoint_54 : decode cX7_openPoint 54 = .ok (.aload_n 0, 1) := by decide +kernel
theorem dX7_openPoint_55 : decode cX7_openPoint 55 = .ok (.getfield 23, 3) := by decide +kernel
theorem dX7_openPoint_58 : decode cX7_openPoint 58 = .ok (.iload_n 1, 1) := by decide +kernel
theorem dX7_openPoint_59 : decode cX7_openPoint 59 = .ok (.aaload, 1) := by decide +kernel
theorem dX7_openPoint_60 : decode cX7_openPoint 60 = .ok (.iload 4, 2) := by decide +kernel
theorem dX7_openPoint_62 : decode cX7_openPoint 62 = .ok (.aload_n 0, 1) := by decide +kernel
theorem dX7_openPoint_63 : decode cX7_openPoint 63 = .ok (.getfield 23, 3) := by decide +kernel
theorem dX7_openPoint_66 : decode cX7_openPoint 66 = .ok (.iload_n 1, 1) := by decide +kernel
theorem dX7_openPoint_67 : decode cX7_openPoint 67 = .ok (.aaload, 1) := by decide +kernel
theorem dX7_openPoint_68 : decode cX7_openPoint 68 = .ok (.iload 4, 2) := by decide +kernel
theorem dX7_openPoint_70 : decode cX7_openPoint 70 = .ok (.iconst 1, 1) := by decide +kernel
theorem dX7_openPoint_71 : decode cX7_openPoint 71 = .ok (.isub, 1) := by decide +kernel
theorem dX7_openPoint_72 : decode cX7_openPoint 72 = .ok (.iaload, 1) := by decide +kernel
theorem dX7_openPoint_73 : decode cX7_openPoint 73 = .ok (.iastore, 1) := by decide +kernel
theorem dX7_openPoint_74 : decode cX7_openPoint 74 = .ok (.iinc 4 (-1), 3) := by decide +kernel
theorem dX7_openPoint_77 : decode cX7_openPoint 77 = .ok (.goto (-69), 3) := by decide +kernel
theorem dX7_openPoint_80 : decode cX7_openPoint 80 = .ok (.aload_n 0, 1) := by decide +kernel
theorem dX7_openPoint_81 : decode cX7_openPoint 81 = .ok (.getfield 17, 3) := by decide +kernel
theorem dX7_openPoint_84 : decode cX7_openPoint 84 = .ok (.iload_n 1, 1) := by decide +kernel
theorem dX7_openPoint_85 : decode cX7_openPoint 85 = .ok (.aaload, 1) := by decide +kernel
theorem dX7_openPoint_86 : decode cX7_openPoint 86 = .ok (.iload_n 2, 1) := by decide +kernel
theorem dX7_openPoint_87 : decode cX7_openPoint 87 = .ok (.iload_n 3, 1) := by decide +kernel
theorem dX7_openPoint_88 : decode cX7_openPoint 88 = .ok (.iastore, 1) := by decide +kernel
theorem dX7_openPoint_89 : decode cX7_openPoint 89 = .ok (.aload_n 0, 1) := by decide +kernel
theorem dX7_openPoint_90 : decode cX7_openPoint 90 = .ok (.getfield 20, 3) := by decide +kernel
theorem dX7_openPoint_93 : decode cX7_openPoint 93 = .ok (.iload_n 1, 1) := by decide +kernel
theorem dX7_openPoint_94 : decode cX7_openPoint 94 = .ok (.aaload, 1) := by decide +kernel
theorem dX7_openPoint_95 : decode cX7_openPoint 95 = .ok (.iload_n 2, 1) := by decide +kernel
theorem dX7_openPoint_96 : decode cX7_openPoint 96 = .ok (.iconst 0, 1) := by decide +kernel
theorem dX7_openPoint_97 : decode cX7_openPoint 97 = .ok (.iastore, 1) := by decide +kernel
theorem dX7_openPoint_98 : decode cX7_openPoint 98 = .ok (.aload_n 0, 1) := by decide +kernel
theorem dX7_openPoint_99 : decode cX7_openPoint 99 = .ok (.getfield 23, 3) := by decide +kernel
theorem dX7_openPoint_102 : decode cX7_openPoint 102 = .ok (.iload_n 1, 1) := by decide +kernel
theorem dX7_openPoint_103 : decode cX7_openPoint 103 = .ok (.aaload, 1) := by decide +kernel
theorem dX7_openPoint_104 : decode cX7_openPoint 104 = .ok (.iload_n 2, 1) := by decide +kernel
theorem dX7_openPoint_105 : decode cX7_openPoint 105 = .ok (.iconst 0, 1) := by decide +kernel
theorem dX7_openPoint_106 : decode cX7_openPoint 106 = .ok (.iastore, 1) := by decide +kernel
theorem dX7_openPoint_107 : decode cX7_openPoint 107 = .ok (.aload_n 0, 1) := by decide +kernel
theorem dX7_openPoint_108 : decode cX7_openPoint 108 = .ok (.getfield 9, 3) := by decide +kernel
theorem dX7_openPoint_111 : decode cX7_openPoint 111 = .ok (.iload_n 1, 1) := by decide +kernel
theorem dX7_openPoint_112 : decode cX7_openPoint 112 = .ok (.dup2, 1) := by decide +kernel
theorem dX7_openPoint_113 : decode cX7_openPoint 113 = .ok (.iaload, 1) := by decide +kernel
theorem dX7_openPoint_114 : decode cX7_openPoint 114 = .ok (.iconst 1, 1) := by decide +kernel
theorem dX7_openPoint_115 : decode cX7_openPoint 115 = .ok (.iadd, 1) := by decide +kernel
theorem dX7_openPoint_116 : decode cX7_openPoint 116 = .ok (.iastore, 1) := by decide +kernel
theorem dX7_openPoint_117 : decode cX7_openPoint 117 = .ok (.return_, 1) := by decide +kernel
def wX7_openPoint_8 (post : Sto → Prop)  (K80 : Int32 → Int32 → Int32 → Sto → Prop) : Nat → Int32 → Int32 → Int32 → Int32 → Sto → Prop
  | 0, _, _, _, _, _ => False
  | n + 1, x1, x2, x3, x4, σ => ((x4 ≤ x2) → (K80 x1 x2 x3 σ)) ∧ ((¬ (x4 ≤ x2)) → (vp_in x1 4 ∧ (vp_in x1 4 ∧ (vp_in (x4 - ((1 : Int32))) 8 ∧ (vp_in x4 8 ∧ (vp_in x1 4 ∧ (vp_in x1 4 ∧ (vp_in (x4 - ((1 : Int32))) 8 ∧ (vp_in x4 8 ∧ (vp_in x1 4 ∧ (vp_in x1 4 ∧ (vp_in (x4 - ((1 : Int32))) 8 ∧ (vp_in x4 8 ∧ (wX7_openPoint_8 post  K80 n x1 x2 x3 (x4 + (-1 : Int32)) (wI (wI (wI σ (23 + x1.toNatClampNeg) x4.toNatClampNeg (σ.1 (23 + x1.toNatClampNeg) (x4 - ((1 : Int32))).toNatClampNeg)) (28 + x1.toNatClampNeg) x4.toNatClampNeg ((wI σ (23 + x1.toNatClampNeg) x4.toNatClampNeg (σ.1 (23 + x1.toNatClampNeg) (x4 - ((1 : Int32))).toNatClampNeg)).1 (28 + x1.toNatClampNeg) (x4 - ((1 : Int32))).toNatClampNeg)) (33 + x1.toNatClampNeg) x4.toNatClampNeg ((wI (wI σ (23 + x1.toNatClampNeg) x4.toNatClampNeg (σ.1 (23 + x1.toNatClampNeg) (x4 - ((1 : Int32))).toNatClampNeg)) (28 + x1.toNatClampNeg) x4.toNatClampNeg ((wI σ (23 + x1.toNatClampNeg) x4.toNatClampNeg (σ.1 (23 + x1.toNatClampNeg) (x4 - ((1 : Int32))).toNatClampNeg)).1 (28 + x1.toNatClampNeg) (x4 - ((1 : Int32))).toNatClampNeg)).1 (33 + x1.toNatClampNeg) (x4 - ((1 : Int32))).toNatClampNeg))))))))))))))))
set_option maxRecDepth 100000 in
set_option maxHeartbeats 4000000 in
theorem vX7_openPoint_8 (E : Ev) (post : Sto → Prop)   (K80 : Int32 → Int32 → Int32 → Sto → Prop) (HK80 : ∀ (x1 : Int32) (x2 : Int32) (x3 : Int32) (σ : Sto), K80 x1 x2 x3 σ → V E 0 mX7_openPoint (pV post) 80 [(0, .ref 2), (1, .int x1), (2, .int x2), (3, .int x3)] [] σ) : ∀ (n : Nat) (x1 : Int32) (x2 : Int32) (x3 : Int32) (x4 : Int32) (σ : Sto), wX7_openPoint_8 post  K80 n x1 x2 x3 x4 σ → V E 0 mX7_openPoint (pV post) 8 [(0, .ref 2), (1, .int x1), (2, .int x2), (3, .int x3), (4, .int x4)] [] σ := by
  intro n
  induction n with
  | zero => intro x1 x2 x3 x4 σ h; exact h.elim
  | succ n ih =>
    intro x1 x2 x3 x4 σ h
    unfold wX7_openPoint_8 at h
    refine V_iload (pc := 8) 4 dX7_openPoint_8 rfl ?_
    refine V_iload_n (pc := 10) 2 dX7_openPoint_10 rfl ?_
    refine V_icmp_le (pc := 11) (tgt := 80) dX7_openPoint_11 (by decide) (fun hc => ?_) (fun hc => ?_)
    · replace h := h.1 hc
      exact V_loc [0, 1, 2, 3] rfl (HK80 x1 x2 x3 σ  h)
    · replace h := h.2 hc
      refine V_aload_n (pc := 14) 0 dX7_openPoint_14 rfl ?_
      refine V_getR (pc := 15) dX7_openPoint_15 fl_X7_17 sh_2 rfl ?_
      refine V_iload_n (pc := 18) 1 dX7_openPoint_18 rfl ?_
      obtain ⟨i19, h⟩ := h
      refine V_aald (pc := 19) dX7_openPoint_19 sh_22 i19 ?_
      refine V_iload (pc := 20) 4 dX7_openPoint_20 rfl ?_
      refine V_aload_n (pc := 22) 0 dX7_openPoint_22 rfl ?_
      refine V_getR (pc := 23) dX7_openPoint_23 fl_X7_17 sh_2 rfl ?_
      refine V_iload_n (pc := 26) 1 dX7_openPoint_26 rfl ?_
      obtain ⟨i27, h⟩ := h
      refine V_aald (pc := 27) dX7_openPoint_27 sh_22 i27 ?_
      refine V_iload (pc := 28) 4 dX7_openPoint_28 rfl ?_
      refine V_iconst (pc := 30) (v := 1) dX7_openPoint_30 (by decide) ?_
      refine V_isub (pc := 31) dX7_openPoint_31 ?_
      obtain ⟨i32, h⟩ := h
      refine V_iald (pc := 32) dX7_openPoint_32 (sr_23 (vp_lt i27)) i32 ?_
      obtain ⟨i33, h⟩ := h
      refine V_iast (pc := 33) dX7_openPoint_33 (sr_23 (vp_lt i19)) i33 ?_
      refine V_aload_n (pc := 34) 0 dX7_openPoint_34 rfl ?_
      refine V_getR (pc := 35) dX7_openPoint_35 fl_X7_20 sh_2 rfl ?_
      refine V_iload_n (pc := 38) 1 dX7_openPoint_38 rfl ?_
      obtain ⟨i39, h⟩ := h
      refine V_aald (pc := 39) dX7_openPoint_39 sh_27 i39 ?_
      refine V_iload (pc := 40) 4 dX7_openPoint_40 rfl ?_
      refine V_aload_n (pc := 42) 0 dX7_openPoint_42 rfl ?_
      refine V_getR (pc := 43) dX7_openPoint_43 fl_X7_20 sh_2 rfl ?_
      refine V_iload_n (pc := 46) 1 dX7_openPoint_46 rfl ?_
      obtain ⟨i47, h⟩ := h
      refine V_aald (pc := 47) dX7_openPoint_47 sh_27 i47 ?_
      refine V_iload (pc := 48) 4 dX7_openPoint_48 rfl ?_
      refine V_iconst (pc := 50) (v := 1) dX7_openPoint_50 (by decide) ?_
      refine V_isub (pc := 51) dX7_openPoint_51 ?_
      obtain ⟨i52, h⟩ := h
      refine V_iald (pc := 52) dX7_openPoint_52 (sr_28 (vp_lt i47)) i52 ?_
      obtain ⟨i53, h⟩ := h
      refine V_iast (pc := 53) dX7_openPoint_53 (sr_28 (vp_lt i39)) i53 ?_
      refine V_aload_n (pc := 54) 0 dX7_openPoint_54 rfl ?_
      refine V_getR (pc := 55) dX7_openPoint_55 fl_X7_23 sh_2 rfl ?_
      refine V_iload_n (pc := 58) 1 dX7_openPoint_58 rfl ?_
      obtain ⟨i59, h⟩ := h
      refine V_aald (pc := 59) dX7_openPoint_59 sh_32 i59 ?_
      refine V_iload (pc := 60) 4 dX7_openPoint_60 rfl ?_
      refine V_aload_n (pc := 62) 0 dX7_openPoint_62 rfl ?_
      refine V_getR (pc := 63) dX7_openPoint_63 fl_X7_23 sh_2 rfl ?_
      refine V_iload_n (pc := 66) 1 dX7_openPoint_66 rfl ?_
      obtain ⟨i67, h⟩ := h
      refine V_aald (pc := 67) dX7_openPoint_67 sh_32 i67 ?_
      refine V_iload (pc := 68) 4 dX7_openPoint_68 rfl ?_
      refine V_iconst (pc := 70) (v := 1) dX7_openPoint_70 (by decide) ?_
      refine V_isub (pc := 71) dX7_openPoint_71 ?_
      obtain ⟨i72, h⟩ := h
      refine V_iald (pc := 72) dX7_openPoint_72 (sr_33 (vp_lt i67)) i72 ?_
      obtain ⟨i73, h⟩ := h
      refine V_iast (pc := 73) dX7_openPoint_73 (sr_33 (vp_lt i59)) i73 ?_
      refine V_iinc (pc := 74) 4 (v := -1) dX7_openPoint_74 rfl (by decide) (by decide) ?_
      refine V_goto (pc := 77) (tgt := 8) dX7_openPoint_77 (by decide) ?_
      exact V_loc [1, 2, 3, 4, 0] rfl (ih x1 x2 x3 (x4 + (-1 : Int32)) (wI (wI (wI σ (23 + x1.toNatClampNeg) x4.toNatClampNeg (σ.1 (23 + x1.toNatClampNeg) (x4 - ((1 : Int32))).toNatClampNeg)) (28 + x1.toNatClampNeg) x4.toNatClampNeg ((wI σ (23 + x1.toNatClampNeg) x4.toNatClampNeg (σ.1 (23 + x1.toNatClampNeg) (x4 - ((1 : Int32))).toNatClampNeg)).1 (28 + x1.toNatClampNeg) (x4 - ((1 : Int32))).toNatClampNeg)) (33 + x1.toNatClampNeg) x4.toNatClampNeg ((wI (wI σ (23 + x1.toNatClampNeg) x4.toNatClampNeg (σ.1 (23 + x1.toNatClampNeg) (x4 - ((1 : Int32))).toNatClampNeg)) (28 + x1.toNatClampNeg) x4.toNatClampNeg ((wI σ (23 + x1.toNatClampNeg) x4.toNatClampNeg (σ.1 (23 + x1.toNatClampNeg) (x4 - ((1 : Int32))).toNatClampNeg)).1 (28 + x1.toNatClampNeg) (x4 - ((1 : Int32))).toNatClampNeg)).1 (33 + x1.toNatClampNeg) (x4 - ((1 : Int32))).toNatClampNeg))  h)
def wX7_openPoint  (x1 : Int32) (x2 : Int32) (x3 : Int32) (σ : Sto) (post : Sto → Prop) : Prop := vp_in x1 4 ∧ (∃ n8, wX7_openPoint_8 post  (fun (x1_1 : Int32) (x2_1 : Int32) (x3_1 : Int32) (σ_1 : Sto) => vp_in x1_1 4 ∧ (vp_in x2_1 8 ∧ (vp_in x1_1 4 ∧ (vp_in x2_1 8 ∧ (vp_in x1_1 4 ∧ (vp_in x2_1 8 ∧ (vp_in x1_1 4 ∧ (vp_in x1_1 4 ∧ (post (wI (wI (wI (wI σ_1 (23 + x1_1.toNatClampNeg) x2_1.toNatClampNeg x3_1) (28 + x1_1.toNatClampNeg) x2_1.toNatClampNeg ((0 : Int32))) (33 + x1_1.toNatClampNeg) x2_1.toNatClampNeg ((0 : Int32))) 21 x1_1.toNatClampNeg (((wI (wI (wI σ_1 (23 + x1_1.toNatClampNeg) x2_1.toNatClampNeg x3_1) (28 + x1_1.toNatClampNeg) x2_1.toNatClampNeg ((0 : Int32))) (33 + x1_1.toNatClampNeg) x2_1.toNatClampNeg ((0 : Int32))).1 21 x1_1.toNatClampNeg) + ((1 : Int32))))))))))))) n8 x1 x2 x3 (σ.1 21 x1.toNatClampNeg) σ)
set_option maxRecDepth 100000 in
set_option maxHeartbeats 4000000 in
theorem vX7_openPoint (E : Ev)  (x1 : Int32) (x2 : Int32) (x3 : Int32) (σ : Sto) (post : Sto → Prop)  (h : wX7_openPoint  x1 x2 x3 σ post) : V E 0 mX7_openPoint (pV post) 0 [(0, .ref 2), (1, .int x1), (2, .int x2), (3, .int x3)] [] σ := by
  unfold wX7_openPoint at h
  refine V_aload_n (pc := 0) 0 dX7_openPoint_0 rfl ?_
  refine V_getR (pc := 1) dX7_openPoint_1 fl_X7_9 sh_2 rfl ?_
  refine V_iload_n (pc := 4) 1 dX7_openPoint_4 rfl ?_
  obtain ⟨i5, h⟩ := h
  refine V_iald (pc := 5) dX7_openPoint_5 sh_21 i5 ?_
  refine V_istore (pc := 6) dX7_openPoint_6 (by decide) ?_
  obtain ⟨n8, h⟩ := h
  refine V_loc [1, 2, 3, 4, 0] rfl (vX7_openPoint_8 E post   _ (fun x1_1 x2_1 x3_1 σ_1 h => ?_) n8 x1 x2 x3 (σ.1 21 x1.toNatClampNeg) σ  h)
  · refine V_aload_n (pc := 80) 0 dX7_openPoint_80 rfl ?_
    refine V_getR (pc := 81) dX7_openPoint_81 fl_X7_17 sh_2 rfl ?_
    refine V_iload_n (pc := 84) 1 dX7_openPoint_84 rfl ?_
    obtain ⟨i85, h⟩ := h
    refine V_aald (pc := 85) dX7_openPoint_85 sh_22 i85 ?_
    refine V_iload_n (pc := 86) 2 dX7_openPoint_86 rfl ?_
    refine V_iload_n (pc := 87) 3 dX7_openPoint_87 rfl ?_
    obtain ⟨i88, h⟩ := h
    refine V_iast (pc := 88) dX7_openPoint_88 (sr_23 (vp_lt i85)) i88 ?_
    refine V_aload_n (pc := 89) 0 dX7_openPoint_89 rfl ?_
    refine V_getR (pc := 90) dX7_openPoint_90 fl_X7_20 sh_2 rfl ?_
    refine V_iload_n (pc := 93) 1 dX7_openPoint_93 rfl ?_
    obtain ⟨i94, h⟩ := h
    refine V_aald (pc := 94) dX7_openPoint_94 sh_27 i94 ?_
    refine V_iload_n (pc := 95) 2 dX7_openPoint_95 rfl ?_
    refine V_iconst (pc := 96) (v := 0) dX7_openPoint_96 (by decide) ?_
    obtain ⟨i97, h⟩ := h
    refine V_iast (pc := 97) dX7_openPoint_97 (sr_28 (vp_lt i94)) i97 ?_
    refine V_aload_n (pc := 98) 0 dX7_openPoint_98 rfl ?_
    refine V_getR (pc := 99) dX7_openPoint_99 fl_X7_23 sh_2 rfl ?_
    refine V_iload_n (pc := 102) 1 dX7_openPoint_102 rfl ?_
    obtain ⟨i103, h⟩ := h
    refine V_aald (pc := 103) dX7_openPoint_103 sh_32 i103 ?_
    refine V_iload_n (pc := 104) 2 dX7_openPoint_104 rfl ?_
    refine V_iconst (pc := 105) (v := 0) dX7_openPoint_105 (by decide) ?_
    obtain ⟨i106, h⟩ := h
    refine V_iast (pc := 106) dX7_openPoint_106 (sr_33 (vp_lt i103)) i106 ?_
    refine V_aload_n (pc := 107) 0 dX7_openPoint_107 rfl ?_
    refine V_getR (pc := 108) dX7_openPoint_108 fl_X7_9 sh_2 rfl ?_
    refine V_iload_n (pc := 111) 1 dX7_openPoint_111 rfl ?_
    refine V_dup2_11 (pc := 112) dX7_openPoint_112 rfl rfl ?_
    obtain ⟨i113, h⟩ := h
    refine V_iald (pc := 113) dX7_openPoint_113 sh_21 i113 ?_
    refine V_iconst (pc := 114) (v := 1) dX7_openPoint_114 (by decide) ?_
    refine V_iadd (pc := 115) dX7_openPoint_115 ?_
    obtain ⟨i116, h⟩ := h
    refine V_iast (pc := 116) dX7_openPoint_116 sh_21 i116 ?_
    exact V_vret dX7_openPoint_117 rfl h
theorem dX7_addToPoint_0 : decode cX7_addToPoint 0 = .ok (.aload_n 0, 1) := by decide +kernel
theorem dX7_addToPoint_1 : decode cX7_addToPoint 1 = .ok (.getfield 17, 3) := by decide +kernel
theorem dX7_addToPoint_4 : decode cX7_addToPoint 4 = .ok (.iload_n 1, 1) := by decide +kernel
theorem dX7_addToPoint_5 : decode cX7_addToPoint 5 = .ok (.aaload, 1) := by decide +kernel
theorem dX7_addToPoint_6 : decode cX7_addToPoint 6 = .ok (.astore 4, 2) := by decide +kernel
theorem dX7_addToPoint_8 : decode cX7_addToPoint 8 = .ok (.iconst 0, 1) := by decide +kernel
theorem dX7_addToPoint_9 : decode cX7_addToPoint 9 = .ok (.istore 5, 2) := by decide +kernel
theorem dX7_addToPoint_11 : decode cX7_addToPoint 11 = .ok (.iload 5, 2) := by decide +kernel
theorem dX7_addToPoint_13 : decode cX7_addToPoint 13 = .ok (.aload_n 0, 1) := by decide +kernel
theorem dX7_addToPoint_14 : decode cX7_addToPoint 14 = .ok (.getfield 9, 3) := by decide +kernel
theorem dX7_addToPoint_17 : decode cX7_addToPoint 17 = .ok (.iload_n 1, 1) := by decide +kernel
theorem dX7_addToPoint_18 : decode cX7_addToPoint 18 = .ok (.iaload, 1) := by decide +kernel
theorem dX7_addToPoint_19 : decode cX7_addToPoint 19 = .ok (.if_icmp .ge 18, 3) := by decide +kernel
theorem dX7_addToPoint_22 : decode cX7_addToPoint 22 = .ok (.aload 4, 2) := by decide +kernel
theorem dX7_addToPoint_24 : decode cX7_addToPoint 24 = .ok (.iload 5, 2) := by decide +kernel
theorem dX7_addToPoint_26 : decode cX7_addToPoint 26 = .ok (.iaload, 1) := by decide +kernel
theorem dX7_addToPoint_27 : decode cX7_addToPoint 27 = .ok (.iload_n 2, 1) := by decide +kernel
theorem dX7_addToPoint_28 : decode cX7_addToPoint 28 = .ok (.if_icmp .ge 9, 3) := by decide +kernel
theorem dX7_addToPoint_31 : decode cX7_addToPoint 31 = .ok (.iinc 5 1, 3) := by decide +kernel
theorem dX7_addToPoint_34 : decode cX7_addToPoint 34 = .ok (.goto (-23), 3) := by decide +kernel
theorem dX7_addToPoint_37 : decode cX7_addToPoint 37 = .ok (.iload 5, 2) := by decide +kernel
theorem dX7_addToPoint_39 : decode cX7_addToPoint 39 = .ok (.aload_n 0, 1) := by decide +kernel
theorem dX7_addToPoint_40 : decode cX7_addToPoint 40 = .ok (.getfield 9, 3) := by decide +kernel
theorem dX7_addToPoint_43 : decode cX7_addToPoint 43 = .ok (.iload_n 1, 1) := by decide +kernel
theorem dX7_addToPoint_44 : decode cX7_addToPoint 44 = .ok (.iaload, 1) := by decide +kernel
theorem dX7_addToPoint_45 : decode cX7_addToPoint 45 = .ok (.if_icmp .eq 12, 3) := by decide +kernel
theorem dX7_addToPoint_48 : decode cX7_addToPoint 48 = .ok (.aload 4, 2) := by decide +kernel
theorem dX7_addToPoint_50 : decode cX7_addToPoint 50 = .ok (.iload 5, 2) := by decide +kernel
theorem dX7_addToPoint_52 : decode cX7_addToPoint 52 = .ok (.iaload, 1) := by decide +kernel
theorem dX7_addToPoint_53 : decode cX7_addToPoint 53 = .ok (.iload_n 2, 1) := by decide +kernel
theorem dX7_addToPoint_54 : decode cX7_addToPoint 54 = .ok (.if_icmp .eq 24, 3) := by decide +kernel
theorem dX7_addToPoint_57 : decode cX7_addToPoint 57 = .ok (.aload_n 0, 1) := by decide +kernel
theorem dX7_addToPoint_58 : decode cX7_addToPoint 58 = .ok (.getfield 9, 3) := by decide +kernel
theorem dX7_addToPoint_61 : decode cX7_addToPoint 61 = .ok (.iload_n 1, 1) := by decide +kernel
theorem dX7_addToPoint_62 : decode cX7_addToPoint 62 = .ok (.iaload, 1) := by decide +kernel
theorem dX7_addToPoint_63 : decode cX7_addToPoint 63 = .ok (.aload 4, 2) := by decide +kernel
theorem dX7_addToPoint_65 : decode cX7_addToPoint 65 = .ok (.arraylength, 1) := by decide +kernel
theorem dX7_addToPoint_66 : decode cX7_addToPoint 66 = .ok (.if_icmp .lt 4, 3) := by decide +kernel
theorem dX7_addToPoint_69 : decode cX7_addToPoint 69 = .ok (.return_, 1) := by decide +kernel
theorem dX7_addToPoint_70 : decode cX7_addToPoint 70 = .ok (.aload_n 0, 1) := by decide +kernel
theorem dX7_addToPoint_71 : decode cX7_addToPoint 71 = .ok (.iload_n 1, 1) := by decide +kernel
theorem dX7_addToPoint_72 : decode cX7_addToPoint 72 = .ok (.iload 5, 2) := by decide +kernel
theorem dX7_addToPoint_74 : decode cX7_addToPoint 74 = .ok (.iload_n 2, 1) := by decide +kernel
theorem dX7_addToPoint_75 : decode cX7_addToPoint 75 = .ok (.invokevirtual 93, 3) := by decide +kernel
theorem dX7_addToPoint_78 : decode cX7_addToPoint 78 = .ok (.aload_n 0, 1) := by decide +kernel
theorem dX7_addToPoint_79 : decode cX7_addToPoint 79 = .ok (.getfield 20, 3) := by decide +kernel
theorem dX7_addToPoint_82 : decode cX7_addToPoint 82 = .ok (.iload_n 1, 1) := by decide +kernel
theorem dX7_addToPoint_83 : decode cX7_addToPoint 83 = .ok (.aaload, 1) := by decide +kernel
theorem dX7_addToPoint_84 : decode cX7_addToPoint 84 = .ok (.iload 5, 2) := by decide +kernel
theorem dX7_addToPoint_86 : decode cX7_addToPoint 86 = .ok (.dup2, 1) := by decide +kernel
theorem dX7_addToPoint_87 : decode cX7_addToPoint 87 = .ok (.iaload, 1) := by decide +kernel
theorem dX7_addToPoint_88 : decode cX7_addToPoint 88 = .ok (.iload_n 3, 1) := by decide +kernel
theorem dX7_addToPoint_89 : decode cX7_addToPoint 89 = .ok (.iadd, 1) := by decide +kernel
theorem dX7_addToPoint_90 : decode cX7_addToPoint 90 = .ok (.iastore, 1) := by decide +kernel
theorem dX7_addToPoint_91 : decode cX7_addToPoint 91 = .ok (.aload_n 0, 1) := by decide +kernel
theorem dX7_addToPoint_92 : decode cX7_addToPoint 92 = .ok (.getfield 23, 3) := by decide +kernel
theorem dX7_addToPoint_95 : decode cX7_addToPoint 95 = .ok (.iload_n 1, 1) := by decide +kernel
theorem dX7_addToPoint_96 : decode cX7_addToPoint 96 = .ok (.aaload, 1) := by decide +kernel
theorem dX7_addToPoint_97 : decode cX7_addToPoint 97 = .ok (.iload 5, 2) := by decide +kernel
theorem dX7_addToPoint_99 : decode cX7_addToPoint 99 = .ok (.dup2, 1) := by decide +kernel
theorem dX7_addToPoint_100 : decode cX7_addToPoint 100 = .ok (.iaload, 1) := by decide +kernel
theorem dX7_addToPoint_101 : decode cX7_addToPoint 101 = .ok (.iconst 1, 1) := by decide +kernel
theorem dX7_addToPoint_102 : decode cX7_addToPoint 102 = .ok (.iadd, 1) := by decide +kernel
theorem dX7_addToPoint_103 : decode cX7_addToPoint 103 = .ok (.iastore, 1) := by decide +kernel
theorem dX7_addToPoint_104 : decode cX7_addToPoint 104 = .ok (.return_, 1) := by decide +kernel
def wX7_addToPoint_11 (post : Sto → Prop)  (K37 : Int32 → Int32 → Int32 → Int32 → Int32 → Sto → Prop) : Nat → Int32 → Int32 → Int32 → Int32 → Int32 → Sto → Prop
  | 0, _, _, _, _, _, _ => False
  | n + 1, x1, x2, x3, x4, x5, σ => vp_in x1 4 ∧ ((((σ.1 21 x1.toNatClampNeg) ≤ x5) → (K37 x1 x2 x3 x4 x5 σ)) ∧ ((¬ ((σ.1 21 x1.toNatClampNeg) ≤ x5)) → (vp_in x5 8 ∧ (((x2 ≤ (σ.1 (23 + x4.toNatClampNeg) x5.toNatClampNeg)) → (K37 x1 x2 x3 x4 x5 σ)) ∧ ((¬ (x2 ≤ (σ.1 (23 + x4.toNatClampNeg) x5.toNatClampNeg))) → (wX7_addToPoint_11 post  K37 n x1 x2 x3 x4 (x5 + (1 : Int32)) σ))))))
set_option maxRecDepth 100000 in
set_option maxHeartbeats 4000000 in
theorem vX7_addToPoint_11 (E : Ev) (post : Sto → Prop)   (K37 : Int32 → Int32 → Int32 → Int32 → Int32 → Sto → Prop) (HK37 : ∀ (x1 : Int32) (x2 : Int32) (x3 : Int32) (x4 : Int32) (x5 : Int32) (σ : Sto) (q4 : vp_in x4 4), K37 x1 x2 x3 x4 x5 σ → V E 1 mX7_addToPoint (pV post) 37 [(0, .ref 2), (1, .int x1), (2, .int x2), (3, .int x3), (4, .ref (23 + x4.toNatClampNeg)), (5, .int x5)] [] σ) : ∀ (n : Nat) (x1 : Int32) (x2 : Int32) (x3 : Int32) (x4 : Int32) (x5 : Int32) (σ : Sto) (q4 : vp_in x4 4), wX7_addToPoint_11 post  K37 n x1 x2 x3 x4 x5 σ → V E 1 mX7_addToPoint (pV post) 11 [(0, .ref 2), (1, .int x1), (2, .int x2), (3, .int x3), (4, .ref (23 + x4.toNatClampNeg)), (5, .int x5)] [] σ := by
  intro n
  induction n with
  | zero => intro x1 x2 x3 x4 x5 σ q4 h; exact h.elim
  | succ n ih =>
    intro x1 x2 x3 x4 x5 σ q4 h
    unfold wX7_addToPoint_11 at h
    refine V_iload (pc := 11) 5 dX7_addToPoint_11 rfl ?_
    refine V_aload_n (pc := 13) 0 dX7_addToPoint_13 rfl ?_
    refine V_getR (pc := 14) dX7_addToPoint_14 fl_X7_9 sh_2 rfl ?_
    refine V_iload_n (pc := 17) 1 dX7_addToPoint_17 rfl ?_
    obtain ⟨i18, h⟩ := h
    refine V_iald (pc := 18) dX7_addToPoint_18 sh_21 i18 ?_
    refine V_icmp_ge (pc := 19) (tgt := 37) dX7_addToPoint_19 (by decide) (fun hc => ?_) (fun hc => ?_)
    · replace h := h.1 hc
      exact V_loc [0, 1, 2, 3, 4, 5] rfl (HK37 x1 x2 x3 x4 x5 σ q4 h)
    · replace h := h.2 hc
      refine V_aload (pc := 22) 4 dX7_addToPoint_22 rfl ?_
      refine V_iload (pc := 24) 5 dX7_addToPoint_24 rfl ?_
      obtain ⟨i26, h⟩ := h
      refine V_iald (pc := 26) dX7_addToPoint_26 (sr_23 (vp_lt q4)) i26 ?_
      refine V_iload_n (pc := 27) 2 dX7_addToPoint_27 rfl ?_
      refine V_icmp_ge (pc := 28) (tgt := 37) dX7_addToPoint_28 (by decide) (fun hc => ?_) (fun hc => ?_)
      · replace h := h.1 hc
        exact V_loc [0, 1, 2, 3, 4, 5] rfl (HK37 x1 x2 x3 x4 x5 σ q4 h)
      · replace h := h.2 hc
        refine V_iinc (pc := 31) 5 (v := 1) dX7_addToPoint_31 rfl (by decide) (by decide) ?_
        refine V_goto (pc := 34) (tgt := 11) dX7_addToPoint_34 (by decide) ?_
        exact V_loc [1, 2, 3, 4, 5, 0] rfl (ih x1 x2 x3 x4 (x5 + (1 : Int32)) σ q4 h)
def wX7_addToPoint_78 (post : Sto → Prop)   (x1 : Int32) (x3 : Int32) (x5 : Int32) (σ : Sto) : Prop := vp_in x1 4 ∧ (vp_in x5 8 ∧ (vp_in x5 8 ∧ (vp_in x1 4 ∧ (vp_in x5 8 ∧ (vp_in x5 8 ∧ (post (wI (wI σ (28 + x1.toNatClampNeg) x5.toNatClampNeg ((σ.1 (28 + x1.toNatClampNeg) x5.toNatClampNeg) + x3)) (33 + x1.toNatClampNeg) x5.toNatClampNeg (((wI σ (28 + x1.toNatClampNeg) x5.toNatClampNeg ((σ.1 (28 + x1.toNatClampNeg) x5.toNatClampNeg) + x3)).1 (33 + x1.toNatClampNeg) x5.toNatClampNeg) + ((1 : Int32))))))))))
set_option maxRecDepth 100000 in
set_option maxHeartbeats 4000000 in
theorem vX7_addToPoint_78 (E : Ev) (post : Sto → Prop)     (x1 : Int32) (x3 : Int32) (x5 : Int32) (σ : Sto) (h : wX7_addToPoint_78 post   x1 x3 x5 σ) : V E 1 mX7_addToPoint (pV post) 78 [(0, .ref 2), (1, .int x1), (3, .int x3), (5, .int x5)] [] σ := by
  unfold wX7_addToPoint_78 at h
  refine V_aload_n (pc := 78) 0 dX7_addToPoint_78 rfl ?_
  refine V_getR (pc := 79) dX7_addToPoint_79 fl_X7_20 sh_2 rfl ?_
  refine V_iload_n (pc := 82) 1 dX7_addToPoint_82 rfl ?_
  obtain ⟨i83, h⟩ := h
  refine V_aald (pc := 83) dX7_addToPoint_83 sh_27 i83 ?_
  refine V_iload (pc := 84) 3 dX7_addToPoint_84 rfl ?_
  refine V_dup2_11 (pc := 86) dX7_addToPoint_86 rfl rfl ?_
  obtain ⟨i87, h⟩ := h
  refine V_iald (pc := 87) dX7_addToPoint_87 (sr_28 (vp_lt i83)) i87 ?_
  refine V_iload_n (pc := 88) 2 dX7_addToPoint_88 rfl ?_
  refine V_iadd (pc := 89) dX7_addToPoint_89 ?_
  obtain ⟨i90, h⟩ := h
  refine V_iast (pc := 90) dX7_addToPoint_90 (sr_28 (vp_lt i83)) i90 ?_
  refine V_aload_n (pc := 91) 0 dX7_addToPoint_91 rfl ?_
  refine V_getR (pc := 92) dX7_addToPoint_92 fl_X7_23 sh_2 rfl ?_
  refine V_iload_n (pc := 95) 1 dX7_addToPoint_95 rfl ?_
  obtain ⟨i96, h⟩ := h
  refine V_aald (pc := 96) dX7_addToPoint_96 sh_32 i96 ?_
  refine V_iload (pc := 97) 3 dX7_addToPoint_97 rfl ?_
  refine V_dup2_11 (pc := 99) dX7_addToPoint_99 rfl rfl ?_
  obtain ⟨i100, h⟩ := h
  refine V_iald (pc := 100) dX7_addToPoint_100 (sr_33 (vp_lt i96)) i100 ?_
  refine V_iconst (pc := 101) (v := 1) dX7_addToPoint_101 (by decide) ?_
  refine V_iadd (pc := 102) dX7_addToPoint_102 ?_
  obtain ⟨i103, h⟩ := h
  refine V_iast (pc := 103) dX7_addToPoint_103 (sr_33 (vp_lt i96)) i103 ?_
  exact V_vret dX7_addToPoint_104 rfl h
def wX7_addToPoint_57 (post : Sto → Prop)   (x1 : Int32) (x2 : Int32) (x3 : Int32) (x4 : Int32) (x5 : Int32) (σ : Sto) : Prop := vp_in x1 4 ∧ ((((σ.1 21 x1.toNatClampNeg) < (Int32.ofNat 8)) → (wX7_openPoint  x1 x5 x2 σ (fun (s75 : Sto) => wX7_addToPoint_78 post   x1 x3 x5 s75))) ∧ ((¬ ((σ.1 21 x1.toNatClampNeg) < (Int32.ofNat 8))) → (post σ)))
set_option maxRecDepth 100000 in
set_option maxHeartbeats 4000000 in
theorem vX7_addToPoint_57 (E : Ev) (post : Sto → Prop)     (x1 : Int32) (x2 : Int32) (x3 : Int32) (x4 : Int32) (x5 : Int32) (σ : Sto) (q4 : vp_in x4 4) (h : wX7_addToPoint_57 post   x1 x2 x3 x4 x5 σ) : V E 1 mX7_addToPoint (pV post) 57 [(0, .ref 2), (1, .int x1), (2, .int x2), (3, .int x3), (4, .ref (23 + x4.toNatClampNeg)), (5, .int x5)] [] σ := by
  unfold wX7_addToPoint_57 at h
  refine V_aload_n (pc := 57) 0 dX7_addToPoint_57 rfl ?_
  refine V_getR (pc := 58) dX7_addToPoint_58 fl_X7_9 sh_2 rfl ?_
  refine V_iload_n (pc := 61) 1 dX7_addToPoint_61 rfl ?_
  obtain ⟨i62, h⟩ := h
  refine V_iald (pc := 62) dX7_addToPoint_62 sh_21 i62 ?_
  refine V_aload (pc := 63) 4 dX7_addToPoint_63 rfl ?_
  refine V_alen (pc := 65) (by decide) dX7_addToPoint_65 (sr_23 (vp_lt q4)) rfl ?_
  refine V_icmp_lt (pc := 66) (tgt := 70) dX7_addToPoint_66 (by decide) (fun hc => ?_) (fun hc => ?_)
  · replace h := h.1 hc
    refine V_aload_n (pc := 70) 0 dX7_addToPoint_70 rfl ?_
    refine V_iload_n (pc := 71) 1 dX7_addToPoint_71 rfl ?_
    refine V_iload (pc := 72) 5 dX7_addToPoint_72 rfl ?_
    refine V_iload_n (pc := 74) 2 dX7_addToPoint_74 rfl ?_
    refine V_callV (pc := 75) (M' := mX7_openPoint) dX7_addToPoint_75 ml_X7_93 kv_X7_openPoint ko_X7_openPoint sh_2 (by decide) (by decide) rfl rfl (Nat.le_of_ble_eq_true rfl) (Nat.le_of_ble_eq_true rfl) (vX7_openPoint E  x1 x5 x2 σ _  h) (kV (fun s75 h => ?_))
    refine V_loc [0, 1, 3, 5] rfl (vX7_addToPoint_78 E post     x1 x3 x5 s75  h)
  · replace h := h.2 hc
    exact V_vret dX7_addToPoint_69 rfl h
def wX7_addToPoint_37 (post : Sto → Prop)   (x1 : Int32) (x2 : Int32) (x3 : Int32) (x4 : Int32) (x5 : Int32) (σ : Sto) : Prop := vp_in x1 4 ∧ (((x5 = (σ.1 21 x1.toNatClampNeg)) → (wX7_addToPoint_57 post   x1 x2 x3 x4 x5 σ)) ∧ ((¬ (x5 = (σ.1 21 x1.toNatClampNeg))) → (vp_in x5 8 ∧ ((((σ.1 (23 + x4.toNatClampNeg) x5.toNatClampNeg) = x2) → (wX7_addToPoint_78 post   x1 x3 x5 σ)) ∧ ((¬ ((σ.1 (23 + x4.toNatClampNeg) x5.toNatClampNeg) = x2)) → (wX7_addToPoint_57 post   x1 x2 x3 x4 x5 σ))))))
set_option maxRecDepth 100000 in
set_option maxHeartbeats 4000000 in
theorem vX7_addToPoint_37 (E : Ev) (post : Sto → Prop)     (x1 : Int32) (x2 : Int32) (x3 : Int32) (x4 : Int32) (x5 : Int32) (σ : Sto) (q4 : vp_in x4 4) (h : wX7_addToPoint_37 post   x1 x2 x3 x4 x5 σ) : V E 1 mX7_addToPoint (pV post) 37 [(0, .ref 2), (1, .int x1), (2, .int x2), (3, .int x3), (4, .ref (23 + x4.toNatClampNeg)), (5, .int x5)] [] σ := by
  unfold wX7_addToPoint_37 at h
  refine V_iload (pc := 37) 5 dX7_addToPoint_37 rfl ?_
  refine V_aload_n (pc := 39) 0 dX7_addToPoint_39 rfl ?_
  refine V_getR (pc := 40) dX7_addToPoint_40 fl_X7_9 sh_2 rfl ?_
  refine V_iload_n (pc := 43) 1 dX7_addToPoint_43 rfl ?_
  obtain ⟨i44, h⟩ := h
  refine V_iald (pc := 44) dX7_addToPoint_44 sh_21 i44 ?_
  refine V_icmp_eq (pc := 45) (tgt := 57) dX7_addToPoint_45 (by decide) (fun hc => ?_) (fun hc => ?_)
  · replace h := h.1 hc
    refine V_loc [0, 1, 2, 3, 4, 5] rfl (vX7_addToPoint_57 E post     x1 x2 x3 x4 x5 σ q4 h)
  · replace h := h.2 hc
    refine V_aload (pc := 48) 4 dX7_addToPoint_48 rfl ?_
    refine V_iload (pc := 50) 5 dX7_addToPoint_50 rfl ?_
    obtain ⟨i52, h⟩ := h
    refine V_iald (pc := 52) dX7_addToPoint_52 (sr_23 (vp_lt q4)) i52 ?_
    refine V_iload_n (pc := 53) 2 dX7_addToPoint_53 rfl ?_
    refine V_icmp_eq (pc := 54) (tgt := 78) dX7_addToPoint_54 (by decide) (fun hc => ?_) (fun hc => ?_)
    · replace h := h.1 hc
      refine V_loc [0, 1, 3, 5] rfl (vX7_addToPoint_78 E post     x1 x3 x5 σ  h)
    · replace h := h.2 hc
      refine V_loc [0, 1, 2, 3, 4, 5] rfl (vX7_addToPoint_57 E post     x1 x2 x3 x4 x5 σ q4 h)
def wX7_addToPoint  (x1 : Int32) (x2 : Int32) (x3 : Int32) (σ : Sto) (post : Sto → Prop) : Prop := vp_in x1 4 ∧ (∃ n11, wX7_addToPoint_11 post  (fun (x1_1 : Int32) (x2_1 : Int32) (x3_1 : Int32) (x4_1 : Int32) (x5_1 : Int32) (σ_1 : Sto) => wX7_addToPoint_37 post   x1_1 x2_1 x3_1 x4_1 x5_1 σ_1) n11 x1 x2 x3 x1 ((0 : Int32)) σ)
set_option maxRecDepth 100000 in
set_option maxHeartbeats 4000000 in
theorem vX7_addToPoint (E : Ev)  (x1 : Int32) (x2 : Int32) (x3 : Int32) (σ : Sto) (post : Sto → Prop)  (h : wX7_addToPoint  x1 x2 x3 σ post) : V E 1 mX7_addToPoint (pV post) 0 [(0, .ref 2), (1, .int x1), (2, .int x2), (3, .int x3)] [] σ := by
  unfold wX7_addToPoint at h
  refine V_aload_n (pc := 0) 0 dX7_addToPoint_0 rfl ?_
  refine V_getR (pc := 1) dX7_addToPoint_1 fl_X7_17 sh_2 rfl ?_
  refine V_iload_n (pc := 4) 1 dX7_addToPoint_4 rfl ?_
  obtain ⟨i5, h⟩ := h
  refine V_aald (pc := 5) dX7_addToPoint_5 sh_22 i5 ?_
  refine V_astore (pc := 6) dX7_addToPoint_6 (by decide) ?_
  refine V_iconst (pc := 8) (v := 0) dX7_addToPoint_8 (by decide) ?_
  refine V_istore (pc := 9) dX7_addToPoint_9 (by decide) ?_
  obtain ⟨n11, h⟩ := h
  refine V_loc [2, 3, 4, 5, 1, 0] rfl (vX7_addToPoint_11 E post   _ (fun x1_1 x2_1 x3_1 x4_1 x5_1 σ_1 q4_1 h => ?_) n11 x1 x2 x3 x1 ((0 : Int32)) σ i5 h)
  · refine V_loc [0, 1, 2, 3, 4, 5] rfl (vX7_addToPoint_37 E post     x1_1 x2_1 x3_1 x4_1 x5_1 σ_1 q4_1 h)
theorem dX7_findPoints_0 : decode cX7_findPoints 0 = .ok (.aload_n 0, 1) := by decide +kernel
theorem dX7_findPoints_1 : decode cX7_findPoints 1 = .ok (.getfield 9, 3) := by decide +kernel
theorem dX7_findPoints_4 : decode cX7_findPoints 4 = .ok (.iload_n 1, 1) := by decide +kernel
theorem dX7_findPoints_5 : decode cX7_findPoints 5 = .ok (.iconst 0, 1) := by decide +kernel
theorem dX7_findPoints_6 : decode cX7_findPoints 6 = .ok (.iastore, 1) := by decide +kernel
theorem dX7_findPoints_7 : decode cX7_findPoints 7 = .ok (.iconst 0, 1) := by decide +kernel
theorem dX7_findPoints_8 : decode cX7_findPoints 8 = .ok (.istore_n 2, 1) := by decide +kernel
theorem dX7_findPoints_9 : decode cX7_findPoints 9 = .ok (.iload_n 2, 1) := by decide +kernel
theorem dX7_findPoints_10 : decode cX7_findPoints 10 = .ok (.aload_n 0, 1) := by decide +kernel
theorem dX7_findPoints_11 : decode cX7_findPoints 11 = .ok (.getfield 39, 3) := by decide +kernel
theorem dX7_findPoints_14 : decode cX7_findPoints 14 = .ok (.getfield 66, 3) := by decide +kernel
theorem dX7_findPoints_17 : decode cX7_findPoints 17 = .ok (.if_icmp .ge 56, 3) := by decide +kernel
theorem dX7_findPoints_20 : decode cX7_findPoints 20 = .ok (.aload_n 0, 1) := by decide +kernel
theorem dX7_findPoints_21 : decode cX7_findPoints 21 = .ok (.getfield 39, 3) := by decide +kernel
theorem dX7_findPoints_24 : decode cX7_findPoints 24 = .ok (.getfield 82, 3) := by decide +kernel
theorem dX7_findPoints_27 : decode cX7_findPoints 27 = .ok (.iload_n 2, 1) := by decide +kernel
theorem dX7_findPoints_28 : decode cX7_findPoints 28 = .ok (.iaload, 1) := by decide +kernel
theorem dX7_findPoints_29 : decode cX7_findPoints 29 = .ok (.ifCond .ne 38, 3) := by decide +kernel
theorem dX7_findPoints_32 : decode cX7_findPoints 32 = .ok (.aload_n 0, 1) := by decide +kernel
theorem dX7_findPoints_33 : decode cX7_findPoints 33 = .ok (.getfield 39, 3) := by decide +kernel
theorem dX7_findPoints_36 : decode cX7_findPoints 36 = .ok (.iload_n 2, 1) := by decide +kernel
theorem dX7_findPoints_37 : decode cX7_findPoints 37 = .ok (.iload_n 1, 1) := by decide +kernel
theorem dX7_findPoints_38 : decode cX7_findPoints 38 = .ok (.invokevirtual 69, 3) := by decide +kernel
theorem dX7_findPoints_41 : decode cX7_findPoints 41 = .ok (.ifCond .eq 26, 3) := by decide +kernel
theorem dX7_findPoints_44 : decode cX7_findPoints 44 = .ok (.aload_n 0, 1) := by decide +kernel
theorem dX7_findPoints_45 : decode cX7_findPoints 45 = .ok (.iload_n 1, 1) := by decide +kernel
theorem dX7_findPoints_46 : decode cX7_findPoints 46 = .ok (.aload_n 0, 1) := by decide +kernel
theorem dX7_findPoints_47 : decode cX7_findPoints 47 = .ok (.getfield 39, 3) := by decide +kernel
theorem dX7_findPoints_50 : decode cX7_findPoints 50 = .ok (.getfield 75, 3) := by decide +kernel
theorem dX7_findPoints_53 : decode cX7_findPoints 53 = .ok (.iload_n 2, 1) := by decide +kernel
theorem dX7_findPoints_54 : decode cX7_findPoints 54 = .ok (.iaload, 1) := by decide +kernel
theorem dX7_findPoints_55 : decode cX7_findPoints 55 = .ok (.aload_n 0, 1) := by decide +kernel
theorem dX7_findPoints_56 : decode cX7_findPoints 56 = .ok (.getfield 39, 3) := by decide +kernel
theorem dX7_findPoints_59 : decode cX7_findPoints 59 = .ok (.getfield 72, 3) := by decide +kernel
theorem dX7_findPoints_62 : decode cX7_findPoints 62 = .ok (.iload_n 2, 1) := by decide +kernel
theorem dX7_findPoints_63 : decode cX7_findPoints 63 = .ok (.iaload, 1) := by decide +kernel
theorem dX7_findPoints_64 : decode cX7_findPoints 64 = .ok (.invokevirtual 89, 3) := by decide +kernel
theorem dX7_findPoints_67 : decode cX7_findPoints 67 = .ok (.iinc 2 1, 3) := by decide +kernel
theorem dX7_findPoints_70 : decode cX7_findPoints 70 = .ok (.goto (-61), 3) := by decide +kernel
theorem dX7_findPoints_73 : decode cX7_findPoints 73 = .ok (.return_, 1) := by decide +kernel
def wX7_findPoints_9 (post : Sto → Prop)  (K73 : Sto → Prop) : Nat → Int32 → Int32 → Sto → Prop
  | 0, _, _, _ => False
  | n + 1, x1, x2, σ => (((σ.1 1 5) ≤ x2) → (K73  σ)) ∧ ((¬ ((σ.1 1 5) ≤ x2)) → (vp_in x2 150 ∧ (((¬ (σ.1 15 x2.toNatClampNeg) = 0) → (wX7_findPoints_9 post  K73 n x1 (x2 + (1 : Int32)) σ)) ∧ (((σ.1 15 x2.toNatClampNeg) = 0) → (wX1_isKnownOf  x2 x1 σ (fun (r38 : Bool) (s38 : Sto) => ((r38 = false) → (wX7_findPoints_9 post  K73 n x1 (x2 + (1 : Int32)) s38)) ∧ ((r38 = true) → (vp_in x2 150 ∧ (vp_in x2 150 ∧ (wX7_addToPoint  x1 (s38.1 17 x2.toNatClampNeg) (s38.1 18 x2.toNatClampNeg) s38 (fun (s64 : Sto) => wX7_findPoints_9 post  K73 n x1 (x2 + (1 : Int32)) s64)))))))))))
set_option maxRecDepth 100000 in
set_option maxHeartbeats 4000000 in
theorem vX7_findPoints_9 (E : Ev) (post : Sto → Prop)   (K73 : Sto → Prop) (HK73 : ∀  (σ : Sto), K73  σ → V E 2 mX7_findPoints (pV post) 73 [] [] σ) : ∀ (n : Nat) (x1 : Int32) (x2 : Int32) (σ : Sto), wX7_findPoints_9 post  K73 n x1 x2 σ → V E 2 mX7_findPoints (pV post) 9 [(0, .ref 2), (1, .int x1), (2, .int x2)] [] σ := by
  intro n
  induction n with
  | zero => intro x1 x2 σ h; exact h.elim
  | succ n ih =>
    intro x1 x2 σ h
    unfold wX7_findPoints_9 at h
    refine V_iload_n (pc := 9) 2 dX7_findPoints_9 rfl ?_
    refine V_aload_n (pc := 10) 0 dX7_findPoints_10 rfl ?_
    refine V_getR (pc := 11) dX7_findPoints_11 fl_X7_39 sh_2 rfl ?_
    refine V_getI (pc := 14) dX7_findPoints_14 fl_X7_66 sh_1 rfl ?_
    refine V_icmp_ge (pc := 17) (tgt := 73) dX7_findPoints_17 (by decide) (fun hc => ?_) (fun hc => ?_)
    · replace h := h.1 hc
      exact V_loc [] rfl (HK73  σ  h)
    · replace h := h.2 hc
      refine V_aload_n (pc := 20) 0 dX7_findPoints_20 rfl ?_
      refine V_getR (pc := 21) dX7_findPoints_21 fl_X7_39 sh_2 rfl ?_
      refine V_getR (pc := 24) dX7_findPoints_24 fl_X7_82 sh_1 rfl ?_
      refine V_iload_n (pc := 27) 2 dX7_findPoints_27 rfl ?_
      obtain ⟨i28, h⟩ := h
      refine V_iald (pc := 28) dX7_findPoints_28 sh_15 i28 ?_
      refine V_if_ne (pc := 29) (tgt := 67) dX7_findPoints_29 (by decide) (fun hc => ?_) (fun hc => ?_)
      · replace h := h.1 hc
        refine V_iinc (pc := 67) 2 (v := 1) dX7_findPoints_67 rfl (by decide) (by decide) ?_
        refine V_goto (pc := 70) (tgt := 9) dX7_findPoints_70 (by decide) ?_
        exact V_loc [1, 2, 0] rfl (ih x1 (x2 + (1 : Int32)) σ  h)
      · replace h := h.2 hc
        refine V_aload_n (pc := 32) 0 dX7_findPoints_32 rfl ?_
        refine V_getR (pc := 33) dX7_findPoints_33 fl_X7_39 sh_2 rfl ?_
        refine V_iload_n (pc := 36) 2 dX7_findPoints_36 rfl ?_
        refine V_iload_n (pc := 37) 1 dX7_findPoints_37 rfl ?_
        refine V_callV (pc := 38) (M' := mX1_isKnownOf) dX7_findPoints_38 ml_X7_69 kv_X1_isKnownOf ko_X1_isKnownOf sh_1 (by decide) (by decide) rfl rfl (Nat.le_of_ble_eq_true rfl) (Nat.le_of_ble_eq_true rfl) (vX1_isKnownOf E  x2 x1 σ _  h) (kB (fun r38 s38 h => ?_))
        refine V_ifz (pc := 41) (tgt := 67) dX7_findPoints_41 (by decide) (fun hc => ?_) (fun hc => ?_)
        · replace h := h.1 hc
          refine V_iinc (pc := 67) 2 (v := 1) dX7_findPoints_67 rfl (by decide) (by decide) ?_
          refine V_goto (pc := 70) (tgt := 9) dX7_findPoints_70 (by decide) ?_
          exact V_loc [1, 2, 0] rfl (ih x1 (x2 + (1 : Int32)) s38  h)
        · replace h := h.2 hc
          refine V_aload_n (pc := 44) 0 dX7_findPoints_44 rfl ?_
          refine V_iload_n (pc := 45) 1 dX7_findPoints_45 rfl ?_
          refine V_aload_n (pc := 46) 0 dX7_findPoints_46 rfl ?_
          refine V_getR (pc := 47) dX7_findPoints_47 fl_X7_39 sh_2 rfl ?_
          refine V_getR (pc := 50) dX7_findPoints_50 fl_X7_75 sh_1 rfl ?_
          refine V_iload_n (pc := 53) 2 dX7_findPoints_53 rfl ?_
          obtain ⟨i54, h⟩ := h
          refine V_iald (pc := 54) dX7_findPoints_54 sh_17 i54 ?_
          refine V_aload_n (pc := 55) 0 dX7_findPoints_55 rfl ?_
          refine V_getR (pc := 56) dX7_findPoints_56 fl_X7_39 sh_2 rfl ?_
          refine V_getR (pc := 59) dX7_findPoints_59 fl_X7_72 sh_1 rfl ?_
          refine V_iload_n (pc := 62) 2 dX7_findPoints_62 rfl ?_
          obtain ⟨i63, h⟩ := h
          refine V_iald (pc := 63) dX7_findPoints_63 sh_18 i63 ?_
          refine V_callV (pc := 64) (M' := mX7_addToPoint) dX7_findPoints_64 ml_X7_89 kv_X7_addToPoint ko_X7_addToPoint sh_2 (by decide) (by decide) rfl rfl (Nat.le_of_ble_eq_true rfl) (Nat.le_of_ble_eq_true rfl) (vX7_addToPoint E  x1 (s38.1 17 x2.toNatClampNeg) (s38.1 18 x2.toNatClampNeg) s38 _  h) (kV (fun s64 h => ?_))
          refine V_iinc (pc := 67) 2 (v := 1) dX7_findPoints_67 rfl (by decide) (by decide) ?_
          refine V_goto (pc := 70) (tgt := 9) dX7_findPoints_70 (by decide) ?_
          exact V_loc [1, 2, 0] rfl (ih x1 (x2 + (1 : Int32)) s64  h)
def wX7_findPoints  (x1 : Int32) (σ : Sto) (post : Sto → Prop) : Prop := vp_in x1 4 ∧ (∃ n9, wX7_findPoints_9 post  (fun  (σ_1 : Sto) => post σ_1) n9 x1 ((0 : Int32)) (wI σ 21 x1.toNatClampNeg ((0 : Int32))))
set_option maxRecDepth 100000 in
set_option maxHeartbeats 4000000 in
theorem vX7_findPoints (E : Ev)  (x1 : Int32) (σ : Sto) (post : Sto → Prop)  (h : wX7_findPoints  x1 σ post) : V E 2 mX7_findPoints (pV post) 0 [(0, .ref 2), (1, .int x1)] [] σ := by
  unfold wX7_findPoints at h
  refine V_aload_n (pc := 0) 0 dX7_findPoints_0 rfl ?_
  refine V_getR (pc := 1) dX7_findPoints_1 fl_X7_9 sh_2 rfl ?_
  refine V_iload_n (pc := 4) 1 dX7_findPoints_4 rfl ?_
  refine V_iconst (pc := 5) (v := 0) dX7_findPoints_5 (by decide) ?_
  obtain ⟨i6, h⟩ := h
  refine V_iast (pc := 6) dX7_findPoints_6 sh_21 i6 ?_
  refine V_iconst (pc := 7) (v := 0) dX7_findPoints_7 (by decide) ?_
  refine V_istore_n (pc := 8) dX7_findPoints_8 (by decide) ?_
  obtain ⟨n9, h⟩ := h
  refine V_loc [1, 2, 0] rfl (vX7_findPoints_9 E post   _ (fun σ_1 h => ?_) n9 x1 ((0 : Int32)) (wI σ 21 x1.toNatClampNeg ((0 : Int32)))  h)
  · exact V_vret dX7_findPoints_73 rfl h
theorem dX7_driftBetween_0 : decode cX7_driftBetween 0 = .ok (.aload_n 0, 1) := by decide +kernel
theorem dX7_driftBetween_1 : decode cX7_driftBetween 1 = .ok (.getfield 20, 3) := by decide +kernel
theorem dX7_driftBetween_4 : decode cX7_driftBetween 4 = .ok (.iload_n 1, 1) := by decide +kernel
theorem dX7_driftBetween_5 : decode cX7_driftBetween 5 = .ok (.aaload, 1) := by decide +kernel
theorem dX7_driftBetween_6 : decode cX7_driftBetween 6 = .ok (.astore 8, 2) := by decide +kernel
theorem dX7_driftBetween_8 : decode cX7_driftBetween 8 = .ok (.aload_n 0, 1) := by decide +kernel
theorem dX7_driftBetween_9 : decode cX7_driftBetween 9 = .ok (.getfield 23, 3) := by decide +kernel
theorem dX7_driftBetween_12 : decode cX7_driftBetween 12 = .ok (.iload_n 1, 1) := by decide +kernel
theorem dX7_driftBetween_13 : decode cX7_driftBetween 13 = .ok (.aaload, 1) := by decide +kernel
theorem dX7_driftBetween_14 : decode cX7_driftBetween 14 = .ok (.astore 9, 2) := by decide +kernel
theorem dX7_driftBetween_16 : decode cX7_driftBetween 16 = .ok (.aload 9, 2) := by decide +kernel
theorem dX7_driftBetween_18 : decode cX7_driftBetween 18 = .ok (.iload_n 2, 1) := by decide +kernel
theorem dX7_driftBetween_19 : decode cX7_driftBetween 19 = .ok (.iaload, 1) := by decide +kernel
theorem dX7_driftBetween_20 : decode cX7_driftBetween 20 = .ok (.i2l, 1) := by decide +kernel
theorem dX7_driftBetween_21 : decode cX7_driftBetween 21 = .ok (.lstore 10, 2) := by decide +kernel
theorem dX7_driftBetween_23 : decode cX7_driftBetween 23 = .ok (.aload 9, 2) := by decide +kernel
theorem dX7_driftBetween_25 : decode cX7_driftBetween 25 = .ok (.iload_n 3, 1) := by decide +kernel
theorem dX7_driftBetween_26 : decode cX7_driftBetween 26 = .ok (.iaload, 1) := by decide +kernel
theorem dX7_driftBetween_27 : decode cX7_driftBetween 27 = .ok (.i2l, 1) := by decide +kernel
theorem dX7_driftBetween_28 : decode cX7_driftBetween 28 = .ok (.lstore 12, 2) := by decide +kernel
theorem dX7_driftBetween_30 : decode cX7_driftBetween 30 = .ok (.aload 9, 2) := by decide +kernel
theorem dX7_driftBetween_32 : decode cX7_driftBetween 32 = .ok (.iconst 0, 1) := by decide +kernel
theorem dX7_driftBetween_33 : decode cX7_driftBetween 33 = .ok (.iaload, 1) := by decide +kernel
theorem dX7_driftBetween_34 : decode cX7_driftBetween 34 = .ok (.i2l, 1) := by decide +kernel
theorem dX7_driftBetween_35 : decode cX7_driftBetween 35 = .ok (.lstore 14, 2) := by decide +kernel
theorem dX7_driftBetween_37 : decode cX7_driftBetween 37 = .ok (.aload 8, 2) := by decide +kernel
theorem dX7_driftBetween_39 : decode cX7_driftBetween 39 = .ok (.iload_n 2, 1) := by decide +kernel
theorem dX7_driftBetween_40 : decode cX7_driftBetween 40 = .ok (.iaload, 1) := by decide +kernel
theorem dX7_driftBetween_41 : decode cX7_driftBetween 41 = .ok (.i2l, 1) := by decide +kernel
theorem dX7_driftBetween_42 : decode cX7_driftBetween 42 = .ok (.lload 12, 2) := by decide +kernel
theorem dX7_driftBetween_44 : decode cX7_driftBetween 44 = .ok (.lmul, 1) := by decide +kernel
theorem dX7_driftBetween_45 : decode cX7_driftBetween 45 = .ok (.lload 4, 2) := by decide +kernel
theorem dX7_driftBetween_47 : decode cX7_driftBetween 47 = .ok (.lload 6, 2) := by decide +kernel
theorem dX7_driftBetween_49 : decode cX7_driftBetween 49 = .ok (.lsub, 1) := by decide +kernel
theorem dX7_driftBetween_50 : decode cX7_driftBetween 50 = .ok (.lmul, 1) := by decide +kernel
theorem dX7_driftBetween_51 : decode cX7_driftBetween 51 = .ok (.aload 8, 2) := by decide +kernel
theorem dX7_driftBetween_53 : decode cX7_driftBetween 53 = .ok (.iload_n 3, 1) := by decide +kernel
theorem dX7_driftBetween_54 : decode cX7_driftBetween 54 = .ok (.iaload, 1) := by decide +kernel
theorem dX7_driftBetween_55 : decode cX7_driftBetween 55 = .ok (.i2l, 1) := by decide +kernel
theorem dX7_driftBetween_56 : decode cX7_driftBetween 56 = .ok (.lload 10, 2) := by decide +kernel
theorem dX7_driftBetween_58 : decode cX7_driftBetween 58 = .ok (.lmul, 1) := by decide +kernel
theorem dX7_driftBetween_59 : decode cX7_driftBetween 59 = .ok (.lload 6, 2) := by decide +kernel
theorem dX7_driftBetween_61 : decode cX7_driftBetween 61 = .ok (.lmul, 1) := by decide +kernel
theorem dX7_driftBetween_62 : decode cX7_driftBetween 62 = .ok (.ladd, 1) := by decide +kernel
theorem dX7_driftBetween_63 : decode cX7_driftBetween 63 = .ok (.lstore 16, 2) := by decide +kernel
theorem dX7_driftBetween_65 : decode cX7_driftBetween 65 = .ok (.lload 10, 2) := by decide +kernel
theorem dX7_driftBetween_67 : decode cX7_driftBetween 67 = .ok (.lload 12, 2) := by decide +kernel
theorem dX7_driftBetween_69 : decode cX7_driftBetween 69 = .ok (.lmul, 1) := by decide +kernel
theorem dX7_driftBetween_70 : decode cX7_driftBetween 70 = .ok (.lload 4, 2) := by decide +kernel
theorem dX7_driftBetween_72 : decode cX7_driftBetween 72 = .ok (.lmul, 1) := by decide +kernel
theorem dX7_driftBetween_73 : decode cX7_driftBetween 73 = .ok (.lstore 18, 2) := by decide +kernel
theorem dX7_driftBetween_75 : decode cX7_driftBetween 75 = .ok (.lload 16, 2) := by decide +kernel
theorem dX7_driftBetween_77 : decode cX7_driftBetween 77 = .ok (.lload 14, 2) := by decide +kernel
theorem dX7_driftBetween_79 : decode cX7_driftBetween 79 = .ok (.lmul, 1) := by decide +kernel
theorem dX7_driftBetween_80 : decode cX7_driftBetween 80 = .ok (.aload 8, 2) := by decide +kernel
theorem dX7_driftBetween_82 : decode cX7_driftBetween 82 = .ok (.iconst 0, 1) := by decide +kernel
theorem dX7_driftBetween_83 : decode cX7_driftBetween 83 = .ok (.iaload, 1) := by decide +kernel
theorem dX7_driftBetween_84 : decode cX7_driftBetween 84 = .ok (.i2l, 1) := by decide +kernel
theorem dX7_driftBetween_85 : decode cX7_driftBetween 85 = .ok (.lload 18, 2) := by decide +kernel
theorem dX7_driftBetween_87 : decode cX7_driftBetween 87 = .ok (.lmul, 1) := by decide +kernel
theorem dX7_driftBetween_88 : decode cX7_driftBetween 88 = .ok (.lsub, 1) := by decide +kernel
theorem dX7_driftBetween_89 : decode cX7_driftBetween 89 = .ok (.lstore 20, 2) := by decide +kernel
theorem dX7_driftBetween_91 : decode cX7_driftBetween 91 = .ok (.ldc2_w 100, 3) := by decide +kernel
theorem dX7_driftBetween_94 : decode cX7_driftBetween 94 = .ok (.lload 20, 2) := by decide +kernel
theorem dX7_driftBetween_96 : decode cX7_driftBetween 96 = .ok (.lmul, 1) := by decide +kernel
theorem dX7_driftBetween_97 : decode cX7_driftBetween 97 = .ok (.lload 18, 2) := by decide +kernel
theorem dX7_driftBetween_99 : decode cX7_driftBetween 99 = .ok (.lload 14, 2) := by decide +kernel
theorem dX7_driftBetween_101 : decode cX7_driftBetween 101 = .ok (.lmul, 1) := by decide +kernel
theorem dX7_driftBetween_102 : decode cX7_driftBetween 102 = .ok (.invokestatic 85, 3) := by decide +kernel
theorem dX7_driftBetween_105 : decode cX7_driftBetween 105 = .ok (.l2i, 1) := by decide +kernel
theorem dX7_driftBetween_106 : decode cX7_driftBetween 106 = .ok (.ireturn, 1) := by decide +kernel
def wX7_driftBetween  (x1 : Int32) (x2 : Int32) (x3 : Int32) (x4 : Int64) (x6 : Int64) (σ : Sto) (post : Int32 → Sto → Prop) : Prop := vp_in x1 4 ∧ (vp_in x1 4 ∧ (vp_in x2 8 ∧ (vp_in x3 8 ∧ (vp_in ((0 : Int32)) 8 ∧ (vp_in x2 8 ∧ (vp_in x3 8 ∧ (vp_in ((0 : Int32)) 8 ∧ (wX10_nearest  (((1000 : Int64)) * (((((((σ.1 (28 + x1.toNatClampNeg) x2.toNatClampNeg).toInt64) * ((σ.1 (33 + x1.toNatClampNeg) x3.toNatClampNeg).toInt64)) * (x4 - x6)) + ((((σ.1 (28 + x1.toNatClampNeg) x3.toNatClampNeg).toInt64) * ((σ.1 (33 + x1.toNatClampNeg) x2.toNatClampNeg).toInt64)) * x6)) * ((σ.1 (33 + x1.toNatClampNeg) ((0 : Int32)).toNatClampNeg).toInt64)) - (((σ.1 (28 + x1.toNatClampNeg) ((0 : Int32)).toNatClampNeg).toInt64) * ((((σ.1 (33 + x1.toNatClampNeg) x2.toNatClampNeg).toInt64) * ((σ.1 (33 + x1.toNatClampNeg) x3.toNatClampNeg).toInt64)) * x4)))) (((((σ.1 (33 + x1.toNatClampNeg) x2.toNatClampNeg).toInt64) * ((σ.1 (33 + x1.toNatClampNeg) x3.toNatClampNeg).toInt64)) * x4) * ((σ.1 (33 + x1.toNatClampNeg) ((0 : Int32)).toNatClampNeg).toInt64)) σ (fun (r102 : Int64) (s102 : Sto) => post r102.toInt32 s102)))))))))
set_option maxRecDepth 100000 in
set_option maxHeartbeats 4000000 in
theorem vX7_driftBetween (E : Ev)  (x1 : Int32) (x2 : Int32) (x3 : Int32) (x4 : Int64) (x6 : Int64) (σ : Sto) (post : Int32 → Sto → Prop)  (h : wX7_driftBetween  x1 x2 x3 x4 x6 σ post) : V E 2 mX7_driftBetween (pI post) 0 [(0, .ref 2), (1, .int x1), (2, .int x2), (3, .int x3), (4, .long x4), (6, .long x6)] [] σ := by
  unfold wX7_driftBetween at h
  refine V_aload_n (pc := 0) 0 dX7_driftBetween_0 rfl ?_
  refine V_getR (pc := 1) dX7_driftBetween_1 fl_X7_20 sh_2 rfl ?_
  refine V_iload_n (pc := 4) 1 dX7_driftBetween_4 rfl ?_
  obtain ⟨i5, h⟩ := h
  refine V_aald (pc := 5) dX7_driftBetween_5 sh_27 i5 ?_
  refine V_astore (pc := 6) dX7_driftBetween_6 (by decide) ?_
  refine V_aload_n (pc := 8) 1 dX7_driftBetween_8 rfl ?_
  refine V_getR (pc := 9) dX7_driftBetween_9 fl_X7_23 sh_2 rfl ?_
  refine V_iload_n (pc := 12) 2 dX7_driftBetween_12 rfl ?_
  obtain ⟨i13, h⟩ := h
  refine V_aald (pc := 13) dX7_driftBetween_13 sh_32 i13 ?_
  refine V_astore (pc := 14) dX7_driftBetween_14 (by decide) ?_
  refine V_aload (pc := 16) 0 dX7_driftBetween_16 rfl ?_
  refine V_iload_n (pc := 18) 4 dX7_driftBetween_18 rfl ?_
  obtain ⟨i19, h⟩ := h
  refine V_iald (pc := 19) dX7_driftBetween_19 (sr_33 (vp_lt i13)) i19 ?_
  refine V_i2l (pc := 20) dX7_driftBetween_20 ?_
  refine V_lstore (pc := 21) dX7_driftBetween_21 (by decide) ?_
  refine V_aload (pc := 23) 1 dX7_driftBetween_23 rfl ?_
  refine V_iload_n (pc := 25) 6 dX7_driftBetween_25 rfl ?_
  obtain ⟨i26, h⟩ := h
  refine V_iald (pc := 26) dX7_driftBetween_26 (sr_33 (vp_lt i13)) i26 ?_
  refine V_i2l (pc := 27) dX7_driftBetween_27 ?_
  refine V_lstore (pc := 28) dX7_driftBetween_28 (by decide) ?_
  refine V_aload (pc := 30) 2 dX7_driftBetween_30 rfl ?_
  refine V_iconst (pc := 32) (v := 0) dX7_driftBetween_32 (by decide) ?_
  obtain ⟨i33, h⟩ := h
  refine V_iald (pc := 33) dX7_driftBetween_33 (sr_33 (vp_lt i13)) i33 ?_
  refine V_i2l (pc := 34) dX7_driftBetween_34 ?_
  refine V_lstore (pc := 35) dX7_driftBetween_35 (by decide) ?_
  refine V_aload (pc := 37) 4 dX7_driftBetween_37 rfl ?_
  refine V_iload_n (pc := 39) 7 dX7_driftBetween_39 rfl ?_
  obtain ⟨i40, h⟩ := h
  refine V_iald (pc := 40) dX7_driftBetween_40 (sr_28 (vp_lt i5)) i40 ?_
  refine V_i2l (pc := 41) dX7_driftBetween_41 ?_
  refine V_lload (pc := 42) 1 dX7_driftBetween_42 rfl ?_
  refine V_lmul (pc := 44) dX7_driftBetween_44 ?_
  refine V_lload (pc := 45) 9 dX7_driftBetween_45 rfl ?_
  refine V_lload (pc := 47) 10 dX7_driftBetween_47 rfl ?_
  refine V_lsub (pc := 49) dX7_driftBetween_49 ?_
  refine V_lmul (pc := 50) dX7_driftBetween_50 ?_
  refine V_aload (pc := 51) 4 dX7_driftBetween_51 rfl ?_
  refine V_iload_n (pc := 53) 8 dX7_driftBetween_53 rfl ?_
  obtain ⟨i54, h⟩ := h
  refine V_iald (pc := 54) dX7_driftBetween_54 (sr_28 (vp_lt i5)) i54 ?_
  refine V_i2l (pc := 55) dX7_driftBetween_55 ?_
  refine V_lload (pc := 56) 2 dX7_driftBetween_56 rfl ?_
  refine V_lmul (pc := 58) dX7_driftBetween_58 ?_
  refine V_lload (pc := 59) 10 dX7_driftBetween_59 rfl ?_
  refine V_lmul (pc := 61) dX7_driftBetween_61 ?_
  refine V_ladd (pc := 62) dX7_driftBetween_62 ?_
  refine V_lstore (pc := 63) dX7_driftBetween_63 (by decide) ?_
  refine V_lload (pc := 65) 3 dX7_driftBetween_65 rfl ?_
  refine V_lload (pc := 67) 2 dX7_driftBetween_67 rfl ?_
  refine V_lmul (pc := 69) dX7_driftBetween_69 ?_
  refine V_lload (pc := 70) 10 dX7_driftBetween_70 rfl ?_
  refine V_lmul (pc := 72) dX7_driftBetween_72 ?_
  refine V_lstore (pc := 73) dX7_driftBetween_73 (by decide) ?_
  refine V_lload (pc := 75) 1 dX7_driftBetween_75 rfl ?_
  refine V_lload (pc := 77) 2 dX7_driftBetween_77 rfl ?_
  refine V_lmul (pc := 79) dX7_driftBetween_79 ?_
  refine V_aload (pc := 80) 6 dX7_driftBetween_80 rfl ?_
  refine V_iconst (pc := 82) (v := 0) dX7_driftBetween_82 (by decide) ?_
  obtain ⟨i83, h⟩ := h
  refine V_iald (pc := 83) dX7_driftBetween_83 (sr_28 (vp_lt i5)) i83 ?_
  refine V_i2l (pc := 84) dX7_driftBetween_84 ?_
  refine V_lload (pc := 85) 0 dX7_driftBetween_85 rfl ?_
  refine V_lmul (pc := 87) dX7_driftBetween_87 ?_
  refine V_lsub (pc := 88) dX7_driftBetween_88 ?_
  refine V_lstore (pc := 89) dX7_driftBetween_89 (by decide) ?_
  refine V_ldc2 (pc := 91) dX7_driftBetween_91 cl_X7_100 ?_
  refine V_lload (pc := 94) 0 dX7_driftBetween_94 rfl ?_
  refine V_lmul (pc := 96) dX7_driftBetween_96 ?_
  refine V_lload (pc := 97) 1 dX7_driftBetween_97 rfl ?_
  refine V_lload (pc := 99) 3 dX7_driftBetween_99 rfl ?_
  refine V_lmul (pc := 101) dX7_driftBetween_101 ?_
  refine V_callN (pc := 102) (M' := mX10_nearest) dX7_driftBetween_102 mn_X7_85 ks_X10_nearest ko_X10_nearest (by decide) rfl (Nat.le_of_ble_eq_true rfl) (Nat.le_of_ble_eq_true rfl) (vX10_nearest E  (((1000 : Int64)) * (((((((σ.1 (28 + x1.toNatClampNeg) x2.toNatClampNeg).toInt64) * ((σ.1 (33 + x1.toNatClampNeg) x3.toNatClampNeg).toInt64)) * (x4 - x6)) + ((((σ.1 (28 + x1.toNatClampNeg) x3.toNatClampNeg).toInt64) * ((σ.1 (33 + x1.toNatClampNeg) x2.toNatClampNeg).toInt64)) * x6)) * ((σ.1 (33 + x1.toNatClampNeg) ((0 : Int32)).toNatClampNeg).toInt64)) - (((σ.1 (28 + x1.toNatClampNeg) ((0 : Int32)).toNatClampNeg).toInt64) * ((((σ.1 (33 + x1.toNatClampNeg) x2.toNatClampNeg).toInt64) * ((σ.1 (33 + x1.toNatClampNeg) x3.toNatClampNeg).toInt64)) * x4)))) (((((σ.1 (33 + x1.toNatClampNeg) x2.toNatClampNeg).toInt64) * ((σ.1 (33 + x1.toNatClampNeg) x3.toNatClampNeg).toInt64)) * x4) * ((σ.1 (33 + x1.toNatClampNeg) ((0 : Int32)).toNatClampNeg).toInt64)) σ _  h) (kL (fun r102 s102 h => ?_))
  refine V_l2i (pc := 105) dX7_driftBetween_105 ?_
  exact V_iret dX7_driftBetween_106 rfl h
theorem dX7_driftOn_0 : decode cX7_driftOn 0 = .ok (.aload_n 0, 1) := by decide +kernel
theorem dX7_driftOn_1 : decode cX7_driftOn 1 = .ok (.getfield 17, 3) := by decide +kernel
theorem dX7_driftOn_4 : decode cX7_driftOn 4 = .ok (.iload_n 1, 1) := by decide +kernel
theorem dX7_driftOn_5 : decode cX7_driftOn 5 = .ok (.aaload, 1) := by decide +kernel
theorem dX7_driftOn_6 : decode cX7_driftOn 6 = .ok (.astore_n 3, 1) := by decide +kernel
theorem dX7_driftOn_7 : decode cX7_driftOn 7 = .ok (.iconst 0, 1) := by decide +kernel
theorem dX7_driftOn_8 : decode cX7_driftOn 8 = .ok (.istore 4, 2) := by decide +kernel
theorem dX7_driftOn_10 : decode cX7_driftOn 10 = .ok (.iload 4, 2) := by decide +kernel
theorem dX7_driftOn_12 : decode cX7_driftOn 12 = .ok (.aload_n 0, 1) := by decide +kernel
theorem dX7_driftOn_13 : decode cX7_driftOn 13 = .ok (.getfield 9, 3) := by decide +kernel
theorem dX7_driftOn_16 : decode cX7_driftOn 16 = .ok (.iload_n 1, 1) := by decide +kernel
theorem dX7_driftOn_17 : decode cX7_driftOn 17 = .ok (.iaload, 1) := by decide +kernel
theorem dX7_driftOn_18 : decode cX7_driftOn 18 = .ok (.if_icmp .ge 17, 3) := by decide +kernel
theorem dX7_driftOn_21 : decode cX7_driftOn 21 = .ok (.aload_n 3, 1) := by decide +kernel
theorem dX7_driftOn_22 : decode cX7_driftOn 22 = .ok (.iload 4, 2) := by decide +kernel
theorem dX7_driftOn_24 : decode cX7_driftOn 24 = .ok (.iaload, 1) := by decide +kernel
theorem dX7_driftOn_25 : decode cX7_driftOn 25 = .ok (.iload_n 2, 1) := by decide +kernel
theorem dX7_driftOn_26 : decode cX7_driftOn 26 = .ok (.if_icmp .gt 9, 3) := by decide +kernel
theorem dX7_driftOn_29 : decode cX7_driftOn 29 = .ok (.iinc 4 1, 3) := by decide +kernel
theorem dX7_driftOn_32 : decode cX7_driftOn 32 = .ok (.goto (-22), 3) := by decide +kernel
theorem dX7_driftOn_35 : decode cX7_driftOn 35 = .ok (.iload 4, 2) := by decide +kernel
theorem dX7_driftOn_37 : decode cX7_driftOn 37 = .ok (.ifCond .ne 5, 3) := by decide +kernel
theorem dX7_driftOn_40 : decode cX7_driftOn 40 = .ok (.iconst 0, 1) := by decide +kernel
theorem dX7_driftOn_41 : decode cX7_driftOn 41 = .ok (.ireturn, 1) := by decide +kernel
theorem dX7_driftOn_42 : decode cX7_driftOn 42 = .ok (.iload 4, 2) := by decide +kernel
theorem dX7_driftOn_44 : decode cX7_driftOn 44 = .ok (.aload_n 0, 1) := by decide +kernel
theorem dX7_driftOn_45 : decode cX7_driftOn 45 = .ok (.getfield 9, 3) := by decide +kernel
theorem dX7_driftOn_48 : decode cX7_driftOn 48 = .ok (.iload_n 1, 1) := by decide +kernel
theorem dX7_driftOn_49 : decode cX7_driftOn 49 = .ok (.iaload, 1) := by decide +kernel
theorem dX7_driftOn_50 : decode cX7_driftOn 50 = .ok (.if_icmp .ne 19, 3) := by decide +kernel
theorem dX7_driftOn_53 : decode cX7_driftOn 53 = .ok (.aload_n 0, 1) := by decide +kernel
theorem dX7_driftOn_54 : decode cX7_driftOn 54 = .ok (.iload_n 1, 1) := by decide +kernel
theorem dX7_driftOn_55 : decode cX7_driftOn 55 = .ok (.iload 4, 2) := by decide +kernel
theorem dX7_driftOn_57 : decode cX7_driftOn 57 = .ok (.iconst 1, 1) := by decide +kernel
theorem dX7_driftOn_58 : decode cX7_driftOn 58 = .ok (.isub, 1) := by decide +kernel
theorem dX7_driftOn_59 : decode cX7_driftOn 59 = .ok (.iload 4, 2) := by decide +kernel
theorem dX7_driftOn_61 : decode cX7_driftOn 61 = .ok (.iconst 1, 1) := by decide +kernel
theorem dX7_driftOn_62 : decode cX7_driftOn 62 = .ok (.isub, 1) := by decide +kernel
theorem dX7_driftOn_63 : decode cX7_driftOn 63 = .ok (.lconst 1, 1) := by decide +kernel
theorem dX7_driftOn_64 : decode cX7_driftOn 64 = .ok (.lconst 0, 1) := by decide +kernel
theorem dX7_driftOn_65 : decode cX7_driftOn 65 = .ok (.invokevirtual 96, 3) := by decide +kernel
theorem dX7_driftOn_68 : decode cX7_driftOn 68 = .ok (.ireturn, 1) := by decide +kernel
theorem dX7_driftOn_69 : decode cX7_driftOn 69 = .ok (.aload_n 3, 1) := by decide +kernel
theorem dX7_driftOn_70 : decode cX7_driftOn 70 = .ok (.iload 4, 2) := by decide +kernel
theorem dX7_driftOn_72 : decode cX7_driftOn 72 = .ok (.iaload, 1) := by decide +kernel
theorem dX7_driftOn_73 : decode cX7_driftOn 73 = .ok (.aload_n 3, 1) := by decide +kernel
theorem dX7_driftOn_74 : decode cX7_driftOn 74 = .ok (.iload 4, 2) := by decide +kernel
theorem dX7_driftOn_76 : decode cX7_driftOn 76 = .ok (.iconst 1, 1) := by decide +kernel
theorem dX7_driftOn_77 : decode cX7_driftOn 77 = .ok (.isub, 1) := by decide +kernel
theorem dX7_driftOn_78 : decode cX7_driftOn 78 = .ok (.iaload, 1) := by decide +kernel
theorem dX7_driftOn_79 : decode cX7_driftOn 79 = .ok (.isub, 1) := by decide +kernel
theorem dX7_driftOn_80 : decode cX7_driftOn 80 = .ok (.istore 5, 2) := by decide +kernel
theorem dX7_driftOn_82 : decode cX7_driftOn 82 = .ok (.aload_n 0, 1) := by decide +kernel
theorem dX7_driftOn_83 : decode cX7_driftOn 83 = .ok (.iload_n 1, 1) := by decide +kernel
theorem dX7_driftOn_84 : decode cX7_driftOn 84 = .ok (.iload 4, 2) := by decide +kernel
theorem dX7_driftOn_86 : decode cX7_driftOn 86 = .ok (.iconst 1, 1) := by decide +kernel
theorem dX7_driftOn_87 : decode cX7_driftOn 87 = .ok (.isub, 1) := by decide +kernel
theorem dX7_driftOn_88 : decode cX7_driftOn 88 = .ok (.iload 4, 2) := by decide +kernel
theorem dX7_driftOn_90 : decode cX7_driftOn 90 = .ok (.iload 5, 2) := by decide +kernel
theorem dX7_driftOn_92 : decode cX7_driftOn 92 = .ok (.i2l, 1) := by decide +kernel
theorem dX7_driftOn_93 : decode cX7_driftOn 93 = .ok (.iload_n 2, 1) := by decide +kernel
theorem dX7_driftOn_94 : decode cX7_driftOn 94 = .ok (.aload_n 3, 1) := by decide +kernel
theorem dX7_driftOn_95 : decode cX7_driftOn 95 = .ok (.iload 4, 2) := by decide +kernel
theorem dX7_driftOn_97 : decode cX7_driftOn 97 = .ok (.iconst 1, 1) := by decide +kernel
theorem dX7_driftOn_98 : decode cX7_driftOn 98 = .ok (.isub, 1) := by decide +kernel
theorem dX7_driftOn_99 : decode cX7_driftOn 99 = .ok (.iaload, 1) := by decide +kernel
theorem dX7_driftOn_100 : decode cX7_driftOn 100 = .ok (.isub, 1) := by decide +kernel
theorem dX7_driftOn_101 : decode cX7_driftOn 101 = .ok (.i2l, 1) := by decide +kernel
theorem dX7_driftOn_102 : decode cX7_driftOn 102 = .ok (.invokevirtual 96, 3) := by decide +kernel
theorem dX7_driftOn_105 : decode cX7_driftOn 105 = .ok (.ireturn, 1) := by decide +kernel
def wX7_driftOn_10 (post : Int32 → Sto → Prop)  (K35 : Int32 → Int32 → Int32 → Int32 → Sto → Prop) : Nat → Int32 → Int32 → Int32 → Int32 → Sto → Prop
  | 0, _, _, _, _, _ => False
  | n + 1, x1, x2, x3, x4, σ => vp_in x1 4 ∧ ((((σ.1 21 x1.toNatClampNeg) ≤ x4) → (K35 x1 x2 x3 x4 σ)) ∧ ((¬ ((σ.1 21 x1.toNatClampNeg) ≤ x4)) → (vp_in x4 8 ∧ (((x2 < (σ.1 (23 + x3.toNatClampNeg) x4.toNatClampNeg)) → (K35 x1 x2 x3 x4 σ)) ∧ ((¬ (x2 < (σ.1 (23 + x3.toNatClampNeg) x4.toNatClampNeg))) → (wX7_driftOn_10 post  K35 n x1 x2 x3 (x4 + (1 : Int32)) σ))))))
set_option maxRecDepth 100000 in
set_option maxHeartbeats 4000000 in
theorem vX7_driftOn_10 (E : Ev) (post : Int32 → Sto → Prop)   (K35 : Int32 → Int32 → Int32 → Int32 → Sto → Prop) (HK35 : ∀ (x1 : Int32) (x2 : Int32) (x3 : Int32) (x4 : Int32) (σ : Sto) (q3 : vp_in x3 4), K35 x1 x2 x3 x4 σ → V E 3 mX7_driftOn (pI post) 35 [(0, .ref 2), (1, .int x1), (2, .int x2), (3, .ref (23 + x3.toNatClampNeg)), (4, .int x4)] [] σ) : ∀ (n : Nat) (x1 : Int32) (x2 : Int32) (x3 : Int32) (x4 : Int32) (σ : Sto) (q3 : vp_in x3 4), wX7_driftOn_10 post  K35 n x1 x2 x3 x4 σ → V E 3 mX7_driftOn (pI post) 10 [(0, .ref 2), (1, .int x1), (2, .int x2), (3, .ref (23 + x3.toNatClampNeg)), (4, .int x4)] [] σ := by
  intro n
  induction n with
  | zero => intro x1 x2 x3 x4 σ q3 h; exact h.elim
  | succ n ih =>
    intro x1 x2 x3 x4 σ q3 h
    unfold wX7_driftOn_10 at h
    refine V_iload (pc := 10) 4 dX7_driftOn_10 rfl ?_
    refine V_aload_n (pc := 12) 0 dX7_driftOn_12 rfl ?_
    refine V_getR (pc := 13) dX7_driftOn_13 fl_X7_9 sh_2 rfl ?_
    refine V_iload_n (pc := 16) 1 dX7_driftOn_16 rfl ?_
    obtain ⟨i17, h⟩ := h
    refine V_iald (pc := 17) dX7_driftOn_17 sh_21 i17 ?_
    refine V_icmp_ge (pc := 18) (tgt := 35) dX7_driftOn_18 (by decide) (fun hc => ?_) (fun hc => ?_)
    · replace h := h.1 hc
      exact V_loc [0, 1, 2, 3, 4] rfl (HK35 x1 x2 x3 x4 σ q3 h)
    · replace h := h.2 hc
      refine V_aload_n (pc := 21) 3 dX7_driftOn_21 rfl ?_
      refine V_iload (pc := 22) 4 dX7_driftOn_22 rfl ?_
      obtain ⟨i24, h⟩ := h
      refine V_iald (pc := 24) dX7_driftOn_24 (sr_23 (vp_lt q3)) i24 ?_
      refine V_iload_n (pc := 25) 2 dX7_driftOn_25 rfl ?_
      refine V_icmp_gt (pc := 26) (tgt := 35) dX7_driftOn_26 (by decide) (fun hc => ?_) (fun hc => ?_)
      · replace h := h.1 hc
        exact V_loc [0, 1, 2, 3, 4] rfl (HK35 x1 x2 x3 x4 σ q3 h)
      · replace h := h.2 hc
        refine V_iinc (pc := 29) 4 (v := 1) dX7_driftOn_29 rfl (by decide) (by decide) ?_
        refine V_goto (pc := 32) (tgt := 10) dX7_driftOn_32 (by decide) ?_
        exact V_loc [1, 2, 3, 4, 0] rfl (ih x1 x2 x3 (x4 + (1 : Int32)) σ q3 h)
def wX7_driftOn_35 (post : Int32 → Sto → Prop)   (x1 : Int32) (x2 : Int32) (x3 : Int32) (x4 : Int32) (σ : Sto) : Prop := ((¬ x4 = 0) → (vp_in x1 4 ∧ (((¬ x4 = (σ.1 21 x1.toNatClampNeg)) → (vp_in x4 8 ∧ (vp_in (x4 - ((1 : Int32))) 8 ∧ (vp_in (x4 - ((1 : Int32))) 8 ∧ (wX7_driftBetween  x1 (x4 - ((1 : Int32))) x4 (((σ.1 (23 + x3.toNatClampNeg) x4.toNatClampNeg) - (σ.1 (23 + x3.toNatClampNeg) (x4 - ((1 : Int32))).toNatClampNeg)).toInt64) ((x2 - (σ.1 (23 + x3.toNatClampNeg) (x4 - ((1 : Int32))).toNatClampNeg)).toInt64) σ (fun (r102 : Int32) (s102 : Sto) => post r102 s102)))))) ∧ ((x4 = (σ.1 21 x1.toNatClampNeg)) → (wX7_driftBetween  x1 (x4 - ((1 : Int32))) (x4 - ((1 : Int32))) ((1 : Int64)) ((0 : Int64)) σ (fun (r65 : Int32) (s65 : Sto) => post r65 s65)))))) ∧ ((x4 = 0) → (post ((0 : Int32)) σ))
set_option maxRecDepth 100000 in
set_option maxHeartbeats 4000000 in
theorem vX7_driftOn_35 (E : Ev) (post : Int32 → Sto → Prop)     (x1 : Int32) (x2 : Int32) (x3 : Int32) (x4 : Int32) (σ : Sto) (q3 : vp_in x3 4) (h : wX7_driftOn_35 post   x1 x2 x3 x4 σ) : V E 3 mX7_driftOn (pI post) 35 [(0, .ref 2), (1, .int x1), (2, .int x2), (3, .ref (23 + x3.toNatClampNeg)), (4, .int x4)] [] σ := by
  unfold wX7_driftOn_35 at h
  refine V_iload (pc := 35) 4 dX7_driftOn_35 rfl ?_
  refine V_if_ne (pc := 37) (tgt := 42) dX7_driftOn_37 (by decide) (fun hc => ?_) (fun hc => ?_)
  · replace h := h.1 hc
    refine V_iload (pc := 42) 4 dX7_driftOn_42 rfl ?_
    refine V_aload_n (pc := 44) 0 dX7_driftOn_44 rfl ?_
    refine V_getR (pc := 45) dX7_driftOn_45 fl_X7_9 sh_2 rfl ?_
    refine V_iload_n (pc := 48) 1 dX7_driftOn_48 rfl ?_
    obtain ⟨i49, h⟩ := h
    refine V_iald (pc := 49) dX7_driftOn_49 sh_21 i49 ?_
    refine V_icmp_ne (pc := 50) (tgt := 69) dX7_driftOn_50 (by decide) (fun hc => ?_) (fun hc => ?_)
    · replace h := h.1 hc
      refine V_aload_n (pc := 69) 3 dX7_driftOn_69 rfl ?_
      refine V_iload (pc := 70) 4 dX7_driftOn_70 rfl ?_
      obtain ⟨i72, h⟩ := h
      refine V_iald (pc := 72) dX7_driftOn_72 (sr_23 (vp_lt q3)) i72 ?_
      refine V_aload_n (pc := 73) 3 dX7_driftOn_73 rfl ?_
      refine V_iload (pc := 74) 4 dX7_driftOn_74 rfl ?_
      refine V_iconst (pc := 76) (v := 1) dX7_driftOn_76 (by decide) ?_
      refine V_isub (pc := 77) dX7_driftOn_77 ?_
      obtain ⟨i78, h⟩ := h
      refine V_iald (pc := 78) dX7_driftOn_78 (sr_23 (vp_lt q3)) i78 ?_
      refine V_isub (pc := 79) dX7_driftOn_79 ?_
      refine V_istore (pc := 80) dX7_driftOn_80 (by decide) ?_
      refine V_aload_n (pc := 82) 1 dX7_driftOn_82 rfl ?_
      refine V_iload_n (pc := 83) 2 dX7_driftOn_83 rfl ?_
      refine V_iload (pc := 84) 5 dX7_driftOn_84 rfl ?_
      refine V_iconst (pc := 86) (v := 1) dX7_driftOn_86 (by decide) ?_
      refine V_isub (pc := 87) dX7_driftOn_87 ?_
      refine V_iload (pc := 88) 5 dX7_driftOn_88 rfl ?_
      refine V_iload (pc := 90) 0 dX7_driftOn_90 rfl ?_
      refine V_i2l (pc := 92) dX7_driftOn_92 ?_
      refine V_iload_n (pc := 93) 3 dX7_driftOn_93 rfl ?_
      refine V_aload_n (pc := 94) 4 dX7_driftOn_94 rfl ?_
      refine V_iload (pc := 95) 5 dX7_driftOn_95 rfl ?_
      refine V_iconst (pc := 97) (v := 1) dX7_driftOn_97 (by decide) ?_
      refine V_isub (pc := 98) dX7_driftOn_98 ?_
      obtain ⟨i99, h⟩ := h
      refine V_iald (pc := 99) dX7_driftOn_99 (sr_23 (vp_lt q3)) i99 ?_
      refine V_isub (pc := 100) dX7_driftOn_100 ?_
      refine V_i2l (pc := 101) dX7_driftOn_101 ?_
      refine V_callV (pc := 102) (M' := mX7_driftBetween) dX7_driftOn_102 ml_X7_96 kv_X7_driftBetween ko_X7_driftBetween sh_2 (by decide) (by decide) rfl rfl (Nat.le_of_ble_eq_true rfl) (Nat.le_of_ble_eq_true rfl) (vX7_driftBetween E  x1 (x4 - ((1 : Int32))) x4 (((σ.1 (23 + x3.toNatClampNeg) x4.toNatClampNeg) - (σ.1 (23 + x3.toNatClampNeg) (x4 - ((1 : Int32))).toNatClampNeg)).toInt64) ((x2 - (σ.1 (23 + x3.toNatClampNeg) (x4 - ((1 : Int32))).toNatClampNeg)).toInt64) σ _  h) (kI (fun r102 s102 h => ?_))
      exact V_iret dX7_driftOn_105 rfl h
    · replace h := h.2 hc
      refine V_aload_n (pc := 53) 0 dX7_driftOn_53 rfl ?_
      refine V_iload_n (pc := 54) 1 dX7_driftOn_54 rfl ?_
      refine V_iload (pc := 55) 4 dX7_driftOn_55 rfl ?_
      refine V_iconst (pc := 57) (v := 1) dX7_driftOn_57 (by decide) ?_
      refine V_isub (pc := 58) dX7_driftOn_58 ?_
      refine V_iload (pc := 59) 4 dX7_driftOn_59 rfl ?_
      refine V_iconst (pc := 61) (v := 1) dX7_driftOn_61 (by decide) ?_
      refine V_isub (pc := 62) dX7_driftOn_62 ?_
      refine V_lconst (pc := 63) (v := 1) dX7_driftOn_63 (by decide) ?_
      refine V_lconst (pc := 64) (v := 0) dX7_driftOn_64 (by decide) ?_
      refine V_callV (pc := 65) (M' := mX7_driftBetween) dX7_driftOn_65 ml_X7_96 kv_X7_driftBetween ko_X7_driftBetween sh_2 (by decide) (by decide) rfl rfl (Nat.le_of_ble_eq_true rfl) (Nat.le_of_ble_eq_true rfl) (vX7_driftBetween E  x1 (x4 - ((1 : Int32))) (x4 - ((1 : Int32))) ((1 : Int64)) ((0 : Int64)) σ _  h) (kI (fun r65 s65 h => ?_))
      exact V_iret dX7_driftOn_68 rfl h
  · replace h := h.2 hc
    refine V_iconst (pc := 40) (v := 0) dX7_driftOn_40 (by decide) ?_
    exact V_iret dX7_driftOn_41 rfl h
def wX7_driftOn  (x1 : Int32) (x2 : Int32) (σ : Sto) (post : Int32 → Sto → Prop) : Prop := vp_in x1 4 ∧ (∃ n10, wX7_driftOn_10 post  (fun (x1_1 : Int32) (x2_1 : Int32) (x3_1 : Int32) (x4_1 : Int32) (σ_1 : Sto) => wX7_driftOn_35 post   x1_1 x2_1 x3_1 x4_1 σ_1) n10 x1 x2 x1 ((0 : Int32)) σ)
set_option maxRecDepth 100000 in
set_option maxHeartbeats 4000000 in
theorem vX7_driftOn (E : Ev)  (x1 : Int32) (x2 : Int32) (σ : Sto) (post : Int32 → Sto → Prop)  (h : wX7_driftOn  x1 x2 σ post) : V E 3 mX7_driftOn (pI post) 0 [(0, .ref 2), (1, .int x1), (2, .int x2)] [] σ := by
  unfold wX7_driftOn at h
  refine V_aload_n (pc := 0) 0 dX7_driftOn_0 rfl ?_
  refine V_getR (pc := 1) dX7_driftOn_1 fl_X7_17 sh_2 rfl ?_
  refine V_iload_n (pc := 4) 1 dX7_driftOn_4 rfl ?_
  obtain ⟨i5, h⟩ := h
  refine V_aald (pc := 5) dX7_driftOn_5 sh_22 i5 ?_
  refine V_astore_n (pc := 6) dX7_driftOn_6 (by decide) ?_
  refine V_iconst (pc := 7) (v := 0) dX7_driftOn_7 (by decide) ?_
  refine V_istore (pc := 8) dX7_driftOn_8 (by decide) ?_
  obtain ⟨n10, h⟩ := h
  refine V_loc [2, 3, 4, 1, 0] rfl (vX7_driftOn_10 E post   _ (fun x1_1 x2_1 x3_1 x4_1 σ_1 q3_1 h => ?_) n10 x1 x2 x1 ((0 : Int32)) σ i5 h)
  · refine V_loc [0, 1, 2, 3, 4] rfl (vX7_driftOn_35 E post     x1_1 x2_1 x3_1 x4_1 σ_1 q3_1 h)
theorem dX7_renew_0 : decode cX7_renew 0 = .ok (.aload_n 0, 1) := by decide +kernel
theorem dX7_renew_1 : decode cX7_renew 1 = .ok (.iload_n 1, 1) := by decide +kernel
theorem dX7_renew_2 : decode cX7_renew 2 = .ok (.invokevirtual 53, 3) := by decide +kernel
theorem dX7_renew_5 : decode cX7_renew 5 = .ok (.aload_n 0, 1) := by decide +kernel
theorem dX7_renew_6 : decode cX7_renew 6 = .ok (.getfield 33, 3) := by decide +kernel
theorem dX7_renew_9 : decode cX7_renew 9 = .ok (.iload_n 1, 1) := by decide +kernel
theorem dX7_renew_10 : decode cX7_renew 10 = .ok (.aaload, 1) := by decide +kernel
theorem dX7_renew_11 : decode cX7_renew 11 = .ok (.astore_n 2, 1) := by decide +kernel
theorem dX7_renew_12 : decode cX7_renew 12 = .ok (.aload_n 2, 1) := by decide +kernel
theorem dX7_renew_13 : decode cX7_renew 13 = .ok (.iconst 0, 1) := by decide +kernel
theorem dX7_renew_14 : decode cX7_renew 14 = .ok (.invokestatic 57, 3) := by decide +kernel
theorem dX7_renew_17 : decode cX7_renew 17 = .ok (.aload_n 0, 1) := by decide +kernel
theorem dX7_renew_18 : decode cX7_renew 18 = .ok (.getfield 26, 3) := by decide +kernel
theorem dX7_renew_21 : decode cX7_renew 21 = .ok (.lconst 0, 1) := by decide +kernel
theorem dX7_renew_22 : decode cX7_renew 22 = .ok (.invokestatic 63, 3) := by decide +kernel
theorem dX7_renew_25 : decode cX7_renew 25 = .ok (.iconst 0, 1) := by decide +kernel
theorem dX7_renew_26 : decode cX7_renew 26 = .ok (.istore_n 3, 1) := by decide +kernel
theorem dX7_renew_27 : decode cX7_renew 27 = .ok (.iload_n 3, 1) := by decide +kernel
theorem dX7_renew_28 : decode cX7_renew 28 = .ok (.aload_n 0, 1) := by decide +kernel
theorem dX7_renew_29 : decode cX7_renew 29 = .ok (.getfield 39, 3) := by decide +kernel
theorem dX7_renew_32 : decode cX7_renew 32 = .ok (.getfield 66, 3) := by decide +kernel
theorem dX7_renew_35 : decode cX7_renew 35 = .ok (.if_icmp .ge 94, 3) := by decide +kernel
theorem dX7_renew_38 : decode cX7_renew 38 = .ok (.aload_n 0, 1) := by decide +kernel
theorem dX7_renew_39 : decode cX7_renew 39 = .ok (.getfield 39, 3) := by decide +kernel
theorem dX7_renew_42 : decode cX7_renew 42 = .ok (.iload_n 3, 1) := by decide +kernel
theorem dX7_renew_43 : decode cX7_renew 43 = .ok (.iload_n 1, 1) := by decide +kernel
theorem dX7_renew_44 : decode cX7_renew 44 = .ok (.invokevirtual 69, 3) := by decide +kernel
theorem dX7_renew_47 : decode cX7_renew 47 = .ok (.ifCond .eq 76, 3) := by decide +kernel
theorem dX7_renew_50 : decode cX7_renew 50 = .ok (.aload_n 0, 1) := by decide +kernel
theorem dX7_renew_51 : decode cX7_renew 51 = .ok (.getfield 30, 3) := by decide +kernel
theorem dX7_renew_54 : decode cX7_renew 54 = .ok (.iload_n 3, 1) := by decide +kernel
theorem dX7_renew_55 : decode cX7_renew 55 = .ok (.sipush 1000, 3) := by decide +kernel
theorem dX7_renew_58 : decode cX7_renew 58 = .ok (.aload_n 0, 1) := by decide +kernel
theorem dX7_renew_59 : decode cX7_renew 59 = .ok (.getfield 39, 3) := by decide +kernel
theorem dX7_renew_62 : decode cX7_renew 62 = .ok (.getfield 72, 3) := by decide +kernel
theorem dX7_renew_65 : decode cX7_renew 65 = .ok (.iload_n 3, 1) := by decide +kernel
theorem dX7_renew_66 : decode cX7_renew 66 = .ok (.iaload, 1) := by decide +kernel
theorem dX7_renew_67 : decode cX7_renew 67 = .ok (.imul, 1) := by decide +kernel
theorem dX7_renew_68 : decode cX7_renew 68 = .ok (.aload_n 0, 1) := by decide +kernel
theorem dX7_renew_69 : decode cX7_renew 69 = .ok (.iload_n 1, 1) := by decide +kernel
theorem dX7_renew_70 : decode cX7_renew 70 = .ok (.aload_n 0, 1) := by decide +kernel
theorem dX7_renew_71 : decode cX7_renew 71 = .ok (.getfield 39, 3) := by decide +kernel
theorem dX7_renew_74 : decode cX7_renew 74 = .ok (.getfield 75, 3) := by decide +kernel
theorem dX7_renew_77 : decode cX7_renew 77 = .ok (.iload_n 3, 1) := by decide +kernel
theorem dX7_renew_78 : decode cX7_renew 78 = .ok (.iaload, 1) := by decide +kernel
theorem dX7_renew_79 : decode cX7_renew 79 = .ok (.invokevirtual 78, 3) := by decide +kernel
theorem dX7_renew_82 : decode cX7_renew 82 = .ok (.isub, 1) := by decide +kernel
theorem dX7_renew_83 : decode cX7_renew 83 = .ok (.iastore, 1) := by decide +kernel
theorem dX7_renew_84 : decode cX7_renew 84 = .ok (.aload_n 0, 1) := by decide +kernel
theorem dX7_renew_85 : decode cX7_renew 85 = .ok (.getfield 26, 3) := by decide +kernel
theorem dX7_renew_88 : decode cX7_renew 88 = .ok (.aload_n 0, 1) := by decide +kernel
theorem dX7_renew_89 : decode cX7_renew 89 = .ok (.getfield 39, 3) := by decide +kernel
theorem dX7_renew_92 : decode cX7_renew 92 = .ok (.getfield 82, 3) := by decide +kernel
theorem dX7_renew_95 : decode cX7_renew 95 = .ok (.iload_n 3, 1) := by decide +kernel
theorem dX7_renew_96 : decode cX7_renew 96 = .ok (.iaload, 1) := by decide +kernel
theorem dX7_renew_97 : decode cX7_renew 97 = .ok (.dup2, 1) := by decide +kernel
theorem dX7_renew_98 : decode cX7_renew 98 = .ok (.laload, 1) := by decide +kernel
theorem dX7_renew_99 : decode cX7_renew 99 = .ok (.aload_n 0, 1) := by decide +kernel
theorem dX7_renew_100 : decode cX7_renew 100 = .ok (.getfield 30, 3) := by decide +kernel
theorem dX7_renew_103 : decode cX7_renew 103 = .ok (.iload_n 3, 1) := by decide +kernel
theorem dX7_renew_104 : decode cX7_renew 104 = .ok (.iaload, 1) := by decide +kernel
theorem dX7_renew_105 : decode cX7_renew 105 = .ok (.i2l, 1) := by decide +kernel
theorem dX7_renew_106 : decode cX7_renew 106 = .ok (.ladd, 1) := by decide +kernel
theorem dX7_renew_107 : decode cX7_renew 107 = .ok (.lastore, 1) := by decide +kernel
theorem dX7_renew_108 : decode cX7_renew 108 = .ok (.aload_n 2, 1) := by decide +kernel
theorem dX7_renew_109 : decode cX7_renew 109 = .ok (.aload_n 0, 1) := by decide +kernel
theorem dX7_renew_110 : decode cX7_renew 110 = .ok (.getfield 39, 3) := by decide +kernel
theorem dX7_renew_113 : decode cX7_renew 113 = .ok (.getfield 82, 3) := by decide +kernel
theorem dX7_renew_116 : decode cX7_renew 116 = .ok (.iload_n 3, 1) := by decide +kernel
theorem dX7_renew_117 : decode cX7_renew 117 = .ok (.iaload, 1) := by decide +kernel
theorem dX7_renew_118 : decode cX7_renew 118 = .ok (.dup2, 1) := by decide +kernel
theorem dX7_renew_119 : decode cX7_renew 119 = .ok (.iaload, 1) := by decide +kernel
theorem dX7_renew_120 : decode cX7_renew 120 = .ok (.iconst 1, 1) := by decide +kernel
theorem dX7_renew_121 : decode cX7_renew 121 = .ok (.iadd, 1) := by decide +kernel
theorem dX7_renew_122 : decode cX7_renew 122 = .ok (.iastore, 1) := by decide +kernel
theorem dX7_renew_123 : decode cX7_renew 123 = .ok (.iinc 3 1, 3) := by decide +kernel
theorem dX7_renew_126 : decode cX7_renew 126 = .ok (.goto (-99), 3) := by decide +kernel
theorem dX7_renew_129 : decode cX7_renew 129 = .ok (.iconst 0, 1) := by decide +kernel
theorem dX7_renew_130 : decode cX7_renew 130 = .ok (.istore_n 3, 1) := by decide +kernel
theorem dX7_renew_131 : decode cX7_renew 131 = .ok (.iload_n 3, 1) := by decide +kernel
theorem dX7_renew_132 : decode cX7_renew 132 = .ok (.bipush 14, 2) := by decide +kernel
theorem dX7_renew_134 : decode cX7_renew 134 = .ok (.if_icmp .ge 31, 3) := by decide +kernel
theorem dX7_renew_137 : decode cX7_renew 137 = .ok (.aload_n 0, 1) := by decide +kernel
theorem dX7_renew_138 : decode cX7_renew 138 = .ok (.getfield 36, 3) := by decide +kernel
theorem dX7_renew_141 : decode cX7_renew 141 = .ok (.iload_n 1, 1) := by decide +kernel
theorem dX7_renew_142 : decode cX7_renew 142 = .ok (.aaload, 1) := by decide +kernel
theorem dX7_renew_143 : decode cX7_renew 143 = .ok (.iload_n 3, 1) := by decide +kernel
theorem dX7_renew_144 : decode cX7_renew 144 = .ok (.aload_n 0, 1) := by decide +kernel
theorem dX7_renew_145 : decode cX7_renew 145 = .ok (.getfield 26, 3) := by decide +kernel
theorem dX7_renew_148 : decode cX7_renew 148 = .ok (.iload_n 3, 1) := by decide +kernel
theorem dX7_renew_149 : decode cX7_renew 149 = .ok (.laload, 1) := by decide +kernel
theorem dX7_renew_150 : decode cX7_renew 150 = .ok (.aload_n 2, 1) := by decide +kernel
theorem dX7_renew_151 : decode cX7_renew 151 = .ok (.iload_n 3, 1) := by decide +kernel
theorem dX7_renew_152 : decode cX7_renew 152 = .ok (.iaload, 1) := by decide +kernel
theorem dX7_renew_153 : decode cX7_renew 153 = .ok (.i2l, 1) := by decide +kernel
theorem dX7_renew_154 : decode cX7_renew 154 = .ok (.invokestatic 85, 3) := by decide +kernel
theorem dX7_renew_157 : decode cX7_renew 157 = .ok (.l2i, 1) := by decide +kernel
theorem dX7_renew_158 : decode cX7_renew 158 = .ok (.iastore, 1) := by decide +kernel
theorem dX7_renew_159 : decode cX7_renew 159 = .ok (.iinc 3 1, 3) := by decide +kernel
theorem dX7_renew_162 : decode cX7_renew 162 = .ok (.goto (-31), 3) := by decide +kernel
theorem dX7_renew_165 : decode cX7_renew 165 = .ok (.return_, 1) := by decide +kernel
def wX7_renew_27 (post : Sto → Prop)  (K129 : Int32 → Int32 → Sto → Prop) : Nat → Int32 → Int32 → Int32 → Sto → Prop
  | 0, _, _, _, _ => False
  | n + 1, x1, x2, x3, σ => (((σ.1 1 5) ≤ x3) → (K129 x1 x2 σ)) ∧ ((¬ ((σ.1 1 5) ≤ x3)) → (wX1_isKnownOf  x3 x1 σ (fun (r44 : Bool) (s44 : Sto) => ((r44 = false) → (wX7_renew_27 post  K129 n x1 x2 (x3 + (1 : Int32)) s44)) ∧ ((r44 = true) → (vp_in x3 150 ∧ (vp_in x3 150 ∧ (wX7_driftOn  x1 (s44.1 17 x3.toNatClampNeg) s44 (fun (r79 : Int32) (s79 : Sto) => vp_in x3 150 ∧ (vp_in x3 150 ∧ (vp_in (s79.1 15 x3.toNatClampNeg) 14 ∧ (vp_in x3 150 ∧ (vp_in (s79.1 15 x3.toNatClampNeg) 14 ∧ (vp_in x3 150 ∧ (vp_in (s79.1 15 x3.toNatClampNeg) 14 ∧ (vp_in (s79.1 15 x3.toNatClampNeg) 14 ∧ (wX7_renew_27 post  K129 n x1 x2 (x3 + (1 : Int32)) (wI (wL (wI s79 38 x3.toNatClampNeg ((((1000 : Int32)) * (s44.1 18 x3.toNatClampNeg)) - r79)) 37 (s79.1 15 x3.toNatClampNeg).toNatClampNeg ((s79.2 37 (s79.1 15 x3.toNatClampNeg).toNatClampNeg) + (((wI s79 38 x3.toNatClampNeg ((((1000 : Int32)) * (s44.1 18 x3.toNatClampNeg)) - r79)).1 38 x3.toNatClampNeg).toInt64))) (40 + x2.toNatClampNeg) (s79.1 15 x3.toNatClampNeg).toNatClampNeg (((wI s79 38 x3.toNatClampNeg ((((1000 : Int32)) * (s44.1 18 x3.toNatClampNeg)) - r79)).1 (40 + x2.toNatClampNeg) (s79.1 15 x3.toNatClampNeg).toNatClampNeg) + ((1 : Int32))))))))))))))))))))
set_option maxRecDepth 100000 in
set_option maxHeartbeats 4000000 in
theorem vX7_renew_27 (E : Ev) (post : Sto → Prop)   (K129 : Int32 → Int32 → Sto → Prop) (HK129 : ∀ (x1 : Int32) (x2 : Int32) (σ : Sto) (q2 : vp_in x2 4), K129 x1 x2 σ → V E 4 mX7_renew (pV post) 129 [(0, .ref 2), (1, .int x1), (2, .ref (40 + x2.toNatClampNeg))] [] σ) : ∀ (n : Nat) (x1 : Int32) (x2 : Int32) (x3 : Int32) (σ : Sto) (q2 : vp_in x2 4), wX7_renew_27 post  K129 n x1 x2 x3 σ → V E 4 mX7_renew (pV post) 27 [(0, .ref 2), (1, .int x1), (2, .ref (40 + x2.toNatClampNeg)), (3, .int x3)] [] σ := by
  intro n
  induction n with
  | zero => intro x1 x2 x3 σ q2 h; exact h.elim
  | succ n ih =>
    intro x1 x2 x3 σ q2 h
    unfold wX7_renew_27 at h
    refine V_iload_n (pc := 27) 3 dX7_renew_27 rfl ?_
    refine V_aload_n (pc := 28) 0 dX7_renew_28 rfl ?_
    refine V_getR (pc := 29) dX7_renew_29 fl_X7_39 sh_2 rfl ?_
    refine V_getI (pc := 32) dX7_renew_32 fl_X7_66 sh_1 rfl ?_
    refine V_icmp_ge (pc := 35) (tgt := 129) dX7_renew_35 (by decide) (fun hc => ?_) (fun hc => ?_)
    · replace h := h.1 hc
      exact V_loc [0, 1, 2] rfl (HK129 x1 x2 σ q2 h)
    · replace h := h.2 hc
      refine V_aload_n (pc := 38) 0 dX7_renew_38 rfl ?_
      refine V_getR (pc := 39) dX7_renew_39 fl_X7_39 sh_2 rfl ?_
      refine V_iload_n (pc := 42) 3 dX7_renew_42 rfl ?_
      refine V_iload_n (pc := 43) 1 dX7_renew_43 rfl ?_
      refine V_callV (pc := 44) (M' := mX1_isKnownOf) dX7_renew_44 ml_X7_69 kv_X1_isKnownOf ko_X1_isKnownOf sh_1 (by decide) (by decide) rfl rfl (Nat.le_of_ble_eq_true rfl) (Nat.le_of_ble_eq_true rfl) (vX1_isKnownOf E  x3 x1 σ _  h) (kB (fun r44 s44 h => ?_))
      refine V_ifz (pc := 47) (tgt := 123) dX7_renew_47 (by decide) (fun hc => ?_) (fun hc => ?_)
      · replace h := h.1 hc
        refine V_iinc (pc := 123) 3 (v := 1) dX7_renew_123 rfl (by decide) (by decide) ?_
        refine V_goto (pc := 126) (tgt := 27) dX7_renew_126 (by decide) ?_
        exact V_loc [1, 2, 3, 0] rfl (ih x1 x2 (x3 + (1 : Int32)) s44 q2 h)
      · replace h := h.2 hc
        refine V_aload_n (pc := 50) 0 dX7_renew_50 rfl ?_
        refine V_getR (pc := 51) dX7_renew_51 fl_X7_30 sh_2 rfl ?_
        refine V_iload_n (pc := 54) 3 dX7_renew_54 rfl ?_
        refine V_sipush (pc := 55) (v := 1000) dX7_renew_55 (by decide) ?_
        refine V_aload_n (pc := 58) 0 dX7_renew_58 rfl ?_
        refine V_getR (pc := 59) dX7_renew_59 fl_X7_39 sh_2 rfl ?_
        refine V_getR (pc := 62) dX7_renew_62 fl_X7_72 sh_1 rfl ?_
        refine V_iload_n (pc := 65) 3 dX7_renew_65 rfl ?_
        obtain ⟨i66, h⟩ := h
        refine V_iald (pc := 66) dX7_renew_66 sh_18 i66 ?_
        refine V_imul (pc := 67) dX7_renew_67 ?_
        refine V_aload_n (pc := 68) 0 dX7_renew_68 rfl ?_
        refine V_iload_n (pc := 69) 1 dX7_renew_69 rfl ?_
        refine V_aload_n (pc := 70) 0 dX7_renew_70 rfl ?_
        refine V_getR (pc := 71) dX7_renew_71 fl_X7_39 sh_2 rfl ?_
        refine V_getR (pc := 74) dX7_renew_74 fl_X7_75 sh_1 rfl ?_
        refine V_iload_n (pc := 77) 3 dX7_renew_77 rfl ?_
        obtain ⟨i78, h⟩ := h
        refine V_iald (pc := 78) dX7_renew_78 sh_17 i78 ?_
        refine V_callV (pc := 79) (M' := mX7_driftOn) dX7_renew_79 ml_X7_78 kv_X7_driftOn ko_X7_driftOn sh_2 (by decide) (by decide) rfl rfl (Nat.le_of_ble_eq_true rfl) (Nat.le_of_ble_eq_true rfl) (vX7_driftOn E  x1 (s44.1 17 x3.toNatClampNeg) s44 _  h) (kI (fun r79 s79 h => ?_))
        refine V_isub (pc := 82) dX7_renew_82 ?_
        obtain ⟨i83, h⟩ := h
        refine V_iast (pc := 83) dX7_renew_83 sh_38 i83 ?_
        refine V_aload_n (pc := 84) 0 dX7_renew_84 rfl ?_
        refine V_getR (pc := 85) dX7_renew_85 fl_X7_26 sh_2 rfl ?_
        refine V_aload_n (pc := 88) 0 dX7_renew_88 rfl ?_
        refine V_getR (pc := 89) dX7_renew_89 fl_X7_39 sh_2 rfl ?_
        refine V_getR (pc := 92) dX7_renew_92 fl_X7_82 sh_1 rfl ?_
        refine V_iload_n (pc := 95) 3 dX7_renew_95 rfl ?_
        obtain ⟨i96, h⟩ := h
        refine V_iald (pc := 96) dX7_renew_96 sh_15 i96 ?_
        refine V_dup2_11 (pc := 97) dX7_renew_97 rfl rfl ?_
        obtain ⟨i98, h⟩ := h
        refine V_lald (pc := 98) dX7_renew_98 sh_37 i98 ?_
        refine V_aload_n (pc := 99) 0 dX7_renew_99 rfl ?_
        refine V_getR (pc := 100) dX7_renew_100 fl_X7_30 sh_2 rfl ?_
        refine V_iload_n (pc := 103) 3 dX7_renew_103 rfl ?_
        obtain ⟨i104, h⟩ := h
        refine V_iald (pc := 104) dX7_renew_104 sh_38 i104 ?_
        refine V_i2l (pc := 105) dX7_renew_105 ?_
        refine V_ladd (pc := 106) dX7_renew_106 ?_
        obtain ⟨i107, h⟩ := h
        refine V_last (pc := 107) dX7_renew_107 sh_37 i107 ?_
        refine V_aload_n (pc := 108) 2 dX7_renew_108 rfl ?_
        refine V_aload_n (pc := 109) 0 dX7_renew_109 rfl ?_
        refine V_getR (pc := 110) dX7_renew_110 fl_X7_39 sh_2 rfl ?_
        refine V_getR (pc := 113) dX7_renew_113 fl_X7_82 sh_1 rfl ?_
        refine V_iload_n (pc := 116) 3 dX7_renew_116 rfl ?_
        obtain ⟨i117, h⟩ := h
        refine V_iald (pc := 117) dX7_renew_117 sh_15 i117 ?_
        refine V_dup2_11 (pc := 118) dX7_renew_118 rfl rfl ?_
        obtain ⟨i119, h⟩ := h
        refine V_iald (pc := 119) dX7_renew_119 (sr_40 (vp_lt q2)) i119 ?_
        refine V_iconst (pc := 120) (v := 1) dX7_renew_120 (by decide) ?_
        refine V_iadd (pc := 121) dX7_renew_121 ?_
        obtain ⟨i122, h⟩ := h
        refine V_iast (pc := 122) dX7_renew_122 (sr_40 (vp_lt q2)) i122 ?_
        refine V_iinc (pc := 123) 3 (v := 1) dX7_renew_123 rfl (by decide) (by decide) ?_
        refine V_goto (pc := 126) (tgt := 27) dX7_renew_126 (by decide) ?_
        exact V_loc [1, 2, 3, 0] rfl (ih x1 x2 (x3 + (1 : Int32)) (wI (wL (wI s79 38 x3.toNatClampNeg ((((1000 : Int32)) * (s44.1 18 x3.toNatClampNeg)) - r79)) 37 (s79.1 15 x3.toNatClampNeg).toNatClampNeg ((s79.2 37 (s79.1 15 x3.toNatClampNeg).toNatClampNeg) + (((wI s79 38 x3.toNatClampNeg ((((1000 : Int32)) * (s44.1 18 x3.toNatClampNeg)) - r79)).1 38 x3.toNatClampNeg).toInt64))) (40 + x2.toNatClampNeg) (s79.1 15 x3.toNatClampNeg).toNatClampNeg (((wI s79 38 x3.toNatClampNeg ((((1000 : Int32)) * (s44.1 18 x3.toNatClampNeg)) - r79)).1 (40 + x2.toNatClampNeg) (s79.1 15 x3.toNatClampNeg).toNatClampNeg) + ((1 : Int32)))) q2 h)
def wX7_renew_131 (post : Sto → Prop)  (K165 : Sto → Prop) : Nat → Int32 → Int32 → Int32 → Sto → Prop
  | 0, _, _, _, _ => False
  | n + 1, x1, x2, x3, σ => ((((14 : Int32)) ≤ x3) → (K165  σ)) ∧ ((¬ (((14 : Int32)) ≤ x3)) → (vp_in x1 4 ∧ (vp_in x3 14 ∧ (vp_in x3 14 ∧ (wX10_nearest  (σ.2 37 x3.toNatClampNeg) ((σ.1 (40 + x2.toNatClampNeg) x3.toNatClampNeg).toInt64) σ (fun (r154 : Int64) (s154 : Sto) => vp_in x3 14 ∧ (wX7_renew_131 post  K165 n x1 x2 (x3 + (1 : Int32)) (wI s154 (45 + x1.toNatClampNeg) x3.toNatClampNeg r154.toInt32))))))))
set_option maxRecDepth 100000 in
set_option maxHeartbeats 4000000 in
theorem vX7_renew_131 (E : Ev) (post : Sto → Prop)   (K165 : Sto → Prop) (HK165 : ∀  (σ : Sto), K165  σ → V E 4 mX7_renew (pV post) 165 [] [] σ) : ∀ (n : Nat) (x1 : Int32) (x2 : Int32) (x3 : Int32) (σ : Sto) (q2 : vp_in x2 4), wX7_renew_131 post  K165 n x1 x2 x3 σ → V E 4 mX7_renew (pV post) 131 [(0, .ref 2), (1, .int x1), (2, .ref (40 + x2.toNatClampNeg)), (3, .int x3)] [] σ := by
  intro n
  induction n with
  | zero => intro x1 x2 x3 σ q2 h; exact h.elim
  | succ n ih =>
    intro x1 x2 x3 σ q2 h
    unfold wX7_renew_131 at h
    refine V_iload_n (pc := 131) 3 dX7_renew_131 rfl ?_
    refine V_bipush (pc := 132) (v := 14) dX7_renew_132 (by decide) ?_
    refine V_icmp_ge (pc := 134) (tgt := 165) dX7_renew_134 (by decide) (fun hc => ?_) (fun hc => ?_)
    · replace h := h.1 hc
      exact V_loc [] rfl (HK165  σ  h)
    · replace h := h.2 hc
      refine V_aload_n (pc := 137) 0 dX7_renew_137 rfl ?_
      refine V_getR (pc := 138) dX7_renew_138 fl_X7_36 sh_2 rfl ?_
      refine V_iload_n (pc := 141) 1 dX7_renew_141 rfl ?_
      obtain ⟨i142, h⟩ := h
      refine V_aald (pc := 142) dX7_renew_142 sh_44 i142 ?_
      refine V_iload_n (pc := 143) 3 dX7_renew_143 rfl ?_
      refine V_aload_n (pc := 144) 0 dX7_renew_144 rfl ?_
      refine V_getR (pc := 145) dX7_renew_145 fl_X7_26 sh_2 rfl ?_
      refine V_iload_n (pc := 148) 3 dX7_renew_148 rfl ?_
      obtain ⟨i149, h⟩ := h
      refine V_lald (pc := 149) dX7_renew_149 sh_37 i149 ?_
      refine V_aload_n (pc := 150) 2 dX7_renew_150 rfl ?_
      refine V_iload_n (pc := 151) 3 dX7_renew_151 rfl ?_
      obtain ⟨i152, h⟩ := h
      refine V_iald (pc := 152) dX7_renew_152 (sr_40 (vp_lt q2)) i152 ?_
      refine V_i2l (pc := 153) dX7_renew_153 ?_
      refine V_callN (pc := 154) (M' := mX10_nearest) dX7_renew_154 mn_X7_85 ks_X10_nearest ko_X10_nearest (by decide) rfl (Nat.le_of_ble_eq_true rfl) (Nat.le_of_ble_eq_true rfl) (vX10_nearest E  (σ.2 37 x3.toNatClampNeg) ((σ.1 (40 + x2.toNatClampNeg) x3.toNatClampNeg).toInt64) σ _  h) (kL (fun r154 s154 h => ?_))
      refine V_l2i (pc := 157) dX7_renew_157 ?_
      obtain ⟨i158, h⟩ := h
      refine V_iast (pc := 158) dX7_renew_158 (sr_45 (vp_lt i142)) i158 ?_
      refine V_iinc (pc := 159) 3 (v := 1) dX7_renew_159 rfl (by decide) (by decide) ?_
      refine V_goto (pc := 162) (tgt := 131) dX7_renew_162 (by decide) ?_
      exact V_loc [1, 2, 3, 0] rfl (ih x1 x2 (x3 + (1 : Int32)) (wI s154 (45 + x1.toNatClampNeg) x3.toNatClampNeg r154.toInt32) q2 h)
def wX7_renew  (x1 : Int32) (σ : Sto) (post : Sto → Prop) : Prop := wX7_findPoints  x1 σ (fun (s2 : Sto) => vp_in x1 4 ∧ (wJ7_fill_53178 (40 + x1.toNatClampNeg) 14 ((0 : Int32)) s2 (fun (s14 : Sto) => wJ7_fill_d0a16 37 14 ((0 : Int64)) s14 (fun (s22 : Sto) => ∃ n27, wX7_renew_27 post  (fun (x1_1 : Int32) (x2_1 : Int32) (σ_1 : Sto) => ∃ n131, wX7_renew_131 post  (fun  (σ_2 : Sto) => post σ_2) n131 x1_1 x2_1 ((0 : Int32)) σ_1) n27 x1 x1 ((0 : Int32)) s22))))
set_option maxRecDepth 100000 in
set_option maxHeartbeats 4000000 in
theorem vX7_renew (E : Ev)  (x1 : Int32) (σ : Sto) (post : Sto → Prop)  (h : wX7_renew  x1 σ post) : V E 4 mX7_renew (pV post) 0 [(0, .ref 2), (1, .int x1)] [] σ := by
  unfold wX7_renew at h
  refine V_aload_n (pc := 0) 0 dX7_renew_0 rfl ?_
  refine V_iload_n (pc := 1) 1 dX7_renew_1 rfl ?_
  refine V_callV (pc := 2) (M' := mX7_findPoints) dX7_renew_2 ml_X7_53 kv_X7_findPoints ko_X7_findPoints sh_2 (by decide) (by decide) rfl rfl (Nat.le_of_ble_eq_true rfl) (Nat.le_of_ble_eq_true rfl) (vX7_findPoints E  x1 σ _  h) (kV (fun s2 h => ?_))
  refine V_aload_n (pc := 5) 0 dX7_renew_5 rfl ?_
  refine V_getR (pc := 6) dX7_renew_6 fl_X7_33 sh_2 rfl ?_
  refine V_iload_n (pc := 9) 1 dX7_renew_9 rfl ?_
  obtain ⟨i10, h⟩ := h
  refine V_aald (pc := 10) dX7_renew_10 sh_39 i10 ?_
  refine V_astore_n (pc := 11) dX7_renew_11 (by decide) ?_
  refine V_aload_n (pc := 12) 0 dX7_renew_12 rfl ?_
  refine V_iconst (pc := 13) (v := 0) dX7_renew_13 (by decide) ?_
  refine V_callS (pc := 14) (M' := mJ7_fill_53178) dX7_renew_14 ml_X7_57 ks_J7_fill_53178 ko_J7_fill_53178 (by decide) rfl (Nat.le_of_ble_eq_true rfl) (Nat.le_of_ble_eq_true rfl) (vJ7_fill_53178 E (40 + x1.toNatClampNeg) 14 ((0 : Int32)) s2 _ (sr_40 (vp_lt i10)) h) (kV (fun s14 h => ?_))
  refine V_aload_n (pc := 17) 1 dX7_renew_17 rfl ?_
  refine V_getR (pc := 18) dX7_renew_18 fl_X7_26 sh_2 rfl ?_
  refine V_lconst (pc := 21) (v := 0) dX7_renew_21 (by decide) ?_
  refine V_callS (pc := 22) (M' := mJ7_fill_d0a16) dX7_renew_22 ml_X7_63 ks_J7_fill_d0a16 ko_J7_fill_d0a16 (by decide) rfl (Nat.le_of_ble_eq_true rfl) (Nat.le_of_ble_eq_true rfl) (vJ7_fill_d0a16 E 37 14 ((0 : Int64)) s14 _ sh_37 h) (kV (fun s22 h => ?_))
  refine V_iconst (pc := 25) (v := 0) dX7_renew_25 (by decide) ?_
  refine V_istore_n (pc := 26) dX7_renew_26 (by decide) ?_
  obtain ⟨n27, h⟩ := h
  refine V_loc [2, 3, 1, 0] rfl (vX7_renew_27 E post   _ (fun x1_1 x2_1 σ_1 q2_1 h => ?_) n27 x1 x1 ((0 : Int32)) s22 i10 h)
  · refine V_iconst (pc := 129) (v := 0) dX7_renew_129 (by decide) ?_
    refine V_istore_n (pc := 130) dX7_renew_130 (by decide) ?_
    obtain ⟨n131, h⟩ := h
    refine V_loc [1, 2, 3, 0] rfl (vX7_renew_131 E post   _ (fun σ_2 h => ?_) n131 x1_1 x2_1 ((0 : Int32)) σ_1 q2_1 h)
    · exact V_vret dX7_renew_165 rfl h

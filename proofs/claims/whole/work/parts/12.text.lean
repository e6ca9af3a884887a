theorem dX4_append_0 : decode cX4_append 0 = .ok (.aload_n 0, 1) := by decide +kernel
theorem dX4_append_1 : decode cX4_append 1 = .ok (.getfield 9, 3) := by decide +kernel
theorem dX4_append_4 : decode cX4_append 4 = .ok (.aload_n 0, 1) := by decide +kernel
theorem dX4_append_5 : decode cX4_append 5 = .ok (.getfield 22, 3) := by decide +kernel
theorem dX4_append_8 : decode cX4_append 8 = .ok (.iload_n 1, 1) := by decide +kernel
theorem dX4_append_9 : decode cX4_append 9 = .ok (.iastore, 1) := by decide +kernel
theorem dX4_append_10 : decode cX4_append 10 = .ok (.aload_n 0, 1) := by decide +kernel
theorem dX4_append_11 : decode cX4_append 11 = .ok (.dup, 1) := by decide +kernel
theorem dX4_append_12 : decode cX4_append 12 = .ok (.getfield 22, 3) := by decide +kernel
theorem dX4_append_15 : decode cX4_append 15 = .ok (.iconst 1, 1) := by decide +kernel
theorem dX4_append_16 : decode cX4_append 16 = .ok (.iadd, 1) := by decide +kernel
theorem dX4_append_17 : decode cX4_append 17 = .ok (.putfield 22, 3) := by decide +kernel
theorem dX4_append_20 : decode cX4_append 20 = .ok (.aload_n 0, 1) := by decide +kernel
theorem dX4_append_21 : decode cX4_append 21 = .ok (.getfield 22, 3) := by decide +kernel
theorem dX4_append_24 : decode cX4_append 24 = .ok (.ireturn, 1) := by decide +kernel
def wX4_append  (x1 : Int32) (σ : Sto) (post : Int32 → Sto → Prop) : Prop := vp_in (σ.1 8 4) 60 ∧ (post ((σ.1 8 4) + ((1 : Int32))) (wI (wI σ 59 (σ.1 8 4).toNatClampNeg x1) 8 4 ((σ.1 8 4) + ((1 : Int32)))))
set_option maxRecDepth 100000 in
set_option maxHeartbeats 4000000 in
theorem vX4_append (E : Ev)  (x1 : Int32) (σ : Sto) (post : Int32 → Sto → Prop)  (h : wX4_append  x1 σ post) : V E 0 mX4_append (pI post) 0 [(0, .ref 8), (1, .int x1)] [] σ := by
  unfold wX4_append at h
  refine V_aload_n (pc := 0) 0 dX4_append_0 rfl ?_
  refine V_getR (pc := 1) dX4_append_1 fl_X4_9 sh_8 rfl ?_
  refine V_aload_n (pc := 4) 0 dX4_append_4 rfl ?_
  refine V_getI (pc := 5) dX4_append_5 fl_X4_22 sh_8 rfl ?_
  refine V_iload_n (pc := 8) 1 dX4_append_8 rfl ?_
  obtain ⟨i9, h⟩ := h
  refine V_iast (pc := 9) dX4_append_9 sh_59 i9 ?_
  refine V_aload_n (pc := 10) 0 dX4_append_10 rfl ?_
  refine V_dup (pc := 11) dX4_append_11 rfl ?_
  refine V_getI (pc := 12) dX4_append_12 fl_X4_22 sh_8 rfl ?_
  refine V_iconst (pc := 15) (v := 1) dX4_append_15 (by decide) ?_
  refine V_iadd (pc := 16) dX4_append_16 ?_
  refine V_putI (pc := 17) dX4_append_17 fl_X4_22 po_X4_4 sh_8 rfl rfl rfl ?_
  refine V_aload_n (pc := 20) 0 dX4_append_20 rfl ?_
  refine V_getI (pc := 21) dX4_append_21 fl_X4_22 sh_8 rfl ?_
  exact V_iret dX4_append_24 rfl h
theorem dX4_nextNumber_0 : decode cX4_nextNumber 0 = .ok (.iconst (-1), 1) := by decide +kernel
theorem dX4_nextNumber_1 : decode cX4_nextNumber 1 = .ok (.istore_n 1, 1) := by decide +kernel
theorem dX4_nextNumber_2 : decode cX4_nextNumber 2 = .ok (.iconst 0, 1) := by decide +kernel
theorem dX4_nextNumber_3 : decode cX4_nextNumber 3 = .ok (.istore_n 2, 1) := by decide +kernel
theorem dX4_nextNumber_4 : decode cX4_nextNumber 4 = .ok (.iload_n 2, 1) := by decide +kernel
theorem dX4_nextNumber_5 : decode cX4_nextNumber 5 = .ok (.iconst 3, 1) := by decide +kernel
theorem dX4_nextNumber_6 : decode cX4_nextNumber 6 = .ok (.if_icmp .ge 82, 3) := by decide +kernel
theorem dX4_nextNumber_9 : decode cX4_nextNumber 9 = .ok (.aload_n 0, 1) := by decide +kernel
theorem dX4_nextNumber_10 : decode cX4_nextNumber 10 = .ok (.getfield 26, 3) := by decide +kernel
theorem dX4_nextNumber_13 : decode cX4_nextNumber 13 = .ok (.aload_n 0, 1) := by decide +kernel
theorem dX4_nextNumber_14 : decode cX4_nextNumber 14 = .ok (.getfield 22, 3) := by decide +kernel
theorem dX4_nextNumber_17 : decode cX4_nextNumber 17 = .ok (.if_icmp .ge 31, 3) := by decide +kernel
theorem dX4_nextNumber_20 : decode cX4_nextNumber 20 = .ok (.aload_n 0, 1) := by decide +kernel
theorem dX4_nextNumber_21 : decode cX4_nextNumber 21 = .ok (.getfield 9, 3) := by decide +kernel
theorem dX4_nextNumber_24 : decode cX4_nextNumber 24 = .ok (.aload_n 0, 1) := by decide +kernel
theorem dX4_nextNumber_25 : decode cX4_nextNumber 25 = .ok (.getfield 26, 3) := by decide +kernel
theorem dX4_nextNumber_28 : decode cX4_nextNumber 28 = .ok (.iaload, 1) := by decide +kernel
theorem dX4_nextNumber_29 : decode cX4_nextNumber 29 = .ok (.bipush 48, 2) := by decide +kernel
theorem dX4_nextNumber_31 : decode cX4_nextNumber 31 = .ok (.if_icmp .lt 17, 3) := by decide +kernel
theorem dX4_nextNumber_34 : decode cX4_nextNumber 34 = .ok (.aload_n 0, 1) := by decide +kernel
theorem dX4_nextNumber_35 : decode cX4_nextNumber 35 = .ok (.getfield 9, 3) := by decide +kernel
theorem dX4_nextNumber_38 : decode cX4_nextNumber 38 = .ok (.aload_n 0, 1) := by decide +kernel
theorem dX4_nextNumber_39 : decode cX4_nextNumber 39 = .ok (.getfield 26, 3) := by decide +kernel
theorem dX4_nextNumber_42 : decode cX4_nextNumber 42 = .ok (.iaload, 1) := by decide +kernel
theorem dX4_nextNumber_43 : decode cX4_nextNumber 43 = .ok (.bipush 57, 2) := by decide +kernel
theorem dX4_nextNumber_45 : decode cX4_nextNumber 45 = .ok (.if_icmp .le 5, 3) := by decide +kernel
theorem dX4_nextNumber_48 : decode cX4_nextNumber 48 = .ok (.iload_n 1, 1) := by decide +kernel
theorem dX4_nextNumber_49 : decode cX4_nextNumber 49 = .ok (.ireturn, 1) := by decide +kernel
theorem dX4_nextNumber_50 : decode cX4_nextNumber 50 = .ok (.iload_n 1, 1) := by decide +kernel
theorem dX4_nextNumber_51 : decode cX4_nextNumber 51 = .ok (.iconst 0, 1) := by decide +kernel
theorem dX4_nextNumber_52 : decode cX4_nextNumber 52 = .ok (.invokestatic 56, 3) := by decide +kernel
theorem dX4_nextNumber_55 : decode cX4_nextNumber 55 = .ok (.bipush 10, 2) := by decide +kernel
theorem dX4_nextNumber_57 : decode cX4_nextNumber 57 = .ok (.imul, 1) := by decide +kernel
theorem dX4_nextNumber_58 : decode cX4_nextNumber 58 = .ok (.aload_n 0, 1) := by decide +kernel
theorem dX4_nextNumber_59 : decode cX4_nextNumber 59 = .ok (.getfield 9, 3) := by decide +kernel
theorem dX4_nextNumber_62 : decode cX4_nextNumber 62 = .ok (.aload_n 0, 1) := by decide +kernel
theorem dX4_nextNumber_63 : decode cX4_nextNumber 63 = .ok (.getfield 26, 3) := by decide +kernel
theorem dX4_nextNumber_66 : decode cX4_nextNumber 66 = .ok (.iaload, 1) := by decide +kernel
theorem dX4_nextNumber_67 : decode cX4_nextNumber 67 = .ok (.iadd, 1) := by decide +kernel
theorem dX4_nextNumber_68 : decode cX4_nextNumber 68 = .ok (.bipush 48, 2) := by decide +kernel
theorem dX4_nextNumber_70 : decode cX4_nextNumber 70 = .ok (.isub, 1) := by decide +kernel
theorem dX4_nextNumber_71 : decode cX4_nextNumber 71 = .ok (.istore_n 1, 1) := by decide +kernel
theorem dX4_nextNumber_72 : decode cX4_nextNumber 72 = .ok (.aload_n 0, 1) := by decide +kernel
theorem dX4_nextNumber_73 : decode cX4_nextNumber 73 = .ok (.dup, 1) := by decide +kernel
theorem dX4_nextNumber_74 : decode cX4_nextNumber 74 = .ok (.getfield 26, 3) := by decide +kernel
theorem dX4_nextNumber_77 : decode cX4_nextNumber 77 = .ok (.iconst 1, 1) := by decide +kernel
theorem dX4_nextNumber_78 : decode cX4_nextNumber 78 = .ok (.iadd, 1) := by decide +kernel
theorem dX4_nextNumber_79 : decode cX4_nextNumber 79 = .ok (.putfield 26, 3) := by decide +kernel
theorem dX4_nextNumber_82 : decode cX4_nextNumber 82 = .ok (.iinc 2 1, 3) := by decide +kernel
theorem dX4_nextNumber_85 : decode cX4_nextNumber 85 = .ok (.goto (-81), 3) := by decide +kernel
theorem dX4_nextNumber_88 : decode cX4_nextNumber 88 = .ok (.iload_n 1, 1) := by decide +kernel
theorem dX4_nextNumber_89 : decode cX4_nextNumber 89 = .ok (.ireturn, 1) := by decide +kernel
def wX4_nextNumber_4 (post : Int32 → Sto → Prop)  (K88 : Int32 → Sto → Prop) (K48 : Int32 → Sto → Prop) : Nat → Int32 → Int32 → Sto → Prop
  | 0, _, _, _ => False
  | n + 1, x1, x2, σ => ((((3 : Int32)) ≤ x2) → (K88 x1 σ)) ∧ ((¬ (((3 : Int32)) ≤ x2)) → ((((σ.1 8 4) ≤ (σ.1 8 2)) → (K48 x1 σ)) ∧ ((¬ ((σ.1 8 4) ≤ (σ.1 8 2))) → (vp_in (σ.1 8 2) 60 ∧ ((((σ.1 59 (σ.1 8 2).toNatClampNeg) < ((48 : Int32))) → (K48 x1 σ)) ∧ ((¬ ((σ.1 59 (σ.1 8 2).toNatClampNeg) < ((48 : Int32)))) → (vp_in (σ.1 8 2) 60 ∧ ((((σ.1 59 (σ.1 8 2).toNatClampNeg) ≤ ((57 : Int32))) → (wJ9_max_7cf53  x1 ((0 : Int32)) σ (fun (r52 : Int32) (s52 : Sto) => vp_in (s52.1 8 2) 60 ∧ (wX4_nextNumber_4 post  K88 K48 n (((r52 * ((10 : Int32))) + (s52.1 59 (s52.1 8 2).toNatClampNeg)) - ((48 : Int32))) (x2 + (1 : Int32)) (wI s52 8 2 ((s52.1 8 2) + ((1 : Int32)))))))) ∧ ((¬ ((σ.1 59 (σ.1 8 2).toNatClampNeg) ≤ ((57 : Int32)))) → (K48 x1 σ))))))))))
set_option maxRecDepth 100000 in
set_option maxHeartbeats 4000000 in
theorem vX4_nextNumber_4 (E : Ev) (post : Int32 → Sto → Prop)   (K88 : Int32 → Sto → Prop) (K48 : Int32 → Sto → Prop) (HK88 : ∀ (x1 : Int32) (σ : Sto), K88 x1 σ → V E 1 mX4_nextNumber (pI post) 88 [(1, .int x1)] [] σ) (HK48 : ∀ (x1 : Int32) (σ : Sto), K48 x1 σ → V E 1 mX4_nextNumber (pI post) 48 [(1, .int x1)] [] σ) : ∀ (n : Nat) (x1 : Int32) (x2 : Int32) (σ : Sto), wX4_nextNumber_4 post  K88 K48 n x1 x2 σ → V E 1 mX4_nextNumber (pI post) 4 [(0, .ref 8), (1, .int x1), (2, .int x2)] [] σ := by
  intro n
  induction n with
  | zero => intro x1 x2 σ h; exact h.elim
  | succ n ih =>
    intro x1 x2 σ h
    unfold wX4_nextNumber_4 at h
    refine V_iload_n (pc := 4) 2 dX4_nextNumber_4 rfl ?_
    refine V_iconst (pc := 5) (v := 3) dX4_nextNumber_5 (by decide) ?_
    refine V_icmp_ge (pc := 6) (tgt := 88) dX4_nextNumber_6 (by decide) (fun hc => ?_) (fun hc => ?_)
    · replace h := h.1 hc
      exact V_loc [1] rfl (HK88 x1 σ  h)
    · replace h := h.2 hc
      refine V_aload_n (pc := 9) 0 dX4_nextNumber_9 rfl ?_
      refine V_getI (pc := 10) dX4_nextNumber_10 fl_X4_26 sh_8 rfl ?_
      refine V_aload_n (pc := 13) 0 dX4_nextNumber_13 rfl ?_
      refine V_getI (pc := 14) dX4_nextNumber_14 fl_X4_22 sh_8 rfl ?_
      refine V_icmp_ge (pc := 17) (tgt := 48) dX4_nextNumber_17 (by decide) (fun hc => ?_) (fun hc => ?_)
      · replace h := h.1 hc
        exact V_loc [1] rfl (HK48 x1 σ  h)
      · replace h := h.2 hc
        refine V_aload_n (pc := 20) 0 dX4_nextNumber_20 rfl ?_
        refine V_getR (pc := 21) dX4_nextNumber_21 fl_X4_9 sh_8 rfl ?_
        refine V_aload_n (pc := 24) 0 dX4_nextNumber_24 rfl ?_
        refine V_getI (pc := 25) dX4_nextNumber_25 fl_X4_26 sh_8 rfl ?_
        obtain ⟨i28, h⟩ := h
        refine V_iald (pc := 28) dX4_nextNumber_28 sh_59 i28 ?_
        refine V_bipush (pc := 29) (v := 48) dX4_nextNumber_29 (by decide) ?_
        refine V_icmp_lt (pc := 31) (tgt := 48) dX4_nextNumber_31 (by decide) (fun hc => ?_) (fun hc => ?_)
        · replace h := h.1 hc
          exact V_loc [1] rfl (HK48 x1 σ  h)
        · replace h := h.2 hc
          refine V_aload_n (pc := 34) 0 dX4_nextNumber_34 rfl ?_
          refine V_getR (pc := 35) dX4_nextNumber_35 fl_X4_9 sh_8 rfl ?_
          refine V_aload_n (pc := 38) 0 dX4_nextNumber_38 rfl ?_
          refine V_getI (pc := 39) dX4_nextNumber_39 fl_X4_26 sh_8 rfl ?_
          obtain ⟨i42, h⟩ := h
          refine V_iald (pc := 42) dX4_nextNumber_42 sh_59 i42 ?_
          refine V_bipush (pc := 43) (v := 57) dX4_nextNumber_43 (by decide) ?_
          refine V_icmp_le (pc := 45) (tgt := 50) dX4_nextNumber_45 (by decide) (fun hc => ?_) (fun hc => ?_)
          · replace h := h.1 hc
            refine V_iload_n (pc := 50) 1 dX4_nextNumber_50 rfl ?_
            refine V_iconst (pc := 51) (v := 0) dX4_nextNumber_51 (by decide) ?_
            refine V_callS (pc := 52) (M' := mJ9_max_7cf53) dX4_nextNumber_52 ml_X4_56 ks_J9_max_7cf53 ko_J9_max_7cf53 (by decide) rfl (Nat.le_of_ble_eq_true rfl) (Nat.le_of_ble_eq_true rfl) (vJ9_max_7cf53 E  x1 ((0 : Int32)) σ _  h) (kI (fun r52 s52 h => ?_))
            refine V_bipush (pc := 55) (v := 10) dX4_nextNumber_55 (by decide) ?_
            refine V_imul (pc := 57) dX4_nextNumber_57 ?_
            refine V_aload_n (pc := 58) 0 dX4_nextNumber_58 rfl ?_
            refine V_getR (pc := 59) dX4_nextNumber_59 fl_X4_9 sh_8 rfl ?_
            refine V_aload_n (pc := 62) 0 dX4_nextNumber_62 rfl ?_
            refine V_getI (pc := 63) dX4_nextNumber_63 fl_X4_26 sh_8 rfl ?_
            obtain ⟨i66, h⟩ := h
            refine V_iald (pc := 66) dX4_nextNumber_66 sh_59 i66 ?_
            refine V_iadd (pc := 67) dX4_nextNumber_67 ?_
            refine V_bipush (pc := 68) (v := 48) dX4_nextNumber_68 (by decide) ?_
            refine V_isub (pc := 70) dX4_nextNumber_70 ?_
            refine V_istore_n (pc := 71) dX4_nextNumber_71 (by decide) ?_
            refine V_aload_n (pc := 72) 1 dX4_nextNumber_72 rfl ?_
            refine V_dup (pc := 73) dX4_nextNumber_73 rfl ?_
            refine V_getI (pc := 74) dX4_nextNumber_74 fl_X4_26 sh_8 rfl ?_
            refine V_iconst (pc := 77) (v := 1) dX4_nextNumber_77 (by decide) ?_
            refine V_iadd (pc := 78) dX4_nextNumber_78 ?_
            refine V_putI (pc := 79) dX4_nextNumber_79 fl_X4_26 po_X4_2 sh_8 rfl rfl rfl ?_
            refine V_iinc (pc := 82) 2 (v := 1) dX4_nextNumber_82 rfl (by decide) (by decide) ?_
            refine V_goto (pc := 85) (tgt := 4) dX4_nextNumber_85 (by decide) ?_
            exact V_loc [2, 1, 0] rfl (ih (((r52 * ((10 : Int32))) + (s52.1 59 (s52.1 8 2).toNatClampNeg)) - ((48 : Int32))) (x2 + (1 : Int32)) (wI s52 8 2 ((s52.1 8 2) + ((1 : Int32))))  h)
          · replace h := h.2 hc
            exact V_loc [1] rfl (HK48 x1 σ  h)
def wX4_nextNumber   (σ : Sto) (post : Int32 → Sto → Prop) : Prop := ∃ n4, wX4_nextNumber_4 post  (fun (x1_1 : Int32) (σ_1 : Sto) => post x1_1 σ_1) (fun (x1_2 : Int32) (σ_2 : Sto) => post x1_2 σ_2) n4 ((-1 : Int32)) ((0 : Int32)) σ
set_option maxRecDepth 100000 in
set_option maxHeartbeats 4000000 in
theorem vX4_nextNumber (E : Ev)   (σ : Sto) (post : Int32 → Sto → Prop)  (h : wX4_nextNumber   σ post) : V E 1 mX4_nextNumber (pI post) 0 [(0, .ref 8)] [] σ := by
  unfold wX4_nextNumber at h
  refine V_iconst (pc := 0) (v := -1) dX4_nextNumber_0 (by decide) ?_
  refine V_istore_n (pc := 1) dX4_nextNumber_1 (by decide) ?_
  refine V_iconst (pc := 2) (v := 0) dX4_nextNumber_2 (by decide) ?_
  refine V_istore_n (pc := 3) dX4_nextNumber_3 (by decide) ?_
  obtain ⟨n4, h⟩ := h
  refine V_loc [2, 1, 0] rfl (vX4_nextNumber_4 E post   _ _ (fun x1_1 σ_1 h => ?_) (fun x1_2 σ_2 h => ?_) n4 ((-1 : Int32)) ((0 : Int32)) σ  h)
  · refine V_iload_n (pc := 88) 0 dX4_nextNumber_88 rfl ?_
    exact V_iret dX4_nextNumber_89 rfl h
  · refine V_iload_n (pc := 48) 0 dX4_nextNumber_48 rfl ?_
    exact V_iret dX4_nextNumber_49 rfl h
theorem dX4_faultOfPart_0 : decode cX4_faultOfPart 0 = .ok (.aload_n 0, 1) := by decide +kernel
theorem dX4_faultOfPart_1 : decode cX4_faultOfPart 1 = .ok (.getfield 18, 3) := by decide +kernel
theorem dX4_faultOfPart_4 : decode cX4_faultOfPart 4 = .ok (.lconst 1, 1) := by decide +kernel
theorem dX4_faultOfPart_5 : decode cX4_faultOfPart 5 = .ok (.lconst 1, 1) := by decide +kernel
theorem dX4_faultOfPart_6 : decode cX4_faultOfPart 6 = .ok (.invokevirtual 41, 3) := by decide +kernel
theorem dX4_faultOfPart_9 : decode cX4_faultOfPart 9 = .ok (.bipush 42, 2) := by decide +kernel
theorem dX4_faultOfPart_11 : decode cX4_faultOfPart 11 = .ok (.istore_n 1, 1) := by decide +kernel
theorem dX4_faultOfPart_12 : decode cX4_faultOfPart 12 = .ok (.iconst 0, 1) := by decide +kernel
theorem dX4_faultOfPart_13 : decode cX4_faultOfPart 13 = .ok (.istore_n 2, 1) := by decide +kernel
theorem dX4_faultOfPart_14 : decode cX4_faultOfPart 14 = .ok (.iload_n 2, 1) := by decide +kernel
theorem dX4_faultOfPart_15 : decode cX4_faultOfPart 15 = .ok (.bipush 60, 2) := by decide +kernel
theorem dX4_faultOfPart_17 : decode cX4_faultOfPart 17 = .ok (.if_icmp .gt 189, 3) := by decide +kernel
theorem dX4_faultOfPart_20 : decode cX4_faultOfPart 20 = .ok (.aload_n 0, 1) := by decide +kernel
theorem dX4_faultOfPart_21 : decode cX4_faultOfPart 21 = .ok (.getfield 26, 3) := by decide +kernel
theorem dX4_faultOfPart_24 : decode cX4_faultOfPart 24 = .ok (.istore_n 3, 1) := by decide +kernel
theorem dX4_faultOfPart_25 : decode cX4_faultOfPart 25 = .ok (.aload_n 0, 1) := by decide +kernel
theorem dX4_faultOfPart_26 : decode cX4_faultOfPart 26 = .ok (.invokevirtual 45, 3) := by decide +kernel
theorem dX4_faultOfPart_29 : decode cX4_faultOfPart 29 = .ok (.istore 4, 2) := by decide +kernel
theorem dX4_faultOfPart_31 : decode cX4_faultOfPart 31 = .ok (.iload 4, 2) := by decide +kernel
theorem dX4_faultOfPart_33 : decode cX4_faultOfPart 33 = .ok (.iconst (-1), 1) := by decide +kernel
theorem dX4_faultOfPart_34 : decode cX4_faultOfPart 34 = .ok (.if_icmp .eq 14, 3) := by decide +kernel
theorem dX4_faultOfPart_37 : decode cX4_faultOfPart 37 = .ok (.iload_n 1, 1) := by decide +kernel
theorem dX4_faultOfPart_38 : decode cX4_faultOfPart 38 = .ok (.bipush 47, 2) := by decide +kernel
theorem dX4_faultOfPart_40 : decode cX4_faultOfPart 40 = .ok (.if_icmp .ne 10, 3) := by decide +kernel
theorem dX4_faultOfPart_43 : decode cX4_faultOfPart 43 = .ok (.iload 4, 2) := by decide +kernel
theorem dX4_faultOfPart_45 : decode cX4_faultOfPart 45 = .ok (.ifCond .ne 5, 3) := by decide +kernel
theorem dX4_faultOfPart_48 : decode cX4_faultOfPart 48 = .ok (.iload_n 3, 1) := by decide +kernel
theorem dX4_faultOfPart_49 : decode cX4_faultOfPart 49 = .ok (.ireturn, 1) := by decide +kernel
theorem dX4_faultOfPart_50 : decode cX4_faultOfPart 50 = .ok (.iload_n 1, 1) := by decide +kernel
theorem dX4_faultOfPart_51 : decode cX4_faultOfPart 51 = .ok (.bipush 47, 2) := by decide +kernel
theorem dX4_faultOfPart_53 : decode cX4_faultOfPart 53 = .ok (.if_icmp .ne 31, 3) := by decide +kernel
theorem dX4_faultOfPart_56 : decode cX4_faultOfPart 56 = .ok (.aload_n 0, 1) := by decide +kernel
theorem dX4_faultOfPart_57 : decode cX4_faultOfPart 57 = .ok (.getfield 18, 3) := by decide +kernel
theorem dX4_faultOfPart_60 : decode cX4_faultOfPart 60 = .ok (.aload_n 0, 1) := by decide +kernel
theorem dX4_faultOfPart_61 : decode cX4_faultOfPart 61 = .ok (.getfield 18, 3) := by decide +kernel
theorem dX4_faultOfPart_64 : decode cX4_faultOfPart 64 = .ok (.getfield 48, 3) := by decide +kernel
theorem dX4_faultOfPart_67 : decode cX4_faultOfPart 67 = .ok (.aload_n 0, 1) := by decide +kernel
theorem dX4_faultOfPart_68 : decode cX4_faultOfPart 68 = .ok (.getfield 18, 3) := by decide +kernel
theorem dX4_faultOfPart_71 : decode cX4_faultOfPart 71 = .ok (.getfield 51, 3) := by decide +kernel
theorem dX4_faultOfPart_74 : decode cX4_faultOfPart 74 = .ok (.iload 4, 2) := by decide +kernel
theorem dX4_faultOfPart_76 : decode cX4_faultOfPart 76 = .ok (.i2l, 1) := by decide +kernel
theorem dX4_faultOfPart_77 : decode cX4_faultOfPart 77 = .ok (.lmul, 1) := by decide +kernel
theorem dX4_faultOfPart_78 : decode cX4_faultOfPart 78 = .ok (.invokevirtual 41, 3) := by decide +kernel
theorem dX4_faultOfPart_81 : decode cX4_faultOfPart 81 = .ok (.goto 28, 3) := by decide +kernel
theorem dX4_faultOfPart_84 : decode cX4_faultOfPart 84 = .ok (.aload_n 0, 1) := by decide +kernel
theorem dX4_faultOfPart_85 : decode cX4_faultOfPart 85 = .ok (.getfield 18, 3) := by decide +kernel
theorem dX4_faultOfPart_88 : decode cX4_faultOfPart 88 = .ok (.aload_n 0, 1) := by decide +kernel
theorem dX4_faultOfPart_89 : decode cX4_faultOfPart 89 = .ok (.getfield 18, 3) := by decide +kernel
theorem dX4_faultOfPart_92 : decode cX4_faultOfPart 92 = .ok (.getfield 48, 3) := by decide +kernel
theorem dX4_faultOfPart_95 : decode cX4_faultOfPart 95 = .ok (.iload 4, 2) := by decide +kernel
theorem dX4_faultOfPart_97 : decode cX4_faultOfPart 97 = .ok (.i2l, 1) := by decide +kernel
theorem dX4_faultOfPart_98 : decode cX4_faultOfPart 98 = .ok (.lmul, 1) := by decide +kernel
theorem dX4_faultOfPart_99 : decode cX4_faultOfPart 99 = .ok (.aload_n 0, 1) := by decide +kernel
theorem dX4_faultOfPart_100 : decode cX4_faultOfPart 100 = .ok (.getfield 18, 3) := by decide +kernel
theorem dX4_faultOfPart_103 : decode cX4_faultOfPart 103 = .ok (.getfield 51, 3) := by decide +kernel
theorem dX4_faultOfPart_106 : decode cX4_faultOfPart 106 = .ok (.invokevirtual 41, 3) := by decide +kernel
theorem dX4_faultOfPart_109 : decode cX4_faultOfPart 109 = .ok (.aload_n 0, 1) := by decide +kernel
theorem dX4_faultOfPart_110 : decode cX4_faultOfPart 110 = .ok (.getfield 18, 3) := by decide +kernel
theorem dX4_faultOfPart_113 : decode cX4_faultOfPart 113 = .ok (.getfield 48, 3) := by decide +kernel
theorem dX4_faultOfPart_116 : decode cX4_faultOfPart 116 = .ok (.ldc2_w 54, 3) := by decide +kernel
theorem dX4_faultOfPart_119 : decode cX4_faultOfPart 119 = .ok (.lcmp, 1) := by decide +kernel
theorem dX4_faultOfPart_120 : decode cX4_faultOfPart 120 = .ok (.ifCond .gt 17, 3) := by decide +kernel
theorem dX4_faultOfPart_123 : decode cX4_faultOfPart 123 = .ok (.aload_n 0, 1) := by decide +kernel
theorem dX4_faultOfPart_124 : decode cX4_faultOfPart 124 = .ok (.getfield 18, 3) := by decide +kernel
theorem dX4_faultOfPart_127 : decode cX4_faultOfPart 127 = .ok (.getfield 51, 3) := by decide +kernel
theorem dX4_faultOfPart_130 : decode cX4_faultOfPart 130 = .ok (.ldc2_w 54, 3) := by decide +kernel
theorem dX4_faultOfPart_133 : decode cX4_faultOfPart 133 = .ok (.lcmp, 1) := by decide +kernel
theorem dX4_faultOfPart_134 : decode cX4_faultOfPart 134 = .ok (.ifCond .le 5, 3) := by decide +kernel
theorem dX4_faultOfPart_137 : decode cX4_faultOfPart 137 = .ok (.iload_n 3, 1) := by decide +kernel
theorem dX4_faultOfPart_138 : decode cX4_faultOfPart 138 = .ok (.ireturn, 1) := by decide +kernel
theorem dX4_faultOfPart_139 : decode cX4_faultOfPart 139 = .ok (.aload_n 0, 1) := by decide +kernel
theorem dX4_faultOfPart_140 : decode cX4_faultOfPart 140 = .ok (.getfield 26, 3) := by decide +kernel
theorem dX4_faultOfPart_143 : decode cX4_faultOfPart 143 = .ok (.aload_n 0, 1) := by decide +kernel
theorem dX4_faultOfPart_144 : decode cX4_faultOfPart 144 = .ok (.getfield 22, 3) := by decide +kernel
theorem dX4_faultOfPart_147 : decode cX4_faultOfPart 147 = .ok (.if_icmp .ge 31, 3) := by decide +kernel
theorem dX4_faultOfPart_150 : decode cX4_faultOfPart 150 = .ok (.aload_n 0, 1) := by decide +kernel
theorem dX4_faultOfPart_151 : decode cX4_faultOfPart 151 = .ok (.getfield 9, 3) := by decide +kernel
theorem dX4_faultOfPart_154 : decode cX4_faultOfPart 154 = .ok (.aload_n 0, 1) := by decide +kernel
theorem dX4_faultOfPart_155 : decode cX4_faultOfPart 155 = .ok (.getfield 26, 3) := by decide +kernel
theorem dX4_faultOfPart_158 : decode cX4_faultOfPart 158 = .ok (.iaload, 1) := by decide +kernel
theorem dX4_faultOfPart_159 : decode cX4_faultOfPart 159 = .ok (.bipush 42, 2) := by decide +kernel
theorem dX4_faultOfPart_161 : decode cX4_faultOfPart 161 = .ok (.if_icmp .eq 19, 3) := by decide +kernel
theorem dX4_faultOfPart_164 : decode cX4_faultOfPart 164 = .ok (.aload_n 0, 1) := by decide +kernel
theorem dX4_faultOfPart_165 : decode cX4_faultOfPart 165 = .ok (.getfield 9, 3) := by decide +kernel
theorem dX4_faultOfPart_168 : decode cX4_faultOfPart 168 = .ok (.aload_n 0, 1) := by decide +kernel
theorem dX4_faultOfPart_169 : decode cX4_faultOfPart 169 = .ok (.getfield 26, 3) := by decide +kernel
theorem dX4_faultOfPart_172 : decode cX4_faultOfPart 172 = .ok (.iaload, 1) := by decide +kernel
theorem dX4_faultOfPart_173 : decode cX4_faultOfPart 173 = .ok (.bipush 47, 2) := by decide +kernel
theorem dX4_faultOfPart_175 : decode cX4_faultOfPart 175 = .ok (.if_icmp .eq 5, 3) := by decide +kernel
theorem dX4_faultOfPart_178 : decode cX4_faultOfPart 178 = .ok (.iconst (-1), 1) := by decide +kernel
theorem dX4_faultOfPart_179 : decode cX4_faultOfPart 179 = .ok (.ireturn, 1) := by decide +kernel
theorem dX4_faultOfPart_180 : decode cX4_faultOfPart 180 = .ok (.aload_n 0, 1) := by decide +kernel
theorem dX4_faultOfPart_181 : decode cX4_faultOfPart 181 = .ok (.getfield 9, 3) := by decide +kernel
theorem dX4_faultOfPart_184 : decode cX4_faultOfPart 184 = .ok (.aload_n 0, 1) := by decide +kernel
theorem dX4_faultOfPart_185 : decode cX4_faultOfPart 185 = .ok (.getfield 26, 3) := by decide +kernel
theorem dX4_faultOfPart_188 : decode cX4_faultOfPart 188 = .ok (.iaload, 1) := by decide +kernel
theorem dX4_faultOfPart_189 : decode cX4_faultOfPart 189 = .ok (.istore_n 1, 1) := by decide +kernel
theorem dX4_faultOfPart_190 : decode cX4_faultOfPart 190 = .ok (.aload_n 0, 1) := by decide +kernel
theorem dX4_faultOfPart_191 : decode cX4_faultOfPart 191 = .ok (.dup, 1) := by decide +kernel
theorem dX4_faultOfPart_192 : decode cX4_faultOfPart 192 = .ok (.getfield 26, 3) := by decide +kernel
theorem dX4_faultOfPart_195 : decode cX4_faultOfPart 195 = .ok (.iconst 1, 1) := by decide +kernel
theorem dX4_faultOfPart_196 : decode cX4_faultOfPart 196 = .ok (.iadd, 1) := by decide +kernel
theorem dX4_faultOfPart_197 : decode cX4_faultOfPart 197 = .ok (.putfield 26, 3) := by decide +kernel
theorem dX4_faultOfPart_200 : decode cX4_faultOfPart 200 = .ok (.iinc 2 1, 3) := by decide +kernel
theorem dX4_faultOfPart_203 : decode cX4_faultOfPart 203 = .ok (.goto (-189), 3) := by decide +kernel
theorem dX4_faultOfPart_206 : decode cX4_faultOfPart 206 = .ok (.aload_n 0, 1) := by decide +kernel
theorem dX4_faultOfPart_207 : decode cX4_faultOfPart 207 = .ok (.getfield 26, 3) := by decide +kernel
theorem dX4_faultOfPart_210 : decode cX4_faultOfPart 210 = .ok (.ireturn, 1) := by decide +kernel
def wX4_faultOfPart_180 (post : Int32 → Sto → Prop)  (K14 : Int32 → Int32 → Sto → Prop) (x2 : Int32) (σ : Sto) : Prop := vp_in (σ.1 8 2) 60 ∧ (K14 (σ.1 59 (σ.1 8 2).toNatClampNeg) (x2 + (1 : Int32)) (wI σ 8 2 ((σ.1 8 2) + ((1 : Int32)))))
set_option maxRecDepth 100000 in
set_option maxHeartbeats 4000000 in
theorem vX4_faultOfPart_180 (E : Ev) (post : Int32 → Sto → Prop)   (K14 : Int32 → Int32 → Sto → Prop) (HK14 : ∀ (x1 : Int32) (x2 : Int32) (σ : Sto), K14 x1 x2 σ → V E 2 mX4_faultOfPart (pI post) 14 [(0, .ref 8), (1, .int x1), (2, .int x2)] [] σ) (x2 : Int32) (σ : Sto) (h : wX4_faultOfPart_180 post  K14 x2 σ) : V E 2 mX4_faultOfPart (pI post) 180 [(0, .ref 8), (2, .int x2)] [] σ := by
  unfold wX4_faultOfPart_180 at h
  refine V_aload_n (pc := 180) 0 dX4_faultOfPart_180 rfl ?_
  refine V_getR (pc := 181) dX4_faultOfPart_181 fl_X4_9 sh_8 rfl ?_
  refine V_aload_n (pc := 184) 0 dX4_faultOfPart_184 rfl ?_
  refine V_getI (pc := 185) dX4_faultOfPart_185 fl_X4_26 sh_8 rfl ?_
  obtain ⟨i188, h⟩ := h
  refine V_iald (pc := 188) dX4_faultOfPart_188 sh_59 i188 ?_
  refine V_istore_n (pc := 189) dX4_faultOfPart_189 (by decide) ?_
  refine V_aload_n (pc := 190) 1 dX4_faultOfPart_190 rfl ?_
  refine V_dup (pc := 191) dX4_faultOfPart_191 rfl ?_
  refine V_getI (pc := 192) dX4_faultOfPart_192 fl_X4_26 sh_8 rfl ?_
  refine V_iconst (pc := 195) (v := 1) dX4_faultOfPart_195 (by decide) ?_
  refine V_iadd (pc := 196) dX4_faultOfPart_196 ?_
  refine V_putI (pc := 197) dX4_faultOfPart_197 fl_X4_26 po_X4_2 sh_8 rfl rfl rfl ?_
  refine V_iinc (pc := 200) 2 (v := 1) dX4_faultOfPart_200 rfl (by decide) (by decide) ?_
  refine V_goto (pc := 203) (tgt := 14) dX4_faultOfPart_203 (by decide) ?_
  exact V_loc [2, 1, 0] rfl (HK14 (σ.1 59 (σ.1 8 2).toNatClampNeg) (x2 + (1 : Int32)) (wI σ 8 2 ((σ.1 8 2) + ((1 : Int32))))  h)
def wX4_faultOfPart_109 (post : Int32 → Sto → Prop)  (K137 : Int32 → Sto → Prop) (K178 : Sto → Prop) (K14 : Int32 → Int32 → Sto → Prop) (x2 : Int32) (x3 : Int32) (σ : Sto) : Prop := ((((100000 : Int64)) < (σ.2 12 0)) → (K137 x3 σ)) ∧ ((¬ (((100000 : Int64)) < (σ.2 12 0))) → ((((σ.2 12 1) ≤ ((100000 : Int64))) → ((((σ.1 8 4) ≤ (σ.1 8 2)) → (K178  σ)) ∧ ((¬ ((σ.1 8 4) ≤ (σ.1 8 2))) → (vp_in (σ.1 8 2) 60 ∧ ((((σ.1 59 (σ.1 8 2).toNatClampNeg) = ((42 : Int32))) → (wX4_faultOfPart_180 post  K14 x2 σ)) ∧ ((¬ ((σ.1 59 (σ.1 8 2).toNatClampNeg) = ((42 : Int32)))) → (vp_in (σ.1 8 2) 60 ∧ ((((σ.1 59 (σ.1 8 2).toNatClampNeg) = ((47 : Int32))) → (wX4_faultOfPart_180 post  K14 x2 σ)) ∧ ((¬ ((σ.1 59 (σ.1 8 2).toNatClampNeg) = ((47 : Int32)))) → (K178  σ)))))))))) ∧ ((¬ ((σ.2 12 1) ≤ ((100000 : Int64)))) → (K137 x3 σ))))
set_option maxRecDepth 100000 in
set_option maxHeartbeats 4000000 in
theorem vX4_faultOfPart_109 (E : Ev) (post : Int32 → Sto → Prop)   (K137 : Int32 → Sto → Prop) (K178 : Sto → Prop) (K14 : Int32 → Int32 → Sto → Prop) (HK137 : ∀ (x3 : Int32) (σ : Sto), K137 x3 σ → V E 2 mX4_faultOfPart (pI post) 137 [(3, .int x3)] [] σ) (HK178 : ∀  (σ : Sto), K178  σ → V E 2 mX4_faultOfPart (pI post) 178 [] [] σ) (HK14 : ∀ (x1 : Int32) (x2 : Int32) (σ : Sto), K14 x1 x2 σ → V E 2 mX4_faultOfPart (pI post) 14 [(0, .ref 8), (1, .int x1), (2, .int x2)] [] σ) (x2 : Int32) (x3 : Int32) (σ : Sto) (h : wX4_faultOfPart_109 post  K137 K178 K14 x2 x3 σ) : V E 2 mX4_faultOfPart (pI post) 109 [(0, .ref 8), (2, .int x2), (3, .int x3)] [] σ := by
  unfold wX4_faultOfPart_109 at h
  refine V_aload_n (pc := 109) 0 dX4_faultOfPart_109 rfl ?_
  refine V_getR (pc := 110) dX4_faultOfPart_110 fl_X4_18 sh_8 rfl ?_
  refine V_getL (pc := 113) dX4_faultOfPart_113 fl_X4_48 sh_12 rfl ?_
  refine V_ldc2 (pc := 116) dX4_faultOfPart_116 cl_X4_54 ?_
  refine V_lc_gt (pc := 119) (tgt := 137) dX4_faultOfPart_119 dX4_faultOfPart_120 (by decide) (fun hc => ?_) (fun hc => ?_)
  · replace h := h.1 hc
    exact V_loc [2] rfl (HK137 x3 σ  h)
  · replace h := h.2 hc
    refine V_aload_n (pc := 123) 0 dX4_faultOfPart_123 rfl ?_
    refine V_getR (pc := 124) dX4_faultOfPart_124 fl_X4_18 sh_8 rfl ?_
    refine V_getL (pc := 127) dX4_faultOfPart_127 fl_X4_51 sh_12 rfl ?_
    refine V_ldc2 (pc := 130) dX4_faultOfPart_130 cl_X4_54 ?_
    refine V_lc_le (pc := 133) (tgt := 139) dX4_faultOfPart_133 dX4_faultOfPart_134 (by decide) (fun hc => ?_) (fun hc => ?_)
    · replace h := h.1 hc
      refine V_aload_n (pc := 139) 0 dX4_faultOfPart_139 rfl ?_
      refine V_getI (pc := 140) dX4_faultOfPart_140 fl_X4_26 sh_8 rfl ?_
      refine V_aload_n (pc := 143) 0 dX4_faultOfPart_143 rfl ?_
      refine V_getI (pc := 144) dX4_faultOfPart_144 fl_X4_22 sh_8 rfl ?_
      refine V_icmp_ge (pc := 147) (tgt := 178) dX4_faultOfPart_147 (by decide) (fun hc => ?_) (fun hc => ?_)
      · replace h := h.1 hc
        exact V_loc [] rfl (HK178  σ  h)
      · replace h := h.2 hc
        refine V_aload_n (pc := 150) 0 dX4_faultOfPart_150 rfl ?_
        refine V_getR (pc := 151) dX4_faultOfPart_151 fl_X4_9 sh_8 rfl ?_
        refine V_aload_n (pc := 154) 0 dX4_faultOfPart_154 rfl ?_
        refine V_getI (pc := 155) dX4_faultOfPart_155 fl_X4_26 sh_8 rfl ?_
        obtain ⟨i158, h⟩ := h
        refine V_iald (pc := 158) dX4_faultOfPart_158 sh_59 i158 ?_
        refine V_bipush (pc := 159) (v := 42) dX4_faultOfPart_159 (by decide) ?_
        refine V_icmp_eq (pc := 161) (tgt := 180) dX4_faultOfPart_161 (by decide) (fun hc => ?_) (fun hc => ?_)
        · replace h := h.1 hc
          refine V_loc [0, 1] rfl (vX4_faultOfPart_180 E post   K14 HK14 x2 σ  h)
        · replace h := h.2 hc
          refine V_aload_n (pc := 164) 0 dX4_faultOfPart_164 rfl ?_
          refine V_getR (pc := 165) dX4_faultOfPart_165 fl_X4_9 sh_8 rfl ?_
          refine V_aload_n (pc := 168) 0 dX4_faultOfPart_168 rfl ?_
          refine V_getI (pc := 169) dX4_faultOfPart_169 fl_X4_26 sh_8 rfl ?_
          obtain ⟨i172, h⟩ := h
          refine V_iald (pc := 172) dX4_faultOfPart_172 sh_59 i172 ?_
          refine V_bipush (pc := 173) (v := 47) dX4_faultOfPart_173 (by decide) ?_
          refine V_icmp_eq (pc := 175) (tgt := 180) dX4_faultOfPart_175 (by decide) (fun hc => ?_) (fun hc => ?_)
          · replace h := h.1 hc
            refine V_loc [0, 1] rfl (vX4_faultOfPart_180 E post   K14 HK14 x2 σ  h)
          · replace h := h.2 hc
            exact V_loc [] rfl (HK178  σ  h)
    · replace h := h.2 hc
      exact V_loc [2] rfl (HK137 x3 σ  h)
def wX4_faultOfPart_50 (post : Int32 → Sto → Prop)  (K137 : Int32 → Sto → Prop) (K178 : Sto → Prop) (K14 : Int32 → Int32 → Sto → Prop) (x1 : Int32) (x2 : Int32) (x3 : Int32) (x4 : Int32) (σ : Sto) : Prop := ((¬ x1 = ((47 : Int32))) → (wX5_become 12 ((σ.2 12 0) * x4.toInt64) (σ.2 12 1) σ (fun (s106 : Sto) => wX4_faultOfPart_109 post  K137 K178 K14 x2 x3 s106))) ∧ ((x1 = ((47 : Int32))) → (wX5_become 12 (σ.2 12 0) ((σ.2 12 1) * x4.toInt64) σ (fun (s78 : Sto) => wX4_faultOfPart_109 post  K137 K178 K14 x2 x3 s78)))
set_option maxRecDepth 100000 in
set_option maxHeartbeats 4000000 in
theorem vX4_faultOfPart_50 (E : Ev) (post : Int32 → Sto → Prop)   (K137 : Int32 → Sto → Prop) (K178 : Sto → Prop) (K14 : Int32 → Int32 → Sto → Prop) (HK137 : ∀ (x3 : Int32) (σ : Sto), K137 x3 σ → V E 2 mX4_faultOfPart (pI post) 137 [(3, .int x3)] [] σ) (HK178 : ∀  (σ : Sto), K178  σ → V E 2 mX4_faultOfPart (pI post) 178 [] [] σ) (HK14 : ∀ (x1 : Int32) (x2 : Int32) (σ : Sto), K14 x1 x2 σ → V E 2 mX4_faultOfPart (pI post) 14 [(0, .ref 8), (1, .int x1), (2, .int x2)] [] σ) (x1 : Int32) (x2 : Int32) (x3 : Int32) (x4 : Int32) (σ : Sto) (h : wX4_faultOfPart_50 post  K137 K178 K14 x1 x2 x3 x4 σ) : V E 2 mX4_faultOfPart (pI post) 50 [(0, .ref 8), (1, .int x1), (2, .int x2), (3, .int x3), (4, .int x4)] [] σ := by
  unfold wX4_faultOfPart_50 at h
  refine V_iload_n (pc := 50) 1 dX4_faultOfPart_50 rfl ?_
  refine V_bipush (pc := 51) (v := 47) dX4_faultOfPart_51 (by decide) ?_
  refine V_icmp_ne (pc := 53) (tgt := 84) dX4_faultOfPart_53 (by decide) (fun hc => ?_) (fun hc => ?_)
  · replace h := h.1 hc
    refine V_aload_n (pc := 84) 0 dX4_faultOfPart_84 rfl ?_
    refine V_getR (pc := 85) dX4_faultOfPart_85 fl_X4_18 sh_8 rfl ?_
    refine V_aload_n (pc := 88) 0 dX4_faultOfPart_88 rfl ?_
    refine V_getR (pc := 89) dX4_faultOfPart_89 fl_X4_18 sh_8 rfl ?_
    refine V_getL (pc := 92) dX4_faultOfPart_92 fl_X4_48 sh_12 rfl ?_
    refine V_iload (pc := 95) 4 dX4_faultOfPart_95 rfl ?_
    refine V_i2l (pc := 97) dX4_faultOfPart_97 ?_
    refine V_lmul (pc := 98) dX4_faultOfPart_98 ?_
    refine V_aload_n (pc := 99) 0 dX4_faultOfPart_99 rfl ?_
    refine V_getR (pc := 100) dX4_faultOfPart_100 fl_X4_18 sh_8 rfl ?_
    refine V_getL (pc := 103) dX4_faultOfPart_103 fl_X4_51 sh_12 rfl ?_
    refine V_callV (pc := 106) (M' := mX5_become) dX4_faultOfPart_106 ml_X4_41 kv_X5_become ko_X5_become sh_12 (by decide) (by decide) rfl rfl (Nat.le_of_ble_eq_true rfl) (Nat.le_of_ble_eq_true rfl) (vX5_become E 12 ((σ.2 12 0) * x4.toInt64) (σ.2 12 1) σ _ sh_12 h) (kV (fun s106 h => ?_))
    refine V_loc [0, 2, 3] rfl (vX4_faultOfPart_109 E post   K137 K178 K14 HK137 HK178 HK14 x2 x3 s106  h)
  · replace h := h.2 hc
    refine V_aload_n (pc := 56) 0 dX4_faultOfPart_56 rfl ?_
    refine V_getR (pc := 57) dX4_faultOfPart_57 fl_X4_18 sh_8 rfl ?_
    refine V_aload_n (pc := 60) 0 dX4_faultOfPart_60 rfl ?_
    refine V_getR (pc := 61) dX4_faultOfPart_61 fl_X4_18 sh_8 rfl ?_
    refine V_getL (pc := 64) dX4_faultOfPart_64 fl_X4_48 sh_12 rfl ?_
    refine V_aload_n (pc := 67) 0 dX4_faultOfPart_67 rfl ?_
    refine V_getR (pc := 68) dX4_faultOfPart_68 fl_X4_18 sh_8 rfl ?_
    refine V_getL (pc := 71) dX4_faultOfPart_71 fl_X4_51 sh_12 rfl ?_
    refine V_iload (pc := 74) 4 dX4_faultOfPart_74 rfl ?_
    refine V_i2l (pc := 76) dX4_faultOfPart_76 ?_
    refine V_lmul (pc := 77) dX4_faultOfPart_77 ?_
    refine V_callV (pc := 78) (M' := mX5_become) dX4_faultOfPart_78 ml_X4_41 kv_X5_become ko_X5_become sh_12 (by decide) (by decide) rfl rfl (Nat.le_of_ble_eq_true rfl) (Nat.le_of_ble_eq_true rfl) (vX5_become E 12 (σ.2 12 0) ((σ.2 12 1) * x4.toInt64) σ _ sh_12 h) (kV (fun s78 h => ?_))
    refine V_goto (pc := 81) (tgt := 109) dX4_faultOfPart_81 (by decide) ?_
    refine V_loc [0, 2, 3] rfl (vX4_faultOfPart_109 E post   K137 K178 K14 HK137 HK178 HK14 x2 x3 s78  h)
def wX4_faultOfPart_14 (post : Int32 → Sto → Prop)  (K206 : Sto → Prop) (K48 : Int32 → Sto → Prop) (K137 : Int32 → Sto → Prop) (K178 : Sto → Prop) : Nat → Int32 → Int32 → Sto → Prop
  | 0, _, _, _ => False
  | n + 1, x1, x2, σ => ((((60 : Int32)) < x2) → (K206  σ)) ∧ ((¬ (((60 : Int32)) < x2)) → (wX4_nextNumber   σ (fun (r26 : Int32) (s26 : Sto) => ((r26 = ((-1 : Int32))) → (K48 (σ.1 8 2) s26)) ∧ ((¬ (r26 = ((-1 : Int32)))) → (((¬ x1 = ((47 : Int32))) → (wX4_faultOfPart_50 post  K137 K178 (wX4_faultOfPart_14 post  K206 K48 K137 K178 n) x1 x2 (σ.1 8 2) r26 s26)) ∧ ((x1 = ((47 : Int32))) → (((¬ r26 = 0) → (wX4_faultOfPart_50 post  K137 K178 (wX4_faultOfPart_14 post  K206 K48 K137 K178 n) x1 x2 (σ.1 8 2) r26 s26)) ∧ ((r26 = 0) → (K48 (σ.1 8 2) s26)))))))))
set_option maxRecDepth 100000 in
set_option maxHeartbeats 4000000 in
theorem vX4_faultOfPart_14 (E : Ev) (post : Int32 → Sto → Prop)   (K206 : Sto → Prop) (K48 : Int32 → Sto → Prop) (K137 : Int32 → Sto → Prop) (K178 : Sto → Prop) (HK206 : ∀  (σ : Sto), K206  σ → V E 2 mX4_faultOfPart (pI post) 206 [(0, .ref 8)] [] σ) (HK48 : ∀ (x3 : Int32) (σ : Sto), K48 x3 σ → V E 2 mX4_faultOfPart (pI post) 48 [(3, .int x3)] [] σ) (HK137 : ∀ (x3 : Int32) (σ : Sto), K137 x3 σ → V E 2 mX4_faultOfPart (pI post) 137 [(3, .int x3)] [] σ) (HK178 : ∀  (σ : Sto), K178  σ → V E 2 mX4_faultOfPart (pI post) 178 [] [] σ) : ∀ (n : Nat) (x1 : Int32) (x2 : Int32) (σ : Sto), wX4_faultOfPart_14 post  K206 K48 K137 K178 n x1 x2 σ → V E 2 mX4_faultOfPart (pI post) 14 [(0, .ref 8), (1, .int x1), (2, .int x2)] [] σ := by
  intro n
  induction n with
  | zero => intro x1 x2 σ h; exact h.elim
  | succ n ih =>
    intro x1 x2 σ h
    unfold wX4_faultOfPart_14 at h
    refine V_iload_n (pc := 14) 2 dX4_faultOfPart_14 rfl ?_
    refine V_bipush (pc := 15) (v := 60) dX4_faultOfPart_15 (by decide) ?_
    refine V_icmp_gt (pc := 17) (tgt := 206) dX4_faultOfPart_17 (by decide) (fun hc => ?_) (fun hc => ?_)
    · replace h := h.1 hc
      exact V_loc [0] rfl (HK206  σ  h)
    · replace h := h.2 hc
      refine V_aload_n (pc := 20) 0 dX4_faultOfPart_20 rfl ?_
      refine V_getI (pc := 21) dX4_faultOfPart_21 fl_X4_26 sh_8 rfl ?_
      refine V_istore_n (pc := 24) dX4_faultOfPart_24 (by decide) ?_
      refine V_aload_n (pc := 25) 1 dX4_faultOfPart_25 rfl ?_
      refine V_callV (pc := 26) (M' := mX4_nextNumber) dX4_faultOfPart_26 ml_X4_45 kv_X4_nextNumber ko_X4_nextNumber sh_8 (by decide) (by decide) rfl rfl (Nat.le_of_ble_eq_true rfl) (Nat.le_of_ble_eq_true rfl) (vX4_nextNumber E   σ _  h) (kI (fun r26 s26 h => ?_))
      refine V_istore (pc := 29) dX4_faultOfPart_29 (by decide) ?_
      refine V_iload (pc := 31) 0 dX4_faultOfPart_31 rfl ?_
      refine V_iconst (pc := 33) (v := -1) dX4_faultOfPart_33 (by decide) ?_
      refine V_icmp_eq (pc := 34) (tgt := 48) dX4_faultOfPart_34 (by decide) (fun hc => ?_) (fun hc => ?_)
      · replace h := h.1 hc
        exact V_loc [1] rfl (HK48 (σ.1 8 2) s26  h)
      · replace h := h.2 hc
        refine V_iload_n (pc := 37) 3 dX4_faultOfPart_37 rfl ?_
        refine V_bipush (pc := 38) (v := 47) dX4_faultOfPart_38 (by decide) ?_
        refine V_icmp_ne (pc := 40) (tgt := 50) dX4_faultOfPart_40 (by decide) (fun hc => ?_) (fun hc => ?_)
        · replace h := h.1 hc
          refine V_loc [2, 3, 4, 1, 0] rfl (vX4_faultOfPart_50 E post   K137 K178 _ HK137 HK178 ih x1 x2 (σ.1 8 2) r26 s26  h)
        · replace h := h.2 hc
          refine V_iload (pc := 43) 0 dX4_faultOfPart_43 rfl ?_
          refine V_if_ne (pc := 45) (tgt := 50) dX4_faultOfPart_45 (by decide) (fun hc => ?_) (fun hc => ?_)
          · replace h := h.1 hc
            refine V_loc [2, 3, 4, 1, 0] rfl (vX4_faultOfPart_50 E post   K137 K178 _ HK137 HK178 ih x1 x2 (σ.1 8 2) r26 s26  h)
          · replace h := h.2 hc
            exact V_loc [1] rfl (HK48 (σ.1 8 2) s26  h)
def wX4_faultOfPart   (σ : Sto) (post : Int32 → Sto → Prop) : Prop := wX5_become 12 ((1 : Int64)) ((1 : Int64)) σ (fun (s6 : Sto) => ∃ n14, wX4_faultOfPart_14 post  (fun  (σ_1 : Sto) => post (σ_1.1 8 2) σ_1) (fun (x3_2 : Int32) (σ_2 : Sto) => post x3_2 σ_2) (fun (x3_3 : Int32) (σ_3 : Sto) => post x3_3 σ_3) (fun  (σ_4 : Sto) => post ((-1 : Int32)) σ_4) n14 ((42 : Int32)) ((0 : Int32)) s6)
set_option maxRecDepth 100000 in
set_option maxHeartbeats 4000000 in
theorem vX4_faultOfPart (E : Ev)   (σ : Sto) (post : Int32 → Sto → Prop)  (h : wX4_faultOfPart   σ post) : V E 2 mX4_faultOfPart (pI post) 0 [(0, .ref 8)] [] σ := by
  unfold wX4_faultOfPart at h
  refine V_aload_n (pc := 0) 0 dX4_faultOfPart_0 rfl ?_
  refine V_getR (pc := 1) dX4_faultOfPart_1 fl_X4_18 sh_8 rfl ?_
  refine V_lconst (pc := 4) (v := 1) dX4_faultOfPart_4 (by decide) ?_
  refine V_lconst (pc := 5) (v := 1) dX4_faultOfPart_5 (by decide) ?_
  refine V_callV (pc := 6) (M' := mX5_become) dX4_faultOfPart_6 ml_X4_41 kv_X5_become ko_X5_become sh_12 (by decide) (by decide) rfl rfl (Nat.le_of_ble_eq_true rfl) (Nat.le_of_ble_eq_true rfl) (vX5_become E 12 ((1 : Int64)) ((1 : Int64)) σ _ sh_12 h) (kV (fun s6 h => ?_))
  refine V_bipush (pc := 9) (v := 42) dX4_faultOfPart_9 (by decide) ?_
  refine V_istore_n (pc := 11) dX4_faultOfPart_11 (by decide) ?_
  refine V_iconst (pc := 12) (v := 0) dX4_faultOfPart_12 (by decide) ?_
  refine V_istore_n (pc := 13) dX4_faultOfPart_13 (by decide) ?_
  obtain ⟨n14, h⟩ := h
  refine V_loc [2, 1, 0] rfl (vX4_faultOfPart_14 E post   _ _ _ _ (fun σ_1 h => ?_) (fun x3_2 σ_2 h => ?_) (fun x3_3 σ_3 h => ?_) (fun σ_4 h => ?_) n14 ((42 : Int32)) ((0 : Int32)) s6  h)
  · refine V_aload_n (pc := 206) 0 dX4_faultOfPart_206 rfl ?_
    refine V_getI (pc := 207) dX4_faultOfPart_207 fl_X4_26 sh_8 rfl ?_
    exact V_iret dX4_faultOfPart_210 rfl h
  · refine V_iload_n (pc := 48) 0 dX4_faultOfPart_48 rfl ?_
    exact V_iret dX4_faultOfPart_49 rfl h
  · refine V_iload_n (pc := 137) 0 dX4_faultOfPart_137 rfl ?_
    exact V_iret dX4_faultOfPart_138 rfl h
  · refine V_iconst (pc := 178) (v := -1) dX4_faultOfPart_178 (by decide) ?_
    exact V_iret dX4_faultOfPart_179 rfl h
theorem dX4_squareOfPart_0 : decode cX4_squareOfPart 0 = .ok (.aload_n 0, 1) := by decide +kernel
theorem dX4_squareOfPart_1 : decode cX4_squareOfPart 1 = .ok (.getfield 18, 3) := by decide +kernel
theorem dX4_squareOfPart_4 : decode cX4_squareOfPart 4 = .ok (.getfield 51, 3) := by decide +kernel
theorem dX4_squareOfPart_7 : decode cX4_squareOfPart 7 = .ok (.aload_n 0, 1) := by decide +kernel
theorem dX4_squareOfPart_8 : decode cX4_squareOfPart 8 = .ok (.getfield 18, 3) := by decide +kernel
theorem dX4_squareOfPart_11 : decode cX4_squareOfPart 11 = .ok (.getfield 51, 3) := by decide +kernel
theorem dX4_squareOfPart_14 : decode cX4_squareOfPart 14 = .ok (.lmul, 1) := by decide +kernel
theorem dX4_squareOfPart_15 : decode cX4_squareOfPart 15 = .ok (.lstore_n 1, 1) := by decide +kernel
theorem dX4_squareOfPart_16 : decode cX4_squareOfPart 16 = .ok (.lload_n 1, 1) := by decide +kernel
theorem dX4_squareOfPart_17 : decode cX4_squareOfPart 17 = .ok (.lconst 0, 1) := by decide +kernel
theorem dX4_squareOfPart_18 : decode cX4_squareOfPart 18 = .ok (.lcmp, 1) := by decide +kernel
theorem dX4_squareOfPart_19 : decode cX4_squareOfPart 19 = .ok (.ifCond .le 31, 3) := by decide +kernel
theorem dX4_squareOfPart_22 : decode cX4_squareOfPart 22 = .ok (.aload_n 0, 1) := by decide +kernel
theorem dX4_squareOfPart_23 : decode cX4_squareOfPart 23 = .ok (.getfield 18, 3) := by decide +kernel
theorem dX4_squareOfPart_26 : decode cX4_squareOfPart 26 = .ok (.getfield 48, 3) := by decide +kernel
theorem dX4_squareOfPart_29 : decode cX4_squareOfPart 29 = .ok (.aload_n 0, 1) := by decide +kernel
theorem dX4_squareOfPart_30 : decode cX4_squareOfPart 30 = .ok (.getfield 18, 3) := by decide +kernel
theorem dX4_squareOfPart_33 : decode cX4_squareOfPart 33 = .ok (.getfield 48, 3) := by decide +kernel
theorem dX4_squareOfPart_36 : decode cX4_squareOfPart 36 = .ok (.lmul, 1) := by decide +kernel
theorem dX4_squareOfPart_37 : decode cX4_squareOfPart 37 = .ok (.ldc2_w 62, 3) := by decide +kernel
theorem dX4_squareOfPart_40 : decode cX4_squareOfPart 40 = .ok (.lmul, 1) := by decide +kernel
theorem dX4_squareOfPart_41 : decode cX4_squareOfPart 41 = .ok (.lload_n 1, 1) := by decide +kernel
theorem dX4_squareOfPart_42 : decode cX4_squareOfPart 42 = .ok (.ladd, 1) := by decide +kernel
theorem dX4_squareOfPart_43 : decode cX4_squareOfPart 43 = .ok (.lconst 1, 1) := by decide +kernel
theorem dX4_squareOfPart_44 : decode cX4_squareOfPart 44 = .ok (.lsub, 1) := by decide +kernel
theorem dX4_squareOfPart_45 : decode cX4_squareOfPart 45 = .ok (.lload_n 1, 1) := by decide +kernel
theorem dX4_squareOfPart_46 : decode cX4_squareOfPart 46 = .ok (.ldiv, 1) := by decide +kernel
theorem dX4_squareOfPart_47 : decode cX4_squareOfPart 47 = .ok (.goto 4, 3) := by decide +kernel
theorem dX4_squareOfPart_50 : decode cX4_squareOfPart 50 = .ok (.lconst 0, 1) := by decide +kernel
theorem dX4_squareOfPart_51 : decode cX4_squareOfPart 51 = .ok (.lreturn, 1) := by decide +kernel
def wX4_squareOfPart   (σ : Sto) (post : Int64 → Sto → Prop) : Prop := ((((σ.2 12 1) * (σ.2 12 1)) ≤ ((0 : Int64))) → (post ((0 : Int64)) σ)) ∧ ((¬ (((σ.2 12 1) * (σ.2 12 1)) ≤ ((0 : Int64)))) → ((¬ ((σ.2 12 1) * (σ.2 12 1)) = 0) ∧ (post ((((((σ.2 12 0) * (σ.2 12 0)) * ((10000 : Int64))) + ((σ.2 12 1) * (σ.2 12 1))) - ((1 : Int64))) / ((σ.2 12 1) * (σ.2 12 1))) σ)))
set_option maxRecDepth 100000 in
set_option maxHeartbeats 4000000 in
theorem vX4_squareOfPart (E : Ev)   (σ : Sto) (post : Int64 → Sto → Prop)  (h : wX4_squareOfPart   σ post) : V E 0 mX4_squareOfPart (pL post) 0 [(0, .ref 8)] [] σ := by
  unfold wX4_squareOfPart at h
  refine V_aload_n (pc := 0) 0 dX4_squareOfPart_0 rfl ?_
  refine V_getR (pc := 1) dX4_squareOfPart_1 fl_X4_18 sh_8 rfl ?_
  refine V_getL (pc := 4) dX4_squareOfPart_4 fl_X4_51 sh_12 rfl ?_
  refine V_aload_n (pc := 7) 0 dX4_squareOfPart_7 rfl ?_
  refine V_getR (pc := 8) dX4_squareOfPart_8 fl_X4_18 sh_8 rfl ?_
  refine V_getL (pc := 11) dX4_squareOfPart_11 fl_X4_51 sh_12 rfl ?_
  refine V_lmul (pc := 14) dX4_squareOfPart_14 ?_
  refine V_lstore_n (pc := 15) dX4_squareOfPart_15 (by decide) ?_
  refine V_lload_n (pc := 16) 0 dX4_squareOfPart_16 rfl ?_
  refine V_lconst (pc := 17) (v := 0) dX4_squareOfPart_17 (by decide) ?_
  refine V_lc_le (pc := 18) (tgt := 50) dX4_squareOfPart_18 dX4_squareOfPart_19 (by decide) (fun hc => ?_) (fun hc => ?_)
  · replace h := h.1 hc
    refine V_lconst (pc := 50) (v := 0) dX4_squareOfPart_50 (by decide) ?_
    exact V_lret dX4_squareOfPart_51 rfl h
  · replace h := h.2 hc
    refine V_aload_n (pc := 22) 1 dX4_squareOfPart_22 rfl ?_
    refine V_getR (pc := 23) dX4_squareOfPart_23 fl_X4_18 sh_8 rfl ?_
    refine V_getL (pc := 26) dX4_squareOfPart_26 fl_X4_48 sh_12 rfl ?_
    refine V_aload_n (pc := 29) 1 dX4_squareOfPart_29 rfl ?_
    refine V_getR (pc := 30) dX4_squareOfPart_30 fl_X4_18 sh_8 rfl ?_
    refine V_getL (pc := 33) dX4_squareOfPart_33 fl_X4_48 sh_12 rfl ?_
    refine V_lmul (pc := 36) dX4_squareOfPart_36 ?_
    refine V_ldc2 (pc := 37) dX4_squareOfPart_37 cl_X4_62 ?_
    refine V_lmul (pc := 40) dX4_squareOfPart_40 ?_
    refine V_lload_n (pc := 41) 0 dX4_squareOfPart_41 rfl ?_
    refine V_ladd (pc := 42) dX4_squareOfPart_42 ?_
    refine V_lconst (pc := 43) (v := 1) dX4_squareOfPart_43 (by decide) ?_
    refine V_lsub (pc := 44) dX4_squareOfPart_44 ?_
    refine V_lload_n (pc := 45) 0 dX4_squareOfPart_45 rfl ?_
    obtain ⟨z46, h⟩ := h
    refine V_ldiv (pc := 46) dX4_squareOfPart_46 z46 ?_
    refine V_goto (pc := 47) (tgt := 51) dX4_squareOfPart_47 (by decide) ?_
    exact V_lret dX4_squareOfPart_51 rfl h
theorem dX4_firstFault_0 : decode cX4_firstFault 0 = .ok (.aload_n 0, 1) := by decide +kernel
theorem dX4_firstFault_1 : decode cX4_firstFault 1 = .ok (.iconst 0, 1) := by decide +kernel
theorem dX4_firstFault_2 : decode cX4_firstFault 2 = .ok (.putfield 26, 3) := by decide +kernel
theorem dX4_firstFault_5 : decode cX4_firstFault 5 = .ok (.aload_n 0, 1) := by decide +kernel
theorem dX4_firstFault_6 : decode cX4_firstFault 6 = .ok (.lconst 0, 1) := by decide +kernel
theorem dX4_firstFault_7 : decode cX4_firstFault 7 = .ok (.putfield 29, 3) := by decide +kernel
theorem dX4_firstFault_10 : decode cX4_firstFault 10 = .ok (.iconst 0, 1) := by decide +kernel
theorem dX4_firstFault_11 : decode cX4_firstFault 11 = .ok (.istore_n 1, 1) := by decide +kernel
theorem dX4_firstFault_12 : decode cX4_firstFault 12 = .ok (.iload_n 1, 1) := by decide +kernel
theorem dX4_firstFault_13 : decode cX4_firstFault 13 = .ok (.bipush 60, 2) := by decide +kernel
theorem dX4_firstFault_15 : decode cX4_firstFault 15 = .ok (.if_icmp .gt 76, 3) := by decide +kernel
theorem dX4_firstFault_18 : decode cX4_firstFault 18 = .ok (.aload_n 0, 1) := by decide +kernel
theorem dX4_firstFault_19 : decode cX4_firstFault 19 = .ok (.invokevirtual 33, 3) := by decide +kernel
theorem dX4_firstFault_22 : decode cX4_firstFault 22 = .ok (.istore_n 2, 1) := by decide +kernel
theorem dX4_firstFault_23 : decode cX4_firstFault 23 = .ok (.iload_n 2, 1) := by decide +kernel
theorem dX4_firstFault_24 : decode cX4_firstFault 24 = .ok (.iconst (-1), 1) := by decide +kernel
theorem dX4_firstFault_25 : decode cX4_firstFault 25 = .ok (.if_icmp .eq 5, 3) := by decide +kernel
theorem dX4_firstFault_28 : decode cX4_firstFault 28 = .ok (.iload_n 2, 1) := by decide +kernel
theorem dX4_firstFault_29 : decode cX4_firstFault 29 = .ok (.ireturn, 1) := by decide +kernel
theorem dX4_firstFault_30 : decode cX4_firstFault 30 = .ok (.aload_n 0, 1) := by decide +kernel
theorem dX4_firstFault_31 : decode cX4_firstFault 31 = .ok (.dup, 1) := by decide +kernel
theorem dX4_firstFault_32 : decode cX4_firstFault 32 = .ok (.getfield 29, 3) := by decide +kernel
theorem dX4_firstFault_35 : decode cX4_firstFault 35 = .ok (.aload_n 0, 1) := by decide +kernel
theorem dX4_firstFault_36 : decode cX4_firstFault 36 = .ok (.invokevirtual 37, 3) := by decide +kernel
theorem dX4_firstFault_39 : decode cX4_firstFault 39 = .ok (.ladd, 1) := by decide +kernel
theorem dX4_firstFault_40 : decode cX4_firstFault 40 = .ok (.putfield 29, 3) := by decide +kernel
theorem dX4_firstFault_43 : decode cX4_firstFault 43 = .ok (.aload_n 0, 1) := by decide +kernel
theorem dX4_firstFault_44 : decode cX4_firstFault 44 = .ok (.getfield 26, 3) := by decide +kernel
theorem dX4_firstFault_47 : decode cX4_firstFault 47 = .ok (.aload_n 0, 1) := by decide +kernel
theorem dX4_firstFault_48 : decode cX4_firstFault 48 = .ok (.getfield 22, 3) := by decide +kernel
theorem dX4_firstFault_51 : decode cX4_firstFault 51 = .ok (.if_icmp .lt 5, 3) := by decide +kernel
theorem dX4_firstFault_54 : decode cX4_firstFault 54 = .ok (.iconst (-1), 1) := by decide +kernel
theorem dX4_firstFault_55 : decode cX4_firstFault 55 = .ok (.ireturn, 1) := by decide +kernel
theorem dX4_firstFault_56 : decode cX4_firstFault 56 = .ok (.aload_n 0, 1) := by decide +kernel
theorem dX4_firstFault_57 : decode cX4_firstFault 57 = .ok (.getfield 9, 3) := by decide +kernel
theorem dX4_firstFault_60 : decode cX4_firstFault 60 = .ok (.aload_n 0, 1) := by decide +kernel
theorem dX4_firstFault_61 : decode cX4_firstFault 61 = .ok (.getfield 26, 3) := by decide +kernel
theorem dX4_firstFault_64 : decode cX4_firstFault 64 = .ok (.iaload, 1) := by decide +kernel
theorem dX4_firstFault_65 : decode cX4_firstFault 65 = .ok (.bipush 43, 2) := by decide +kernel
theorem dX4_firstFault_67 : decode cX4_firstFault 67 = .ok (.if_icmp .eq 8, 3) := by decide +kernel
theorem dX4_firstFault_70 : decode cX4_firstFault 70 = .ok (.aload_n 0, 1) := by decide +kernel
theorem dX4_firstFault_71 : decode cX4_firstFault 71 = .ok (.getfield 26, 3) := by decide +kernel
theorem dX4_firstFault_74 : decode cX4_firstFault 74 = .ok (.ireturn, 1) := by decide +kernel
theorem dX4_firstFault_75 : decode cX4_firstFault 75 = .ok (.aload_n 0, 1) := by decide +kernel
theorem dX4_firstFault_76 : decode cX4_firstFault 76 = .ok (.dup, 1) := by decide +kernel
theorem dX4_firstFault_77 : decode cX4_firstFault 77 = .ok (.getfield 26, 3) := by decide +kernel
theorem dX4_firstFault_80 : decode cX4_firstFault 80 = .ok (.iconst 1, 1) := by decide +kernel
theorem dX4_firstFault_81 : decode cX4_firstFault 81 = .ok (.iadd, 1) := by decide +kernel
theorem dX4_firstFault_82 : decode cX4_firstFault 82 = .ok (.putfield 26, 3) := by decide +kernel
theorem dX4_firstFault_85 : decode cX4_firstFault 85 = .ok (.iinc 1 1, 3) := by decide +kernel
theorem dX4_firstFault_88 : decode cX4_firstFault 88 = .ok (.goto (-76), 3) := by decide +kernel
theorem dX4_firstFault_91 : decode cX4_firstFault 91 = .ok (.aload_n 0, 1) := by decide +kernel
theorem dX4_firstFault_92 : decode cX4_firstFault 92 = .ok (.getfield 26, 3) := by decide +kernel
theorem dX4_firstFault_95 : decode cX4_firstFault 95 = .ok (.ireturn, 1) := by decide +kernel
def wX4_firstFault_12 (post : Int32 → Sto → Prop)  (K91 : Sto → Prop) (K70 : Sto → Prop) (K54 : Sto → Prop) (K28 : Int32 → Sto → Prop) : Nat → Int32 → Sto → Prop
  | 0, _, _ => False
  | n + 1, x1, σ => ((((60 : Int32)) < x1) → (K91  σ)) ∧ ((¬ (((60 : Int32)) < x1)) → (wX4_faultOfPart   σ (fun (r19 : Int32) (s19 : Sto) => ((r19 = ((-1 : Int32))) → (wX4_squareOfPart   s19 (fun (r36 : Int64) (s36 : Sto) => (((s36.1 8 2) < (s36.1 8 4)) → (vp_in (s36.1 8 2) 60 ∧ ((((s36.1 59 (s36.1 8 2).toNatClampNeg) = ((43 : Int32))) → (wX4_firstFault_12 post  K91 K70 K54 K28 n (x1 + (1 : Int32)) (wI (wL s36 8 3 ((s19.2 8 3) + r36)) 8 2 ((s36.1 8 2) + ((1 : Int32)))))) ∧ ((¬ ((s36.1 59 (s36.1 8 2).toNatClampNeg) = ((43 : Int32)))) → (K70  (wL s36 8 3 ((s19.2 8 3) + r36))))))) ∧ ((¬ ((s36.1 8 2) < (s36.1 8 4))) → (K54  (wL s36 8 3 ((s19.2 8 3) + r36))))))) ∧ ((¬ (r19 = ((-1 : Int32)))) → (K28 r19 s19)))))
set_option maxRecDepth 100000 in
set_option maxHeartbeats 4000000 in
theorem vX4_firstFault_12 (E : Ev) (post : Int32 → Sto → Prop)   (K91 : Sto → Prop) (K70 : Sto → Prop) (K54 : Sto → Prop) (K28 : Int32 → Sto → Prop) (HK91 : ∀  (σ : Sto), K91  σ → V E 3 mX4_firstFault (pI post) 91 [(0, .ref 8)] [] σ) (HK70 : ∀  (σ : Sto), K70  σ → V E 3 mX4_firstFault (pI post) 70 [(0, .ref 8)] [] σ) (HK54 : ∀  (σ : Sto), K54  σ → V E 3 mX4_firstFault (pI post) 54 [] [] σ) (HK28 : ∀ (x2 : Int32) (σ : Sto), K28 x2 σ → V E 3 mX4_firstFault (pI post) 28 [(2, .int x2)] [] σ) : ∀ (n : Nat) (x1 : Int32) (σ : Sto), wX4_firstFault_12 post  K91 K70 K54 K28 n x1 σ → V E 3 mX4_firstFault (pI post) 12 [(0, .ref 8), (1, .int x1)] [] σ := by
  intro n
  induction n with
  | zero => intro x1 σ h; exact h.elim
  | succ n ih =>
    intro x1 σ h
    unfold wX4_firstFault_12 at h
    refine V_iload_n (pc := 12) 1 dX4_firstFault_12 rfl ?_
    refine V_bipush (pc := 13) (v := 60) dX4_firstFault_13 (by decide) ?_
    refine V_icmp_gt (pc := 15) (tgt := 91) dX4_firstFault_15 (by decide) (fun hc => ?_) (fun hc => ?_)
    · replace h := h.1 hc
      exact V_loc [0] rfl (HK91  σ  h)
    · replace h := h.2 hc
      refine V_aload_n (pc := 18) 0 dX4_firstFault_18 rfl ?_
      refine V_callV (pc := 19) (M' := mX4_faultOfPart) dX4_firstFault_19 ml_X4_33 kv_X4_faultOfPart ko_X4_faultOfPart sh_8 (by decide) (by decide) rfl rfl (Nat.le_of_ble_eq_true rfl) (Nat.le_of_ble_eq_true rfl) (vX4_faultOfPart E   σ _  h) (kI (fun r19 s19 h => ?_))
      refine V_istore_n (pc := 22) dX4_firstFault_22 (by decide) ?_
      refine V_iload_n (pc := 23) 0 dX4_firstFault_23 rfl ?_
      refine V_iconst (pc := 24) (v := -1) dX4_firstFault_24 (by decide) ?_
      refine V_icmp_eq (pc := 25) (tgt := 30) dX4_firstFault_25 (by decide) (fun hc => ?_) (fun hc => ?_)
      · replace h := h.1 hc
        refine V_aload_n (pc := 30) 1 dX4_firstFault_30 rfl ?_
        refine V_dup (pc := 31) dX4_firstFault_31 rfl ?_
        refine V_getL (pc := 32) dX4_firstFault_32 fl_X4_29 sh_8 rfl ?_
        refine V_aload_n (pc := 35) 1 dX4_firstFault_35 rfl ?_
        refine V_callV (pc := 36) (M' := mX4_squareOfPart) dX4_firstFault_36 ml_X4_37 kv_X4_squareOfPart ko_X4_squareOfPart sh_8 (by decide) (by decide) rfl rfl (Nat.le_of_ble_eq_true rfl) (Nat.le_of_ble_eq_true rfl) (vX4_squareOfPart E   s19 _  h) (kL (fun r36 s36 h => ?_))
        refine V_ladd (pc := 39) dX4_firstFault_39 ?_
        refine V_putL (pc := 40) dX4_firstFault_40 fl_X4_29 po_X4_3 sh_8 rfl rfl rfl ?_
        refine V_aload_n (pc := 43) 1 dX4_firstFault_43 rfl ?_
        refine V_getI (pc := 44) dX4_firstFault_44 fl_X4_26 sh_8 rfl ?_
        refine V_aload_n (pc := 47) 1 dX4_firstFault_47 rfl ?_
        refine V_getI (pc := 48) dX4_firstFault_48 fl_X4_22 sh_8 rfl ?_
        refine V_icmp_lt (pc := 51) (tgt := 56) dX4_firstFault_51 (by decide) (fun hc => ?_) (fun hc => ?_)
        · replace h := h.1 hc
          refine V_aload_n (pc := 56) 1 dX4_firstFault_56 rfl ?_
          refine V_getR (pc := 57) dX4_firstFault_57 fl_X4_9 sh_8 rfl ?_
          refine V_aload_n (pc := 60) 1 dX4_firstFault_60 rfl ?_
          refine V_getI (pc := 61) dX4_firstFault_61 fl_X4_26 sh_8 rfl ?_
          obtain ⟨i64, h⟩ := h
          refine V_iald (pc := 64) dX4_firstFault_64 sh_59 i64 ?_
          refine V_bipush (pc := 65) (v := 43) dX4_firstFault_65 (by decide) ?_
          refine V_icmp_eq (pc := 67) (tgt := 75) dX4_firstFault_67 (by decide) (fun hc => ?_) (fun hc => ?_)
          · replace h := h.1 hc
            refine V_aload_n (pc := 75) 1 dX4_firstFault_75 rfl ?_
            refine V_dup (pc := 76) dX4_firstFault_76 rfl ?_
            refine V_getI (pc := 77) dX4_firstFault_77 fl_X4_26 sh_8 rfl ?_
            refine V_iconst (pc := 80) (v := 1) dX4_firstFault_80 (by decide) ?_
            refine V_iadd (pc := 81) dX4_firstFault_81 ?_
            refine V_putI (pc := 82) dX4_firstFault_82 fl_X4_26 po_X4_2 sh_8 rfl rfl rfl ?_
            refine V_iinc (pc := 85) 2 (v := 1) dX4_firstFault_85 rfl (by decide) (by decide) ?_
            refine V_goto (pc := 88) (tgt := 12) dX4_firstFault_88 (by decide) ?_
            exact V_loc [2, 0] rfl (ih (x1 + (1 : Int32)) (wI (wL s36 8 3 ((s19.2 8 3) + r36)) 8 2 ((s36.1 8 2) + ((1 : Int32))))  h)
          · replace h := h.2 hc
            exact V_loc [1] rfl (HK70  (wL s36 8 3 ((s19.2 8 3) + r36))  h)
        · replace h := h.2 hc
          exact V_loc [] rfl (HK54  (wL s36 8 3 ((s19.2 8 3) + r36))  h)
      · replace h := h.2 hc
        exact V_loc [0] rfl (HK28 r19 s19  h)
def wX4_firstFault   (σ : Sto) (post : Int32 → Sto → Prop) : Prop := ∃ n12, wX4_firstFault_12 post  (fun  (σ_1 : Sto) => post (σ_1.1 8 2) σ_1) (fun  (σ_2 : Sto) => post (σ_2.1 8 2) σ_2) (fun  (σ_3 : Sto) => post ((-1 : Int32)) σ_3) (fun (x2_4 : Int32) (σ_4 : Sto) => post x2_4 σ_4) n12 ((0 : Int32)) (wL (wI σ 8 2 ((0 : Int32))) 8 3 ((0 : Int64)))
set_option maxRecDepth 100000 in
set_option maxHeartbeats 4000000 in
theorem vX4_firstFault (E : Ev)   (σ : Sto) (post : Int32 → Sto → Prop)  (h : wX4_firstFault   σ post) : V E 3 mX4_firstFault (pI post) 0 [(0, .ref 8)] [] σ := by
  unfold wX4_firstFault at h
  refine V_aload_n (pc := 0) 0 dX4_firstFault_0 rfl ?_
  refine V_iconst (pc := 1) (v := 0) dX4_firstFault_1 (by decide) ?_
  refine V_putI (pc := 2) dX4_firstFault_2 fl_X4_26 po_X4_2 sh_8 rfl rfl rfl ?_
  refine V_aload_n (pc := 5) 0 dX4_firstFault_5 rfl ?_
  refine V_lconst (pc := 6) (v := 0) dX4_firstFault_6 (by decide) ?_
  refine V_putL (pc := 7) dX4_firstFault_7 fl_X4_29 po_X4_3 sh_8 rfl rfl rfl ?_
  refine V_iconst (pc := 10) (v := 0) dX4_firstFault_10 (by decide) ?_
  refine V_istore_n (pc := 11) dX4_firstFault_11 (by decide) ?_
  obtain ⟨n12, h⟩ := h
  refine V_loc [1, 0] rfl (vX4_firstFault_12 E post   _ _ _ _ (fun σ_1 h => ?_) (fun σ_2 h => ?_) (fun σ_3 h => ?_) (fun x2_4 σ_4 h => ?_) n12 ((0 : Int32)) (wL (wI σ 8 2 ((0 : Int32))) 8 3 ((0 : Int64)))  h)
  · refine V_aload_n (pc := 91) 0 dX4_firstFault_91 rfl ?_
    refine V_getI (pc := 92) dX4_firstFault_92 fl_X4_26 sh_8 rfl ?_
    exact V_iret dX4_firstFault_95 rfl h
  · refine V_aload_n (pc := 70) 0 dX4_firstFault_70 rfl ?_
    refine V_getI (pc := 71) dX4_firstFault_71 fl_X4_26 sh_8 rfl ?_
    exact V_iret dX4_firstFault_74 rfl h
  · refine V_iconst (pc := 54) (v := -1) dX4_firstFault_54 (by decide) ?_
    exact V_iret dX4_firstFault_55 rfl h
  · refine V_iload_n (pc := 28) 0 dX4_firstFault_28 rfl ?_
    exact V_iret dX4_firstFault_29 rfl h
theorem dX4_doubtOfSquare_0 : decode cX4_doubtOfSquare 0 = .ok (.iconst 1, 1) := by decide +kernel
theorem dX4_doubtOfSquare_1 : decode cX4_doubtOfSquare 1 = .ok (.istore_n 1, 1) := by decide +kernel
theorem dX4_doubtOfSquare_2 : decode cX4_doubtOfSquare 2 = .ok (.iload_n 1, 1) := by decide +kernel
theorem dX4_doubtOfSquare_3 : decode cX4_doubtOfSquare 3 = .ok (.sipush 1000, 3) := by decide +kernel
theorem dX4_doubtOfSquare_6 : decode cX4_doubtOfSquare 6 = .ok (.if_icmp .ge 27, 3) := by decide +kernel
theorem dX4_doubtOfSquare_9 : decode cX4_doubtOfSquare 9 = .ok (.iload_n 1, 1) := by decide +kernel
theorem dX4_doubtOfSquare_10 : decode cX4_doubtOfSquare 10 = .ok (.iload_n 1, 1) := by decide +kernel
theorem dX4_doubtOfSquare_11 : decode cX4_doubtOfSquare 11 = .ok (.imul, 1) := by decide +kernel
theorem dX4_doubtOfSquare_12 : decode cX4_doubtOfSquare 12 = .ok (.i2l, 1) := by decide +kernel
theorem dX4_doubtOfSquare_13 : decode cX4_doubtOfSquare 13 = .ok (.ldc2_w 62, 3) := by decide +kernel
theorem dX4_doubtOfSquare_16 : decode cX4_doubtOfSquare 16 = .ok (.lmul, 1) := by decide +kernel
theorem dX4_doubtOfSquare_17 : decode cX4_doubtOfSquare 17 = .ok (.aload_n 0, 1) := by decide +kernel
theorem dX4_doubtOfSquare_18 : decode cX4_doubtOfSquare 18 = .ok (.getfield 29, 3) := by decide +kernel
theorem dX4_doubtOfSquare_21 : decode cX4_doubtOfSquare 21 = .ok (.lcmp, 1) := by decide +kernel
theorem dX4_doubtOfSquare_22 : decode cX4_doubtOfSquare 22 = .ok (.ifCond .lt 5, 3) := by decide +kernel
theorem dX4_doubtOfSquare_25 : decode cX4_doubtOfSquare 25 = .ok (.iload_n 1, 1) := by decide +kernel
theorem dX4_doubtOfSquare_26 : decode cX4_doubtOfSquare 26 = .ok (.ireturn, 1) := by decide +kernel
theorem dX4_doubtOfSquare_27 : decode cX4_doubtOfSquare 27 = .ok (.iinc 1 1, 3) := by decide +kernel
theorem dX4_doubtOfSquare_30 : decode cX4_doubtOfSquare 30 = .ok (.goto (-28), 3) := by decide +kernel
theorem dX4_doubtOfSquare_33 : decode cX4_doubtOfSquare 33 = .ok (.sipush 1000, 3) := by decide +kernel
theorem dX4_doubtOfSquare_36 : decode cX4_doubtOfSquare 36 = .ok (.ireturn, 1) := by decide +kernel
def wX4_doubtOfSquare_2 (post : Int32 → Sto → Prop)  (K33 : Sto → Prop) (K25 : Int32 → Sto → Prop) : Nat → Int32 → Sto → Prop
  | 0, _, _ => False
  | n + 1, x1, σ => ((((1000 : Int32)) ≤ x1) → (K33  σ)) ∧ ((¬ (((1000 : Int32)) ≤ x1)) → ((((((x1 * x1).toInt64) * ((10000 : Int64))) < (σ.2 8 3)) → (wX4_doubtOfSquare_2 post  K33 K25 n (x1 + (1 : Int32)) σ)) ∧ ((¬ ((((x1 * x1).toInt64) * ((10000 : Int64))) < (σ.2 8 3))) → (K25 x1 σ))))
set_option maxRecDepth 100000 in
set_option maxHeartbeats 4000000 in
theorem vX4_doubtOfSquare_2 (E : Ev) (post : Int32 → Sto → Prop)   (K33 : Sto → Prop) (K25 : Int32 → Sto → Prop) (HK33 : ∀  (σ : Sto), K33  σ → V E 0 mX4_doubtOfSquare (pI post) 33 [] [] σ) (HK25 : ∀ (x1 : Int32) (σ : Sto), K25 x1 σ → V E 0 mX4_doubtOfSquare (pI post) 25 [(1, .int x1)] [] σ) : ∀ (n : Nat) (x1 : Int32) (σ : Sto), wX4_doubtOfSquare_2 post  K33 K25 n x1 σ → V E 0 mX4_doubtOfSquare (pI post) 2 [(0, .ref 8), (1, .int x1)] [] σ := by
  intro n
  induction n with
  | zero => intro x1 σ h; exact h.elim
  | succ n ih =>
    intro x1 σ h
    unfold wX4_doubtOfSquare_2 at h
    refine V_iload_n (pc := 2) 1 dX4_doubtOfSquare_2 rfl ?_
    refine V_sipush (pc := 3) (v := 1000) dX4_doubtOfSquare_3 (by decide) ?_
    refine V_icmp_ge (pc := 6) (tgt := 33) dX4_doubtOfSquare_6 (by decide) (fun hc => ?_) (fun hc => ?_)
    · replace h := h.1 hc
      exact V_loc [] rfl (HK33  σ  h)
    · replace h := h.2 hc
      refine V_iload_n (pc := 9) 1 dX4_doubtOfSquare_9 rfl ?_
      refine V_iload_n (pc := 10) 1 dX4_doubtOfSquare_10 rfl ?_
      refine V_imul (pc := 11) dX4_doubtOfSquare_11 ?_
      refine V_i2l (pc := 12) dX4_doubtOfSquare_12 ?_
      refine V_ldc2 (pc := 13) dX4_doubtOfSquare_13 cl_X4_62 ?_
      refine V_lmul (pc := 16) dX4_doubtOfSquare_16 ?_
      refine V_aload_n (pc := 17) 0 dX4_doubtOfSquare_17 rfl ?_
      refine V_getL (pc := 18) dX4_doubtOfSquare_18 fl_X4_29 sh_8 rfl ?_
      refine V_lc_lt (pc := 21) (tgt := 27) dX4_doubtOfSquare_21 dX4_doubtOfSquare_22 (by decide) (fun hc => ?_) (fun hc => ?_)
      · replace h := h.1 hc
        refine V_iinc (pc := 27) 1 (v := 1) dX4_doubtOfSquare_27 rfl (by decide) (by decide) ?_
        refine V_goto (pc := 30) (tgt := 2) dX4_doubtOfSquare_30 (by decide) ?_
        exact V_loc [1, 0] rfl (ih (x1 + (1 : Int32)) σ  h)
      · replace h := h.2 hc
        exact V_loc [1] rfl (HK25 x1 σ  h)
def wX4_doubtOfSquare   (σ : Sto) (post : Int32 → Sto → Prop) : Prop := ∃ n2, wX4_doubtOfSquare_2 post  (fun  (σ_1 : Sto) => post ((1000 : Int32)) σ_1) (fun (x1_2 : Int32) (σ_2 : Sto) => post x1_2 σ_2) n2 ((1 : Int32)) σ
set_option maxRecDepth 100000 in
set_option maxHeartbeats 4000000 in
theorem vX4_doubtOfSquare (E : Ev)   (σ : Sto) (post : Int32 → Sto → Prop)  (h : wX4_doubtOfSquare   σ post) : V E 0 mX4_doubtOfSquare (pI post) 0 [(0, .ref 8)] [] σ := by
  unfold wX4_doubtOfSquare at h
  refine V_iconst (pc := 0) (v := 1) dX4_doubtOfSquare_0 (by decide) ?_
  refine V_istore_n (pc := 1) dX4_doubtOfSquare_1 (by decide) ?_
  obtain ⟨n2, h⟩ := h
  refine V_loc [1, 0] rfl (vX4_doubtOfSquare_2 E post   _ _ (fun σ_1 h => ?_) (fun x1_2 σ_2 h => ?_) n2 ((1 : Int32)) σ  h)
  · refine V_sipush (pc := 33) (v := 1000) dX4_doubtOfSquare_33 (by decide) ?_
    exact V_iret dX4_doubtOfSquare_36 rfl h
  · refine V_iload_n (pc := 25) 0 dX4_doubtOfSquare_25 rfl ?_
    exact V_iret dX4_doubtOfSquare_26 rfl h

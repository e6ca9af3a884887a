theorem dX0_changeFactor_0 : decode cX0_changeFactor 0 = .ok (.aload_n 0, 1) := by decide +kernel
theorem dX0_changeFactor_1 : decode cX0_changeFactor 1 = .ok (.getfield 15, 3) := by decide +kernel
theorem dX0_changeFactor_4 : decode cX0_changeFactor 4 = .ok (.istore_n 2, 1) := by decide +kernel
theorem dX0_changeFactor_5 : decode cX0_changeFactor 5 = .ok (.aload_n 0, 1) := by decide +kernel
theorem dX0_changeFactor_6 : decode cX0_changeFactor 6 = .ok (.iload_n 1, 1) := by decide +kernel
theorem dX0_changeFactor_7 : decode cX0_changeFactor 7 = .ok (.putfield 15, 3) := by decide +kernel
theorem dX0_changeFactor_10 : decode cX0_changeFactor 10 = .ok (.iload_n 2, 1) := by decide +kernel
theorem dX0_changeFactor_11 : decode cX0_changeFactor 11 = .ok (.ireturn, 1) := by decide +kernel
def wX0_changeFactor  (x1 : Int32) (σ : Sto) (post : Int32 → Sto → Prop) : Prop := post (σ.1 3 3) (wI σ 3 3 x1)
set_option maxRecDepth 100000 in
set_option maxHeartbeats 4000000 in
theorem vX0_changeFactor (E : Ev)  (x1 : Int32) (σ : Sto) (post : Int32 → Sto → Prop)  (h : wX0_changeFactor  x1 σ post) : V E 0 mX0_changeFactor (pI post) 0 [(0, .ref 3), (1, .int x1)] [] σ := by
  unfold wX0_changeFactor at h
  refine V_aload_n (pc := 0) 0 dX0_changeFactor_0 rfl ?_
  refine V_getI (pc := 1) dX0_changeFactor_1 fl_X0_15 sh_3 rfl ?_
  refine V_istore_n (pc := 4) dX0_changeFactor_4 (by decide) ?_
  refine V_aload_n (pc := 5) 1 dX0_changeFactor_5 rfl ?_
  refine V_iload_n (pc := 6) 2 dX0_changeFactor_6 rfl ?_
  refine V_putI (pc := 7) dX0_changeFactor_7 fl_X0_15 po_X0_3 sh_3 rfl rfl rfl ?_
  refine V_iload_n (pc := 10) 0 dX0_changeFactor_10 rfl ?_
  exact V_iret dX0_changeFactor_11 rfl h
theorem dX0_holds_0 : decode cX0_holds 0 = .ok (.aload_n 0, 1) := by decide +kernel
theorem dX0_holds_1 : decode cX0_holds 1 = .ok (.getfield 23, 3) := by decide +kernel
theorem dX0_holds_4 : decode cX0_holds 4 = .ok (.getfield 27, 3) := by decide +kernel
theorem dX0_holds_7 : decode cX0_holds 7 = .ok (.iload_n 3, 1) := by decide +kernel
theorem dX0_holds_8 : decode cX0_holds 8 = .ok (.aaload, 1) := by decide +kernel
theorem dX0_holds_9 : decode cX0_holds 9 = .ok (.iload_n 1, 1) := by decide +kernel
theorem dX0_holds_10 : decode cX0_holds 10 = .ok (.iaload, 1) := by decide +kernel
theorem dX0_holds_11 : decode cX0_holds 11 = .ok (.aload_n 0, 1) := by decide +kernel
theorem dX0_holds_12 : decode cX0_holds 12 = .ok (.getfield 23, 3) := by decide +kernel
theorem dX0_holds_15 : decode cX0_holds 15 = .ok (.getfield 27, 3) := by decide +kernel
theorem dX0_holds_18 : decode cX0_holds 18 = .ok (.iload_n 3, 1) := by decide +kernel
theorem dX0_holds_19 : decode cX0_holds 19 = .ok (.aaload, 1) := by decide +kernel
theorem dX0_holds_20 : decode cX0_holds 20 = .ok (.iload_n 2, 1) := by decide +kernel
theorem dX0_holds_21 : decode cX0_holds 21 = .ok (.iaload, 1) := by decide +kernel
theorem dX0_holds_22 : decode cX0_holds 22 = .ok (.isub, 1) := by decide +kernel
theorem dX0_holds_23 : decode cX0_holds 23 = .ok (.i2l, 1) := by decide +kernel
theorem dX0_holds_24 : decode cX0_holds 24 = .ok (.lstore 4, 2) := by decide +kernel
theorem dX0_holds_26 : decode cX0_holds 26 = .ok (.aload_n 0, 1) := by decide +kernel
theorem dX0_holds_27 : decode cX0_holds 27 = .ok (.getfield 19, 3) := by decide +kernel
theorem dX0_holds_30 : decode cX0_holds 30 = .ok (.iload_n 1, 1) := by decide +kernel
theorem dX0_holds_31 : decode cX0_holds 31 = .ok (.invokevirtual 33, 3) := by decide +kernel
theorem dX0_holds_34 : decode cX0_holds 34 = .ok (.aload_n 0, 1) := by decide +kernel
theorem dX0_holds_35 : decode cX0_holds 35 = .ok (.getfield 19, 3) := by decide +kernel
theorem dX0_holds_38 : decode cX0_holds 38 = .ok (.iload_n 2, 1) := by decide +kernel
theorem dX0_holds_39 : decode cX0_holds 39 = .ok (.invokevirtual 33, 3) := by decide +kernel
theorem dX0_holds_42 : decode cX0_holds 42 = .ok (.iadd, 1) := by decide +kernel
theorem dX0_holds_43 : decode cX0_holds 43 = .ok (.i2l, 1) := by decide +kernel
theorem dX0_holds_44 : decode cX0_holds 44 = .ok (.lstore 6, 2) := by decide +kernel
theorem dX0_holds_46 : decode cX0_holds 46 = .ok (.lload 4, 2) := by decide +kernel
theorem dX0_holds_48 : decode cX0_holds 48 = .ok (.lload 4, 2) := by decide +kernel
theorem dX0_holds_50 : decode cX0_holds 50 = .ok (.lmul, 1) := by decide +kernel
theorem dX0_holds_51 : decode cX0_holds 51 = .ok (.ldc2_w 39, 3) := by decide +kernel
theorem dX0_holds_54 : decode cX0_holds 54 = .ok (.aload_n 0, 1) := by decide +kernel
theorem dX0_holds_55 : decode cX0_holds 55 = .ok (.getfield 15, 3) := by decide +kernel
theorem dX0_holds_58 : decode cX0_holds 58 = .ok (.i2l, 1) := by decide +kernel
theorem dX0_holds_59 : decode cX0_holds 59 = .ok (.lmul, 1) := by decide +kernel
theorem dX0_holds_60 : decode cX0_holds 60 = .ok (.aload_n 0, 1) := by decide +kernel
theorem dX0_holds_61 : decode cX0_holds 61 = .ok (.getfield 15, 3) := by decide +kernel
theorem dX0_holds_64 : decode cX0_holds 64 = .ok (.i2l, 1) := by decide +kernel
theorem dX0_holds_65 : decode cX0_holds 65 = .ok (.lmul, 1) := by decide +kernel
theorem dX0_holds_66 : decode cX0_holds 66 = .ok (.lload 6, 2) := by decide +kernel
theorem dX0_holds_68 : decode cX0_holds 68 = .ok (.lmul, 1) := by decide +kernel
theorem dX0_holds_69 : decode cX0_holds 69 = .ok (.lcmp, 1) := by decide +kernel
theorem dX0_holds_70 : decode cX0_holds 70 = .ok (.ifCond .gt 7, 3) := by decide +kernel
theorem dX0_holds_73 : decode cX0_holds 73 = .ok (.iconst 1, 1) := by decide +kernel
theorem dX0_holds_74 : decode cX0_holds 74 = .ok (.goto 4, 3) := by decide +kernel
theorem dX0_holds_77 : decode cX0_holds 77 = .ok (.iconst 0, 1) := by decide +kernel
theorem dX0_holds_78 : decode cX0_holds 78 = .ok (.ireturn, 1) := by decide +kernel
def wX0_holds  (x1 : Int32) (x2 : Int32) (x3 : Int32) (σ : Sto) (post : Bool → Sto → Prop) : Prop := vp_in x3 4 ∧ (vp_in x1 14 ∧ (vp_in x3 4 ∧ (vp_in x2 14 ∧ (wX1_squaredDoubt  x1 σ (fun (r31 : Int32) (s31 : Sto) => wX1_squaredDoubt  x2 s31 (fun (r39 : Int32) (s39 : Sto) => (((((((1000000 : Int64)) * ((s39.1 3 3).toInt64)) * ((s39.1 3 3).toInt64)) * ((r31 + r39).toInt64)) < ((((σ.1 (45 + x3.toNatClampNeg) x1.toNatClampNeg) - (σ.1 (45 + x3.toNatClampNeg) x2.toNatClampNeg)).toInt64) * (((σ.1 (45 + x3.toNatClampNeg) x1.toNatClampNeg) - (σ.1 (45 + x3.toNatClampNeg) x2.toNatClampNeg)).toInt64))) → (post false s39)) ∧ ((¬ ((((((1000000 : Int64)) * ((s39.1 3 3).toInt64)) * ((s39.1 3 3).toInt64)) * ((r31 + r39).toInt64)) < ((((σ.1 (45 + x3.toNatClampNeg) x1.toNatClampNeg) - (σ.1 (45 + x3.toNatClampNeg) x2.toNatClampNeg)).toInt64) * (((σ.1 (45 + x3.toNatClampNeg) x1.toNatClampNeg) - (σ.1 (45 + x3.toNatClampNeg) x2.toNatClampNeg)).toInt64)))) → (post true s39))))))))
set_option maxRecDepth 100000 in
set_option maxHeartbeats 4000000 in
theorem vX0_holds (E : Ev)  (x1 : Int32) (x2 : Int32) (x3 : Int32) (σ : Sto) (post : Bool → Sto → Prop)  (h : wX0_holds  x1 x2 x3 σ post) : V E 1 mX0_holds (pB post) 0 [(0, .ref 3), (1, .int x1), (2, .int x2), (3, .int x3)] [] σ := by
  unfold wX0_holds at h
  refine V_aload_n (pc := 0) 0 dX0_holds_0 rfl ?_
  refine V_getR (pc := 1) dX0_holds_1 fl_X0_23 sh_3 rfl ?_
  refine V_getR (pc := 4) dX0_holds_4 fl_X0_27 sh_2 rfl ?_
  refine V_iload_n (pc := 7) 3 dX0_holds_7 rfl ?_
  obtain ⟨i8, h⟩ := h
  refine V_aald (pc := 8) dX0_holds_8 sh_44 i8 ?_
  refine V_iload_n (pc := 9) 1 dX0_holds_9 rfl ?_
  obtain ⟨i10, h⟩ := h
  refine V_iald (pc := 10) dX0_holds_10 (sr_45 (vp_lt i8)) i10 ?_
  refine V_aload_n (pc := 11) 0 dX0_holds_11 rfl ?_
  refine V_getR (pc := 12) dX0_holds_12 fl_X0_23 sh_3 rfl ?_
  refine V_getR (pc := 15) dX0_holds_15 fl_X0_27 sh_2 rfl ?_
  refine V_iload_n (pc := 18) 3 dX0_holds_18 rfl ?_
  obtain ⟨i19, h⟩ := h
  refine V_aald (pc := 19) dX0_holds_19 sh_44 i19 ?_
  refine V_iload_n (pc := 20) 2 dX0_holds_20 rfl ?_
  obtain ⟨i21, h⟩ := h
  refine V_iald (pc := 21) dX0_holds_21 (sr_45 (vp_lt i19)) i21 ?_
  refine V_isub (pc := 22) dX0_holds_22 ?_
  refine V_i2l (pc := 23) dX0_holds_23 ?_
  refine V_lstore (pc := 24) dX0_holds_24 (by decide) ?_
  refine V_aload_n (pc := 26) 1 dX0_holds_26 rfl ?_
  refine V_getR (pc := 27) dX0_holds_27 fl_X0_19 sh_3 rfl ?_
  refine V_iload_n (pc := 30) 2 dX0_holds_30 rfl ?_
  refine V_callV (pc := 31) (M' := mX1_squaredDoubt) dX0_holds_31 ml_X0_33 kv_X1_squaredDoubt ko_X1_squaredDoubt sh_1 (by decide) (by decide) rfl rfl (Nat.le_of_ble_eq_true rfl) (Nat.le_of_ble_eq_true rfl) (vX1_squaredDoubt E  x1 σ _  h) (kI (fun r31 s31 h => ?_))
  refine V_aload_n (pc := 34) 1 dX0_holds_34 rfl ?_
  refine V_getR (pc := 35) dX0_holds_35 fl_X0_19 sh_3 rfl ?_
  refine V_iload_n (pc := 38) 3 dX0_holds_38 rfl ?_
  refine V_callV (pc := 39) (M' := mX1_squaredDoubt) dX0_holds_39 ml_X0_33 kv_X1_squaredDoubt ko_X1_squaredDoubt sh_1 (by decide) (by decide) rfl rfl (Nat.le_of_ble_eq_true rfl) (Nat.le_of_ble_eq_true rfl) (vX1_squaredDoubt E  x2 s31 _  h) (kI (fun r39 s39 h => ?_))
  refine V_iadd (pc := 42) dX0_holds_42 ?_
  refine V_i2l (pc := 43) dX0_holds_43 ?_
  refine V_lstore (pc := 44) dX0_holds_44 (by decide) ?_
  refine V_lload (pc := 46) 1 dX0_holds_46 rfl ?_
  refine V_lload (pc := 48) 1 dX0_holds_48 rfl ?_
  refine V_lmul (pc := 50) dX0_holds_50 ?_
  refine V_ldc2 (pc := 51) dX0_holds_51 cl_X0_39 ?_
  refine V_aload_n (pc := 54) 2 dX0_holds_54 rfl ?_
  refine V_getI (pc := 55) dX0_holds_55 fl_X0_15 sh_3 rfl ?_
  refine V_i2l (pc := 58) dX0_holds_58 ?_
  refine V_lmul (pc := 59) dX0_holds_59 ?_
  refine V_aload_n (pc := 60) 2 dX0_holds_60 rfl ?_
  refine V_getI (pc := 61) dX0_holds_61 fl_X0_15 sh_3 rfl ?_
  refine V_i2l (pc := 64) dX0_holds_64 ?_
  refine V_lmul (pc := 65) dX0_holds_65 ?_
  refine V_lload (pc := 66) 0 dX0_holds_66 rfl ?_
  refine V_lmul (pc := 68) dX0_holds_68 ?_
  refine V_lc_gt (pc := 69) (tgt := 77) dX0_holds_69 dX0_holds_70 (by decide) (fun hc => ?_) (fun hc => ?_)
  · replace h := h.1 hc
    refine V_iconst (pc := 77) (v := 0) dX0_holds_77 (by decide) ?_
    exact V_zret false rfl dX0_holds_78 rfl h
  · replace h := h.2 hc
    refine V_iconst (pc := 73) (v := 1) dX0_holds_73 (by decide) ?_
    refine V_goto (pc := 74) (tgt := 78) dX0_holds_74 (by decide) ?_
    exact V_zret true rfl dX0_holds_78 rfl h
theorem dX0_agreeingWith_0 : decode cX0_agreeingWith 0 = .ok (.iconst 0, 1) := by decide +kernel
theorem dX0_agreeingWith_1 : decode cX0_agreeingWith 1 = .ok (.istore 4, 2) := by decide +kernel
theorem dX0_agreeingWith_3 : decode cX0_agreeingWith 3 = .ok (.iconst 0, 1) := by decide +kernel
theorem dX0_agreeingWith_4 : decode cX0_agreeingWith 4 = .ok (.istore 5, 2) := by decide +kernel
theorem dX0_agreeingWith_6 : decode cX0_agreeingWith 6 = .ok (.iload 5, 2) := by decide +kernel
theorem dX0_agreeingWith_8 : decode cX0_agreeingWith 8 = .ok (.aload_n 0, 1) := by decide +kernel
theorem dX0_agreeingWith_9 : decode cX0_agreeingWith 9 = .ok (.getfield 19, 3) := by decide +kernel
theorem dX0_agreeingWith_12 : decode cX0_agreeingWith 12 = .ok (.getfield 44, 3) := by decide +kernel
theorem dX0_agreeingWith_15 : decode cX0_agreeingWith 15 = .ok (.if_icmp .ge 45, 3) := by decide +kernel
theorem dX0_agreeingWith_18 : decode cX0_agreeingWith 18 = .ok (.iload 5, 2) := by decide +kernel
theorem dX0_agreeingWith_20 : decode cX0_agreeingWith 20 = .ok (.iload_n 1, 1) := by decide +kernel
theorem dX0_agreeingWith_21 : decode cX0_agreeingWith 21 = .ok (.if_icmp .eq 33, 3) := by decide +kernel
theorem dX0_agreeingWith_24 : decode cX0_agreeingWith 24 = .ok (.iload_n 3, 1) := by decide +kernel
theorem dX0_agreeingWith_25 : decode cX0_agreeingWith 25 = .ok (.iload 5, 2) := by decide +kernel
theorem dX0_agreeingWith_27 : decode cX0_agreeingWith 27 = .ok (.ishr, 1) := by decide +kernel
theorem dX0_agreeingWith_28 : decode cX0_agreeingWith 28 = .ok (.iconst 1, 1) := by decide +kernel
theorem dX0_agreeingWith_29 : decode cX0_agreeingWith 29 = .ok (.iand, 1) := by decide +kernel
theorem dX0_agreeingWith_30 : decode cX0_agreeingWith 30 = .ok (.iconst 1, 1) := by decide +kernel
theorem dX0_agreeingWith_31 : decode cX0_agreeingWith 31 = .ok (.if_icmp .ne 23, 3) := by decide +kernel
theorem dX0_agreeingWith_34 : decode cX0_agreeingWith 34 = .ok (.aload_n 0, 1) := by decide +kernel
theorem dX0_agreeingWith_35 : decode cX0_agreeingWith 35 = .ok (.iload_n 1, 1) := by decide +kernel
theorem dX0_agreeingWith_36 : decode cX0_agreeingWith 36 = .ok (.iload 5, 2) := by decide +kernel
theorem dX0_agreeingWith_38 : decode cX0_agreeingWith 38 = .ok (.iload_n 2, 1) := by decide +kernel
theorem dX0_agreeingWith_39 : decode cX0_agreeingWith 39 = .ok (.invokevirtual 55, 3) := by decide +kernel
theorem dX0_agreeingWith_42 : decode cX0_agreeingWith 42 = .ok (.ifCond .eq 12, 3) := by decide +kernel
theorem dX0_agreeingWith_45 : decode cX0_agreeingWith 45 = .ok (.iload 4, 2) := by decide +kernel
theorem dX0_agreeingWith_47 : decode cX0_agreeingWith 47 = .ok (.iconst 1, 1) := by decide +kernel
theorem dX0_agreeingWith_48 : decode cX0_agreeingWith 48 = .ok (.iload 5, 2) := by decide +kernel
theorem dX0_agreeingWith_50 : decode cX0_agreeingWith 50 = .ok (.ishl, 1) := by decide +kernel
theorem dX0_agreeingWith_51 : decode cX0_agreeingWith 51 = .ok (.ior, 1) := by decide +kernel
theorem dX0_agreeingWith_52 : decode cX0_agreeingWith 52 = .ok (.istore 4, 2) := by decide +kernel
theorem dX0_agreeingWith_54 : decode cX0_agreeingWith 54 = .ok (.iinc 5 1, 3) := by decide +kernel
theorem dX0_agreeingWith_57 : decode cX0_agreeingWith 57 = .ok (.goto (-51), 3) := by decide +kernel
theorem dX0_agreeingWith_60 : decode cX0_agreeingWith 60 = .ok (.iload 4, 2) := by decide +kernel
theorem dX0_agreeingWith_62 : decode cX0_agreeingWith 62 = .ok (.ireturn, 1) := by decide +kernel
def wX0_agreeingWith_6 (post : Int32 → Sto → Prop)  (K60 : Int32 → Sto → Prop) : Nat → Int32 → Int32 → Int32 → Int32 → Int32 → Sto → Prop
  | 0, _, _, _, _, _, _ => False
  | n + 1, x1, x2, x3, x4, x5, σ => (((σ.1 1 2) ≤ x5) → (K60 x4 σ)) ∧ ((¬ ((σ.1 1 2) ≤ x5)) → (((x5 = x1) → (wX0_agreeingWith_6 post  K60 n x1 x2 x3 x4 (x5 + (1 : Int32)) σ)) ∧ ((¬ (x5 = x1)) → (((¬ ((x3 >>> (x5 &&& 31)) &&& ((1 : Int32))) = ((1 : Int32))) → (wX0_agreeingWith_6 post  K60 n x1 x2 x3 x4 (x5 + (1 : Int32)) σ)) ∧ ((((x3 >>> (x5 &&& 31)) &&& ((1 : Int32))) = ((1 : Int32))) → (wX0_holds  x1 x5 x2 σ (fun (r39 : Bool) (s39 : Sto) => ((r39 = false) → (wX0_agreeingWith_6 post  K60 n x1 x2 x3 x4 (x5 + (1 : Int32)) s39)) ∧ ((r39 = true) → (wX0_agreeingWith_6 post  K60 n x1 x2 x3 (x4 ||| (((1 : Int32)) <<< (x5 &&& 31))) (x5 + (1 : Int32)) s39)))))))))
set_option maxRecDepth 100000 in
set_option maxHeartbeats 4000000 in
theorem vX0_agreeingWith_6 (E : Ev) (post : Int32 → Sto → Prop)   (K60 : Int32 → Sto → Prop) (HK60 : ∀ (x4 : Int32) (σ : Sto), K60 x4 σ → V E 2 mX0_agreeingWith (pI post) 60 [(4, .int x4)] [] σ) : ∀ (n : Nat) (x1 : Int32) (x2 : Int32) (x3 : Int32) (x4 : Int32) (x5 : Int32) (σ : Sto), wX0_agreeingWith_6 post  K60 n x1 x2 x3 x4 x5 σ → V E 2 mX0_agreeingWith (pI post) 6 [(0, .ref 3), (1, .int x1), (2, .int x2), (3, .int x3), (4, .int x4), (5, .int x5)] [] σ := by
  intro n
  induction n with
  | zero => intro x1 x2 x3 x4 x5 σ h; exact h.elim
  | succ n ih =>
    intro x1 x2 x3 x4 x5 σ h
    unfold wX0_agreeingWith_6 at h
    refine V_iload (pc := 6) 5 dX0_agreeingWith_6 rfl ?_
    refine V_aload_n (pc := 8) 0 dX0_agreeingWith_8 rfl ?_
    refine V_getR (pc := 9) dX0_agreeingWith_9 fl_X0_19 sh_3 rfl ?_
    refine V_getI (pc := 12) dX0_agreeingWith_12 fl_X0_44 sh_1 rfl ?_
    refine V_icmp_ge (pc := 15) (tgt := 60) dX0_agreeingWith_15 (by decide) (fun hc => ?_) (fun hc => ?_)
    · replace h := h.1 hc
      exact V_loc [4] rfl (HK60 x4 σ  h)
    · replace h := h.2 hc
      refine V_iload (pc := 18) 5 dX0_agreeingWith_18 rfl ?_
      refine V_iload_n (pc := 20) 1 dX0_agreeingWith_20 rfl ?_
      refine V_icmp_eq (pc := 21) (tgt := 54) dX0_agreeingWith_21 (by decide) (fun hc => ?_) (fun hc => ?_)
      · replace h := h.1 hc
        refine V_iinc (pc := 54) 5 (v := 1) dX0_agreeingWith_54 rfl (by decide) (by decide) ?_
        refine V_goto (pc := 57) (tgt := 6) dX0_agreeingWith_57 (by decide) ?_
        exact V_loc [1, 2, 3, 4, 5, 0] rfl (ih x1 x2 x3 x4 (x5 + (1 : Int32)) σ  h)
      · replace h := h.2 hc
        refine V_iload_n (pc := 24) 3 dX0_agreeingWith_24 rfl ?_
        refine V_iload (pc := 25) 5 dX0_agreeingWith_25 rfl ?_
        refine V_ishr (pc := 27) dX0_agreeingWith_27 ?_
        refine V_iconst (pc := 28) (v := 1) dX0_agreeingWith_28 (by decide) ?_
        refine V_iand (pc := 29) dX0_agreeingWith_29 ?_
        refine V_iconst (pc := 30) (v := 1) dX0_agreeingWith_30 (by decide) ?_
        refine V_icmp_ne (pc := 31) (tgt := 54) dX0_agreeingWith_31 (by decide) (fun hc => ?_) (fun hc => ?_)
        · replace h := h.1 hc
          refine V_iinc (pc := 54) 5 (v := 1) dX0_agreeingWith_54 rfl (by decide) (by decide) ?_
          refine V_goto (pc := 57) (tgt := 6) dX0_agreeingWith_57 (by decide) ?_
          exact V_loc [1, 2, 3, 4, 5, 0] rfl (ih x1 x2 x3 x4 (x5 + (1 : Int32)) σ  h)
        · replace h := h.2 hc
          refine V_aload_n (pc := 34) 0 dX0_agreeingWith_34 rfl ?_
          refine V_iload_n (pc := 35) 1 dX0_agreeingWith_35 rfl ?_
          refine V_iload (pc := 36) 5 dX0_agreeingWith_36 rfl ?_
          refine V_iload_n (pc := 38) 2 dX0_agreeingWith_38 rfl ?_
          refine V_callV (pc := 39) (M' := mX0_holds) dX0_agreeingWith_39 ml_X0_55 kv_X0_holds ko_X0_holds sh_3 (by decide) (by decide) rfl rfl (Nat.le_of_ble_eq_true rfl) (Nat.le_of_ble_eq_true rfl) (vX0_holds E  x1 x5 x2 σ _  h) (kB (fun r39 s39 h => ?_))
          refine V_ifz (pc := 42) (tgt := 54) dX0_agreeingWith_42 (by decide) (fun hc => ?_) (fun hc => ?_)
          · replace h := h.1 hc
            refine V_iinc (pc := 54) 5 (v := 1) dX0_agreeingWith_54 rfl (by decide) (by decide) ?_
            refine V_goto (pc := 57) (tgt := 6) dX0_agreeingWith_57 (by decide) ?_
            exact V_loc [1, 2, 3, 4, 5, 0] rfl (ih x1 x2 x3 x4 (x5 + (1 : Int32)) s39  h)
          · replace h := h.2 hc
            refine V_iload (pc := 45) 4 dX0_agreeingWith_45 rfl ?_
            refine V_iconst (pc := 47) (v := 1) dX0_agreeingWith_47 (by decide) ?_
            refine V_iload (pc := 48) 5 dX0_agreeingWith_48 rfl ?_
            refine V_ishl (pc := 50) dX0_agreeingWith_50 ?_
            refine V_ior (pc := 51) dX0_agreeingWith_51 ?_
            refine V_istore (pc := 52) dX0_agreeingWith_52 (by decide) ?_
            refine V_iinc (pc := 54) 5 (v := 1) dX0_agreeingWith_54 rfl (by decide) (by decide) ?_
            refine V_goto (pc := 57) (tgt := 6) dX0_agreeingWith_57 (by decide) ?_
            exact V_loc [2, 3, 4, 5, 1, 0] rfl (ih x1 x2 x3 (x4 ||| (((1 : Int32)) <<< (x5 &&& 31))) (x5 + (1 : Int32)) s39  h)
def wX0_agreeingWith  (x1 : Int32) (x2 : Int32) (x3 : Int32) (σ : Sto) (post : Int32 → Sto → Prop) : Prop := ∃ n6, wX0_agreeingWith_6 post  (fun (x4_1 : Int32) (σ_1 : Sto) => post x4_1 σ_1) n6 x1 x2 x3 ((0 : Int32)) ((0 : Int32)) σ
set_option maxRecDepth 100000 in
set_option maxHeartbeats 4000000 in
theorem vX0_agreeingWith (E : Ev)  (x1 : Int32) (x2 : Int32) (x3 : Int32) (σ : Sto) (post : Int32 → Sto → Prop)  (h : wX0_agreeingWith  x1 x2 x3 σ post) : V E 2 mX0_agreeingWith (pI post) 0 [(0, .ref 3), (1, .int x1), (2, .int x2), (3, .int x3)] [] σ := by
  unfold wX0_agreeingWith at h
  refine V_iconst (pc := 0) (v := 0) dX0_agreeingWith_0 (by decide) ?_
  refine V_istore (pc := 1) dX0_agreeingWith_1 (by decide) ?_
  refine V_iconst (pc := 3) (v := 0) dX0_agreeingWith_3 (by decide) ?_
  refine V_istore (pc := 4) dX0_agreeingWith_4 (by decide) ?_
  obtain ⟨n6, h⟩ := h
  refine V_loc [2, 3, 4, 5, 1, 0] rfl (vX0_agreeingWith_6 E post   _ (fun x4_1 σ_1 h => ?_) n6 x1 x2 x3 ((0 : Int32)) ((0 : Int32)) σ  h)
  · refine V_iload (pc := 60) 0 dX0_agreeingWith_60 rfl ?_
    exact V_iret dX0_agreeingWith_62 rfl h
theorem dX0_widestCircle_0 : decode cX0_widestCircle 0 = .ok (.iload_n 2, 1) := by decide +kernel
theorem dX0_widestCircle_1 : decode cX0_widestCircle 1 = .ok (.invokestatic 59, 3) := by decide +kernel
theorem dX0_widestCircle_4 : decode cX0_widestCircle 4 = .ok (.iload_n 3, 1) := by decide +kernel
theorem dX0_widestCircle_5 : decode cX0_widestCircle 5 = .ok (.invokestatic 59, 3) := by decide +kernel
theorem dX0_widestCircle_8 : decode cX0_widestCircle 8 = .ok (.iadd, 1) := by decide +kernel
theorem dX0_widestCircle_9 : decode cX0_widestCircle 9 = .ok (.istore 5, 2) := by decide +kernel
theorem dX0_widestCircle_11 : decode cX0_widestCircle 11 = .ok (.iload 5, 2) := by decide +kernel
theorem dX0_widestCircle_13 : decode cX0_widestCircle 13 = .ok (.iload 4, 2) := by decide +kernel
theorem dX0_widestCircle_15 : decode cX0_widestCircle 15 = .ok (.invokestatic 59, 3) := by decide +kernel
theorem dX0_widestCircle_18 : decode cX0_widestCircle 18 = .ok (.if_icmp .gt 6, 3) := by decide +kernel
theorem dX0_widestCircle_21 : decode cX0_widestCircle 21 = .ok (.iload 4, 2) := by decide +kernel
theorem dX0_widestCircle_23 : decode cX0_widestCircle 23 = .ok (.ireturn, 1) := by decide +kernel
theorem dX0_widestCircle_24 : decode cX0_widestCircle 24 = .ok (.iload_n 1, 1) := by decide +kernel
theorem dX0_widestCircle_25 : decode cX0_widestCircle 25 = .ok (.ifCond .lt 9, 3) := by decide +kernel
theorem dX0_widestCircle_28 : decode cX0_widestCircle 28 = .ok (.iload_n 1, 1) := by decide +kernel
theorem dX0_widestCircle_29 : decode cX0_widestCircle 29 = .ok (.aload_n 0, 1) := by decide +kernel
theorem dX0_widestCircle_30 : decode cX0_widestCircle 30 = .ok (.arraylength, 1) := by decide +kernel
theorem dX0_widestCircle_31 : decode cX0_widestCircle 31 = .ok (.if_icmp .lt 5, 3) := by decide +kernel
theorem dX0_widestCircle_34 : decode cX0_widestCircle 34 = .ok (.iload_n 3, 1) := by decide +kernel
theorem dX0_widestCircle_35 : decode cX0_widestCircle 35 = .ok (.ireturn, 1) := by decide +kernel
theorem dX0_widestCircle_36 : decode cX0_widestCircle 36 = .ok (.iconst 1, 1) := by decide +kernel
theorem dX0_widestCircle_37 : decode cX0_widestCircle 37 = .ok (.iload_n 1, 1) := by decide +kernel
theorem dX0_widestCircle_38 : decode cX0_widestCircle 38 = .ok (.ishl, 1) := by decide +kernel
theorem dX0_widestCircle_39 : decode cX0_widestCircle 39 = .ok (.istore 6, 2) := by decide +kernel
theorem dX0_widestCircle_41 : decode cX0_widestCircle 41 = .ok (.iload_n 2, 1) := by decide +kernel
theorem dX0_widestCircle_42 : decode cX0_widestCircle 42 = .ok (.iload 6, 2) := by decide +kernel
theorem dX0_widestCircle_44 : decode cX0_widestCircle 44 = .ok (.iand, 1) := by decide +kernel
theorem dX0_widestCircle_45 : decode cX0_widestCircle 45 = .ok (.ifCond .ne 15, 3) := by decide +kernel
theorem dX0_widestCircle_48 : decode cX0_widestCircle 48 = .ok (.aload_n 0, 1) := by decide +kernel
theorem dX0_widestCircle_49 : decode cX0_widestCircle 49 = .ok (.iload_n 1, 1) := by decide +kernel
theorem dX0_widestCircle_50 : decode cX0_widestCircle 50 = .ok (.iconst 1, 1) := by decide +kernel
theorem dX0_widestCircle_51 : decode cX0_widestCircle 51 = .ok (.isub, 1) := by decide +kernel
theorem dX0_widestCircle_52 : decode cX0_widestCircle 52 = .ok (.iload_n 2, 1) := by decide +kernel
theorem dX0_widestCircle_53 : decode cX0_widestCircle 53 = .ok (.iload_n 3, 1) := by decide +kernel
theorem dX0_widestCircle_54 : decode cX0_widestCircle 54 = .ok (.iload 4, 2) := by decide +kernel
theorem dX0_widestCircle_56 : decode cX0_widestCircle 56 = .ok (.invokestatic 51, 3) := by decide +kernel
theorem dX0_widestCircle_59 : decode cX0_widestCircle 59 = .ok (.ireturn, 1) := by decide +kernel
theorem dX0_widestCircle_60 : decode cX0_widestCircle 60 = .ok (.aload_n 0, 1) := by decide +kernel
theorem dX0_widestCircle_61 : decode cX0_widestCircle 61 = .ok (.iload_n 1, 1) := by decide +kernel
theorem dX0_widestCircle_62 : decode cX0_widestCircle 62 = .ok (.iconst 1, 1) := by decide +kernel
theorem dX0_widestCircle_63 : decode cX0_widestCircle 63 = .ok (.isub, 1) := by decide +kernel
theorem dX0_widestCircle_64 : decode cX0_widestCircle 64 = .ok (.iload_n 2, 1) := by decide +kernel
theorem dX0_widestCircle_65 : decode cX0_widestCircle 65 = .ok (.iload 6, 2) := by decide +kernel
theorem dX0_widestCircle_67 : decode cX0_widestCircle 67 = .ok (.iconst (-1), 1) := by decide +kernel
theorem dX0_widestCircle_68 : decode cX0_widestCircle 68 = .ok (.ixor, 1) := by decide +kernel
theorem dX0_widestCircle_69 : decode cX0_widestCircle 69 = .ok (.iand, 1) := by decide +kernel
theorem dX0_widestCircle_70 : decode cX0_widestCircle 70 = .ok (.iload_n 3, 1) := by decide +kernel
theorem dX0_widestCircle_71 : decode cX0_widestCircle 71 = .ok (.iload 4, 2) := by decide +kernel
theorem dX0_widestCircle_73 : decode cX0_widestCircle 73 = .ok (.invokestatic 51, 3) := by decide +kernel
theorem dX0_widestCircle_76 : decode cX0_widestCircle 76 = .ok (.istore 7, 2) := by decide +kernel
theorem dX0_widestCircle_78 : decode cX0_widestCircle 78 = .ok (.aload_n 0, 1) := by decide +kernel
theorem dX0_widestCircle_79 : decode cX0_widestCircle 79 = .ok (.iload_n 1, 1) := by decide +kernel
theorem dX0_widestCircle_80 : decode cX0_widestCircle 80 = .ok (.iconst 1, 1) := by decide +kernel
theorem dX0_widestCircle_81 : decode cX0_widestCircle 81 = .ok (.isub, 1) := by decide +kernel
theorem dX0_widestCircle_82 : decode cX0_widestCircle 82 = .ok (.iload_n 2, 1) := by decide +kernel
theorem dX0_widestCircle_83 : decode cX0_widestCircle 83 = .ok (.aload_n 0, 1) := by decide +kernel
theorem dX0_widestCircle_84 : decode cX0_widestCircle 84 = .ok (.iload_n 1, 1) := by decide +kernel
theorem dX0_widestCircle_85 : decode cX0_widestCircle 85 = .ok (.iaload, 1) := by decide +kernel
theorem dX0_widestCircle_86 : decode cX0_widestCircle 86 = .ok (.iand, 1) := by decide +kernel
theorem dX0_widestCircle_87 : decode cX0_widestCircle 87 = .ok (.iload_n 3, 1) := by decide +kernel
theorem dX0_widestCircle_88 : decode cX0_widestCircle 88 = .ok (.iload 6, 2) := by decide +kernel
theorem dX0_widestCircle_90 : decode cX0_widestCircle 90 = .ok (.ior, 1) := by decide +kernel
theorem dX0_widestCircle_91 : decode cX0_widestCircle 91 = .ok (.iload 7, 2) := by decide +kernel
theorem dX0_widestCircle_93 : decode cX0_widestCircle 93 = .ok (.invokestatic 51, 3) := by decide +kernel
theorem dX0_widestCircle_96 : decode cX0_widestCircle 96 = .ok (.ireturn, 1) := by decide +kernel
def wX0_widestCircle : Nat → Nat → Nat → Int32 → Int32 → Int32 → Int32 → Sto → (Int32 → Sto → Prop) → Prop
  | 0, _, _, _, _, _, _, _, _ => False
  | n + 1, c0, n0, x1, x2, x3, x4, σ, post => wJ6_bitCount_0f7a4  x2 σ (fun (r1 : Int32) (s1 : Sto) => wJ6_bitCount_0f7a4  x3 s1 (fun (r5 : Int32) (s5 : Sto) => wJ6_bitCount_0f7a4  x4 s5 (fun (r15 : Int32) (s15 : Sto) => ((r15 < (r1 + r5)) → (((x1 < 0) → (post x3 s15)) ∧ ((¬ (x1 < 0)) → (((x1 < (Int32.ofNat n0)) → (((¬ (x2 &&& (((1 : Int32)) <<< (x1 &&& 31))) = 0) → (wX0_widestCircle n c0 n0 (x1 - ((1 : Int32))) (x2 &&& ((((1 : Int32)) <<< (x1 &&& 31)) ^^^ ((-1 : Int32)))) x3 x4 s15 (fun (r73 : Int32) (s73 : Sto) => vp_in x1 n0 ∧ (wX0_widestCircle n c0 n0 (x1 - ((1 : Int32))) (x2 &&& (s73.1 c0 x1.toNatClampNeg)) (x3 ||| (((1 : Int32)) <<< (x1 &&& 31))) r73 s73 (fun (r93 : Int32) (s93 : Sto) => post r93 s93))))) ∧ (((x2 &&& (((1 : Int32)) <<< (x1 &&& 31))) = 0) → (wX0_widestCircle n c0 n0 (x1 - ((1 : Int32))) x2 x3 x4 s15 (fun (r56 : Int32) (s56 : Sto) => post r56 s56))))) ∧ ((¬ (x1 < (Int32.ofNat n0))) → (post x3 s15)))))) ∧ ((¬ (r15 < (r1 + r5))) → (post x4 s15)))))
set_option maxRecDepth 100000 in
set_option maxHeartbeats 4000000 in
theorem vX0_widestCircle (E : Ev) : ∀ (n : Nat) (c0 : Nat) (n0 : Nat) (x1 : Int32) (x2 : Int32) (x3 : Int32) (x4 : Int32) (σ : Sto) (post : Int32 → Sto → Prop) (hs_c0 : gs c0 = .inl (0, n0, 0)), wX0_widestCircle n c0 n0 x1 x2 x3 x4 σ post → V E (9 + n) mX0_widestCircle (pI post) 0 [(0, .ref c0), (1, .int x1), (2, .int x2), (3, .int x3), (4, .int x4)] [] σ := by
  intro n
  induction n with
  | zero => intros; rename_i h; exact h.elim
  | succ n ih =>
    intro c0 n0 x1 x2 x3 x4 σ post hs_c0 h
    unfold wX0_widestCircle at h
    refine V_iload_n (pc := 0) 2 dX0_widestCircle_0 rfl ?_
    refine V_callS (pc := 1) (M' := mJ6_bitCount_0f7a4) dX0_widestCircle_1 ml_X0_59 ks_J6_bitCount_0f7a4 ko_J6_bitCount_0f7a4 (by omega) rfl (Nat.le_of_ble_eq_true rfl) (Nat.le_of_ble_eq_true rfl) (vJ6_bitCount_0f7a4 E  x2 σ _  h) (kI (fun r1 s1 h => ?_))
    refine V_iload_n (pc := 4) 3 dX0_widestCircle_4 rfl ?_
    refine V_callS (pc := 5) (M' := mJ6_bitCount_0f7a4) dX0_widestCircle_5 ml_X0_59 ks_J6_bitCount_0f7a4 ko_J6_bitCount_0f7a4 (by omega) rfl (Nat.le_of_ble_eq_true rfl) (Nat.le_of_ble_eq_true rfl) (vJ6_bitCount_0f7a4 E  x3 s1 _  h) (kI (fun r5 s5 h => ?_))
    refine V_iadd (pc := 8) dX0_widestCircle_8 ?_
    refine V_istore (pc := 9) dX0_widestCircle_9 (by decide) ?_
    refine V_iload (pc := 11) 0 dX0_widestCircle_11 rfl ?_
    refine V_iload (pc := 13) 5 dX0_widestCircle_13 rfl ?_
    refine V_callS (pc := 15) (M' := mJ6_bitCount_0f7a4) dX0_widestCircle_15 ml_X0_59 ks_J6_bitCount_0f7a4 ko_J6_bitCount_0f7a4 (by omega) rfl (Nat.le_of_ble_eq_true rfl) (Nat.le_of_ble_eq_true rfl) (vJ6_bitCount_0f7a4 E  x4 s5 _  h) (kI (fun r15 s15 h => ?_))
    refine V_icmp_gt (pc := 18) (tgt := 24) dX0_widestCircle_18 (by decide) (fun hc => ?_) (fun hc => ?_)
    · replace h := h.1 hc
      refine V_iload_n (pc := 24) 2 dX0_widestCircle_24 rfl ?_
      refine V_if_lt (pc := 25) (tgt := 34) dX0_widestCircle_25 (by decide) (fun hc => ?_) (fun hc => ?_)
      · replace h := h.1 hc
        refine V_iload_n (pc := 34) 4 dX0_widestCircle_34 rfl ?_
        exact V_iret dX0_widestCircle_35 rfl h
      · replace h := h.2 hc
        refine V_iload_n (pc := 28) 2 dX0_widestCircle_28 rfl ?_
        refine V_aload_n (pc := 29) 1 dX0_widestCircle_29 rfl ?_
        refine V_alen (pc := 30) (by decide) dX0_widestCircle_30 hs_c0 rfl ?_
        refine V_icmp_lt (pc := 31) (tgt := 36) dX0_widestCircle_31 (by decide) (fun hc => ?_) (fun hc => ?_)
        · replace h := h.1 hc
          refine V_iconst (pc := 36) (v := 1) dX0_widestCircle_36 (by decide) ?_
          refine V_iload_n (pc := 37) 2 dX0_widestCircle_37 rfl ?_
          refine V_ishl (pc := 38) dX0_widestCircle_38 ?_
          refine V_istore (pc := 39) dX0_widestCircle_39 (by decide) ?_
          refine V_iload_n (pc := 41) 4 dX0_widestCircle_41 rfl ?_
          refine V_iload (pc := 42) 0 dX0_widestCircle_42 rfl ?_
          refine V_iand (pc := 44) dX0_widestCircle_44 ?_
          refine V_if_ne (pc := 45) (tgt := 60) dX0_widestCircle_45 (by decide) (fun hc => ?_) (fun hc => ?_)
          · replace h := h.1 hc
            refine V_aload_n (pc := 60) 2 dX0_widestCircle_60 rfl ?_
            refine V_iload_n (pc := 61) 3 dX0_widestCircle_61 rfl ?_
            refine V_iconst (pc := 62) (v := 1) dX0_widestCircle_62 (by decide) ?_
            refine V_isub (pc := 63) dX0_widestCircle_63 ?_
            refine V_iload_n (pc := 64) 4 dX0_widestCircle_64 rfl ?_
            refine V_iload (pc := 65) 0 dX0_widestCircle_65 rfl ?_
            refine V_iconst (pc := 67) (v := -1) dX0_widestCircle_67 (by decide) ?_
            refine V_ixor (pc := 68) dX0_widestCircle_68 ?_
            refine V_iand (pc := 69) dX0_widestCircle_69 ?_
            refine V_iload_n (pc := 70) 5 dX0_widestCircle_70 rfl ?_
            refine V_iload (pc := 71) 6 dX0_widestCircle_71 rfl ?_
            refine V_callS (pc := 73) (M' := mX0_widestCircle) dX0_widestCircle_73 ml_X0_51 ks_X0_widestCircle ko_X0_widestCircle (by omega) rfl (Nat.le_of_ble_eq_true rfl) (Nat.le_of_ble_eq_true rfl) (ih c0 n0 (x1 - ((1 : Int32))) (x2 &&& ((((1 : Int32)) <<< (x1 &&& 31)) ^^^ ((-1 : Int32)))) x3 x4 s15 _ hs_c0 h) (kI (fun r73 s73 h => ?_))
            refine V_istore (pc := 76) dX0_widestCircle_76 (by decide) ?_
            refine V_aload_n (pc := 78) 3 dX0_widestCircle_78 rfl ?_
            refine V_iload_n (pc := 79) 4 dX0_widestCircle_79 rfl ?_
            refine V_iconst (pc := 80) (v := 1) dX0_widestCircle_80 (by decide) ?_
            refine V_isub (pc := 81) dX0_widestCircle_81 ?_
            refine V_iload_n (pc := 82) 5 dX0_widestCircle_82 rfl ?_
            refine V_aload_n (pc := 83) 3 dX0_widestCircle_83 rfl ?_
            refine V_iload_n (pc := 84) 4 dX0_widestCircle_84 rfl ?_
            obtain ⟨i85, h⟩ := h
            refine V_iald (pc := 85) dX0_widestCircle_85 hs_c0 i85 ?_
            refine V_iand (pc := 86) dX0_widestCircle_86 ?_
            refine V_iload_n (pc := 87) 6 dX0_widestCircle_87 rfl ?_
            refine V_iload (pc := 88) 1 dX0_widestCircle_88 rfl ?_
            refine V_ior (pc := 90) dX0_widestCircle_90 ?_
            refine V_iload (pc := 91) 0 dX0_widestCircle_91 rfl ?_
            refine V_callS (pc := 93) (M' := mX0_widestCircle) dX0_widestCircle_93 ml_X0_51 ks_X0_widestCircle ko_X0_widestCircle (by omega) rfl (Nat.le_of_ble_eq_true rfl) (Nat.le_of_ble_eq_true rfl) (ih c0 n0 (x1 - ((1 : Int32))) (x2 &&& (s73.1 c0 x1.toNatClampNeg)) (x3 ||| (((1 : Int32)) <<< (x1 &&& 31))) r73 s73 _ hs_c0 h) (kI (fun r93 s93 h => ?_))
            exact V_iret dX0_widestCircle_96 rfl h
          · replace h := h.2 hc
            refine V_aload_n (pc := 48) 2 dX0_widestCircle_48 rfl ?_
            refine V_iload_n (pc := 49) 3 dX0_widestCircle_49 rfl ?_
            refine V_iconst (pc := 50) (v := 1) dX0_widestCircle_50 (by decide) ?_
            refine V_isub (pc := 51) dX0_widestCircle_51 ?_
            refine V_iload_n (pc := 52) 4 dX0_widestCircle_52 rfl ?_
            refine V_iload_n (pc := 53) 5 dX0_widestCircle_53 rfl ?_
            refine V_iload (pc := 54) 6 dX0_widestCircle_54 rfl ?_
            refine V_callS (pc := 56) (M' := mX0_widestCircle) dX0_widestCircle_56 ml_X0_51 ks_X0_widestCircle ko_X0_widestCircle (by omega) rfl (Nat.le_of_ble_eq_true rfl) (Nat.le_of_ble_eq_true rfl) (ih c0 n0 (x1 - ((1 : Int32))) x2 x3 x4 s15 _ hs_c0 h) (kI (fun r56 s56 h => ?_))
            exact V_iret dX0_widestCircle_59 rfl h
        · replace h := h.2 hc
          refine V_iload_n (pc := 34) 4 dX0_widestCircle_34 rfl ?_
          exact V_iret dX0_widestCircle_35 rfl h
    · replace h := h.2 hc
      refine V_iload (pc := 21) 5 dX0_widestCircle_21 rfl ?_
      exact V_iret dX0_widestCircle_23 rfl h
theorem dX0_mostOf_0 : decode cX0_mostOf 0 = .ok (.aload_n 0, 1) := by decide +kernel
theorem dX0_mostOf_1 : decode cX0_mostOf 1 = .ok (.getfield 23, 3) := by decide +kernel
theorem dX0_mostOf_4 : decode cX0_mostOf 4 = .ok (.iload_n 1, 1) := by decide +kernel
theorem dX0_mostOf_5 : decode cX0_mostOf 5 = .ok (.invokevirtual 41, 3) := by decide +kernel
theorem dX0_mostOf_8 : decode cX0_mostOf 8 = .ok (.istore_n 2, 1) := by decide +kernel
theorem dX0_mostOf_9 : decode cX0_mostOf 9 = .ok (.iconst 0, 1) := by decide +kernel
theorem dX0_mostOf_10 : decode cX0_mostOf 10 = .ok (.istore_n 3, 1) := by decide +kernel
theorem dX0_mostOf_11 : decode cX0_mostOf 11 = .ok (.iload_n 3, 1) := by decide +kernel
theorem dX0_mostOf_12 : decode cX0_mostOf 12 = .ok (.aload_n 0, 1) := by decide +kernel
theorem dX0_mostOf_13 : decode cX0_mostOf 13 = .ok (.getfield 19, 3) := by decide +kernel
theorem dX0_mostOf_16 : decode cX0_mostOf 16 = .ok (.getfield 44, 3) := by decide +kernel
theorem dX0_mostOf_19 : decode cX0_mostOf 19 = .ok (.if_icmp .ge 35, 3) := by decide +kernel
theorem dX0_mostOf_22 : decode cX0_mostOf 22 = .ok (.aload_n 0, 1) := by decide +kernel
theorem dX0_mostOf_23 : decode cX0_mostOf 23 = .ok (.getfield 9, 3) := by decide +kernel
theorem dX0_mostOf_26 : decode cX0_mostOf 26 = .ok (.iload_n 3, 1) := by decide +kernel
theorem dX0_mostOf_27 : decode cX0_mostOf 27 = .ok (.iload_n 2, 1) := by decide +kernel
theorem dX0_mostOf_28 : decode cX0_mostOf 28 = .ok (.iload_n 3, 1) := by decide +kernel
theorem dX0_mostOf_29 : decode cX0_mostOf 29 = .ok (.ishr, 1) := by decide +kernel
theorem dX0_mostOf_30 : decode cX0_mostOf 30 = .ok (.iconst 1, 1) := by decide +kernel
theorem dX0_mostOf_31 : decode cX0_mostOf 31 = .ok (.iand, 1) := by decide +kernel
theorem dX0_mostOf_32 : decode cX0_mostOf 32 = .ok (.iconst 1, 1) := by decide +kernel
theorem dX0_mostOf_33 : decode cX0_mostOf 33 = .ok (.if_icmp .ne 13, 3) := by decide +kernel
theorem dX0_mostOf_36 : decode cX0_mostOf 36 = .ok (.aload_n 0, 1) := by decide +kernel
theorem dX0_mostOf_37 : decode cX0_mostOf 37 = .ok (.iload_n 3, 1) := by decide +kernel
theorem dX0_mostOf_38 : decode cX0_mostOf 38 = .ok (.iload_n 1, 1) := by decide +kernel
theorem dX0_mostOf_39 : decode cX0_mostOf 39 = .ok (.iload_n 2, 1) := by decide +kernel
theorem dX0_mostOf_40 : decode cX0_mostOf 40 = .ok (.invokevirtual 47, 3) := by decide +kernel
theorem dX0_mostOf_43 : decode cX0_mostOf 43 = .ok (.goto 4, 3) := by decide +kernel
theorem dX0_mostOf_46 : decode cX0_mostOf 46 = .ok (.iconst 0, 1) := by decide +kernel
theorem dX0_mostOf_47 : decode cX0_mostOf 47 = .ok (.iastore, 1) := by decide +kernel
theorem dX0_mostOf_48 : decode cX0_mostOf 48 = .ok (.iinc 3 1, 3) := by decide +kernel
theorem dX0_mostOf_51 : decode cX0_mostOf 51 = .ok (.goto (-40), 3) := by decide +kernel
theorem dX0_mostOf_54 : decode cX0_mostOf 54 = .ok (.aload_n 0, 1) := by decide +kernel
theorem dX0_mostOf_55 : decode cX0_mostOf 55 = .ok (.getfield 9, 3) := by decide +kernel
theorem dX0_mostOf_58 : decode cX0_mostOf 58 = .ok (.aload_n 0, 1) := by decide +kernel
theorem dX0_mostOf_59 : decode cX0_mostOf 59 = .ok (.getfield 19, 3) := by decide +kernel
theorem dX0_mostOf_62 : decode cX0_mostOf 62 = .ok (.getfield 44, 3) := by decide +kernel
theorem dX0_mostOf_65 : decode cX0_mostOf 65 = .ok (.iconst 1, 1) := by decide +kernel
theorem dX0_mostOf_66 : decode cX0_mostOf 66 = .ok (.isub, 1) := by decide +kernel
theorem dX0_mostOf_67 : decode cX0_mostOf 67 = .ok (.iload_n 2, 1) := by decide +kernel
theorem dX0_mostOf_68 : decode cX0_mostOf 68 = .ok (.iconst 0, 1) := by decide +kernel
theorem dX0_mostOf_69 : decode cX0_mostOf 69 = .ok (.iconst 0, 1) := by decide +kernel
theorem dX0_mostOf_70 : decode cX0_mostOf 70 = .ok (.invokestatic 51, 3) := by decide +kernel
theorem dX0_mostOf_73 : decode cX0_mostOf 73 = .ok (.ireturn, 1) := by decide +kernel
def wX0_mostOf_47 (post : Int32 → Sto → Prop)  (K11 : Int32 → Int32 → Int32 → Sto → Prop) (x1 : Int32) (x2 : Int32) (x3 : Int32) (y0 : Int32) (y1 : Int32) (σ : Sto) : Prop := vp_in y1 14 ∧ (K11 x1 x2 (x3 + (1 : Int32)) (wI σ 49 y1.toNatClampNeg y0))
set_option maxRecDepth 100000 in
set_option maxHeartbeats 4000000 in
theorem vX0_mostOf_47 (E : Ev) (post : Int32 → Sto → Prop)   (K11 : Int32 → Int32 → Int32 → Sto → Prop) (HK11 : ∀ (x1 : Int32) (x2 : Int32) (x3 : Int32) (σ : Sto), K11 x1 x2 x3 σ → V E 30 mX0_mostOf (pI post) 11 [(0, .ref 3), (1, .int x1), (2, .int x2), (3, .int x3)] [] σ) (x1 : Int32) (x2 : Int32) (x3 : Int32) (y0 : Int32) (y1 : Int32) (σ : Sto) (h : wX0_mostOf_47 post  K11 x1 x2 x3 y0 y1 σ) : V E 30 mX0_mostOf (pI post) 47 [(0, .ref 3), (1, .int x1), (2, .int x2), (3, .int x3)] [.int y0, .int y1, .ref 49] σ := by
  unfold wX0_mostOf_47 at h
  obtain ⟨i47, h⟩ := h
  refine V_iast (pc := 47) dX0_mostOf_47 sh_49 i47 ?_
  refine V_iinc (pc := 48) 3 (v := 1) dX0_mostOf_48 rfl (by decide) (by decide) ?_
  refine V_goto (pc := 51) (tgt := 11) dX0_mostOf_51 (by decide) ?_
  exact V_loc [1, 2, 3, 0] rfl (HK11 x1 x2 (x3 + (1 : Int32)) (wI σ 49 y1.toNatClampNeg y0)  h)
def wX0_mostOf_11 (post : Int32 → Sto → Prop)  (K54 : Int32 → Sto → Prop) : Nat → Int32 → Int32 → Int32 → Sto → Prop
  | 0, _, _, _, _ => False
  | n + 1, x1, x2, x3, σ => (((σ.1 1 2) ≤ x3) → (K54 x2 σ)) ∧ ((¬ ((σ.1 1 2) ≤ x3)) → (((¬ ((x2 >>> (x3 &&& 31)) &&& ((1 : Int32))) = ((1 : Int32))) → (wX0_mostOf_47 post  (wX0_mostOf_11 post  K54 n) x1 x2 x3 ((0 : Int32)) x3 σ)) ∧ ((((x2 >>> (x3 &&& 31)) &&& ((1 : Int32))) = ((1 : Int32))) → (wX0_agreeingWith  x3 x1 x2 σ (fun (r40 : Int32) (s40 : Sto) => wX0_mostOf_47 post  (wX0_mostOf_11 post  K54 n) x1 x2 x3 r40 x3 s40)))))
set_option maxRecDepth 100000 in
set_option maxHeartbeats 4000000 in
theorem vX0_mostOf_11 (E : Ev) (post : Int32 → Sto → Prop)   (K54 : Int32 → Sto → Prop) (HK54 : ∀ (x2 : Int32) (σ : Sto), K54 x2 σ → V E 30 mX0_mostOf (pI post) 54 [(0, .ref 3), (2, .int x2)] [] σ) : ∀ (n : Nat) (x1 : Int32) (x2 : Int32) (x3 : Int32) (σ : Sto), wX0_mostOf_11 post  K54 n x1 x2 x3 σ → V E 30 mX0_mostOf (pI post) 11 [(0, .ref 3), (1, .int x1), (2, .int x2), (3, .int x3)] [] σ := by
  intro n
  induction n with
  | zero => intro x1 x2 x3 σ h; exact h.elim
  | succ n ih =>
    intro x1 x2 x3 σ h
    unfold wX0_mostOf_11 at h
    refine V_iload_n (pc := 11) 3 dX0_mostOf_11 rfl ?_
    refine V_aload_n (pc := 12) 0 dX0_mostOf_12 rfl ?_
    refine V_getR (pc := 13) dX0_mostOf_13 fl_X0_19 sh_3 rfl ?_
    refine V_getI (pc := 16) dX0_mostOf_16 fl_X0_44 sh_1 rfl ?_
    refine V_icmp_ge (pc := 19) (tgt := 54) dX0_mostOf_19 (by decide) (fun hc => ?_) (fun hc => ?_)
    · replace h := h.1 hc
      exact V_loc [0, 2] rfl (HK54 x2 σ  h)
    · replace h := h.2 hc
      refine V_aload_n (pc := 22) 0 dX0_mostOf_22 rfl ?_
      refine V_getR (pc := 23) dX0_mostOf_23 fl_X0_9 sh_3 rfl ?_
      refine V_iload_n (pc := 26) 3 dX0_mostOf_26 rfl ?_
      refine V_iload_n (pc := 27) 2 dX0_mostOf_27 rfl ?_
      refine V_iload_n (pc := 28) 3 dX0_mostOf_28 rfl ?_
      refine V_ishr (pc := 29) dX0_mostOf_29 ?_
      refine V_iconst (pc := 30) (v := 1) dX0_mostOf_30 (by decide) ?_
      refine V_iand (pc := 31) dX0_mostOf_31 ?_
      refine V_iconst (pc := 32) (v := 1) dX0_mostOf_32 (by decide) ?_
      refine V_icmp_ne (pc := 33) (tgt := 46) dX0_mostOf_33 (by decide) (fun hc => ?_) (fun hc => ?_)
      · replace h := h.1 hc
        refine V_iconst (pc := 46) (v := 0) dX0_mostOf_46 (by decide) ?_
        refine V_loc [0, 1, 2, 3] rfl (vX0_mostOf_47 E post   _ ih x1 x2 x3 ((0 : Int32)) x3 σ  h)
      · replace h := h.2 hc
        refine V_aload_n (pc := 36) 0 dX0_mostOf_36 rfl ?_
        refine V_iload_n (pc := 37) 3 dX0_mostOf_37 rfl ?_
        refine V_iload_n (pc := 38) 1 dX0_mostOf_38 rfl ?_
        refine V_iload_n (pc := 39) 2 dX0_mostOf_39 rfl ?_
        refine V_callV (pc := 40) (M' := mX0_agreeingWith) dX0_mostOf_40 ml_X0_47 kv_X0_agreeingWith ko_X0_agreeingWith sh_3 (by decide) (by decide) rfl rfl (Nat.le_of_ble_eq_true rfl) (Nat.le_of_ble_eq_true rfl) (vX0_agreeingWith E  x3 x1 x2 σ _  h) (kI (fun r40 s40 h => ?_))
        refine V_goto (pc := 43) (tgt := 47) dX0_mostOf_43 (by decide) ?_
        refine V_loc [0, 1, 2, 3] rfl (vX0_mostOf_47 E post   _ ih x1 x2 x3 r40 x3 s40  h)
def wX0_mostOf  (x1 : Int32) (σ : Sto) (post : Int32 → Sto → Prop) : Prop := wX7_takingPart  x1 σ (fun (r5 : Int32) (s5 : Sto) => ∃ n11, wX0_mostOf_11 post  (fun (x2_1 : Int32) (σ_1 : Sto) => wX0_widestCircle 20 49 14 ((σ_1.1 1 2) - ((1 : Int32))) x2_1 ((0 : Int32)) ((0 : Int32)) σ_1 (fun (r70 : Int32) (s70 : Sto) => post r70 s70)) n11 x1 r5 ((0 : Int32)) s5)
set_option maxRecDepth 100000 in
set_option maxHeartbeats 4000000 in
theorem vX0_mostOf (E : Ev)  (x1 : Int32) (σ : Sto) (post : Int32 → Sto → Prop)  (h : wX0_mostOf  x1 σ post) : V E 30 mX0_mostOf (pI post) 0 [(0, .ref 3), (1, .int x1)] [] σ := by
  unfold wX0_mostOf at h
  refine V_aload_n (pc := 0) 0 dX0_mostOf_0 rfl ?_
  refine V_getR (pc := 1) dX0_mostOf_1 fl_X0_23 sh_3 rfl ?_
  refine V_iload_n (pc := 4) 1 dX0_mostOf_4 rfl ?_
  refine V_callV (pc := 5) (M' := mX7_takingPart) dX0_mostOf_5 ml_X0_41 kv_X7_takingPart ko_X7_takingPart sh_2 (by decide) (by decide) rfl rfl (Nat.le_of_ble_eq_true rfl) (Nat.le_of_ble_eq_true rfl) (vX7_takingPart E  x1 σ _  h) (kI (fun r5 s5 h => ?_))
  refine V_istore_n (pc := 8) dX0_mostOf_8 (by decide) ?_
  refine V_iconst (pc := 9) (v := 0) dX0_mostOf_9 (by decide) ?_
  refine V_istore_n (pc := 10) dX0_mostOf_10 (by decide) ?_
  obtain ⟨n11, h⟩ := h
  refine V_loc [2, 3, 1, 0] rfl (vX0_mostOf_11 E post   _ (fun x2_1 σ_1 h => ?_) n11 x1 r5 ((0 : Int32)) s5  h)
  · refine V_aload_n (pc := 54) 0 dX0_mostOf_54 rfl ?_
    refine V_getR (pc := 55) dX0_mostOf_55 fl_X0_9 sh_3 rfl ?_
    refine V_aload_n (pc := 58) 0 dX0_mostOf_58 rfl ?_
    refine V_getR (pc := 59) dX0_mostOf_59 fl_X0_19 sh_3 rfl ?_
    refine V_getI (pc := 62) dX0_mostOf_62 fl_X0_44 sh_1 rfl ?_
    refine V_iconst (pc := 65) (v := 1) dX0_mostOf_65 (by decide) ?_
    refine V_isub (pc := 66) dX0_mostOf_66 ?_
    refine V_iload_n (pc := 67) 1 dX0_mostOf_67 rfl ?_
    refine V_iconst (pc := 68) (v := 0) dX0_mostOf_68 (by decide) ?_
    refine V_iconst (pc := 69) (v := 0) dX0_mostOf_69 (by decide) ?_
    refine V_callS (pc := 70) (M' := mX0_widestCircle) dX0_mostOf_70 ml_X0_51 ks_X0_widestCircle ko_X0_widestCircle (by decide) rfl (Nat.le_of_ble_eq_true rfl) (Nat.le_of_ble_eq_true rfl) (vX0_widestCircle E 20 49 14 ((σ_1.1 1 2) - ((1 : Int32))) x2_1 ((0 : Int32)) ((0 : Int32)) σ_1 _ sh_49 h) (kI (fun r70 s70 h => ?_))
    exact V_iret dX0_mostOf_73 rfl h
theorem dX0_reachOf_0 : decode cX0_reachOf 0 = .ok (.sipush 1000, 3) := by decide +kernel
theorem dX0_reachOf_3 : decode cX0_reachOf 3 = .ok (.aload_n 0, 1) := by decide +kernel
theorem dX0_reachOf_4 : decode cX0_reachOf 4 = .ok (.getfield 15, 3) := by decide +kernel
theorem dX0_reachOf_7 : decode cX0_reachOf 7 = .ok (.imul, 1) := by decide +kernel
theorem dX0_reachOf_8 : decode cX0_reachOf 8 = .ok (.aload_n 0, 1) := by decide +kernel
theorem dX0_reachOf_9 : decode cX0_reachOf 9 = .ok (.getfield 19, 3) := by decide +kernel
theorem dX0_reachOf_12 : decode cX0_reachOf 12 = .ok (.getfield 86, 3) := by decide +kernel
theorem dX0_reachOf_15 : decode cX0_reachOf 15 = .ok (.iload_n 1, 1) := by decide +kernel
theorem dX0_reachOf_16 : decode cX0_reachOf 16 = .ok (.iaload, 1) := by decide +kernel
theorem dX0_reachOf_17 : decode cX0_reachOf 17 = .ok (.imul, 1) := by decide +kernel
theorem dX0_reachOf_18 : decode cX0_reachOf 18 = .ok (.ireturn, 1) := by decide +kernel
def wX0_reachOf  (x1 : Int32) (σ : Sto) (post : Int32 → Sto → Prop) : Prop := vp_in x1 14 ∧ (post ((((1000 : Int32)) * (σ.1 3 3)) * (σ.1 14 x1.toNatClampNeg)) σ)
set_option maxRecDepth 100000 in
set_option maxHeartbeats 4000000 in
theorem vX0_reachOf (E : Ev)  (x1 : Int32) (σ : Sto) (post : Int32 → Sto → Prop)  (h : wX0_reachOf  x1 σ post) : V E 0 mX0_reachOf (pI post) 0 [(0, .ref 3), (1, .int x1)] [] σ := by
  unfold wX0_reachOf at h
  refine V_sipush (pc := 0) (v := 1000) dX0_reachOf_0 (by decide) ?_
  refine V_aload_n (pc := 3) 0 dX0_reachOf_3 rfl ?_
  refine V_getI (pc := 4) dX0_reachOf_4 fl_X0_15 sh_3 rfl ?_
  refine V_imul (pc := 7) dX0_reachOf_7 ?_
  refine V_aload_n (pc := 8) 0 dX0_reachOf_8 rfl ?_
  refine V_getR (pc := 9) dX0_reachOf_9 fl_X0_19 sh_3 rfl ?_
  refine V_getR (pc := 12) dX0_reachOf_12 fl_X0_86 sh_1 rfl ?_
  refine V_iload_n (pc := 15) 1 dX0_reachOf_15 rfl ?_
  obtain ⟨i16, h⟩ := h
  refine V_iald (pc := 16) dX0_reachOf_16 sh_14 i16 ?_
  refine V_imul (pc := 17) dX0_reachOf_17 ?_
  exact V_iret dX0_reachOf_18 rfl h
theorem dX0_spansAt_0 : decode cX0_spansAt 0 = .ok (.iconst 0, 1) := by decide +kernel
theorem dX0_spansAt_1 : decode cX0_spansAt 1 = .ok (.istore_n 3, 1) := by decide +kernel
theorem dX0_spansAt_2 : decode cX0_spansAt 2 = .ok (.iconst 0, 1) := by decide +kernel
theorem dX0_spansAt_3 : decode cX0_spansAt 3 = .ok (.istore 4, 2) := by decide +kernel
theorem dX0_spansAt_5 : decode cX0_spansAt 5 = .ok (.iload 4, 2) := by decide +kernel
theorem dX0_spansAt_7 : decode cX0_spansAt 7 = .ok (.aload_n 0, 1) := by decide +kernel
theorem dX0_spansAt_8 : decode cX0_spansAt 8 = .ok (.getfield 19, 3) := by decide +kernel
theorem dX0_spansAt_11 : decode cX0_spansAt 11 = .ok (.getfield 44, 3) := by decide +kernel
theorem dX0_spansAt_14 : decode cX0_spansAt 14 = .ok (.if_icmp .ge 55, 3) := by decide +kernel
theorem dX0_spansAt_17 : decode cX0_spansAt 17 = .ok (.aload_n 0, 1) := by decide +kernel
theorem dX0_spansAt_18 : decode cX0_spansAt 18 = .ok (.getfield 23, 3) := by decide +kernel
theorem dX0_spansAt_21 : decode cX0_spansAt 21 = .ok (.getfield 27, 3) := by decide +kernel
theorem dX0_spansAt_24 : decode cX0_spansAt 24 = .ok (.iload_n 2, 1) := by decide +kernel
theorem dX0_spansAt_25 : decode cX0_spansAt 25 = .ok (.aaload, 1) := by decide +kernel
theorem dX0_spansAt_26 : decode cX0_spansAt 26 = .ok (.iload 4, 2) := by decide +kernel
theorem dX0_spansAt_28 : decode cX0_spansAt 28 = .ok (.iaload, 1) := by decide +kernel
theorem dX0_spansAt_29 : decode cX0_spansAt 29 = .ok (.iload_n 1, 1) := by decide +kernel
theorem dX0_spansAt_30 : decode cX0_spansAt 30 = .ok (.isub, 1) := by decide +kernel
theorem dX0_spansAt_31 : decode cX0_spansAt 31 = .ok (.invokestatic 81, 3) := by decide +kernel
theorem dX0_spansAt_34 : decode cX0_spansAt 34 = .ok (.istore 5, 2) := by decide +kernel
theorem dX0_spansAt_36 : decode cX0_spansAt 36 = .ok (.aload_n 0, 1) := by decide +kernel
theorem dX0_spansAt_37 : decode cX0_spansAt 37 = .ok (.getfield 23, 3) := by decide +kernel
theorem dX0_spansAt_40 : decode cX0_spansAt 40 = .ok (.iload 4, 2) := by decide +kernel
theorem dX0_spansAt_42 : decode cX0_spansAt 42 = .ok (.iload_n 2, 1) := by decide +kernel
theorem dX0_spansAt_43 : decode cX0_spansAt 43 = .ok (.invokevirtual 70, 3) := by decide +kernel
theorem dX0_spansAt_46 : decode cX0_spansAt 46 = .ok (.ifCond .eq 17, 3) := by decide +kernel
theorem dX0_spansAt_49 : decode cX0_spansAt 49 = .ok (.iload 5, 2) := by decide +kernel
theorem dX0_spansAt_51 : decode cX0_spansAt 51 = .ok (.aload_n 0, 1) := by decide +kernel
theorem dX0_spansAt_52 : decode cX0_spansAt 52 = .ok (.iload 4, 2) := by decide +kernel
theorem dX0_spansAt_54 : decode cX0_spansAt 54 = .ok (.invokevirtual 74, 3) := by decide +kernel
theorem dX0_spansAt_57 : decode cX0_spansAt 57 = .ok (.if_icmp .gt 6, 3) := by decide +kernel
theorem dX0_spansAt_60 : decode cX0_spansAt 60 = .ok (.iinc 3 1, 3) := by decide +kernel
theorem dX0_spansAt_63 : decode cX0_spansAt 63 = .ok (.iinc 4 1, 3) := by decide +kernel
theorem dX0_spansAt_66 : decode cX0_spansAt 66 = .ok (.goto (-61), 3) := by decide +kernel
theorem dX0_spansAt_69 : decode cX0_spansAt 69 = .ok (.iload_n 3, 1) := by decide +kernel
theorem dX0_spansAt_70 : decode cX0_spansAt 70 = .ok (.ireturn, 1) := by decide +kernel
def wX0_spansAt_5 (post : Int32 → Sto → Prop)  (K69 : Int32 → Sto → Prop) : Nat → Int32 → Int32 → Int32 → Int32 → Sto → Prop
  | 0, _, _, _, _, _ => False
  | n + 1, x1, x2, x3, x4, σ => (((σ.1 1 2) ≤ x4) → (K69 x3 σ)) ∧ ((¬ ((σ.1 1 2) ≤ x4)) → (vp_in x2 4 ∧ (vp_in x4 14 ∧ (wJ9_abs_0f7a4  ((σ.1 (45 + x2.toNatClampNeg) x4.toNatClampNeg) - x1) σ (fun (r31 : Int32) (s31 : Sto) => wX7_takesPart  x4 x2 s31 (fun (r43 : Bool) (s43 : Sto) => ((r43 = false) → (wX0_spansAt_5 post  K69 n x1 x2 x3 (x4 + (1 : Int32)) s43)) ∧ ((r43 = true) → (wX0_reachOf  x4 s43 (fun (r54 : Int32) (s54 : Sto) => ((r54 < r31) → (wX0_spansAt_5 post  K69 n x1 x2 x3 (x4 + (1 : Int32)) s54)) ∧ ((¬ (r54 < r31)) → (wX0_spansAt_5 post  K69 n x1 x2 (x3 + (1 : Int32)) (x4 + (1 : Int32)) s54)))))))))))
set_option maxRecDepth 100000 in
set_option maxHeartbeats 4000000 in
theorem vX0_spansAt_5 (E : Ev) (post : Int32 → Sto → Prop)   (K69 : Int32 → Sto → Prop) (HK69 : ∀ (x3 : Int32) (σ : Sto), K69 x3 σ → V E 1 mX0_spansAt (pI post) 69 [(3, .int x3)] [] σ) : ∀ (n : Nat) (x1 : Int32) (x2 : Int32) (x3 : Int32) (x4 : Int32) (σ : Sto), wX0_spansAt_5 post  K69 n x1 x2 x3 x4 σ → V E 1 mX0_spansAt (pI post) 5 [(0, .ref 3), (1, .int x1), (2, .int x2), (3, .int x3), (4, .int x4)] [] σ := by
  intro n
  induction n with
  | zero => intro x1 x2 x3 x4 σ h; exact h.elim
  | succ n ih =>
    intro x1 x2 x3 x4 σ h
    unfold wX0_spansAt_5 at h
    refine V_iload (pc := 5) 4 dX0_spansAt_5 rfl ?_
    refine V_aload_n (pc := 7) 0 dX0_spansAt_7 rfl ?_
    refine V_getR (pc := 8) dX0_spansAt_8 fl_X0_19 sh_3 rfl ?_
    refine V_getI (pc := 11) dX0_spansAt_11 fl_X0_44 sh_1 rfl ?_
    refine V_icmp_ge (pc := 14) (tgt := 69) dX0_spansAt_14 (by decide) (fun hc => ?_) (fun hc => ?_)
    · replace h := h.1 hc
      exact V_loc [3] rfl (HK69 x3 σ  h)
    · replace h := h.2 hc
      refine V_aload_n (pc := 17) 0 dX0_spansAt_17 rfl ?_
      refine V_getR (pc := 18) dX0_spansAt_18 fl_X0_23 sh_3 rfl ?_
      refine V_getR (pc := 21) dX0_spansAt_21 fl_X0_27 sh_2 rfl ?_
      refine V_iload_n (pc := 24) 2 dX0_spansAt_24 rfl ?_
      obtain ⟨i25, h⟩ := h
      refine V_aald (pc := 25) dX0_spansAt_25 sh_44 i25 ?_
      refine V_iload (pc := 26) 4 dX0_spansAt_26 rfl ?_
      obtain ⟨i28, h⟩ := h
      refine V_iald (pc := 28) dX0_spansAt_28 (sr_45 (vp_lt i25)) i28 ?_
      refine V_iload_n (pc := 29) 1 dX0_spansAt_29 rfl ?_
      refine V_isub (pc := 30) dX0_spansAt_30 ?_
      refine V_callS (pc := 31) (M' := mJ9_abs_0f7a4) dX0_spansAt_31 ml_X0_81 ks_J9_abs_0f7a4 ko_J9_abs_0f7a4 (by decide) rfl (Nat.le_of_ble_eq_true rfl) (Nat.le_of_ble_eq_true rfl) (vJ9_abs_0f7a4 E  ((σ.1 (45 + x2.toNatClampNeg) x4.toNatClampNeg) - x1) σ _  h) (kI (fun r31 s31 h => ?_))
      refine V_istore (pc := 34) dX0_spansAt_34 (by decide) ?_
      refine V_aload_n (pc := 36) 1 dX0_spansAt_36 rfl ?_
      refine V_getR (pc := 37) dX0_spansAt_37 fl_X0_23 sh_3 rfl ?_
      refine V_iload (pc := 40) 5 dX0_spansAt_40 rfl ?_
      refine V_iload_n (pc := 42) 3 dX0_spansAt_42 rfl ?_
      refine V_callV (pc := 43) (M' := mX7_takesPart) dX0_spansAt_43 ml_X0_70 kv_X7_takesPart ko_X7_takesPart sh_2 (by decide) (by decide) rfl rfl (Nat.le_of_ble_eq_true rfl) (Nat.le_of_ble_eq_true rfl) (vX7_takesPart E  x4 x2 s31 _  h) (kB (fun r43 s43 h => ?_))
      refine V_ifz (pc := 46) (tgt := 63) dX0_spansAt_46 (by decide) (fun hc => ?_) (fun hc => ?_)
      · replace h := h.1 hc
        refine V_iinc (pc := 63) 5 (v := 1) dX0_spansAt_63 rfl (by decide) (by decide) ?_
        refine V_goto (pc := 66) (tgt := 5) dX0_spansAt_66 (by decide) ?_
        exact V_loc [2, 3, 4, 5, 0] rfl (ih x1 x2 x3 (x4 + (1 : Int32)) s43  h)
      · replace h := h.2 hc
        refine V_iload (pc := 49) 0 dX0_spansAt_49 rfl ?_
        refine V_aload_n (pc := 51) 1 dX0_spansAt_51 rfl ?_
        refine V_iload (pc := 52) 5 dX0_spansAt_52 rfl ?_
        refine V_callV (pc := 54) (M' := mX0_reachOf) dX0_spansAt_54 ml_X0_74 kv_X0_reachOf ko_X0_reachOf sh_3 (by decide) (by decide) rfl rfl (Nat.le_of_ble_eq_true rfl) (Nat.le_of_ble_eq_true rfl) (vX0_reachOf E  x4 s43 _  h) (kI (fun r54 s54 h => ?_))
        refine V_icmp_gt (pc := 57) (tgt := 63) dX0_spansAt_57 (by decide) (fun hc => ?_) (fun hc => ?_)
        · replace h := h.1 hc
          refine V_iinc (pc := 63) 5 (v := 1) dX0_spansAt_63 rfl (by decide) (by decide) ?_
          refine V_goto (pc := 66) (tgt := 5) dX0_spansAt_66 (by decide) ?_
          exact V_loc [2, 3, 4, 5, 0] rfl (ih x1 x2 x3 (x4 + (1 : Int32)) s54  h)
        · replace h := h.2 hc
          refine V_iinc (pc := 60) 4 (v := 1) dX0_spansAt_60 rfl (by decide) (by decide) ?_
          refine V_iinc (pc := 63) 5 (v := 1) dX0_spansAt_63 rfl (by decide) (by decide) ?_
          refine V_goto (pc := 66) (tgt := 5) dX0_spansAt_66 (by decide) ?_
          exact V_loc [3, 4, 5, 1, 0] rfl (ih x1 x2 (x3 + (1 : Int32)) (x4 + (1 : Int32)) s54  h)
def wX0_spansAt  (x1 : Int32) (x2 : Int32) (σ : Sto) (post : Int32 → Sto → Prop) : Prop := ∃ n5, wX0_spansAt_5 post  (fun (x3_1 : Int32) (σ_1 : Sto) => post x3_1 σ_1) n5 x1 x2 ((0 : Int32)) ((0 : Int32)) σ
set_option maxRecDepth 100000 in
set_option maxHeartbeats 4000000 in
theorem vX0_spansAt (E : Ev)  (x1 : Int32) (x2 : Int32) (σ : Sto) (post : Int32 → Sto → Prop)  (h : wX0_spansAt  x1 x2 σ post) : V E 1 mX0_spansAt (pI post) 0 [(0, .ref 3), (1, .int x1), (2, .int x2)] [] σ := by
  unfold wX0_spansAt at h
  refine V_iconst (pc := 0) (v := 0) dX0_spansAt_0 (by decide) ?_
  refine V_istore_n (pc := 1) dX0_spansAt_1 (by decide) ?_
  refine V_iconst (pc := 2) (v := 0) dX0_spansAt_2 (by decide) ?_
  refine V_istore (pc := 3) dX0_spansAt_3 (by decide) ?_
  obtain ⟨n5, h⟩ := h
  refine V_loc [2, 3, 4, 1, 0] rfl (vX0_spansAt_5 E post   _ (fun x3_1 σ_1 h => ?_) n5 x1 x2 ((0 : Int32)) ((0 : Int32)) σ  h)
  · refine V_iload_n (pc := 69) 0 dX0_spansAt_69 rfl ?_
    exact V_iret dX0_spansAt_70 rfl h
theorem dX0_meet_0 : decode cX0_meet 0 = .ok (.aload_n 0, 1) := by decide +kernel
theorem dX0_meet_1 : decode cX0_meet 1 = .ok (.iconst 0, 1) := by decide +kernel
theorem dX0_meet_2 : decode cX0_meet 2 = .ok (.putfield 64, 3) := by decide +kernel
theorem dX0_meet_5 : decode cX0_meet 5 = .ok (.aload_n 0, 1) := by decide +kernel
theorem dX0_meet_6 : decode cX0_meet 6 = .ok (.iconst 0, 1) := by decide +kernel
theorem dX0_meet_7 : decode cX0_meet 7 = .ok (.putfield 67, 3) := by decide +kernel
theorem dX0_meet_10 : decode cX0_meet 10 = .ok (.iconst 0, 1) := by decide +kernel
theorem dX0_meet_11 : decode cX0_meet 11 = .ok (.istore_n 2, 1) := by decide +kernel
theorem dX0_meet_12 : decode cX0_meet 12 = .ok (.iload_n 2, 1) := by decide +kernel
theorem dX0_meet_13 : decode cX0_meet 13 = .ok (.aload_n 0, 1) := by decide +kernel
theorem dX0_meet_14 : decode cX0_meet 14 = .ok (.getfield 19, 3) := by decide +kernel
theorem dX0_meet_17 : decode cX0_meet 17 = .ok (.getfield 44, 3) := by decide +kernel
theorem dX0_meet_20 : decode cX0_meet 20 = .ok (.if_icmp .ge 84, 3) := by decide +kernel
theorem dX0_meet_23 : decode cX0_meet 23 = .ok (.aload_n 0, 1) := by decide +kernel
theorem dX0_meet_24 : decode cX0_meet 24 = .ok (.getfield 23, 3) := by decide +kernel
theorem dX0_meet_27 : decode cX0_meet 27 = .ok (.iload_n 2, 1) := by decide +kernel
theorem dX0_meet_28 : decode cX0_meet 28 = .ok (.iload_n 1, 1) := by decide +kernel
theorem dX0_meet_29 : decode cX0_meet 29 = .ok (.invokevirtual 70, 3) := by decide +kernel
theorem dX0_meet_32 : decode cX0_meet 32 = .ok (.ifCond .eq 66, 3) := by decide +kernel
theorem dX0_meet_35 : decode cX0_meet 35 = .ok (.aload_n 0, 1) := by decide +kernel
theorem dX0_meet_36 : decode cX0_meet 36 = .ok (.getfield 23, 3) := by decide +kernel
theorem dX0_meet_39 : decode cX0_meet 39 = .ok (.getfield 27, 3) := by decide +kernel
theorem dX0_meet_42 : decode cX0_meet 42 = .ok (.iload_n 1, 1) := by decide +kernel
theorem dX0_meet_43 : decode cX0_meet 43 = .ok (.aaload, 1) := by decide +kernel
theorem dX0_meet_44 : decode cX0_meet 44 = .ok (.iload_n 2, 1) := by decide +kernel
theorem dX0_meet_45 : decode cX0_meet 45 = .ok (.iaload, 1) := by decide +kernel
theorem dX0_meet_46 : decode cX0_meet 46 = .ok (.aload_n 0, 1) := by decide +kernel
theorem dX0_meet_47 : decode cX0_meet 47 = .ok (.iload_n 2, 1) := by decide +kernel
theorem dX0_meet_48 : decode cX0_meet 48 = .ok (.invokevirtual 74, 3) := by decide +kernel
theorem dX0_meet_51 : decode cX0_meet 51 = .ok (.isub, 1) := by decide +kernel
theorem dX0_meet_52 : decode cX0_meet 52 = .ok (.istore_n 3, 1) := by decide +kernel
theorem dX0_meet_53 : decode cX0_meet 53 = .ok (.aload_n 0, 1) := by decide +kernel
theorem dX0_meet_54 : decode cX0_meet 54 = .ok (.iload_n 3, 1) := by decide +kernel
theorem dX0_meet_55 : decode cX0_meet 55 = .ok (.iload_n 1, 1) := by decide +kernel
theorem dX0_meet_56 : decode cX0_meet 56 = .ok (.invokevirtual 77, 3) := by decide +kernel
theorem dX0_meet_59 : decode cX0_meet 59 = .ok (.istore 4, 2) := by decide +kernel
theorem dX0_meet_61 : decode cX0_meet 61 = .ok (.iload 4, 2) := by decide +kernel
theorem dX0_meet_63 : decode cX0_meet 63 = .ok (.aload_n 0, 1) := by decide +kernel
theorem dX0_meet_64 : decode cX0_meet 64 = .ok (.getfield 64, 3) := by decide +kernel
theorem dX0_meet_67 : decode cX0_meet 67 = .ok (.if_icmp .gt 20, 3) := by decide +kernel
theorem dX0_meet_70 : decode cX0_meet 70 = .ok (.iload 4, 2) := by decide +kernel
theorem dX0_meet_72 : decode cX0_meet 72 = .ok (.aload_n 0, 1) := by decide +kernel
theorem dX0_meet_73 : decode cX0_meet 73 = .ok (.getfield 64, 3) := by decide +kernel
theorem dX0_meet_76 : decode cX0_meet 76 = .ok (.if_icmp .ne 22, 3) := by decide +kernel
theorem dX0_meet_79 : decode cX0_meet 79 = .ok (.iload_n 3, 1) := by decide +kernel
theorem dX0_meet_80 : decode cX0_meet 80 = .ok (.aload_n 0, 1) := by decide +kernel
theorem dX0_meet_81 : decode cX0_meet 81 = .ok (.getfield 67, 3) := by decide +kernel
theorem dX0_meet_84 : decode cX0_meet 84 = .ok (.if_icmp .ge 14, 3) := by decide +kernel
theorem dX0_meet_87 : decode cX0_meet 87 = .ok (.aload_n 0, 1) := by decide +kernel
theorem dX0_meet_88 : decode cX0_meet 88 = .ok (.iload 4, 2) := by decide +kernel
theorem dX0_meet_90 : decode cX0_meet 90 = .ok (.putfield 64, 3) := by decide +kernel
theorem dX0_meet_93 : decode cX0_meet 93 = .ok (.aload_n 0, 1) := by decide +kernel
theorem dX0_meet_94 : decode cX0_meet 94 = .ok (.iload_n 3, 1) := by decide +kernel
theorem dX0_meet_95 : decode cX0_meet 95 = .ok (.putfield 67, 3) := by decide +kernel
theorem dX0_meet_98 : decode cX0_meet 98 = .ok (.iinc 2 1, 3) := by decide +kernel
theorem dX0_meet_101 : decode cX0_meet 101 = .ok (.goto (-89), 3) := by decide +kernel
theorem dX0_meet_104 : decode cX0_meet 104 = .ok (.return_, 1) := by decide +kernel
def wX0_meet_87 (post : Sto → Prop)  (K12 : Int32 → Int32 → Sto → Prop) (x1 : Int32) (x2 : Int32) (x3 : Int32) (x4 : Int32) (σ : Sto) : Prop := K12 x1 (x2 + (1 : Int32)) (wI (wI σ 3 4 x4) 3 5 x3)
set_option maxRecDepth 100000 in
set_option maxHeartbeats 4000000 in
theorem vX0_meet_87 (E : Ev) (post : Sto → Prop)   (K12 : Int32 → Int32 → Sto → Prop) (HK12 : ∀ (x1 : Int32) (x2 : Int32) (σ : Sto), K12 x1 x2 σ → V E 2 mX0_meet (pV post) 12 [(0, .ref 3), (1, .int x1), (2, .int x2)] [] σ) (x1 : Int32) (x2 : Int32) (x3 : Int32) (x4 : Int32) (σ : Sto) (h : wX0_meet_87 post  K12 x1 x2 x3 x4 σ) : V E 2 mX0_meet (pV post) 87 [(0, .ref 3), (1, .int x1), (2, .int x2), (3, .int x3), (4, .int x4)] [] σ := by
  unfold wX0_meet_87 at h
  refine V_aload_n (pc := 87) 0 dX0_meet_87 rfl ?_
  refine V_iload (pc := 88) 4 dX0_meet_88 rfl ?_
  refine V_putI (pc := 90) dX0_meet_90 fl_X0_64 po_X0_4 sh_3 rfl rfl rfl ?_
  refine V_aload_n (pc := 93) 0 dX0_meet_93 rfl ?_
  refine V_iload_n (pc := 94) 3 dX0_meet_94 rfl ?_
  refine V_putI (pc := 95) dX0_meet_95 fl_X0_67 po_X0_5 sh_3 rfl rfl rfl ?_
  refine V_iinc (pc := 98) 2 (v := 1) dX0_meet_98 rfl (by decide) (by decide) ?_
  refine V_goto (pc := 101) (tgt := 12) dX0_meet_101 (by decide) ?_
  exact V_loc [1, 2, 0] rfl (HK12 x1 (x2 + (1 : Int32)) (wI (wI σ 3 4 x4) 3 5 x3)  h)
def wX0_meet_12 (post : Sto → Prop)  (K104 : Sto → Prop) : Nat → Int32 → Int32 → Sto → Prop
  | 0, _, _, _ => False
  | n + 1, x1, x2, σ => (((σ.1 1 2) ≤ x2) → (K104  σ)) ∧ ((¬ ((σ.1 1 2) ≤ x2)) → (wX7_takesPart  x2 x1 σ (fun (r29 : Bool) (s29 : Sto) => ((r29 = false) → (wX0_meet_12 post  K104 n x1 (x2 + (1 : Int32)) s29)) ∧ ((r29 = true) → (vp_in x1 4 ∧ (vp_in x2 14 ∧ (wX0_reachOf  x2 s29 (fun (r48 : Int32) (s48 : Sto) => wX0_spansAt  ((s29.1 (45 + x1.toNatClampNeg) x2.toNatClampNeg) - r48) x1 s48 (fun (r56 : Int32) (s56 : Sto) => (((s56.1 3 4) < r56) → (wX0_meet_87 post  (wX0_meet_12 post  K104 n) x1 x2 ((s29.1 (45 + x1.toNatClampNeg) x2.toNatClampNeg) - r48) r56 s56)) ∧ ((¬ ((s56.1 3 4) < r56)) → (((¬ r56 = (s56.1 3 4)) → (wX0_meet_12 post  K104 n x1 (x2 + (1 : Int32)) s56)) ∧ ((r56 = (s56.1 3 4)) → ((((s56.1 3 5) ≤ ((s29.1 (45 + x1.toNatClampNeg) x2.toNatClampNeg) - r48)) → (wX0_meet_12 post  K104 n x1 (x2 + (1 : Int32)) s56)) ∧ ((¬ ((s56.1 3 5) ≤ ((s29.1 (45 + x1.toNatClampNeg) x2.toNatClampNeg) - r48))) → (wX0_meet_87 post  (wX0_meet_12 post  K104 n) x1 x2 ((s29.1 (45 + x1.toNatClampNeg) x2.toNatClampNeg) - r48) r56 s56)))))))))))))))
set_option maxRecDepth 100000 in
set_option maxHeartbeats 4000000 in
theorem vX0_meet_12 (E : Ev) (post : Sto → Prop)   (K104 : Sto → Prop) (HK104 : ∀  (σ : Sto), K104  σ → V E 2 mX0_meet (pV post) 104 [] [] σ) : ∀ (n : Nat) (x1 : Int32) (x2 : Int32) (σ : Sto), wX0_meet_12 post  K104 n x1 x2 σ → V E 2 mX0_meet (pV post) 12 [(0, .ref 3), (1, .int x1), (2, .int x2)] [] σ := by
  intro n
  induction n with
  | zero => intro x1 x2 σ h; exact h.elim
  | succ n ih =>
    intro x1 x2 σ h
    unfold wX0_meet_12 at h
    refine V_iload_n (pc := 12) 2 dX0_meet_12 rfl ?_
    refine V_aload_n (pc := 13) 0 dX0_meet_13 rfl ?_
    refine V_getR (pc := 14) dX0_meet_14 fl_X0_19 sh_3 rfl ?_
    refine V_getI (pc := 17) dX0_meet_17 fl_X0_44 sh_1 rfl ?_
    refine V_icmp_ge (pc := 20) (tgt := 104) dX0_meet_20 (by decide) (fun hc => ?_) (fun hc => ?_)
    · replace h := h.1 hc
      exact V_loc [] rfl (HK104  σ  h)
    · replace h := h.2 hc
      refine V_aload_n (pc := 23) 0 dX0_meet_23 rfl ?_
      refine V_getR (pc := 24) dX0_meet_24 fl_X0_23 sh_3 rfl ?_
      refine V_iload_n (pc := 27) 2 dX0_meet_27 rfl ?_
      refine V_iload_n (pc := 28) 1 dX0_meet_28 rfl ?_
      refine V_callV (pc := 29) (M' := mX7_takesPart) dX0_meet_29 ml_X0_70 kv_X7_takesPart ko_X7_takesPart sh_2 (by decide) (by decide) rfl rfl (Nat.le_of_ble_eq_true rfl) (Nat.le_of_ble_eq_true rfl) (vX7_takesPart E  x2 x1 σ _  h) (kB (fun r29 s29 h => ?_))
      refine V_ifz (pc := 32) (tgt := 98) dX0_meet_32 (by decide) (fun hc => ?_) (fun hc => ?_)
      · replace h := h.1 hc
        refine V_iinc (pc := 98) 2 (v := 1) dX0_meet_98 rfl (by decide) (by decide) ?_
        refine V_goto (pc := 101) (tgt := 12) dX0_meet_101 (by decide) ?_
        exact V_loc [1, 2, 0] rfl (ih x1 (x2 + (1 : Int32)) s29  h)
      · replace h := h.2 hc
        refine V_aload_n (pc := 35) 0 dX0_meet_35 rfl ?_
        refine V_getR (pc := 36) dX0_meet_36 fl_X0_23 sh_3 rfl ?_
        refine V_getR (pc := 39) dX0_meet_39 fl_X0_27 sh_2 rfl ?_
        refine V_iload_n (pc := 42) 1 dX0_meet_42 rfl ?_
        obtain ⟨i43, h⟩ := h
        refine V_aald (pc := 43) dX0_meet_43 sh_44 i43 ?_
        refine V_iload_n (pc := 44) 2 dX0_meet_44 rfl ?_
        obtain ⟨i45, h⟩ := h
        refine V_iald (pc := 45) dX0_meet_45 (sr_45 (vp_lt i43)) i45 ?_
        refine V_aload_n (pc := 46) 0 dX0_meet_46 rfl ?_
        refine V_iload_n (pc := 47) 2 dX0_meet_47 rfl ?_
        refine V_callV (pc := 48) (M' := mX0_reachOf) dX0_meet_48 ml_X0_74 kv_X0_reachOf ko_X0_reachOf sh_3 (by decide) (by decide) rfl rfl (Nat.le_of_ble_eq_true rfl) (Nat.le_of_ble_eq_true rfl) (vX0_reachOf E  x2 s29 _  h) (kI (fun r48 s48 h => ?_))
        refine V_isub (pc := 51) dX0_meet_51 ?_
        refine V_istore_n (pc := 52) dX0_meet_52 (by decide) ?_
        refine V_aload_n (pc := 53) 1 dX0_meet_53 rfl ?_
        refine V_iload_n (pc := 54) 0 dX0_meet_54 rfl ?_
        refine V_iload_n (pc := 55) 2 dX0_meet_55 rfl ?_
        refine V_callV (pc := 56) (M' := mX0_spansAt) dX0_meet_56 ml_X0_77 kv_X0_spansAt ko_X0_spansAt sh_3 (by decide) (by decide) rfl rfl (Nat.le_of_ble_eq_true rfl) (Nat.le_of_ble_eq_true rfl) (vX0_spansAt E  ((s29.1 (45 + x1.toNatClampNeg) x2.toNatClampNeg) - r48) x1 s48 _  h) (kI (fun r56 s56 h => ?_))
        refine V_istore (pc := 59) dX0_meet_59 (by decide) ?_
        refine V_iload (pc := 61) 0 dX0_meet_61 rfl ?_
        refine V_aload_n (pc := 63) 2 dX0_meet_63 rfl ?_
        refine V_getI (pc := 64) dX0_meet_64 fl_X0_64 sh_3 rfl ?_
        refine V_icmp_gt (pc := 67) (tgt := 87) dX0_meet_67 (by decide) (fun hc => ?_) (fun hc => ?_)
        · replace h := h.1 hc
          refine V_loc [2, 3, 4, 1, 0] rfl (vX0_meet_87 E post   _ ih x1 x2 ((s29.1 (45 + x1.toNatClampNeg) x2.toNatClampNeg) - r48) r56 s56  h)
        · replace h := h.2 hc
          refine V_iload (pc := 70) 0 dX0_meet_70 rfl ?_
          refine V_aload_n (pc := 72) 2 dX0_meet_72 rfl ?_
          refine V_getI (pc := 73) dX0_meet_73 fl_X0_64 sh_3 rfl ?_
          refine V_icmp_ne (pc := 76) (tgt := 98) dX0_meet_76 (by decide) (fun hc => ?_) (fun hc => ?_)
          · replace h := h.1 hc
            refine V_iinc (pc := 98) 4 (v := 1) dX0_meet_98 rfl (by decide) (by decide) ?_
            refine V_goto (pc := 101) (tgt := 12) dX0_meet_101 (by decide) ?_
            exact V_loc [3, 4, 0] rfl (ih x1 (x2 + (1 : Int32)) s56  h)
          · replace h := h.2 hc
            refine V_iload_n (pc := 79) 1 dX0_meet_79 rfl ?_
            refine V_aload_n (pc := 80) 2 dX0_meet_80 rfl ?_
            refine V_getI (pc := 81) dX0_meet_81 fl_X0_67 sh_3 rfl ?_
            refine V_icmp_ge (pc := 84) (tgt := 98) dX0_meet_84 (by decide) (fun hc => ?_) (fun hc => ?_)
            · replace h := h.1 hc
              refine V_iinc (pc := 98) 4 (v := 1) dX0_meet_98 rfl (by decide) (by decide) ?_
              refine V_goto (pc := 101) (tgt := 12) dX0_meet_101 (by decide) ?_
              exact V_loc [3, 4, 0] rfl (ih x1 (x2 + (1 : Int32)) s56  h)
            · replace h := h.2 hc
              refine V_loc [2, 3, 4, 1, 0] rfl (vX0_meet_87 E post   _ ih x1 x2 ((s29.1 (45 + x1.toNatClampNeg) x2.toNatClampNeg) - r48) r56 s56  h)
def wX0_meet  (x1 : Int32) (σ : Sto) (post : Sto → Prop) : Prop := ∃ n12, wX0_meet_12 post  (fun  (σ_1 : Sto) => post σ_1) n12 x1 ((0 : Int32)) (wI (wI σ 3 4 ((0 : Int32))) 3 5 ((0 : Int32)))
set_option maxRecDepth 100000 in
set_option maxHeartbeats 4000000 in
theorem vX0_meet (E : Ev)  (x1 : Int32) (σ : Sto) (post : Sto → Prop)  (h : wX0_meet  x1 σ post) : V E 2 mX0_meet (pV post) 0 [(0, .ref 3), (1, .int x1)] [] σ := by
  unfold wX0_meet at h
  refine V_aload_n (pc := 0) 0 dX0_meet_0 rfl ?_
  refine V_iconst (pc := 1) (v := 0) dX0_meet_1 (by decide) ?_
  refine V_putI (pc := 2) dX0_meet_2 fl_X0_64 po_X0_4 sh_3 rfl rfl rfl ?_
  refine V_aload_n (pc := 5) 0 dX0_meet_5 rfl ?_
  refine V_iconst (pc := 6) (v := 0) dX0_meet_6 (by decide) ?_
  refine V_putI (pc := 7) dX0_meet_7 fl_X0_67 po_X0_5 sh_3 rfl rfl rfl ?_
  refine V_iconst (pc := 10) (v := 0) dX0_meet_10 (by decide) ?_
  refine V_istore_n (pc := 11) dX0_meet_11 (by decide) ?_
  obtain ⟨n12, h⟩ := h
  refine V_loc [1, 2, 0] rfl (vX0_meet_12 E post   _ (fun σ_1 h => ?_) n12 x1 ((0 : Int32)) (wI (wI σ 3 4 ((0 : Int32))) 3 5 ((0 : Int32)))  h)
  · exact V_vret dX0_meet_104 rfl h
theorem dX2_findNeighbours_0 : decode cX2_findNeighbours 0 = .ok (.aload_n 0, 1) := by decide +kernel
theorem dX2_findNeighbours_1 : decode cX2_findNeighbours 1 = .ok (.getfield 9, 3) := by decide +kernel
theorem dX2_findNeighbours_4 : decode cX2_findNeighbours 4 = .ok (.iconst 0, 1) := by decide +kernel
theorem dX2_findNeighbours_5 : decode cX2_findNeighbours 5 = .ok (.invokestatic 29, 3) := by decide +kernel
theorem dX2_findNeighbours_8 : decode cX2_findNeighbours 8 = .ok (.iconst 0, 1) := by decide +kernel
theorem dX2_findNeighbours_9 : decode cX2_findNeighbours 9 = .ok (.istore_n 1, 1) := by decide +kernel
theorem dX2_findNeighbours_10 : decode cX2_findNeighbours 10 = .ok (.iload_n 1, 1) := by decide +kernel
theorem dX2_findNeighbours_11 : decode cX2_findNeighbours 11 = .ok (.iconst 4, 1) := by decide +kernel
theorem dX2_findNeighbours_12 : decode cX2_findNeighbours 12 = .ok (.if_icmp .ge 62, 3) := by decide +kernel
theorem dX2_findNeighbours_15 : decode cX2_findNeighbours 15 = .ok (.aload_n 0, 1) := by decide +kernel
theorem dX2_findNeighbours_16 : decode cX2_findNeighbours 16 = .ok (.getfield 22, 3) := by decide +kernel
theorem dX2_findNeighbours_19 : decode cX2_findNeighbours 19 = .ok (.iload_n 1, 1) := by decide +kernel
theorem dX2_findNeighbours_20 : decode cX2_findNeighbours 20 = .ok (.invokevirtual 52, 3) := by decide +kernel
theorem dX2_findNeighbours_23 : decode cX2_findNeighbours 23 = .ok (.istore_n 2, 1) := by decide +kernel
theorem dX2_findNeighbours_24 : decode cX2_findNeighbours 24 = .ok (.iconst 0, 1) := by decide +kernel
theorem dX2_findNeighbours_25 : decode cX2_findNeighbours 25 = .ok (.istore_n 3, 1) := by decide +kernel
theorem dX2_findNeighbours_26 : decode cX2_findNeighbours 26 = .ok (.iload_n 3, 1) := by decide +kernel
theorem dX2_findNeighbours_27 : decode cX2_findNeighbours 27 = .ok (.aload_n 0, 1) := by decide +kernel
theorem dX2_findNeighbours_28 : decode cX2_findNeighbours 28 = .ok (.getfield 18, 3) := by decide +kernel
theorem dX2_findNeighbours_31 : decode cX2_findNeighbours 31 = .ok (.getfield 41, 3) := by decide +kernel
theorem dX2_findNeighbours_34 : decode cX2_findNeighbours 34 = .ok (.if_icmp .ge 34, 3) := by decide +kernel
theorem dX2_findNeighbours_37 : decode cX2_findNeighbours 37 = .ok (.iload_n 2, 1) := by decide +kernel
theorem dX2_findNeighbours_38 : decode cX2_findNeighbours 38 = .ok (.iload_n 3, 1) := by decide +kernel
theorem dX2_findNeighbours_39 : decode cX2_findNeighbours 39 = .ok (.ishr, 1) := by decide +kernel
theorem dX2_findNeighbours_40 : decode cX2_findNeighbours 40 = .ok (.iconst 1, 1) := by decide +kernel
theorem dX2_findNeighbours_41 : decode cX2_findNeighbours 41 = .ok (.iand, 1) := by decide +kernel
theorem dX2_findNeighbours_42 : decode cX2_findNeighbours 42 = .ok (.iconst 1, 1) := by decide +kernel
theorem dX2_findNeighbours_43 : decode cX2_findNeighbours 43 = .ok (.if_icmp .ne 19, 3) := by decide +kernel
theorem dX2_findNeighbours_46 : decode cX2_findNeighbours 46 = .ok (.aload_n 0, 1) := by decide +kernel
theorem dX2_findNeighbours_47 : decode cX2_findNeighbours 47 = .ok (.getfield 9, 3) := by decide +kernel
theorem dX2_findNeighbours_50 : decode cX2_findNeighbours 50 = .ok (.iload_n 3, 1) := by decide +kernel
theorem dX2_findNeighbours_51 : decode cX2_findNeighbours 51 = .ok (.dup2, 1) := by decide +kernel
theorem dX2_findNeighbours_52 : decode cX2_findNeighbours 52 = .ok (.iaload, 1) := by decide +kernel
theorem dX2_findNeighbours_53 : decode cX2_findNeighbours 53 = .ok (.iload_n 2, 1) := by decide +kernel
theorem dX2_findNeighbours_54 : decode cX2_findNeighbours 54 = .ok (.iconst 1, 1) := by decide +kernel
theorem dX2_findNeighbours_55 : decode cX2_findNeighbours 55 = .ok (.iload_n 3, 1) := by decide +kernel
theorem dX2_findNeighbours_56 : decode cX2_findNeighbours 56 = .ok (.ishl, 1) := by decide +kernel
theorem dX2_findNeighbours_57 : decode cX2_findNeighbours 57 = .ok (.iconst (-1), 1) := by decide +kernel
theorem dX2_findNeighbours_58 : decode cX2_findNeighbours 58 = .ok (.ixor, 1) := by decide +kernel
theorem dX2_findNeighbours_59 : decode cX2_findNeighbours 59 = .ok (.iand, 1) := by decide +kernel
theorem dX2_findNeighbours_60 : decode cX2_findNeighbours 60 = .ok (.ior, 1) := by decide +kernel
theorem dX2_findNeighbours_61 : decode cX2_findNeighbours 61 = .ok (.iastore, 1) := by decide +kernel
theorem dX2_findNeighbours_62 : decode cX2_findNeighbours 62 = .ok (.iinc 3 1, 3) := by decide +kernel
theorem dX2_findNeighbours_65 : decode cX2_findNeighbours 65 = .ok (.goto (-39), 3) := by decide +kernel
theorem dX2_findNeighbours_68 : decode cX2_findNeighbours 68 = .ok (.iinc 1 1, 3) := by decide +kernel
theorem dX2_findNeighbours_71 : decode cX2_findNeighbours 71 = .ok (.goto (-61), 3) := by decide +kernel
theorem dX2_findNeighbours_74 : decode cX2_findNeighbours 74 = .ok (.return_, 1) := by decide +kernel
def wX2_findNeighbours_26 (post : Sto → Prop)  (K68 : Int32 → Sto → Prop) : Nat → Int32 → Int32 → Int32 → Sto → Prop
  | 0, _, _, _, _ => False
  | n + 1, x1, x2, x3, σ => (((σ.1 1 2) ≤ x3) → (K68 x1 σ)) ∧ ((¬ ((σ.1 1 2) ≤ x3)) → (((¬ ((x2 >>> (x3 &&& 31)) &&& ((1 : Int32))) = ((1 : Int32))) → (wX2_findNeighbours_26 post  K68 n x1 x2 (x3 + (1 : Int32)) σ)) ∧ ((((x2 >>> (x3 &&& 31)) &&& ((1 : Int32))) = ((1 : Int32))) → (vp_in x3 14 ∧ (vp_in x3 14 ∧ (wX2_findNeighbours_26 post  K68 n x1 x2 (x3 + (1 : Int32)) (wI σ 50 x3.toNatClampNeg ((σ.1 50 x3.toNatClampNeg) ||| (x2 &&& ((((1 : Int32)) <<< (x3 &&& 31)) ^^^ ((-1 : Int32))))))))))))
set_option maxRecDepth 100000 in
set_option maxHeartbeats 4000000 in
theorem vX2_findNeighbours_26 (E : Ev) (post : Sto → Prop)   (K68 : Int32 → Sto → Prop) (HK68 : ∀ (x1 : Int32) (σ : Sto), K68 x1 σ → V E 2 mX2_findNeighbours (pV post) 68 [(0, .ref 4), (1, .int x1)] [] σ) : ∀ (n : Nat) (x1 : Int32) (x2 : Int32) (x3 : Int32) (σ : Sto), wX2_findNeighbours_26 post  K68 n x1 x2 x3 σ → V E 2 mX2_findNeighbours (pV post) 26 [(0, .ref 4), (1, .int x1), (2, .int x2), (3, .int x3)] [] σ := by
  intro n
  induction n with
  | zero => intro x1 x2 x3 σ h; exact h.elim
  | succ n ih =>
    intro x1 x2 x3 σ h
    unfold wX2_findNeighbours_26 at h
    refine V_iload_n (pc := 26) 3 dX2_findNeighbours_26 rfl ?_
    refine V_aload_n (pc := 27) 0 dX2_findNeighbours_27 rfl ?_
    refine V_getR (pc := 28) dX2_findNeighbours_28 fl_X2_18 sh_4 rfl ?_
    refine V_getI (pc := 31) dX2_findNeighbours_31 fl_X2_41 sh_1 rfl ?_
    refine V_icmp_ge (pc := 34) (tgt := 68) dX2_findNeighbours_34 (by decide) (fun hc => ?_) (fun hc => ?_)
    · replace h := h.1 hc
      exact V_loc [0, 1] rfl (HK68 x1 σ  h)
    · replace h := h.2 hc
      refine V_iload_n (pc := 37) 2 dX2_findNeighbours_37 rfl ?_
      refine V_iload_n (pc := 38) 3 dX2_findNeighbours_38 rfl ?_
      refine V_ishr (pc := 39) dX2_findNeighbours_39 ?_
      refine V_iconst (pc := 40) (v := 1) dX2_findNeighbours_40 (by decide) ?_
      refine V_iand (pc := 41) dX2_findNeighbours_41 ?_
      refine V_iconst (pc := 42) (v := 1) dX2_findNeighbours_42 (by decide) ?_
      refine V_icmp_ne (pc := 43) (tgt := 62) dX2_findNeighbours_43 (by decide) (fun hc => ?_) (fun hc => ?_)
      · replace h := h.1 hc
        refine V_iinc (pc := 62) 3 (v := 1) dX2_findNeighbours_62 rfl (by decide) (by decide) ?_
        refine V_goto (pc := 65) (tgt := 26) dX2_findNeighbours_65 (by decide) ?_
        exact V_loc [1, 2, 3, 0] rfl (ih x1 x2 (x3 + (1 : Int32)) σ  h)
      · replace h := h.2 hc
        refine V_aload_n (pc := 46) 0 dX2_findNeighbours_46 rfl ?_
        refine V_getR (pc := 47) dX2_findNeighbours_47 fl_X2_9 sh_4 rfl ?_
        refine V_iload_n (pc := 50) 3 dX2_findNeighbours_50 rfl ?_
        refine V_dup2_11 (pc := 51) dX2_findNeighbours_51 rfl rfl ?_
        obtain ⟨i52, h⟩ := h
        refine V_iald (pc := 52) dX2_findNeighbours_52 sh_50 i52 ?_
        refine V_iload_n (pc := 53) 2 dX2_findNeighbours_53 rfl ?_
        refine V_iconst (pc := 54) (v := 1) dX2_findNeighbours_54 (by decide) ?_
        refine V_iload_n (pc := 55) 3 dX2_findNeighbours_55 rfl ?_
        refine V_ishl (pc := 56) dX2_findNeighbours_56 ?_
        refine V_iconst (pc := 57) (v := -1) dX2_findNeighbours_57 (by decide) ?_
        refine V_ixor (pc := 58) dX2_findNeighbours_58 ?_
        refine V_iand (pc := 59) dX2_findNeighbours_59 ?_
        refine V_ior (pc := 60) dX2_findNeighbours_60 ?_
        obtain ⟨i61, h⟩ := h
        refine V_iast (pc := 61) dX2_findNeighbours_61 sh_50 i61 ?_
        refine V_iinc (pc := 62) 3 (v := 1) dX2_findNeighbours_62 rfl (by decide) (by decide) ?_
        refine V_goto (pc := 65) (tgt := 26) dX2_findNeighbours_65 (by decide) ?_
        exact V_loc [1, 2, 3, 0] rfl (ih x1 x2 (x3 + (1 : Int32)) (wI σ 50 x3.toNatClampNeg ((σ.1 50 x3.toNatClampNeg) ||| (x2 &&& ((((1 : Int32)) <<< (x3 &&& 31)) ^^^ ((-1 : Int32))))))  h)
def wX2_findNeighbours_10 (post : Sto → Prop)  (K74 : Sto → Prop) : Nat → Int32 → Sto → Prop
  | 0, _, _ => False
  | n + 1, x1, σ => ((((4 : Int32)) ≤ x1) → (K74  σ)) ∧ ((¬ (((4 : Int32)) ≤ x1)) → (wX7_takingPart  x1 σ (fun (r20 : Int32) (s20 : Sto) => ∃ n26, wX2_findNeighbours_26 post  (fun (x1_1 : Int32) (σ_1 : Sto) => wX2_findNeighbours_10 post  K74 n (x1_1 + (1 : Int32)) σ_1) n26 x1 r20 ((0 : Int32)) s20)))
set_option maxRecDepth 100000 in
set_option maxHeartbeats 4000000 in
theorem vX2_findNeighbours_10 (E : Ev) (post : Sto → Prop)   (K74 : Sto → Prop) (HK74 : ∀  (σ : Sto), K74  σ → V E 2 mX2_findNeighbours (pV post) 74 [] [] σ) : ∀ (n : Nat) (x1 : Int32) (σ : Sto), wX2_findNeighbours_10 post  K74 n x1 σ → V E 2 mX2_findNeighbours (pV post) 10 [(0, .ref 4), (1, .int x1)] [] σ := by
  intro n
  induction n with
  | zero => intro x1 σ h; exact h.elim
  | succ n ih =>
    intro x1 σ h
    unfold wX2_findNeighbours_10 at h
    refine V_iload_n (pc := 10) 1 dX2_findNeighbours_10 rfl ?_
    refine V_iconst (pc := 11) (v := 4) dX2_findNeighbours_11 (by decide) ?_
    refine V_icmp_ge (pc := 12) (tgt := 74) dX2_findNeighbours_12 (by decide) (fun hc => ?_) (fun hc => ?_)
    · replace h := h.1 hc
      exact V_loc [] rfl (HK74  σ  h)
    · replace h := h.2 hc
      refine V_aload_n (pc := 15) 0 dX2_findNeighbours_15 rfl ?_
      refine V_getR (pc := 16) dX2_findNeighbours_16 fl_X2_22 sh_4 rfl ?_
      refine V_iload_n (pc := 19) 1 dX2_findNeighbours_19 rfl ?_
      refine V_callV (pc := 20) (M' := mX7_takingPart) dX2_findNeighbours_20 ml_X2_52 kv_X7_takingPart ko_X7_takingPart sh_2 (by decide) (by decide) rfl rfl (Nat.le_of_ble_eq_true rfl) (Nat.le_of_ble_eq_true rfl) (vX7_takingPart E  x1 σ _  h) (kI (fun r20 s20 h => ?_))
      refine V_istore_n (pc := 23) dX2_findNeighbours_23 (by decide) ?_
      refine V_iconst (pc := 24) (v := 0) dX2_findNeighbours_24 (by decide) ?_
      refine V_istore_n (pc := 25) dX2_findNeighbours_25 (by decide) ?_
      obtain ⟨n26, h⟩ := h
      refine V_loc [2, 3, 1, 0] rfl (vX2_findNeighbours_26 E post   _ (fun x1_1 σ_1 h => ?_) n26 x1 r20 ((0 : Int32)) s20  h)
      · refine V_iinc (pc := 68) 1 (v := 1) dX2_findNeighbours_68 rfl (by decide) (by decide) ?_
        refine V_goto (pc := 71) (tgt := 10) dX2_findNeighbours_71 (by decide) ?_
        exact V_loc [1, 0] rfl (ih (x1_1 + (1 : Int32)) σ_1  h)
def wX2_findNeighbours   (σ : Sto) (post : Sto → Prop) : Prop := wJ7_fill_53178 50 14 ((0 : Int32)) σ (fun (s5 : Sto) => ∃ n10, wX2_findNeighbours_10 post  (fun  (σ_2 : Sto) => post σ_2) n10 ((0 : Int32)) s5)
set_option maxRecDepth 100000 in
set_option maxHeartbeats 4000000 in
theorem vX2_findNeighbours (E : Ev)   (σ : Sto) (post : Sto → Prop)  (h : wX2_findNeighbours   σ post) : V E 2 mX2_findNeighbours (pV post) 0 [(0, .ref 4)] [] σ := by
  unfold wX2_findNeighbours at h
  refine V_aload_n (pc := 0) 0 dX2_findNeighbours_0 rfl ?_
  refine V_getR (pc := 1) dX2_findNeighbours_1 fl_X2_9 sh_4 rfl ?_
  refine V_iconst (pc := 4) (v := 0) dX2_findNeighbours_4 (by decide) ?_
  refine V_callS (pc := 5) (M' := mJ7_fill_53178) dX2_findNeighbours_5 ml_X2_29 ks_J7_fill_53178 ko_J7_fill_53178 (by decide) rfl (Nat.le_of_ble_eq_true rfl) (Nat.le_of_ble_eq_true rfl) (vJ7_fill_53178 E 50 14 ((0 : Int32)) σ _ sh_50 h) (kV (fun s5 h => ?_))
  refine V_iconst (pc := 8) (v := 0) dX2_findNeighbours_8 (by decide) ?_
  refine V_istore_n (pc := 9) dX2_findNeighbours_9 (by decide) ?_
  obtain ⟨n10, h⟩ := h
  refine V_loc [1, 0] rfl (vX2_findNeighbours_10 E post   _ (fun σ_2 h => ?_) n10 ((0 : Int32)) s5  h)
  · exact V_vret dX2_findNeighbours_74 rfl h
theorem dX2_cheapestBeside_0 : decode cX2_cheapestBeside 0 = .ok (.iconst (-1), 1) := by decide +kernel
theorem dX2_cheapestBeside_1 : decode cX2_cheapestBeside 1 = .ok (.istore_n 2, 1) := by decide +kernel
theorem dX2_cheapestBeside_2 : decode cX2_cheapestBeside 2 = .ok (.iconst 0, 1) := by decide +kernel
theorem dX2_cheapestBeside_3 : decode cX2_cheapestBeside 3 = .ok (.istore_n 3, 1) := by decide +kernel
theorem dX2_cheapestBeside_4 : decode cX2_cheapestBeside 4 = .ok (.iload_n 3, 1) := by decide +kernel
theorem dX2_cheapestBeside_5 : decode cX2_cheapestBeside 5 = .ok (.aload_n 0, 1) := by decide +kernel
theorem dX2_cheapestBeside_6 : decode cX2_cheapestBeside 6 = .ok (.getfield 18, 3) := by decide +kernel
theorem dX2_cheapestBeside_9 : decode cX2_cheapestBeside 9 = .ok (.getfield 41, 3) := by decide +kernel
theorem dX2_cheapestBeside_12 : decode cX2_cheapestBeside 12 = .ok (.if_icmp .ge 61, 3) := by decide +kernel
theorem dX2_cheapestBeside_15 : decode cX2_cheapestBeside 15 = .ok (.aload_n 0, 1) := by decide +kernel
theorem dX2_cheapestBeside_16 : decode cX2_cheapestBeside 16 = .ok (.getfield 15, 3) := by decide +kernel
theorem dX2_cheapestBeside_19 : decode cX2_cheapestBeside 19 = .ok (.iload_n 3, 1) := by decide +kernel
theorem dX2_cheapestBeside_20 : decode cX2_cheapestBeside 20 = .ok (.iaload, 1) := by decide +kernel
theorem dX2_cheapestBeside_21 : decode cX2_cheapestBeside 21 = .ok (.iconst (-1), 1) := by decide +kernel
theorem dX2_cheapestBeside_22 : decode cX2_cheapestBeside 22 = .ok (.if_icmp .eq 15, 3) := by decide +kernel
theorem dX2_cheapestBeside_25 : decode cX2_cheapestBeside 25 = .ok (.iload_n 1, 1) := by decide +kernel
theorem dX2_cheapestBeside_26 : decode cX2_cheapestBeside 26 = .ok (.iload_n 3, 1) := by decide +kernel
theorem dX2_cheapestBeside_27 : decode cX2_cheapestBeside 27 = .ok (.ishr, 1) := by decide +kernel
theorem dX2_cheapestBeside_28 : decode cX2_cheapestBeside 28 = .ok (.iconst 1, 1) := by decide +kernel
theorem dX2_cheapestBeside_29 : decode cX2_cheapestBeside 29 = .ok (.iand, 1) := by decide +kernel
theorem dX2_cheapestBeside_30 : decode cX2_cheapestBeside 30 = .ok (.ifCond .ne 7, 3) := by decide +kernel
theorem dX2_cheapestBeside_33 : decode cX2_cheapestBeside 33 = .ok (.iconst 1, 1) := by decide +kernel
theorem dX2_cheapestBeside_34 : decode cX2_cheapestBeside 34 = .ok (.goto 4, 3) := by decide +kernel
theorem dX2_cheapestBeside_37 : decode cX2_cheapestBeside 37 = .ok (.iconst 0, 1) := by decide +kernel
theorem dX2_cheapestBeside_38 : decode cX2_cheapestBeside 38 = .ok (.istore 4, 2) := by decide +kernel
theorem dX2_cheapestBeside_40 : decode cX2_cheapestBeside 40 = .ok (.iload 4, 2) := by decide +kernel
theorem dX2_cheapestBeside_42 : decode cX2_cheapestBeside 42 = .ok (.ifCond .eq 25, 3) := by decide +kernel
theorem dX2_cheapestBeside_45 : decode cX2_cheapestBeside 45 = .ok (.iload_n 2, 1) := by decide +kernel
theorem dX2_cheapestBeside_46 : decode cX2_cheapestBeside 46 = .ok (.iconst (-1), 1) := by decide +kernel
theorem dX2_cheapestBeside_47 : decode cX2_cheapestBeside 47 = .ok (.if_icmp .eq 18, 3) := by decide +kernel
theorem dX2_cheapestBeside_50 : decode cX2_cheapestBeside 50 = .ok (.aload_n 0, 1) := by decide +kernel
theorem dX2_cheapestBeside_51 : decode cX2_cheapestBeside 51 = .ok (.getfield 15, 3) := by decide +kernel
theorem dX2_cheapestBeside_54 : decode cX2_cheapestBeside 54 = .ok (.iload_n 3, 1) := by decide +kernel
theorem dX2_cheapestBeside_55 : decode cX2_cheapestBeside 55 = .ok (.iaload, 1) := by decide +kernel
theorem dX2_cheapestBeside_56 : decode cX2_cheapestBeside 56 = .ok (.aload_n 0, 1) := by decide +kernel
theorem dX2_cheapestBeside_57 : decode cX2_cheapestBeside 57 = .ok (.getfield 15, 3) := by decide +kernel
theorem dX2_cheapestBeside_60 : decode cX2_cheapestBeside 60 = .ok (.iload_n 2, 1) := by decide +kernel
theorem dX2_cheapestBeside_61 : decode cX2_cheapestBeside 61 = .ok (.iaload, 1) := by decide +kernel
theorem dX2_cheapestBeside_62 : decode cX2_cheapestBeside 62 = .ok (.if_icmp .ge 5, 3) := by decide +kernel
theorem dX2_cheapestBeside_65 : decode cX2_cheapestBeside 65 = .ok (.iload_n 3, 1) := by decide +kernel
theorem dX2_cheapestBeside_66 : decode cX2_cheapestBeside 66 = .ok (.istore_n 2, 1) := by decide +kernel
theorem dX2_cheapestBeside_67 : decode cX2_cheapestBeside 67 = .ok (.iinc 3 1, 3) := by decide +kernel
theorem dX2_cheapestBeside_70 : decode cX2_cheapestBeside 70 = .ok (.goto (-66), 3) := by decide +kernel
theorem dX2_cheapestBeside_73 : decode cX2_cheapestBeside 73 = .ok (.iload_n 2, 1) := by decide +kernel
theorem dX2_cheapestBeside_74 : decode cX2_cheapestBeside 74 = .ok (.ireturn, 1) := by decide +kernel
def wX2_cheapestBeside_65 (post : Int32 → Sto → Prop)  (K4 : Int32 → Int32 → Int32 → Sto → Prop) (x1 : Int32) (x3 : Int32) (σ : Sto) : Prop := K4 x1 x3 (x3 + (1 : Int32)) σ
set_option maxRecDepth 100000 in
set_option maxHeartbeats 4000000 in
theorem vX2_cheapestBeside_65 (E : Ev) (post : Int32 → Sto → Prop)   (K4 : Int32 → Int32 → Int32 → Sto → Prop) (HK4 : ∀ (x1 : Int32) (x2 : Int32) (x3 : Int32) (σ : Sto), K4 x1 x2 x3 σ → V E 0 mX2_cheapestBeside (pI post) 4 [(0, .ref 4), (1, .int x1), (2, .int x2), (3, .int x3)] [] σ) (x1 : Int32) (x3 : Int32) (σ : Sto) (h : wX2_cheapestBeside_65 post  K4 x1 x3 σ) : V E 0 mX2_cheapestBeside (pI post) 65 [(0, .ref 4), (1, .int x1), (3, .int x3)] [] σ := by
  unfold wX2_cheapestBeside_65 at h
  refine V_iload_n (pc := 65) 2 dX2_cheapestBeside_65 rfl ?_
  refine V_istore_n (pc := 66) dX2_cheapestBeside_66 (by decide) ?_
  refine V_iinc (pc := 67) 3 (v := 1) dX2_cheapestBeside_67 rfl (by decide) (by decide) ?_
  refine V_goto (pc := 70) (tgt := 4) dX2_cheapestBeside_70 (by decide) ?_
  exact V_loc [2, 3, 1, 0] rfl (HK4 x1 x3 (x3 + (1 : Int32)) σ  h)
def wX2_cheapestBeside_38 (post : Int32 → Sto → Prop)  (K4 : Int32 → Int32 → Int32 → Sto → Prop) (x1 : Int32) (x2 : Int32) (x3 : Int32) (y0 : Int32) (σ : Sto) : Prop := ((y0 = 0) → (K4 x1 x2 (x3 + (1 : Int32)) σ)) ∧ ((¬ (y0 = 0)) → (((x2 = ((-1 : Int32))) → (wX2_cheapestBeside_65 post  K4 x1 x3 σ)) ∧ ((¬ (x2 = ((-1 : Int32)))) → (vp_in x3 14 ∧ (vp_in x2 14 ∧ ((((σ.1 51 x2.toNatClampNeg) ≤ (σ.1 51 x3.toNatClampNeg)) → (K4 x1 x2 (x3 + (1 : Int32)) σ)) ∧ ((¬ ((σ.1 51 x2.toNatClampNeg) ≤ (σ.1 51 x3.toNatClampNeg))) → (wX2_cheapestBeside_65 post  K4 x1 x3 σ))))))))
set_option maxRecDepth 100000 in
set_option maxHeartbeats 4000000 in
theorem vX2_cheapestBeside_38 (E : Ev) (post : Int32 → Sto → Prop)   (K4 : Int32 → Int32 → Int32 → Sto → Prop) (HK4 : ∀ (x1 : Int32) (x2 : Int32) (x3 : Int32) (σ : Sto), K4 x1 x2 x3 σ → V E 0 mX2_cheapestBeside (pI post) 4 [(0, .ref 4), (1, .int x1), (2, .int x2), (3, .int x3)] [] σ) (x1 : Int32) (x2 : Int32) (x3 : Int32) (y0 : Int32) (σ : Sto) (h : wX2_cheapestBeside_38 post  K4 x1 x2 x3 y0 σ) : V E 0 mX2_cheapestBeside (pI post) 38 [(0, .ref 4), (1, .int x1), (2, .int x2), (3, .int x3)] [.int y0] σ := by
  unfold wX2_cheapestBeside_38 at h
  refine V_istore (pc := 38) dX2_cheapestBeside_38 (by decide) ?_
  refine V_iload (pc := 40) 0 dX2_cheapestBeside_40 rfl ?_
  refine V_if_eq (pc := 42) (tgt := 67) dX2_cheapestBeside_42 (by decide) (fun hc => ?_) (fun hc => ?_)
  · replace h := h.1 hc
    refine V_iinc (pc := 67) 4 (v := 1) dX2_cheapestBeside_67 rfl (by decide) (by decide) ?_
    refine V_goto (pc := 70) (tgt := 4) dX2_cheapestBeside_70 (by decide) ?_
    exact V_loc [2, 3, 4, 0] rfl (HK4 x1 x2 (x3 + (1 : Int32)) σ  h)
  · replace h := h.2 hc
    refine V_iload_n (pc := 45) 3 dX2_cheapestBeside_45 rfl ?_
    refine V_iconst (pc := 46) (v := -1) dX2_cheapestBeside_46 (by decide) ?_
    refine V_icmp_eq (pc := 47) (tgt := 65) dX2_cheapestBeside_47 (by decide) (fun hc => ?_) (fun hc => ?_)
    · replace h := h.1 hc
      refine V_loc [1, 2, 4] rfl (vX2_cheapestBeside_65 E post   K4 HK4 x1 x3 σ  h)
    · replace h := h.2 hc
      refine V_aload_n (pc := 50) 1 dX2_cheapestBeside_50 rfl ?_
      refine V_getR (pc := 51) dX2_cheapestBeside_51 fl_X2_15 sh_4 rfl ?_
      refine V_iload_n (pc := 54) 4 dX2_cheapestBeside_54 rfl ?_
      obtain ⟨i55, h⟩ := h
      refine V_iald (pc := 55) dX2_cheapestBeside_55 sh_51 i55 ?_
      refine V_aload_n (pc := 56) 1 dX2_cheapestBeside_56 rfl ?_
      refine V_getR (pc := 57) dX2_cheapestBeside_57 fl_X2_15 sh_4 rfl ?_
      refine V_iload_n (pc := 60) 3 dX2_cheapestBeside_60 rfl ?_
      obtain ⟨i61, h⟩ := h
      refine V_iald (pc := 61) dX2_cheapestBeside_61 sh_51 i61 ?_
      refine V_icmp_ge (pc := 62) (tgt := 67) dX2_cheapestBeside_62 (by decide) (fun hc => ?_) (fun hc => ?_)
      · replace h := h.1 hc
        refine V_iinc (pc := 67) 4 (v := 1) dX2_cheapestBeside_67 rfl (by decide) (by decide) ?_
        refine V_goto (pc := 70) (tgt := 4) dX2_cheapestBeside_70 (by decide) ?_
        exact V_loc [2, 3, 4, 0] rfl (HK4 x1 x2 (x3 + (1 : Int32)) σ  h)
      · replace h := h.2 hc
        refine V_loc [1, 2, 4] rfl (vX2_cheapestBeside_65 E post   K4 HK4 x1 x3 σ  h)
def wX2_cheapestBeside_37 (post : Int32 → Sto → Prop)  (K4 : Int32 → Int32 → Int32 → Sto → Prop) (x1 : Int32) (x2 : Int32) (x3 : Int32) (σ : Sto) : Prop := wX2_cheapestBeside_38 post  K4 x1 x2 x3 ((0 : Int32)) σ
set_option maxRecDepth 100000 in
set_option maxHeartbeats 4000000 in
theorem vX2_cheapestBeside_37 (E : Ev) (post : Int32 → Sto → Prop)   (K4 : Int32 → Int32 → Int32 → Sto → Prop) (HK4 : ∀ (x1 : Int32) (x2 : Int32) (x3 : Int32) (σ : Sto), K4 x1 x2 x3 σ → V E 0 mX2_cheapestBeside (pI post) 4 [(0, .ref 4), (1, .int x1), (2, .int x2), (3, .int x3)] [] σ) (x1 : Int32) (x2 : Int32) (x3 : Int32) (σ : Sto) (h : wX2_cheapestBeside_37 post  K4 x1 x2 x3 σ) : V E 0 mX2_cheapestBeside (pI post) 37 [(0, .ref 4), (1, .int x1), (2, .int x2), (3, .int x3)] [] σ := by
  unfold wX2_cheapestBeside_37 at h
  refine V_iconst (pc := 37) (v := 0) dX2_cheapestBeside_37 (by decide) ?_
  refine V_loc [0, 1, 2, 3] rfl (vX2_cheapestBeside_38 E post   K4 HK4 x1 x2 x3 ((0 : Int32)) σ  h)
def wX2_cheapestBeside_4 (post : Int32 → Sto → Prop)  (K73 : Int32 → Sto → Prop) : Nat → Int32 → Int32 → Int32 → Sto → Prop
  | 0, _, _, _, _ => False
  | n + 1, x1, x2, x3, σ => (((σ.1 1 2) ≤ x3) → (K73 x2 σ)) ∧ ((¬ ((σ.1 1 2) ≤ x3)) → (vp_in x3 14 ∧ ((((σ.1 51 x3.toNatClampNeg) = ((-1 : Int32))) → (wX2_cheapestBeside_37 post  (wX2_cheapestBeside_4 post  K73 n) x1 x2 x3 σ)) ∧ ((¬ ((σ.1 51 x3.toNatClampNeg) = ((-1 : Int32)))) → (((¬ ((x1 >>> (x3 &&& 31)) &&& ((1 : Int32))) = 0) → (wX2_cheapestBeside_37 post  (wX2_cheapestBeside_4 post  K73 n) x1 x2 x3 σ)) ∧ ((((x1 >>> (x3 &&& 31)) &&& ((1 : Int32))) = 0) → (wX2_cheapestBeside_38 post  (wX2_cheapestBeside_4 post  K73 n) x1 x2 x3 ((1 : Int32)) σ)))))))
set_option maxRecDepth 100000 in
set_option maxHeartbeats 4000000 in
theorem vX2_cheapestBeside_4 (E : Ev) (post : Int32 → Sto → Prop)   (K73 : Int32 → Sto → Prop) (HK73 : ∀ (x2 : Int32) (σ : Sto), K73 x2 σ → V E 0 mX2_cheapestBeside (pI post) 73 [(2, .int x2)] [] σ) : ∀ (n : Nat) (x1 : Int32) (x2 : Int32) (x3 : Int32) (σ : Sto), wX2_cheapestBeside_4 post  K73 n x1 x2 x3 σ → V E 0 mX2_cheapestBeside (pI post) 4 [(0, .ref 4), (1, .int x1), (2, .int x2), (3, .int x3)] [] σ := by
  intro n
  induction n with
  | zero => intro x1 x2 x3 σ h; exact h.elim
  | succ n ih =>
    intro x1 x2 x3 σ h
    unfold wX2_cheapestBeside_4 at h
    refine V_iload_n (pc := 4) 3 dX2_cheapestBeside_4 rfl ?_
    refine V_aload_n (pc := 5) 0 dX2_cheapestBeside_5 rfl ?_
    refine V_getR (pc := 6) dX2_cheapestBeside_6 fl_X2_18 sh_4 rfl ?_
    refine V_getI (pc := 9) dX2_cheapestBeside_9 fl_X2_41 sh_1 rfl ?_
    refine V_icmp_ge (pc := 12) (tgt := 73) dX2_cheapestBeside_12 (by decide) (fun hc => ?_) (fun hc => ?_)
    · replace h := h.1 hc
      exact V_loc [2] rfl (HK73 x2 σ  h)
    · replace h := h.2 hc
      refine V_aload_n (pc := 15) 0 dX2_cheapestBeside_15 rfl ?_
      refine V_getR (pc := 16) dX2_cheapestBeside_16 fl_X2_15 sh_4 rfl ?_
      refine V_iload_n (pc := 19) 3 dX2_cheapestBeside_19 rfl ?_
      obtain ⟨i20, h⟩ := h
      refine V_iald (pc := 20) dX2_cheapestBeside_20 sh_51 i20 ?_
      refine V_iconst (pc := 21) (v := -1) dX2_cheapestBeside_21 (by decide) ?_
      refine V_icmp_eq (pc := 22) (tgt := 37) dX2_cheapestBeside_22 (by decide) (fun hc => ?_) (fun hc => ?_)
      · replace h := h.1 hc
        refine V_loc [0, 1, 2, 3] rfl (vX2_cheapestBeside_37 E post   _ ih x1 x2 x3 σ  h)
      · replace h := h.2 hc
        refine V_iload_n (pc := 25) 1 dX2_cheapestBeside_25 rfl ?_
        refine V_iload_n (pc := 26) 3 dX2_cheapestBeside_26 rfl ?_
        refine V_ishr (pc := 27) dX2_cheapestBeside_27 ?_
        refine V_iconst (pc := 28) (v := 1) dX2_cheapestBeside_28 (by decide) ?_
        refine V_iand (pc := 29) dX2_cheapestBeside_29 ?_
        refine V_if_ne (pc := 30) (tgt := 37) dX2_cheapestBeside_30 (by decide) (fun hc => ?_) (fun hc => ?_)
        · replace h := h.1 hc
          refine V_loc [0, 1, 2, 3] rfl (vX2_cheapestBeside_37 E post   _ ih x1 x2 x3 σ  h)
        · replace h := h.2 hc
          refine V_iconst (pc := 33) (v := 1) dX2_cheapestBeside_33 (by decide) ?_
          refine V_goto (pc := 34) (tgt := 38) dX2_cheapestBeside_34 (by decide) ?_
          refine V_loc [0, 1, 2, 3] rfl (vX2_cheapestBeside_38 E post   _ ih x1 x2 x3 ((1 : Int32)) σ  h)
def wX2_cheapestBeside  (x1 : Int32) (σ : Sto) (post : Int32 → Sto → Prop) : Prop := ∃ n4, wX2_cheapestBeside_4 post  (fun (x2_1 : Int32) (σ_1 : Sto) => post x2_1 σ_1) n4 x1 ((-1 : Int32)) ((0 : Int32)) σ
set_option maxRecDepth 100000 in
set_option maxHeartbeats 4000000 in
theorem vX2_cheapestBeside (E : Ev)  (x1 : Int32) (σ : Sto) (post : Int32 → Sto → Prop)  (h : wX2_cheapestBeside  x1 σ post) : V E 0 mX2_cheapestBeside (pI post) 0 [(0, .ref 4), (1, .int x1)] [] σ := by
  unfold wX2_cheapestBeside at h
  refine V_iconst (pc := 0) (v := -1) dX2_cheapestBeside_0 (by decide) ?_
  refine V_istore_n (pc := 1) dX2_cheapestBeside_1 (by decide) ?_
  refine V_iconst (pc := 2) (v := 0) dX2_cheapestBeside_2 (by decide) ?_
  refine V_istore_n (pc := 3) dX2_cheapestBeside_3 (by decide) ?_
  obtain ⟨n4, h⟩ := h
  refine V_loc [2, 3, 1, 0] rfl (vX2_cheapestBeside_4 E post   _ (fun x2_1 σ_1 h => ?_) n4 x1 ((-1 : Int32)) ((0 : Int32)) σ  h)
  · refine V_iload_n (pc := 73) 0 dX2_cheapestBeside_73 rfl ?_
    exact V_iret dX2_cheapestBeside_74 rfl h
theorem dX2_costBy_0 : decode cX2_costBy 0 = .ok (.iconst 0, 1) := by decide +kernel
theorem dX2_costBy_1 : decode cX2_costBy 1 = .ok (.istore_n 2, 1) := by decide +kernel
theorem dX2_costBy_2 : decode cX2_costBy 2 = .ok (.iload_n 2, 1) := by decide +kernel
theorem dX2_costBy_3 : decode cX2_costBy 3 = .ok (.aload_n 0, 1) := by decide +kernel
theorem dX2_costBy_4 : decode cX2_costBy 4 = .ok (.getfield 18, 3) := by decide +kernel
theorem dX2_costBy_7 : decode cX2_costBy 7 = .ok (.getfield 41, 3) := by decide +kernel
theorem dX2_costBy_10 : decode cX2_costBy 10 = .ok (.if_icmp .ge 66, 3) := by decide +kernel
theorem dX2_costBy_13 : decode cX2_costBy 13 = .ok (.aload_n 0, 1) := by decide +kernel
theorem dX2_costBy_14 : decode cX2_costBy 14 = .ok (.getfield 9, 3) := by decide +kernel
theorem dX2_costBy_17 : decode cX2_costBy 17 = .ok (.iload_n 1, 1) := by decide +kernel
theorem dX2_costBy_18 : decode cX2_costBy 18 = .ok (.iaload, 1) := by decide +kernel
theorem dX2_costBy_19 : decode cX2_costBy 19 = .ok (.iload_n 2, 1) := by decide +kernel
theorem dX2_costBy_20 : decode cX2_costBy 20 = .ok (.ishr, 1) := by decide +kernel
theorem dX2_costBy_21 : decode cX2_costBy 21 = .ok (.iconst 1, 1) := by decide +kernel
theorem dX2_costBy_22 : decode cX2_costBy 22 = .ok (.iand, 1) := by decide +kernel
theorem dX2_costBy_23 : decode cX2_costBy 23 = .ok (.iconst 1, 1) := by decide +kernel
theorem dX2_costBy_24 : decode cX2_costBy 24 = .ok (.if_icmp .ne 46, 3) := by decide +kernel
theorem dX2_costBy_27 : decode cX2_costBy 27 = .ok (.aload_n 0, 1) := by decide +kernel
theorem dX2_costBy_28 : decode cX2_costBy 28 = .ok (.getfield 15, 3) := by decide +kernel
theorem dX2_costBy_31 : decode cX2_costBy 31 = .ok (.iload_n 1, 1) := by decide +kernel
theorem dX2_costBy_32 : decode cX2_costBy 32 = .ok (.iaload, 1) := by decide +kernel
theorem dX2_costBy_33 : decode cX2_costBy 33 = .ok (.aload_n 0, 1) := by decide +kernel
theorem dX2_costBy_34 : decode cX2_costBy 34 = .ok (.getfield 18, 3) := by decide +kernel
theorem dX2_costBy_37 : decode cX2_costBy 37 = .ok (.iload_n 2, 1) := by decide +kernel
theorem dX2_costBy_38 : decode cX2_costBy 38 = .ok (.invokevirtual 35, 3) := by decide +kernel
theorem dX2_costBy_41 : decode cX2_costBy 41 = .ok (.iadd, 1) := by decide +kernel
theorem dX2_costBy_42 : decode cX2_costBy 42 = .ok (.istore_n 3, 1) := by decide +kernel
theorem dX2_costBy_43 : decode cX2_costBy 43 = .ok (.aload_n 0, 1) := by decide +kernel
theorem dX2_costBy_44 : decode cX2_costBy 44 = .ok (.getfield 15, 3) := by decide +kernel
theorem dX2_costBy_47 : decode cX2_costBy 47 = .ok (.iload_n 2, 1) := by decide +kernel
theorem dX2_costBy_48 : decode cX2_costBy 48 = .ok (.iaload, 1) := by decide +kernel
theorem dX2_costBy_49 : decode cX2_costBy 49 = .ok (.iconst (-1), 1) := by decide +kernel
theorem dX2_costBy_50 : decode cX2_costBy 50 = .ok (.if_icmp .eq 13, 3) := by decide +kernel
theorem dX2_costBy_53 : decode cX2_costBy 53 = .ok (.iload_n 3, 1) := by decide +kernel
theorem dX2_costBy_54 : decode cX2_costBy 54 = .ok (.aload_n 0, 1) := by decide +kernel
theorem dX2_costBy_55 : decode cX2_costBy 55 = .ok (.getfield 15, 3) := by decide +kernel
theorem dX2_costBy_58 : decode cX2_costBy 58 = .ok (.iload_n 2, 1) := by decide +kernel
theorem dX2_costBy_59 : decode cX2_costBy 59 = .ok (.iaload, 1) := by decide +kernel
theorem dX2_costBy_60 : decode cX2_costBy 60 = .ok (.if_icmp .ge 10, 3) := by decide +kernel
theorem dX2_costBy_63 : decode cX2_costBy 63 = .ok (.aload_n 0, 1) := by decide +kernel
theorem dX2_costBy_64 : decode cX2_costBy 64 = .ok (.getfield 15, 3) := by decide +kernel
theorem dX2_costBy_67 : decode cX2_costBy 67 = .ok (.iload_n 2, 1) := by decide +kernel
theorem dX2_costBy_68 : decode cX2_costBy 68 = .ok (.iload_n 3, 1) := by decide +kernel
theorem dX2_costBy_69 : decode cX2_costBy 69 = .ok (.iastore, 1) := by decide +kernel
theorem dX2_costBy_70 : decode cX2_costBy 70 = .ok (.iinc 2 1, 3) := by decide +kernel
theorem dX2_costBy_73 : decode cX2_costBy 73 = .ok (.goto (-71), 3) := by decide +kernel
theorem dX2_costBy_76 : decode cX2_costBy 76 = .ok (.return_, 1) := by decide +kernel
def wX2_costBy_63 (post : Sto → Prop)  (K2 : Int32 → Int32 → Sto → Prop) (x1 : Int32) (x2 : Int32) (x3 : Int32) (σ : Sto) : Prop := vp_in x2 14 ∧ (K2 x1 (x2 + (1 : Int32)) (wI σ 51 x2.toNatClampNeg x3))
set_option maxRecDepth 100000 in
set_option maxHeartbeats 4000000 in
theorem vX2_costBy_63 (E : Ev) (post : Sto → Prop)   (K2 : Int32 → Int32 → Sto → Prop) (HK2 : ∀ (x1 : Int32) (x2 : Int32) (σ : Sto), K2 x1 x2 σ → V E 1 mX2_costBy (pV post) 2 [(0, .ref 4), (1, .int x1), (2, .int x2)] [] σ) (x1 : Int32) (x2 : Int32) (x3 : Int32) (σ : Sto) (h : wX2_costBy_63 post  K2 x1 x2 x3 σ) : V E 1 mX2_costBy (pV post) 63 [(0, .ref 4), (1, .int x1), (2, .int x2), (3, .int x3)] [] σ := by
  unfold wX2_costBy_63 at h
  refine V_aload_n (pc := 63) 0 dX2_costBy_63 rfl ?_
  refine V_getR (pc := 64) dX2_costBy_64 fl_X2_15 sh_4 rfl ?_
  refine V_iload_n (pc := 67) 2 dX2_costBy_67 rfl ?_
  refine V_iload_n (pc := 68) 3 dX2_costBy_68 rfl ?_
  obtain ⟨i69, h⟩ := h
  refine V_iast (pc := 69) dX2_costBy_69 sh_51 i69 ?_
  refine V_iinc (pc := 70) 2 (v := 1) dX2_costBy_70 rfl (by decide) (by decide) ?_
  refine V_goto (pc := 73) (tgt := 2) dX2_costBy_73 (by decide) ?_
  exact V_loc [1, 2, 0] rfl (HK2 x1 (x2 + (1 : Int32)) (wI σ 51 x2.toNatClampNeg x3)  h)
def wX2_costBy_2 (post : Sto → Prop)  (K76 : Sto → Prop) : Nat → Int32 → Int32 → Sto → Prop
  | 0, _, _, _ => False
  | n + 1, x1, x2, σ => (((σ.1 1 2) ≤ x2) → (K76  σ)) ∧ ((¬ ((σ.1 1 2) ≤ x2)) → (vp_in x1 14 ∧ (((¬ (((σ.1 50 x1.toNatClampNeg) >>> (x2 &&& 31)) &&& ((1 : Int32))) = ((1 : Int32))) → (wX2_costBy_2 post  K76 n x1 (x2 + (1 : Int32)) σ)) ∧ (((((σ.1 50 x1.toNatClampNeg) >>> (x2 &&& 31)) &&& ((1 : Int32))) = ((1 : Int32))) → (vp_in x1 14 ∧ (wX1_squaredDoubt  x2 σ (fun (r38 : Int32) (s38 : Sto) => vp_in x2 14 ∧ ((((s38.1 51 x2.toNatClampNeg) = ((-1 : Int32))) → (wX2_costBy_63 post  (wX2_costBy_2 post  K76 n) x1 x2 ((σ.1 51 x1.toNatClampNeg) + r38) s38)) ∧ ((¬ ((s38.1 51 x2.toNatClampNeg) = ((-1 : Int32)))) → (vp_in x2 14 ∧ ((((s38.1 51 x2.toNatClampNeg) ≤ ((σ.1 51 x1.toNatClampNeg) + r38)) → (wX2_costBy_2 post  K76 n x1 (x2 + (1 : Int32)) s38)) ∧ ((¬ ((s38.1 51 x2.toNatClampNeg) ≤ ((σ.1 51 x1.toNatClampNeg) + r38))) → (wX2_costBy_63 post  (wX2_costBy_2 post  K76 n) x1 x2 ((σ.1 51 x1.toNatClampNeg) + r38) s38)))))))))))))
set_option maxRecDepth 100000 in
set_option maxHeartbeats 4000000 in
theorem vX2_costBy_2 (E : Ev) (post : Sto → Prop)   (K76 : Sto → Prop) (HK76 : ∀  (σ : Sto), K76  σ → V E 1 mX2_costBy (pV post) 76 [] [] σ) : ∀ (n : Nat) (x1 : Int32) (x2 : Int32) (σ : Sto), wX2_costBy_2 post  K76 n x1 x2 σ → V E 1 mX2_costBy (pV post) 2 [(0, .ref 4), (1, .int x1), (2, .int x2)] [] σ := by
  intro n
  induction n with
  | zero => intro x1 x2 σ h; exact h.elim
  | succ n ih =>
    intro x1 x2 σ h
    unfold wX2_costBy_2 at h
    refine V_iload_n (pc := 2) 2 dX2_costBy_2 rfl ?_
    refine V_aload_n (pc := 3) 0 dX2_costBy_3 rfl ?_
    refine V_getR (pc := 4) dX2_costBy_4 fl_X2_18 sh_4 rfl ?_
    refine V_getI (pc := 7) dX2_costBy_7 fl_X2_41 sh_1 rfl ?_
    refine V_icmp_ge (pc := 10) (tgt := 76) dX2_costBy_10 (by decide) (fun hc => ?_) (fun hc => ?_)
    · replace h := h.1 hc
      exact V_loc [] rfl (HK76  σ  h)
    · replace h := h.2 hc
      refine V_aload_n (pc := 13) 0 dX2_costBy_13 rfl ?_
      refine V_getR (pc := 14) dX2_costBy_14 fl_X2_9 sh_4 rfl ?_
      refine V_iload_n (pc := 17) 1 dX2_costBy_17 rfl ?_
      obtain ⟨i18, h⟩ := h
      refine V_iald (pc := 18) dX2_costBy_18 sh_50 i18 ?_
      refine V_iload_n (pc := 19) 2 dX2_costBy_19 rfl ?_
      refine V_ishr (pc := 20) dX2_costBy_20 ?_
      refine V_iconst (pc := 21) (v := 1) dX2_costBy_21 (by decide) ?_
      refine V_iand (pc := 22) dX2_costBy_22 ?_
      refine V_iconst (pc := 23) (v := 1) dX2_costBy_23 (by decide) ?_
      refine V_icmp_ne (pc := 24) (tgt := 70) dX2_costBy_24 (by decide) (fun hc => ?_) (fun hc => ?_)
      · replace h := h.1 hc
        refine V_iinc (pc := 70) 2 (v := 1) dX2_costBy_70 rfl (by decide) (by decide) ?_
        refine V_goto (pc := 73) (tgt := 2) dX2_costBy_73 (by decide) ?_
        exact V_loc [1, 2, 0] rfl (ih x1 (x2 + (1 : Int32)) σ  h)
      · replace h := h.2 hc
        refine V_aload_n (pc := 27) 0 dX2_costBy_27 rfl ?_
        refine V_getR (pc := 28) dX2_costBy_28 fl_X2_15 sh_4 rfl ?_
        refine V_iload_n (pc := 31) 1 dX2_costBy_31 rfl ?_
        obtain ⟨i32, h⟩ := h
        refine V_iald (pc := 32) dX2_costBy_32 sh_51 i32 ?_
        refine V_aload_n (pc := 33) 0 dX2_costBy_33 rfl ?_
        refine V_getR (pc := 34) dX2_costBy_34 fl_X2_18 sh_4 rfl ?_
        refine V_iload_n (pc := 37) 2 dX2_costBy_37 rfl ?_
        refine V_callV (pc := 38) (M' := mX1_squaredDoubt) dX2_costBy_38 ml_X2_35 kv_X1_squaredDoubt ko_X1_squaredDoubt sh_1 (by decide) (by decide) rfl rfl (Nat.le_of_ble_eq_true rfl) (Nat.le_of_ble_eq_true rfl) (vX1_squaredDoubt E  x2 σ _  h) (kI (fun r38 s38 h => ?_))
        refine V_iadd (pc := 41) dX2_costBy_41 ?_
        refine V_istore_n (pc := 42) dX2_costBy_42 (by decide) ?_
        refine V_aload_n (pc := 43) 1 dX2_costBy_43 rfl ?_
        refine V_getR (pc := 44) dX2_costBy_44 fl_X2_15 sh_4 rfl ?_
        refine V_iload_n (pc := 47) 3 dX2_costBy_47 rfl ?_
        obtain ⟨i48, h⟩ := h
        refine V_iald (pc := 48) dX2_costBy_48 sh_51 i48 ?_
        refine V_iconst (pc := 49) (v := -1) dX2_costBy_49 (by decide) ?_
        refine V_icmp_eq (pc := 50) (tgt := 63) dX2_costBy_50 (by decide) (fun hc => ?_) (fun hc => ?_)
        · replace h := h.1 hc
          refine V_loc [1, 2, 3, 0] rfl (vX2_costBy_63 E post   _ ih x1 x2 ((σ.1 51 x1.toNatClampNeg) + r38) s38  h)
        · replace h := h.2 hc
          refine V_iload_n (pc := 53) 0 dX2_costBy_53 rfl ?_
          refine V_aload_n (pc := 54) 1 dX2_costBy_54 rfl ?_
          refine V_getR (pc := 55) dX2_costBy_55 fl_X2_15 sh_4 rfl ?_
          refine V_iload_n (pc := 58) 3 dX2_costBy_58 rfl ?_
          obtain ⟨i59, h⟩ := h
          refine V_iald (pc := 59) dX2_costBy_59 sh_51 i59 ?_
          refine V_icmp_ge (pc := 60) (tgt := 70) dX2_costBy_60 (by decide) (fun hc => ?_) (fun hc => ?_)
          · replace h := h.1 hc
            refine V_iinc (pc := 70) 3 (v := 1) dX2_costBy_70 rfl (by decide) (by decide) ?_
            refine V_goto (pc := 73) (tgt := 2) dX2_costBy_73 (by decide) ?_
            exact V_loc [2, 3, 0] rfl (ih x1 (x2 + (1 : Int32)) s38  h)
          · replace h := h.2 hc
            refine V_loc [1, 2, 3, 0] rfl (vX2_costBy_63 E post   _ ih x1 x2 ((σ.1 51 x1.toNatClampNeg) + r38) s38  h)
def wX2_costBy  (x1 : Int32) (σ : Sto) (post : Sto → Prop) : Prop := ∃ n2, wX2_costBy_2 post  (fun  (σ_1 : Sto) => post σ_1) n2 x1 ((0 : Int32)) σ
set_option maxRecDepth 100000 in
set_option maxHeartbeats 4000000 in
theorem vX2_costBy (E : Ev)  (x1 : Int32) (σ : Sto) (post : Sto → Prop)  (h : wX2_costBy  x1 σ post) : V E 1 mX2_costBy (pV post) 0 [(0, .ref 4), (1, .int x1)] [] σ := by
  unfold wX2_costBy at h
  refine V_iconst (pc := 0) (v := 0) dX2_costBy_0 (by decide) ?_
  refine V_istore_n (pc := 1) dX2_costBy_1 (by decide) ?_
  obtain ⟨n2, h⟩ := h
  refine V_loc [1, 2, 0] rfl (vX2_costBy_2 E post   _ (fun σ_1 h => ?_) n2 x1 ((0 : Int32)) σ  h)
  · exact V_vret dX2_costBy_76 rfl h
theorem dX2_reckonTo_0 : decode cX2_reckonTo 0 = .ok (.aload_n 0, 1) := by decide +kernel
theorem dX2_reckonTo_1 : decode cX2_reckonTo 1 = .ok (.invokevirtual 26, 3) := by decide +kernel
theorem dX2_reckonTo_4 : decode cX2_reckonTo 4 = .ok (.aload_n 0, 1) := by decide +kernel
theorem dX2_reckonTo_5 : decode cX2_reckonTo 5 = .ok (.getfield 15, 3) := by decide +kernel
theorem dX2_reckonTo_8 : decode cX2_reckonTo 8 = .ok (.iconst (-1), 1) := by decide +kernel
theorem dX2_reckonTo_9 : decode cX2_reckonTo 9 = .ok (.invokestatic 29, 3) := by decide +kernel
theorem dX2_reckonTo_12 : decode cX2_reckonTo 12 = .ok (.aload_n 0, 1) := by decide +kernel
theorem dX2_reckonTo_13 : decode cX2_reckonTo 13 = .ok (.getfield 15, 3) := by decide +kernel
theorem dX2_reckonTo_16 : decode cX2_reckonTo 16 = .ok (.iload_n 1, 1) := by decide +kernel
theorem dX2_reckonTo_17 : decode cX2_reckonTo 17 = .ok (.aload_n 0, 1) := by decide +kernel
theorem dX2_reckonTo_18 : decode cX2_reckonTo 18 = .ok (.getfield 18, 3) := by decide +kernel
theorem dX2_reckonTo_21 : decode cX2_reckonTo 21 = .ok (.iload_n 1, 1) := by decide +kernel
theorem dX2_reckonTo_22 : decode cX2_reckonTo 22 = .ok (.invokevirtual 35, 3) := by decide +kernel
theorem dX2_reckonTo_25 : decode cX2_reckonTo 25 = .ok (.iastore, 1) := by decide +kernel
theorem dX2_reckonTo_26 : decode cX2_reckonTo 26 = .ok (.iconst 0, 1) := by decide +kernel
theorem dX2_reckonTo_27 : decode cX2_reckonTo 27 = .ok (.istore_n 2, 1) := by decide +kernel
theorem dX2_reckonTo_28 : decode cX2_reckonTo 28 = .ok (.iconst 0, 1) := by decide +kernel
theorem dX2_reckonTo_29 : decode cX2_reckonTo 29 = .ok (.istore_n 3, 1) := by decide +kernel
theorem dX2_reckonTo_30 : decode cX2_reckonTo 30 = .ok (.iload_n 3, 1) := by decide +kernel
theorem dX2_reckonTo_31 : decode cX2_reckonTo 31 = .ok (.aload_n 0, 1) := by decide +kernel
theorem dX2_reckonTo_32 : decode cX2_reckonTo 32 = .ok (.getfield 18, 3) := by decide +kernel
theorem dX2_reckonTo_35 : decode cX2_reckonTo 35 = .ok (.getfield 41, 3) := by decide +kernel
theorem dX2_reckonTo_38 : decode cX2_reckonTo 38 = .ok (.if_icmp .ge 36, 3) := by decide +kernel
theorem dX2_reckonTo_41 : decode cX2_reckonTo 41 = .ok (.aload_n 0, 1) := by decide +kernel
theorem dX2_reckonTo_42 : decode cX2_reckonTo 42 = .ok (.iload_n 2, 1) := by decide +kernel
theorem dX2_reckonTo_43 : decode cX2_reckonTo 43 = .ok (.invokevirtual 45, 3) := by decide +kernel
theorem dX2_reckonTo_46 : decode cX2_reckonTo 46 = .ok (.istore 4, 2) := by decide +kernel
theorem dX2_reckonTo_48 : decode cX2_reckonTo 48 = .ok (.iload 4, 2) := by decide +kernel
theorem dX2_reckonTo_50 : decode cX2_reckonTo 50 = .ok (.iconst (-1), 1) := by decide +kernel
theorem dX2_reckonTo_51 : decode cX2_reckonTo 51 = .ok (.if_icmp .ne 4, 3) := by decide +kernel
theorem dX2_reckonTo_54 : decode cX2_reckonTo 54 = .ok (.return_, 1) := by decide +kernel
theorem dX2_reckonTo_55 : decode cX2_reckonTo 55 = .ok (.iload_n 2, 1) := by decide +kernel
theorem dX2_reckonTo_56 : decode cX2_reckonTo 56 = .ok (.iconst 1, 1) := by decide +kernel
theorem dX2_reckonTo_57 : decode cX2_reckonTo 57 = .ok (.iload 4, 2) := by decide +kernel
theorem dX2_reckonTo_59 : decode cX2_reckonTo 59 = .ok (.ishl, 1) := by decide +kernel
theorem dX2_reckonTo_60 : decode cX2_reckonTo 60 = .ok (.ior, 1) := by decide +kernel
theorem dX2_reckonTo_61 : decode cX2_reckonTo 61 = .ok (.istore_n 2, 1) := by decide +kernel
theorem dX2_reckonTo_62 : decode cX2_reckonTo 62 = .ok (.aload_n 0, 1) := by decide +kernel
theorem dX2_reckonTo_63 : decode cX2_reckonTo 63 = .ok (.iload 4, 2) := by decide +kernel
theorem dX2_reckonTo_65 : decode cX2_reckonTo 65 = .ok (.invokevirtual 48, 3) := by decide +kernel
theorem dX2_reckonTo_68 : decode cX2_reckonTo 68 = .ok (.iinc 3 1, 3) := by decide +kernel
theorem dX2_reckonTo_71 : decode cX2_reckonTo 71 = .ok (.goto (-41), 3) := by decide +kernel
theorem dX2_reckonTo_74 : decode cX2_reckonTo 74 = .ok (.return_, 1) := by decide +kernel
def wX2_reckonTo_30 (post : Sto → Prop)  (K74 : Sto → Prop) (K54 : Sto → Prop) : Nat → Int32 → Int32 → Sto → Prop
  | 0, _, _, _ => False
  | n + 1, x2, x3, σ => (((σ.1 1 2) ≤ x3) → (K74  σ)) ∧ ((¬ ((σ.1 1 2) ≤ x3)) → (wX2_cheapestBeside  x2 σ (fun (r43 : Int32) (s43 : Sto) => ((¬ r43 = ((-1 : Int32))) → (wX2_costBy  r43 s43 (fun (s65 : Sto) => wX2_reckonTo_30 post  K74 K54 n (x2 ||| (((1 : Int32)) <<< (r43 &&& 31))) (x3 + (1 : Int32)) s65))) ∧ ((r43 = ((-1 : Int32))) → (K54  s43)))))
set_option maxRecDepth 100000 in
set_option maxHeartbeats 4000000 in
theorem vX2_reckonTo_30 (E : Ev) (post : Sto → Prop)   (K74 : Sto → Prop) (K54 : Sto → Prop) (HK74 : ∀  (σ : Sto), K74  σ → V E 3 mX2_reckonTo (pV post) 74 [] [] σ) (HK54 : ∀  (σ : Sto), K54  σ → V E 3 mX2_reckonTo (pV post) 54 [] [] σ) : ∀ (n : Nat) (x2 : Int32) (x3 : Int32) (σ : Sto), wX2_reckonTo_30 post  K74 K54 n x2 x3 σ → V E 3 mX2_reckonTo (pV post) 30 [(0, .ref 4), (2, .int x2), (3, .int x3)] [] σ := by
  intro n
  induction n with
  | zero => intro x2 x3 σ h; exact h.elim
  | succ n ih =>
    intro x2 x3 σ h
    unfold wX2_reckonTo_30 at h
    refine V_iload_n (pc := 30) 2 dX2_reckonTo_30 rfl ?_
    refine V_aload_n (pc := 31) 0 dX2_reckonTo_31 rfl ?_
    refine V_getR (pc := 32) dX2_reckonTo_32 fl_X2_18 sh_4 rfl ?_
    refine V_getI (pc := 35) dX2_reckonTo_35 fl_X2_41 sh_1 rfl ?_
    refine V_icmp_ge (pc := 38) (tgt := 74) dX2_reckonTo_38 (by decide) (fun hc => ?_) (fun hc => ?_)
    · replace h := h.1 hc
      exact V_loc [] rfl (HK74  σ  h)
    · replace h := h.2 hc
      refine V_aload_n (pc := 41) 0 dX2_reckonTo_41 rfl ?_
      refine V_iload_n (pc := 42) 1 dX2_reckonTo_42 rfl ?_
      refine V_callV (pc := 43) (M' := mX2_cheapestBeside) dX2_reckonTo_43 ml_X2_45 kv_X2_cheapestBeside ko_X2_cheapestBeside sh_4 (by decide) (by decide) rfl rfl (Nat.le_of_ble_eq_true rfl) (Nat.le_of_ble_eq_true rfl) (vX2_cheapestBeside E  x2 σ _  h) (kI (fun r43 s43 h => ?_))
      refine V_istore (pc := 46) dX2_reckonTo_46 (by decide) ?_
      refine V_iload (pc := 48) 0 dX2_reckonTo_48 rfl ?_
      refine V_iconst (pc := 50) (v := -1) dX2_reckonTo_50 (by decide) ?_
      refine V_icmp_ne (pc := 51) (tgt := 55) dX2_reckonTo_51 (by decide) (fun hc => ?_) (fun hc => ?_)
      · replace h := h.1 hc
        refine V_iload_n (pc := 55) 2 dX2_reckonTo_55 rfl ?_
        refine V_iconst (pc := 56) (v := 1) dX2_reckonTo_56 (by decide) ?_
        refine V_iload (pc := 57) 0 dX2_reckonTo_57 rfl ?_
        refine V_ishl (pc := 59) dX2_reckonTo_59 ?_
        refine V_ior (pc := 60) dX2_reckonTo_60 ?_
        refine V_istore_n (pc := 61) dX2_reckonTo_61 (by decide) ?_
        refine V_aload_n (pc := 62) 2 dX2_reckonTo_62 rfl ?_
        refine V_iload (pc := 63) 1 dX2_reckonTo_63 rfl ?_
        refine V_callV (pc := 65) (M' := mX2_costBy) dX2_reckonTo_65 ml_X2_48 kv_X2_costBy ko_X2_costBy sh_4 (by decide) (by decide) rfl rfl (Nat.le_of_ble_eq_true rfl) (Nat.le_of_ble_eq_true rfl) (vX2_costBy E  r43 s43 _  h) (kV (fun s65 h => ?_))
        refine V_iinc (pc := 68) 3 (v := 1) dX2_reckonTo_68 rfl (by decide) (by decide) ?_
        refine V_goto (pc := 71) (tgt := 30) dX2_reckonTo_71 (by decide) ?_
        exact V_loc [3, 1, 0] rfl (ih (x2 ||| (((1 : Int32)) <<< (r43 &&& 31))) (x3 + (1 : Int32)) s65  h)
      · replace h := h.2 hc
        exact V_loc [] rfl (HK54  s43  h)
def wX2_reckonTo  (x1 : Int32) (σ : Sto) (post : Sto → Prop) : Prop := wX2_findNeighbours   σ (fun (s1 : Sto) => wJ7_fill_53178 51 14 ((-1 : Int32)) s1 (fun (s9 : Sto) => wX1_squaredDoubt  x1 s9 (fun (r22 : Int32) (s22 : Sto) => vp_in x1 14 ∧ (∃ n30, wX2_reckonTo_30 post  (fun  (σ_1 : Sto) => post σ_1) (fun  (σ_2 : Sto) => post σ_2) n30 ((0 : Int32)) ((0 : Int32)) (wI s22 51 x1.toNatClampNeg r22)))))
set_option maxRecDepth 100000 in
set_option maxHeartbeats 4000000 in
theorem vX2_reckonTo (E : Ev)  (x1 : Int32) (σ : Sto) (post : Sto → Prop)  (h : wX2_reckonTo  x1 σ post) : V E 3 mX2_reckonTo (pV post) 0 [(0, .ref 4), (1, .int x1)] [] σ := by
  unfold wX2_reckonTo at h
  refine V_aload_n (pc := 0) 0 dX2_reckonTo_0 rfl ?_
  refine V_callV (pc := 1) (M' := mX2_findNeighbours) dX2_reckonTo_1 ml_X2_26 kv_X2_findNeighbours ko_X2_findNeighbours sh_4 (by decide) (by decide) rfl rfl (Nat.le_of_ble_eq_true rfl) (Nat.le_of_ble_eq_true rfl) (vX2_findNeighbours E   σ _  h) (kV (fun s1 h => ?_))
  refine V_aload_n (pc := 4) 0 dX2_reckonTo_4 rfl ?_
  refine V_getR (pc := 5) dX2_reckonTo_5 fl_X2_15 sh_4 rfl ?_
  refine V_iconst (pc := 8) (v := -1) dX2_reckonTo_8 (by decide) ?_
  refine V_callS (pc := 9) (M' := mJ7_fill_53178) dX2_reckonTo_9 ml_X2_29 ks_J7_fill_53178 ko_J7_fill_53178 (by decide) rfl (Nat.le_of_ble_eq_true rfl) (Nat.le_of_ble_eq_true rfl) (vJ7_fill_53178 E 51 14 ((-1 : Int32)) s1 _ sh_51 h) (kV (fun s9 h => ?_))
  refine V_aload_n (pc := 12) 0 dX2_reckonTo_12 rfl ?_
  refine V_getR (pc := 13) dX2_reckonTo_13 fl_X2_15 sh_4 rfl ?_
  refine V_iload_n (pc := 16) 1 dX2_reckonTo_16 rfl ?_
  refine V_aload_n (pc := 17) 0 dX2_reckonTo_17 rfl ?_
  refine V_getR (pc := 18) dX2_reckonTo_18 fl_X2_18 sh_4 rfl ?_
  refine V_iload_n (pc := 21) 1 dX2_reckonTo_21 rfl ?_
  refine V_callV (pc := 22) (M' := mX1_squaredDoubt) dX2_reckonTo_22 ml_X2_35 kv_X1_squaredDoubt ko_X1_squaredDoubt sh_1 (by decide) (by decide) rfl rfl (Nat.le_of_ble_eq_true rfl) (Nat.le_of_ble_eq_true rfl) (vX1_squaredDoubt E  x1 s9 _  h) (kI (fun r22 s22 h => ?_))
  obtain ⟨i25, h⟩ := h
  refine V_iast (pc := 25) dX2_reckonTo_25 sh_51 i25 ?_
  refine V_iconst (pc := 26) (v := 0) dX2_reckonTo_26 (by decide) ?_
  refine V_istore_n (pc := 27) dX2_reckonTo_27 (by decide) ?_
  refine V_iconst (pc := 28) (v := 0) dX2_reckonTo_28 (by decide) ?_
  refine V_istore_n (pc := 29) dX2_reckonTo_29 (by decide) ?_
  obtain ⟨n30, h⟩ := h
  refine V_loc [2, 1, 0] rfl (vX2_reckonTo_30 E post   _ _ (fun σ_1 h => ?_) (fun σ_2 h => ?_) n30 ((0 : Int32)) ((0 : Int32)) (wI s22 51 x1.toNatClampNeg r22)  h)
  · exact V_vret dX2_reckonTo_74 rfl h
  · exact V_vret dX2_reckonTo_54 rfl h
theorem dX2_nextFrom_0 : decode cX2_nextFrom 0 = .ok (.iconst 0, 1) := by decide +kernel
theorem dX2_nextFrom_1 : decode cX2_nextFrom 1 = .ok (.istore_n 2, 1) := by decide +kernel
theorem dX2_nextFrom_2 : decode cX2_nextFrom 2 = .ok (.iload_n 2, 1) := by decide +kernel
theorem dX2_nextFrom_3 : decode cX2_nextFrom 3 = .ok (.aload_n 0, 1) := by decide +kernel
theorem dX2_nextFrom_4 : decode cX2_nextFrom 4 = .ok (.getfield 18, 3) := by decide +kernel
theorem dX2_nextFrom_7 : decode cX2_nextFrom 7 = .ok (.getfield 41, 3) := by decide +kernel
theorem dX2_nextFrom_10 : decode cX2_nextFrom 10 = .ok (.if_icmp .ge 69, 3) := by decide +kernel
theorem dX2_nextFrom_13 : decode cX2_nextFrom 13 = .ok (.aload_n 0, 1) := by decide +kernel
theorem dX2_nextFrom_14 : decode cX2_nextFrom 14 = .ok (.getfield 9, 3) := by decide +kernel
theorem dX2_nextFrom_17 : decode cX2_nextFrom 17 = .ok (.iload_n 1, 1) := by decide +kernel
theorem dX2_nextFrom_18 : decode cX2_nextFrom 18 = .ok (.iaload, 1) := by decide +kernel
theorem dX2_nextFrom_19 : decode cX2_nextFrom 19 = .ok (.iload_n 2, 1) := by decide +kernel
theorem dX2_nextFrom_20 : decode cX2_nextFrom 20 = .ok (.ishr, 1) := by decide +kernel
theorem dX2_nextFrom_21 : decode cX2_nextFrom 21 = .ok (.iconst 1, 1) := by decide +kernel
theorem dX2_nextFrom_22 : decode cX2_nextFrom 22 = .ok (.iand, 1) := by decide +kernel
theorem dX2_nextFrom_23 : decode cX2_nextFrom 23 = .ok (.iconst 1, 1) := by decide +kernel
theorem dX2_nextFrom_24 : decode cX2_nextFrom 24 = .ok (.if_icmp .ne 17, 3) := by decide +kernel
theorem dX2_nextFrom_27 : decode cX2_nextFrom 27 = .ok (.aload_n 0, 1) := by decide +kernel
theorem dX2_nextFrom_28 : decode cX2_nextFrom 28 = .ok (.getfield 15, 3) := by decide +kernel
theorem dX2_nextFrom_31 : decode cX2_nextFrom 31 = .ok (.iload_n 2, 1) := by decide +kernel
theorem dX2_nextFrom_32 : decode cX2_nextFrom 32 = .ok (.iaload, 1) := by decide +kernel
theorem dX2_nextFrom_33 : decode cX2_nextFrom 33 = .ok (.iconst (-1), 1) := by decide +kernel
theorem dX2_nextFrom_34 : decode cX2_nextFrom 34 = .ok (.if_icmp .eq 7, 3) := by decide +kernel
theorem dX2_nextFrom_37 : decode cX2_nextFrom 37 = .ok (.iconst 1, 1) := by decide +kernel
theorem dX2_nextFrom_38 : decode cX2_nextFrom 38 = .ok (.goto 4, 3) := by decide +kernel
theorem dX2_nextFrom_41 : decode cX2_nextFrom 41 = .ok (.iconst 0, 1) := by decide +kernel
theorem dX2_nextFrom_42 : decode cX2_nextFrom 42 = .ok (.istore_n 3, 1) := by decide +kernel
theorem dX2_nextFrom_43 : decode cX2_nextFrom 43 = .ok (.iload_n 3, 1) := by decide +kernel
theorem dX2_nextFrom_44 : decode cX2_nextFrom 44 = .ok (.ifCond .eq 29, 3) := by decide +kernel
theorem dX2_nextFrom_47 : decode cX2_nextFrom 47 = .ok (.aload_n 0, 1) := by decide +kernel
theorem dX2_nextFrom_48 : decode cX2_nextFrom 48 = .ok (.getfield 15, 3) := by decide +kernel
theorem dX2_nextFrom_51 : decode cX2_nextFrom 51 = .ok (.iload_n 2, 1) := by decide +kernel
theorem dX2_nextFrom_52 : decode cX2_nextFrom 52 = .ok (.iaload, 1) := by decide +kernel
theorem dX2_nextFrom_53 : decode cX2_nextFrom 53 = .ok (.aload_n 0, 1) := by decide +kernel
theorem dX2_nextFrom_54 : decode cX2_nextFrom 54 = .ok (.getfield 18, 3) := by decide +kernel
theorem dX2_nextFrom_57 : decode cX2_nextFrom 57 = .ok (.iload_n 1, 1) := by decide +kernel
theorem dX2_nextFrom_58 : decode cX2_nextFrom 58 = .ok (.invokevirtual 35, 3) := by decide +kernel
theorem dX2_nextFrom_61 : decode cX2_nextFrom 61 = .ok (.iadd, 1) := by decide +kernel
theorem dX2_nextFrom_62 : decode cX2_nextFrom 62 = .ok (.aload_n 0, 1) := by decide +kernel
theorem dX2_nextFrom_63 : decode cX2_nextFrom 63 = .ok (.getfield 15, 3) := by decide +kernel
theorem dX2_nextFrom_66 : decode cX2_nextFrom 66 = .ok (.iload_n 1, 1) := by decide +kernel
theorem dX2_nextFrom_67 : decode cX2_nextFrom 67 = .ok (.iaload, 1) := by decide +kernel
theorem dX2_nextFrom_68 : decode cX2_nextFrom 68 = .ok (.if_icmp .ne 5, 3) := by decide +kernel
theorem dX2_nextFrom_71 : decode cX2_nextFrom 71 = .ok (.iload_n 2, 1) := by decide +kernel
theorem dX2_nextFrom_72 : decode cX2_nextFrom 72 = .ok (.ireturn, 1) := by decide +kernel
theorem dX2_nextFrom_73 : decode cX2_nextFrom 73 = .ok (.iinc 2 1, 3) := by decide +kernel
theorem dX2_nextFrom_76 : decode cX2_nextFrom 76 = .ok (.goto (-74), 3) := by decide +kernel
theorem dX2_nextFrom_79 : decode cX2_nextFrom 79 = .ok (.iconst (-1), 1) := by decide +kernel
theorem dX2_nextFrom_80 : decode cX2_nextFrom 80 = .ok (.ireturn, 1) := by decide +kernel
def wX2_nextFrom_42 (post : Int32 → Sto → Prop)  (K2 : Int32 → Int32 → Sto → Prop) (K71 : Int32 → Sto → Prop) (x1 : Int32) (x2 : Int32) (y0 : Int32) (σ : Sto) : Prop := ((y0 = 0) → (K2 x1 (x2 + (1 : Int32)) σ)) ∧ ((¬ (y0 = 0)) → (vp_in x2 14 ∧ (wX1_squaredDoubt  x1 σ (fun (r58 : Int32) (s58 : Sto) => vp_in x1 14 ∧ (((¬ ((σ.1 51 x2.toNatClampNeg) + r58) = (s58.1 51 x1.toNatClampNeg)) → (K2 x1 (x2 + (1 : Int32)) s58)) ∧ ((((σ.1 51 x2.toNatClampNeg) + r58) = (s58.1 51 x1.toNatClampNeg)) → (K71 x2 s58)))))))
set_option maxRecDepth 100000 in
set_option maxHeartbeats 4000000 in
theorem vX2_nextFrom_42 (E : Ev) (post : Int32 → Sto → Prop)   (K2 : Int32 → Int32 → Sto → Prop) (K71 : Int32 → Sto → Prop) (HK2 : ∀ (x1 : Int32) (x2 : Int32) (σ : Sto), K2 x1 x2 σ → V E 1 mX2_nextFrom (pI post) 2 [(0, .ref 4), (1, .int x1), (2, .int x2)] [] σ) (HK71 : ∀ (x2 : Int32) (σ : Sto), K71 x2 σ → V E 1 mX2_nextFrom (pI post) 71 [(2, .int x2)] [] σ) (x1 : Int32) (x2 : Int32) (y0 : Int32) (σ : Sto) (h : wX2_nextFrom_42 post  K2 K71 x1 x2 y0 σ) : V E 1 mX2_nextFrom (pI post) 42 [(0, .ref 4), (1, .int x1), (2, .int x2)] [.int y0] σ := by
  unfold wX2_nextFrom_42 at h
  refine V_istore_n (pc := 42) dX2_nextFrom_42 (by decide) ?_
  refine V_iload_n (pc := 43) 0 dX2_nextFrom_43 rfl ?_
  refine V_if_eq (pc := 44) (tgt := 73) dX2_nextFrom_44 (by decide) (fun hc => ?_) (fun hc => ?_)
  · replace h := h.1 hc
    refine V_iinc (pc := 73) 3 (v := 1) dX2_nextFrom_73 rfl (by decide) (by decide) ?_
    refine V_goto (pc := 76) (tgt := 2) dX2_nextFrom_76 (by decide) ?_
    exact V_loc [2, 3, 0] rfl (HK2 x1 (x2 + (1 : Int32)) σ  h)
  · replace h := h.2 hc
    refine V_aload_n (pc := 47) 1 dX2_nextFrom_47 rfl ?_
    refine V_getR (pc := 48) dX2_nextFrom_48 fl_X2_15 sh_4 rfl ?_
    refine V_iload_n (pc := 51) 3 dX2_nextFrom_51 rfl ?_
    obtain ⟨i52, h⟩ := h
    refine V_iald (pc := 52) dX2_nextFrom_52 sh_51 i52 ?_
    refine V_aload_n (pc := 53) 1 dX2_nextFrom_53 rfl ?_
    refine V_getR (pc := 54) dX2_nextFrom_54 fl_X2_18 sh_4 rfl ?_
    refine V_iload_n (pc := 57) 2 dX2_nextFrom_57 rfl ?_
    refine V_callV (pc := 58) (M' := mX1_squaredDoubt) dX2_nextFrom_58 ml_X2_35 kv_X1_squaredDoubt ko_X1_squaredDoubt sh_1 (by decide) (by decide) rfl rfl (Nat.le_of_ble_eq_true rfl) (Nat.le_of_ble_eq_true rfl) (vX1_squaredDoubt E  x1 σ _  h) (kI (fun r58 s58 h => ?_))
    refine V_iadd (pc := 61) dX2_nextFrom_61 ?_
    refine V_aload_n (pc := 62) 1 dX2_nextFrom_62 rfl ?_
    refine V_getR (pc := 63) dX2_nextFrom_63 fl_X2_15 sh_4 rfl ?_
    refine V_iload_n (pc := 66) 2 dX2_nextFrom_66 rfl ?_
    obtain ⟨i67, h⟩ := h
    refine V_iald (pc := 67) dX2_nextFrom_67 sh_51 i67 ?_
    refine V_icmp_ne (pc := 68) (tgt := 73) dX2_nextFrom_68 (by decide) (fun hc => ?_) (fun hc => ?_)
    · replace h := h.1 hc
      refine V_iinc (pc := 73) 3 (v := 1) dX2_nextFrom_73 rfl (by decide) (by decide) ?_
      refine V_goto (pc := 76) (tgt := 2) dX2_nextFrom_76 (by decide) ?_
      exact V_loc [2, 3, 0] rfl (HK2 x1 (x2 + (1 : Int32)) s58  h)
    · replace h := h.2 hc
      exact V_loc [3] rfl (HK71 x2 s58  h)
def wX2_nextFrom_41 (post : Int32 → Sto → Prop)  (K2 : Int32 → Int32 → Sto → Prop) (K71 : Int32 → Sto → Prop) (x1 : Int32) (x2 : Int32) (σ : Sto) : Prop := wX2_nextFrom_42 post  K2 K71 x1 x2 ((0 : Int32)) σ
set_option maxRecDepth 100000 in
set_option maxHeartbeats 4000000 in
theorem vX2_nextFrom_41 (E : Ev) (post : Int32 → Sto → Prop)   (K2 : Int32 → Int32 → Sto → Prop) (K71 : Int32 → Sto → Prop) (HK2 : ∀ (x1 : Int32) (x2 : Int32) (σ : Sto), K2 x1 x2 σ → V E 1 mX2_nextFrom (pI post) 2 [(0, .ref 4), (1, .int x1), (2, .int x2)] [] σ) (HK71 : ∀ (x2 : Int32) (σ : Sto), K71 x2 σ → V E 1 mX2_nextFrom (pI post) 71 [(2, .int x2)] [] σ) (x1 : Int32) (x2 : Int32) (σ : Sto) (h : wX2_nextFrom_41 post  K2 K71 x1 x2 σ) : V E 1 mX2_nextFrom (pI post) 41 [(0, .ref 4), (1, .int x1), (2, .int x2)] [] σ := by
  unfold wX2_nextFrom_41 at h
  refine V_iconst (pc := 41) (v := 0) dX2_nextFrom_41 (by decide) ?_
  refine V_loc [0, 1, 2] rfl (vX2_nextFrom_42 E post   K2 K71 HK2 HK71 x1 x2 ((0 : Int32)) σ  h)
def wX2_nextFrom_2 (post : Int32 → Sto → Prop)  (K79 : Sto → Prop) (K71 : Int32 → Sto → Prop) : Nat → Int32 → Int32 → Sto → Prop
  | 0, _, _, _ => False
  | n + 1, x1, x2, σ => (((σ.1 1 2) ≤ x2) → (K79  σ)) ∧ ((¬ ((σ.1 1 2) ≤ x2)) → (vp_in x1 14 ∧ (((¬ (((σ.1 50 x1.toNatClampNeg) >>> (x2 &&& 31)) &&& ((1 : Int32))) = ((1 : Int32))) → (wX2_nextFrom_41 post  (wX2_nextFrom_2 post  K79 K71 n) K71 x1 x2 σ)) ∧ (((((σ.1 50 x1.toNatClampNeg) >>> (x2 &&& 31)) &&& ((1 : Int32))) = ((1 : Int32))) → (vp_in x2 14 ∧ ((((σ.1 51 x2.toNatClampNeg) = ((-1 : Int32))) → (wX2_nextFrom_41 post  (wX2_nextFrom_2 post  K79 K71 n) K71 x1 x2 σ)) ∧ ((¬ ((σ.1 51 x2.toNatClampNeg) = ((-1 : Int32)))) → (wX2_nextFrom_42 post  (wX2_nextFrom_2 post  K79 K71 n) K71 x1 x2 ((1 : Int32)) σ))))))))
set_option maxRecDepth 100000 in
set_option maxHeartbeats 4000000 in
theorem vX2_nextFrom_2 (E : Ev) (post : Int32 → Sto → Prop)   (K79 : Sto → Prop) (K71 : Int32 → Sto → Prop) (HK79 : ∀  (σ : Sto), K79  σ → V E 1 mX2_nextFrom (pI post) 79 [] [] σ) (HK71 : ∀ (x2 : Int32) (σ : Sto), K71 x2 σ → V E 1 mX2_nextFrom (pI post) 71 [(2, .int x2)] [] σ) : ∀ (n : Nat) (x1 : Int32) (x2 : Int32) (σ : Sto), wX2_nextFrom_2 post  K79 K71 n x1 x2 σ → V E 1 mX2_nextFrom (pI post) 2 [(0, .ref 4), (1, .int x1), (2, .int x2)] [] σ := by
  intro n
  induction n with
  | zero => intro x1 x2 σ h; exact h.elim
  | succ n ih =>
    intro x1 x2 σ h
    unfold wX2_nextFrom_2 at h
    refine V_iload_n (pc := 2) 2 dX2_nextFrom_2 rfl ?_
    refine V_aload_n (pc := 3) 0 dX2_nextFrom_3 rfl ?_
    refine V_getR (pc := 4) dX2_nextFrom_4 fl_X2_18 sh_4 rfl ?_
    refine V_getI (pc := 7) dX2_nextFrom_7 fl_X2_41 sh_1 rfl ?_
    refine V_icmp_ge (pc := 10) (tgt := 79) dX2_nextFrom_10 (by decide) (fun hc => ?_) (fun hc => ?_)
    · replace h := h.1 hc
      exact V_loc [] rfl (HK79  σ  h)
    · replace h := h.2 hc
      refine V_aload_n (pc := 13) 0 dX2_nextFrom_13 rfl ?_
      refine V_getR (pc := 14) dX2_nextFrom_14 fl_X2_9 sh_4 rfl ?_
      refine V_iload_n (pc := 17) 1 dX2_nextFrom_17 rfl ?_
      obtain ⟨i18, h⟩ := h
      refine V_iald (pc := 18) dX2_nextFrom_18 sh_50 i18 ?_
      refine V_iload_n (pc := 19) 2 dX2_nextFrom_19 rfl ?_
      refine V_ishr (pc := 20) dX2_nextFrom_20 ?_
      refine V_iconst (pc := 21) (v := 1) dX2_nextFrom_21 (by decide) ?_
      refine V_iand (pc := 22) dX2_nextFrom_22 ?_
      refine V_iconst (pc := 23) (v := 1) dX2_nextFrom_23 (by decide) ?_
      refine V_icmp_ne (pc := 24) (tgt := 41) dX2_nextFrom_24 (by decide) (fun hc => ?_) (fun hc => ?_)
      · replace h := h.1 hc
        refine V_loc [0, 1, 2] rfl (vX2_nextFrom_41 E post   _ K71 ih HK71 x1 x2 σ  h)
      · replace h := h.2 hc
        refine V_aload_n (pc := 27) 0 dX2_nextFrom_27 rfl ?_
        refine V_getR (pc := 28) dX2_nextFrom_28 fl_X2_15 sh_4 rfl ?_
        refine V_iload_n (pc := 31) 2 dX2_nextFrom_31 rfl ?_
        obtain ⟨i32, h⟩ := h
        refine V_iald (pc := 32) dX2_nextFrom_32 sh_51 i32 ?_
        refine V_iconst (pc := 33) (v := -1) dX2_nextFrom_33 (by decide) ?_
        refine V_icmp_eq (pc := 34) (tgt := 41) dX2_nextFrom_34 (by decide) (fun hc => ?_) (fun hc => ?_)
        · replace h := h.1 hc
          refine V_loc [0, 1, 2] rfl (vX2_nextFrom_41 E post   _ K71 ih HK71 x1 x2 σ  h)
        · replace h := h.2 hc
          refine V_iconst (pc := 37) (v := 1) dX2_nextFrom_37 (by decide) ?_
          refine V_goto (pc := 38) (tgt := 42) dX2_nextFrom_38 (by decide) ?_
          refine V_loc [0, 1, 2] rfl (vX2_nextFrom_42 E post   _ K71 ih HK71 x1 x2 ((1 : Int32)) σ  h)
def wX2_nextFrom  (x1 : Int32) (σ : Sto) (post : Int32 → Sto → Prop) : Prop := ∃ n2, wX2_nextFrom_2 post  (fun  (σ_1 : Sto) => post ((-1 : Int32)) σ_1) (fun (x2_2 : Int32) (σ_2 : Sto) => post x2_2 σ_2) n2 x1 ((0 : Int32)) σ
set_option maxRecDepth 100000 in
set_option maxHeartbeats 4000000 in
theorem vX2_nextFrom (E : Ev)  (x1 : Int32) (σ : Sto) (post : Int32 → Sto → Prop)  (h : wX2_nextFrom  x1 σ post) : V E 1 mX2_nextFrom (pI post) 0 [(0, .ref 4), (1, .int x1)] [] σ := by
  unfold wX2_nextFrom at h
  refine V_iconst (pc := 0) (v := 0) dX2_nextFrom_0 (by decide) ?_
  refine V_istore_n (pc := 1) dX2_nextFrom_1 (by decide) ?_
  obtain ⟨n2, h⟩ := h
  refine V_loc [1, 2, 0] rfl (vX2_nextFrom_2 E post   _ _ (fun σ_1 h => ?_) (fun x2_2 σ_2 h => ?_) n2 x1 ((0 : Int32)) σ  h)
  · refine V_iconst (pc := 79) (v := -1) dX2_nextFrom_79 (by decide) ?_
    exact V_iret dX2_nextFrom_80 rfl h
  · refine V_iload_n (pc := 71) 0 dX2_nextFrom_71 rfl ?_
    exact V_iret dX2_nextFrom_72 rfl h

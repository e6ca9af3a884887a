theorem dX1_squaredDoubt_0 : decode cX1_squaredDoubt 0 = .ok (.aload_n 0, 1) := by decide +kernel
theorem dX1_squaredDoubt_1 : decode cX1_squaredDoubt 1 = .ok (.getfield 19, 3) := by decide +kernel
theorem dX1_squaredDoubt_4 : decode cX1_squaredDoubt 4 = .ok (.iload_n 1, 1) := by decide +kernel
theorem dX1_squaredDoubt_5 : decode cX1_squaredDoubt 5 = .ok (.iaload, 1) := by decide +kernel
theorem dX1_squaredDoubt_6 : decode cX1_squaredDoubt 6 = .ok (.aload_n 0, 1) := by decide +kernel
theorem dX1_squaredDoubt_7 : decode cX1_squaredDoubt 7 = .ok (.getfield 19, 3) := by decide +kernel
theorem dX1_squaredDoubt_10 : decode cX1_squaredDoubt 10 = .ok (.iload_n 1, 1) := by decide +kernel
theorem dX1_squaredDoubt_11 : decode cX1_squaredDoubt 11 = .ok (.iaload, 1) := by decide +kernel
theorem dX1_squaredDoubt_12 : decode cX1_squaredDoubt 12 = .ok (.imul, 1) := by decide +kernel
theorem dX1_squaredDoubt_13 : decode cX1_squaredDoubt 13 = .ok (.ireturn, 1) := by decide +kernel
def wX1_squaredDoubt  (x1 : Int32) (σ : Sto) (post : Int32 → Sto → Prop) : Prop := vp_in x1 14 ∧ (vp_in x1 14 ∧ (post ((σ.1 14 x1.toNatClampNeg) * (σ.1 14 x1.toNatClampNeg)) σ))
set_option maxRecDepth 100000 in
set_option maxHeartbeats 4000000 in
theorem vX1_squaredDoubt (E : Ev)  (x1 : Int32) (σ : Sto) (post : Int32 → Sto → Prop)  (h : wX1_squaredDoubt  x1 σ post) : V E 0 mX1_squaredDoubt (pI post) 0 [(0, .ref 1), (1, .int x1)] [] σ := by
  unfold wX1_squaredDoubt at h
  refine V_aload_n (pc := 0) 0 dX1_squaredDoubt_0 rfl ?_
  refine V_getR (pc := 1) dX1_squaredDoubt_1 fl_X1_19 sh_1 rfl ?_
  refine V_iload_n (pc := 4) 1 dX1_squaredDoubt_4 rfl ?_
  obtain ⟨i5, h⟩ := h
  refine V_iald (pc := 5) dX1_squaredDoubt_5 sh_14 i5 ?_
  refine V_aload_n (pc := 6) 0 dX1_squaredDoubt_6 rfl ?_
  refine V_getR (pc := 7) dX1_squaredDoubt_7 fl_X1_19 sh_1 rfl ?_
  refine V_iload_n (pc := 10) 1 dX1_squaredDoubt_10 rfl ?_
  obtain ⟨i11, h⟩ := h
  refine V_iald (pc := 11) dX1_squaredDoubt_11 sh_14 i11 ?_
  refine V_imul (pc := 12) dX1_squaredDoubt_12 ?_
  exact V_iret dX1_squaredDoubt_13 rfl h
theorem dX1_addHouse_0 : decode cX1_addHouse 0 = .ok (.aload_n 0, 1) := by decide +kernel
theorem dX1_addHouse_1 : decode cX1_addHouse 1 = .ok (.getfield 15, 3) := by decide +kernel
theorem dX1_addHouse_4 : decode cX1_addHouse 4 = .ok (.aload_n 0, 1) := by decide +kernel
theorem dX1_addHouse_5 : decode cX1_addHouse 5 = .ok (.getfield 40, 3) := by decide +kernel
theorem dX1_addHouse_8 : decode cX1_addHouse 8 = .ok (.iload_n 1, 1) := by decide +kernel
theorem dX1_addHouse_9 : decode cX1_addHouse 9 = .ok (.iastore, 1) := by decide +kernel
theorem dX1_addHouse_10 : decode cX1_addHouse 10 = .ok (.aload_n 0, 1) := by decide +kernel
theorem dX1_addHouse_11 : decode cX1_addHouse 11 = .ok (.getfield 19, 3) := by decide +kernel
theorem dX1_addHouse_14 : decode cX1_addHouse 14 = .ok (.aload_n 0, 1) := by decide +kernel
theorem dX1_addHouse_15 : decode cX1_addHouse 15 = .ok (.getfield 40, 3) := by decide +kernel
theorem dX1_addHouse_18 : decode cX1_addHouse 18 = .ok (.bipush 10, 2) := by decide +kernel
theorem dX1_addHouse_20 : decode cX1_addHouse 20 = .ok (.iastore, 1) := by decide +kernel
theorem dX1_addHouse_21 : decode cX1_addHouse 21 = .ok (.aload_n 0, 1) := by decide +kernel
theorem dX1_addHouse_22 : decode cX1_addHouse 22 = .ok (.dup, 1) := by decide +kernel
theorem dX1_addHouse_23 : decode cX1_addHouse 23 = .ok (.getfield 40, 3) := by decide +kernel
theorem dX1_addHouse_26 : decode cX1_addHouse 26 = .ok (.iconst 1, 1) := by decide +kernel
theorem dX1_addHouse_27 : decode cX1_addHouse 27 = .ok (.iadd, 1) := by decide +kernel
theorem dX1_addHouse_28 : decode cX1_addHouse 28 = .ok (.putfield 40, 3) := by decide +kernel
theorem dX1_addHouse_31 : decode cX1_addHouse 31 = .ok (.aload_n 0, 1) := by decide +kernel
theorem dX1_addHouse_32 : decode cX1_addHouse 32 = .ok (.getfield 40, 3) := by decide +kernel
theorem dX1_addHouse_35 : decode cX1_addHouse 35 = .ok (.iconst 1, 1) := by decide +kernel
theorem dX1_addHouse_36 : decode cX1_addHouse 36 = .ok (.isub, 1) := by decide +kernel
theorem dX1_addHouse_37 : decode cX1_addHouse 37 = .ok (.ireturn, 1) := by decide +kernel
def wX1_addHouse  (x1 : Int32) (σ : Sto) (post : Int32 → Sto → Prop) : Prop := vp_in (σ.1 1 2) 14 ∧ (vp_in (σ.1 1 2) 14 ∧ (post (((σ.1 1 2) + ((1 : Int32))) - ((1 : Int32))) (wI (wI (wI σ 13 (σ.1 1 2).toNatClampNeg x1) 14 (σ.1 1 2).toNatClampNeg ((10 : Int32))) 1 2 ((σ.1 1 2) + ((1 : Int32))))))
set_option maxRecDepth 100000 in
set_option maxHeartbeats 4000000 in
theorem vX1_addHouse (E : Ev)  (x1 : Int32) (σ : Sto) (post : Int32 → Sto → Prop)  (h : wX1_addHouse  x1 σ post) : V E 0 mX1_addHouse (pI post) 0 [(0, .ref 1), (1, .int x1)] [] σ := by
  unfold wX1_addHouse at h
  refine V_aload_n (pc := 0) 0 dX1_addHouse_0 rfl ?_
  refine V_getR (pc := 1) dX1_addHouse_1 fl_X1_15 sh_1 rfl ?_
  refine V_aload_n (pc := 4) 0 dX1_addHouse_4 rfl ?_
  refine V_getI (pc := 5) dX1_addHouse_5 fl_X1_40 sh_1 rfl ?_
  refine V_iload_n (pc := 8) 1 dX1_addHouse_8 rfl ?_
  obtain ⟨i9, h⟩ := h
  refine V_iast (pc := 9) dX1_addHouse_9 sh_13 i9 ?_
  refine V_aload_n (pc := 10) 0 dX1_addHouse_10 rfl ?_
  refine V_getR (pc := 11) dX1_addHouse_11 fl_X1_19 sh_1 rfl ?_
  refine V_aload_n (pc := 14) 0 dX1_addHouse_14 rfl ?_
  refine V_getI (pc := 15) dX1_addHouse_15 fl_X1_40 sh_1 rfl ?_
  refine V_bipush (pc := 18) (v := 10) dX1_addHouse_18 (by decide) ?_
  obtain ⟨i20, h⟩ := h
  refine V_iast (pc := 20) dX1_addHouse_20 sh_14 i20 ?_
  refine V_aload_n (pc := 21) 0 dX1_addHouse_21 rfl ?_
  refine V_dup (pc := 22) dX1_addHouse_22 rfl ?_
  refine V_getI (pc := 23) dX1_addHouse_23 fl_X1_40 sh_1 rfl ?_
  refine V_iconst (pc := 26) (v := 1) dX1_addHouse_26 (by decide) ?_
  refine V_iadd (pc := 27) dX1_addHouse_27 ?_
  refine V_putI (pc := 28) dX1_addHouse_28 fl_X1_40 po_X1_2 sh_1 rfl rfl rfl ?_
  refine V_aload_n (pc := 31) 0 dX1_addHouse_31 rfl ?_
  refine V_getI (pc := 32) dX1_addHouse_32 fl_X1_40 sh_1 rfl ?_
  refine V_iconst (pc := 35) (v := 1) dX1_addHouse_35 (by decide) ?_
  refine V_isub (pc := 36) dX1_addHouse_36 ?_
  exact V_iret dX1_addHouse_37 rfl h
theorem dX1_changeDoubt_0 : decode cX1_changeDoubt 0 = .ok (.aload_n 0, 1) := by decide +kernel
theorem dX1_changeDoubt_1 : decode cX1_changeDoubt 1 = .ok (.getfield 19, 3) := by decide +kernel
theorem dX1_changeDoubt_4 : decode cX1_changeDoubt 4 = .ok (.iload_n 1, 1) := by decide +kernel
theorem dX1_changeDoubt_5 : decode cX1_changeDoubt 5 = .ok (.iaload, 1) := by decide +kernel
theorem dX1_changeDoubt_6 : decode cX1_changeDoubt 6 = .ok (.istore_n 3, 1) := by decide +kernel
theorem dX1_changeDoubt_7 : decode cX1_changeDoubt 7 = .ok (.aload_n 0, 1) := by decide +kernel
theorem dX1_changeDoubt_8 : decode cX1_changeDoubt 8 = .ok (.getfield 19, 3) := by decide +kernel
theorem dX1_changeDoubt_11 : decode cX1_changeDoubt 11 = .ok (.iload_n 1, 1) := by decide +kernel
theorem dX1_changeDoubt_12 : decode cX1_changeDoubt 12 = .ok (.iload_n 2, 1) := by decide +kernel
theorem dX1_changeDoubt_13 : decode cX1_changeDoubt 13 = .ok (.iastore, 1) := by decide +kernel
theorem dX1_changeDoubt_14 : decode cX1_changeDoubt 14 = .ok (.iload_n 3, 1) := by decide +kernel
theorem dX1_changeDoubt_15 : decode cX1_changeDoubt 15 = .ok (.ireturn, 1) := by decide +kernel
def wX1_changeDoubt  (x1 : Int32) (x2 : Int32) (σ : Sto) (post : Int32 → Sto → Prop) : Prop := vp_in x1 14 ∧ (vp_in x1 14 ∧ (post (σ.1 14 x1.toNatClampNeg) (wI σ 14 x1.toNatClampNeg x2)))
set_option maxRecDepth 100000 in
set_option maxHeartbeats 4000000 in
theorem vX1_changeDoubt (E : Ev)  (x1 : Int32) (x2 : Int32) (σ : Sto) (post : Int32 → Sto → Prop)  (h : wX1_changeDoubt  x1 x2 σ post) : V E 0 mX1_changeDoubt (pI post) 0 [(0, .ref 1), (1, .int x1), (2, .int x2)] [] σ := by
  unfold wX1_changeDoubt at h
  refine V_aload_n (pc := 0) 0 dX1_changeDoubt_0 rfl ?_
  refine V_getR (pc := 1) dX1_changeDoubt_1 fl_X1_19 sh_1 rfl ?_
  refine V_iload_n (pc := 4) 1 dX1_changeDoubt_4 rfl ?_
  obtain ⟨i5, h⟩ := h
  refine V_iald (pc := 5) dX1_changeDoubt_5 sh_14 i5 ?_
  refine V_istore_n (pc := 6) dX1_changeDoubt_6 (by decide) ?_
  refine V_aload_n (pc := 7) 1 dX1_changeDoubt_7 rfl ?_
  refine V_getR (pc := 8) dX1_changeDoubt_8 fl_X1_19 sh_1 rfl ?_
  refine V_iload_n (pc := 11) 2 dX1_changeDoubt_11 rfl ?_
  refine V_iload_n (pc := 12) 3 dX1_changeDoubt_12 rfl ?_
  obtain ⟨i13, h⟩ := h
  refine V_iast (pc := 13) dX1_changeDoubt_13 sh_14 i13 ?_
  refine V_iload_n (pc := 14) 0 dX1_changeDoubt_14 rfl ?_
  exact V_iret dX1_changeDoubt_15 rfl h
theorem dX1_addReading_0 : decode cX1_addReading 0 = .ok (.aload_n 0, 1) := by decide +kernel
theorem dX1_addReading_1 : decode cX1_addReading 1 = .ok (.getfield 22, 3) := by decide +kernel
theorem dX1_addReading_4 : decode cX1_addReading 4 = .ok (.aload_n 0, 1) := by decide +kernel
theorem dX1_addReading_5 : decode cX1_addReading 5 = .ok (.getfield 43, 3) := by decide +kernel
theorem dX1_addReading_8 : decode cX1_addReading 8 = .ok (.iload_n 1, 1) := by decide +kernel
theorem dX1_addReading_9 : decode cX1_addReading 9 = .ok (.iastore, 1) := by decide +kernel
theorem dX1_addReading_10 : decode cX1_addReading 10 = .ok (.aload_n 0, 1) := by decide +kernel
theorem dX1_addReading_11 : decode cX1_addReading 11 = .ok (.getfield 25, 3) := by decide +kernel
theorem dX1_addReading_14 : decode cX1_addReading 14 = .ok (.aload_n 0, 1) := by decide +kernel
theorem dX1_addReading_15 : decode cX1_addReading 15 = .ok (.getfield 43, 3) := by decide +kernel
theorem dX1_addReading_18 : decode cX1_addReading 18 = .ok (.iload_n 2, 1) := by decide +kernel
theorem dX1_addReading_19 : decode cX1_addReading 19 = .ok (.iastore, 1) := by decide +kernel
theorem dX1_addReading_20 : decode cX1_addReading 20 = .ok (.aload_n 0, 1) := by decide +kernel
theorem dX1_addReading_21 : decode cX1_addReading 21 = .ok (.getfield 28, 3) := by decide +kernel
theorem dX1_addReading_24 : decode cX1_addReading 24 = .ok (.aload_n 0, 1) := by decide +kernel
theorem dX1_addReading_25 : decode cX1_addReading 25 = .ok (.getfield 43, 3) := by decide +kernel
theorem dX1_addReading_28 : decode cX1_addReading 28 = .ok (.iload_n 3, 1) := by decide +kernel
theorem dX1_addReading_29 : decode cX1_addReading 29 = .ok (.iastore, 1) := by decide +kernel
theorem dX1_addReading_30 : decode cX1_addReading 30 = .ok (.aload_n 0, 1) := by decide +kernel
theorem dX1_addReading_31 : decode cX1_addReading 31 = .ok (.getfield 31, 3) := by decide +kernel
theorem dX1_addReading_34 : decode cX1_addReading 34 = .ok (.aload_n 0, 1) := by decide +kernel
theorem dX1_addReading_35 : decode cX1_addReading 35 = .ok (.getfield 43, 3) := by decide +kernel
theorem dX1_addReading_38 : decode cX1_addReading 38 = .ok (.iload 4, 2) := by decide +kernel
theorem dX1_addReading_40 : decode cX1_addReading 40 = .ok (.iastore, 1) := by decide +kernel
theorem dX1_addReading_41 : decode cX1_addReading 41 = .ok (.aload_n 0, 1) := by decide +kernel
theorem dX1_addReading_42 : decode cX1_addReading 42 = .ok (.getfield 34, 3) := by decide +kernel
theorem dX1_addReading_45 : decode cX1_addReading 45 = .ok (.aload_n 0, 1) := by decide +kernel
theorem dX1_addReading_46 : decode cX1_addReading 46 = .ok (.getfield 43, 3) := by decide +kernel
theorem dX1_addReading_49 : decode cX1_addReading 49 = .ok (.aload_n 0, 1) := by decide +kernel
theorem dX1_addReading_50 : decode cX1_addReading 50 = .ok (.getfield 46, 3) := by decide +kernel
theorem dX1_addReading_53 : decode cX1_addReading 53 = .ok (.iastore, 1) := by decide +kernel
theorem dX1_addReading_54 : decode cX1_addReading 54 = .ok (.aload_n 0, 1) := by decide +kernel
theorem dX1_addReading_55 : decode cX1_addReading 55 = .ok (.getfield 37, 3) := by decide +kernel
theorem dX1_addReading_58 : decode cX1_addReading 58 = .ok (.aload_n 0, 1) := by decide +kernel
theorem dX1_addReading_59 : decode cX1_addReading 59 = .ok (.getfield 43, 3) := by decide +kernel
theorem dX1_addReading_62 : decode cX1_addReading 62 = .ok (.iconst (-1), 1) := by decide +kernel
theorem dX1_addReading_63 : decode cX1_addReading 63 = .ok (.iastore, 1) := by decide +kernel
theorem dX1_addReading_64 : decode cX1_addReading 64 = .ok (.aload_n 0, 1) := by decide +kernel
theorem dX1_addReading_65 : decode cX1_addReading 65 = .ok (.dup, 1) := by decide +kernel
theorem dX1_addReading_66 : decode cX1_addReading 66 = .ok (.getfield 43, 3) := by decide +kernel
theorem dX1_addReading_69 : decode cX1_addReading 69 = .ok (.iconst 1, 1) := by decide +kernel
theorem dX1_addReading_70 : decode cX1_addReading 70 = .ok (.iadd, 1) := by decide +kernel
theorem dX1_addReading_71 : decode cX1_addReading 71 = .ok (.putfield 43, 3) := by decide +kernel
theorem dX1_addReading_74 : decode cX1_addReading 74 = .ok (.aload_n 0, 1) := by decide +kernel
theorem dX1_addReading_75 : decode cX1_addReading 75 = .ok (.getfield 43, 3) := by decide +kernel
theorem dX1_addReading_78 : decode cX1_addReading 78 = .ok (.iconst 1, 1) := by decide +kernel
theorem dX1_addReading_79 : decode cX1_addReading 79 = .ok (.isub, 1) := by decide +kernel
theorem dX1_addReading_80 : decode cX1_addReading 80 = .ok (.ireturn, 1) := by decide +kernel
def wX1_addReading  (x1 : Int32) (x2 : Int32) (x3 : Int32) (x4 : Int32) (σ : Sto) (post : Int32 → Sto → Prop) : Prop := vp_in (σ.1 1 5) 150 ∧ (vp_in (σ.1 1 5) 150 ∧ (vp_in (σ.1 1 5) 150 ∧ (vp_in (σ.1 1 5) 150 ∧ (vp_in (σ.1 1 5) 150 ∧ (vp_in (σ.1 1 5) 150 ∧ (post (((σ.1 1 5) + ((1 : Int32))) - ((1 : Int32))) (wI (wI (wI (wI (wI (wI (wI σ 15 (σ.1 1 5).toNatClampNeg x1) 16 (σ.1 1 5).toNatClampNeg x2) 17 (σ.1 1 5).toNatClampNeg x3) 18 (σ.1 1 5).toNatClampNeg x4) 19 (σ.1 1 5).toNatClampNeg (σ.1 1 0)) 20 (σ.1 1 5).toNatClampNeg ((-1 : Int32))) 1 5 ((σ.1 1 5) + ((1 : Int32))))))))))
set_option maxRecDepth 100000 in
set_option maxHeartbeats 4000000 in
theorem vX1_addReading (E : Ev)  (x1 : Int32) (x2 : Int32) (x3 : Int32) (x4 : Int32) (σ : Sto) (post : Int32 → Sto → Prop)  (h : wX1_addReading  x1 x2 x3 x4 σ post) : V E 0 mX1_addReading (pI post) 0 [(0, .ref 1), (1, .int x1), (2, .int x2), (3, .int x3), (4, .int x4)] [] σ := by
  unfold wX1_addReading at h
  refine V_aload_n (pc := 0) 0 dX1_addReading_0 rfl ?_
  refine V_getR (pc := 1) dX1_addReading_1 fl_X1_22 sh_1 rfl ?_
  refine V_aload_n (pc := 4) 0 dX1_addReading_4 rfl ?_
  refine V_getI (pc := 5) dX1_addReading_5 fl_X1_43 sh_1 rfl ?_
  refine V_iload_n (pc := 8) 1 dX1_addReading_8 rfl ?_
  obtain ⟨i9, h⟩ := h
  refine V_iast (pc := 9) dX1_addReading_9 sh_15 i9 ?_
  refine V_aload_n (pc := 10) 0 dX1_addReading_10 rfl ?_
  refine V_getR (pc := 11) dX1_addReading_11 fl_X1_25 sh_1 rfl ?_
  refine V_aload_n (pc := 14) 0 dX1_addReading_14 rfl ?_
  refine V_getI (pc := 15) dX1_addReading_15 fl_X1_43 sh_1 rfl ?_
  refine V_iload_n (pc := 18) 2 dX1_addReading_18 rfl ?_
  obtain ⟨i19, h⟩ := h
  refine V_iast (pc := 19) dX1_addReading_19 sh_16 i19 ?_
  refine V_aload_n (pc := 20) 0 dX1_addReading_20 rfl ?_
  refine V_getR (pc := 21) dX1_addReading_21 fl_X1_28 sh_1 rfl ?_
  refine V_aload_n (pc := 24) 0 dX1_addReading_24 rfl ?_
  refine V_getI (pc := 25) dX1_addReading_25 fl_X1_43 sh_1 rfl ?_
  refine V_iload_n (pc := 28) 3 dX1_addReading_28 rfl ?_
  obtain ⟨i29, h⟩ := h
  refine V_iast (pc := 29) dX1_addReading_29 sh_17 i29 ?_
  refine V_aload_n (pc := 30) 0 dX1_addReading_30 rfl ?_
  refine V_getR (pc := 31) dX1_addReading_31 fl_X1_31 sh_1 rfl ?_
  refine V_aload_n (pc := 34) 0 dX1_addReading_34 rfl ?_
  refine V_getI (pc := 35) dX1_addReading_35 fl_X1_43 sh_1 rfl ?_
  refine V_iload (pc := 38) 4 dX1_addReading_38 rfl ?_
  obtain ⟨i40, h⟩ := h
  refine V_iast (pc := 40) dX1_addReading_40 sh_18 i40 ?_
  refine V_aload_n (pc := 41) 0 dX1_addReading_41 rfl ?_
  refine V_getR (pc := 42) dX1_addReading_42 fl_X1_34 sh_1 rfl ?_
  refine V_aload_n (pc := 45) 0 dX1_addReading_45 rfl ?_
  refine V_getI (pc := 46) dX1_addReading_46 fl_X1_43 sh_1 rfl ?_
  refine V_aload_n (pc := 49) 0 dX1_addReading_49 rfl ?_
  refine V_getI (pc := 50) dX1_addReading_50 fl_X1_46 sh_1 rfl ?_
  obtain ⟨i53, h⟩ := h
  refine V_iast (pc := 53) dX1_addReading_53 sh_19 i53 ?_
  refine V_aload_n (pc := 54) 0 dX1_addReading_54 rfl ?_
  refine V_getR (pc := 55) dX1_addReading_55 fl_X1_37 sh_1 rfl ?_
  refine V_aload_n (pc := 58) 0 dX1_addReading_58 rfl ?_
  refine V_getI (pc := 59) dX1_addReading_59 fl_X1_43 sh_1 rfl ?_
  refine V_iconst (pc := 62) (v := -1) dX1_addReading_62 (by decide) ?_
  obtain ⟨i63, h⟩ := h
  refine V_iast (pc := 63) dX1_addReading_63 sh_20 i63 ?_
  refine V_aload_n (pc := 64) 0 dX1_addReading_64 rfl ?_
  refine V_dup (pc := 65) dX1_addReading_65 rfl ?_
  refine V_getI (pc := 66) dX1_addReading_66 fl_X1_43 sh_1 rfl ?_
  refine V_iconst (pc := 69) (v := 1) dX1_addReading_69 (by decide) ?_
  refine V_iadd (pc := 70) dX1_addReading_70 ?_
  refine V_putI (pc := 71) dX1_addReading_71 fl_X1_43 po_X1_5 sh_1 rfl rfl rfl ?_
  refine V_aload_n (pc := 74) 0 dX1_addReading_74 rfl ?_
  refine V_getI (pc := 75) dX1_addReading_75 fl_X1_43 sh_1 rfl ?_
  refine V_iconst (pc := 78) (v := 1) dX1_addReading_78 (by decide) ?_
  refine V_isub (pc := 79) dX1_addReading_79 ?_
  exact V_iret dX1_addReading_80 rfl h
theorem dX1_readingsOf_0 : decode cX1_readingsOf 0 = .ok (.iconst 0, 1) := by decide +kernel
theorem dX1_readingsOf_1 : decode cX1_readingsOf 1 = .ok (.istore_n 3, 1) := by decide +kernel
theorem dX1_readingsOf_2 : decode cX1_readingsOf 2 = .ok (.iconst 0, 1) := by decide +kernel
theorem dX1_readingsOf_3 : decode cX1_readingsOf 3 = .ok (.istore 4, 2) := by decide +kernel
theorem dX1_readingsOf_5 : decode cX1_readingsOf 5 = .ok (.iload 4, 2) := by decide +kernel
theorem dX1_readingsOf_7 : decode cX1_readingsOf 7 = .ok (.aload_n 0, 1) := by decide +kernel
theorem dX1_readingsOf_8 : decode cX1_readingsOf 8 = .ok (.getfield 43, 3) := by decide +kernel
theorem dX1_readingsOf_11 : decode cX1_readingsOf 11 = .ok (.if_icmp .ge 34, 3) := by decide +kernel
theorem dX1_readingsOf_14 : decode cX1_readingsOf 14 = .ok (.aload_n 0, 1) := by decide +kernel
theorem dX1_readingsOf_15 : decode cX1_readingsOf 15 = .ok (.getfield 22, 3) := by decide +kernel
theorem dX1_readingsOf_18 : decode cX1_readingsOf 18 = .ok (.iload 4, 2) := by decide +kernel
theorem dX1_readingsOf_20 : decode cX1_readingsOf 20 = .ok (.iaload, 1) := by decide +kernel
theorem dX1_readingsOf_21 : decode cX1_readingsOf 21 = .ok (.iload_n 1, 1) := by decide +kernel
theorem dX1_readingsOf_22 : decode cX1_readingsOf 22 = .ok (.if_icmp .ne 17, 3) := by decide +kernel
theorem dX1_readingsOf_25 : decode cX1_readingsOf 25 = .ok (.aload_n 0, 1) := by decide +kernel
theorem dX1_readingsOf_26 : decode cX1_readingsOf 26 = .ok (.getfield 25, 3) := by decide +kernel
theorem dX1_readingsOf_29 : decode cX1_readingsOf 29 = .ok (.iload 4, 2) := by decide +kernel
theorem dX1_readingsOf_31 : decode cX1_readingsOf 31 = .ok (.iaload, 1) := by decide +kernel
theorem dX1_readingsOf_32 : decode cX1_readingsOf 32 = .ok (.iload_n 2, 1) := by decide +kernel
theorem dX1_readingsOf_33 : decode cX1_readingsOf 33 = .ok (.if_icmp .ne 6, 3) := by decide +kernel
theorem dX1_readingsOf_36 : decode cX1_readingsOf 36 = .ok (.iinc 3 1, 3) := by decide +kernel
theorem dX1_readingsOf_39 : decode cX1_readingsOf 39 = .ok (.iinc 4 1, 3) := by decide +kernel
theorem dX1_readingsOf_42 : decode cX1_readingsOf 42 = .ok (.goto (-37), 3) := by decide +kernel
theorem dX1_readingsOf_45 : decode cX1_readingsOf 45 = .ok (.iload_n 3, 1) := by decide +kernel
theorem dX1_readingsOf_46 : decode cX1_readingsOf 46 = .ok (.ireturn, 1) := by decide +kernel
def wX1_readingsOf_5 (post : Int32 → Sto → Prop)  (K45 : Int32 → Sto → Prop) : Nat → Int32 → Int32 → Int32 → Int32 → Sto → Prop
  | 0, _, _, _, _, _ => False
  | n + 1, x1, x2, x3, x4, σ => (((σ.1 1 5) ≤ x4) → (K45 x3 σ)) ∧ ((¬ ((σ.1 1 5) ≤ x4)) → (vp_in x4 150 ∧ (((¬ (σ.1 15 x4.toNatClampNeg) = x1) → (wX1_readingsOf_5 post  K45 n x1 x2 x3 (x4 + (1 : Int32)) σ)) ∧ (((σ.1 15 x4.toNatClampNeg) = x1) → (vp_in x4 150 ∧ (((¬ (σ.1 16 x4.toNatClampNeg) = x2) → (wX1_readingsOf_5 post  K45 n x1 x2 x3 (x4 + (1 : Int32)) σ)) ∧ (((σ.1 16 x4.toNatClampNeg) = x2) → (wX1_readingsOf_5 post  K45 n x1 x2 (x3 + (1 : Int32)) (x4 + (1 : Int32)) σ))))))))
set_option maxRecDepth 100000 in
set_option maxHeartbeats 4000000 in
theorem vX1_readingsOf_5 (E : Ev) (post : Int32 → Sto → Prop)   (K45 : Int32 → Sto → Prop) (HK45 : ∀ (x3 : Int32) (σ : Sto), K45 x3 σ → V E 0 mX1_readingsOf (pI post) 45 [(3, .int x3)] [] σ) : ∀ (n : Nat) (x1 : Int32) (x2 : Int32) (x3 : Int32) (x4 : Int32) (σ : Sto), wX1_readingsOf_5 post  K45 n x1 x2 x3 x4 σ → V E 0 mX1_readingsOf (pI post) 5 [(0, .ref 1), (1, .int x1), (2, .int x2), (3, .int x3), (4, .int x4)] [] σ := by
  intro n
  induction n with
  | zero => intro x1 x2 x3 x4 σ h; exact h.elim
  | succ n ih =>
    intro x1 x2 x3 x4 σ h
    unfold wX1_readingsOf_5 at h
    refine V_iload (pc := 5) 4 dX1_readingsOf_5 rfl ?_
    refine V_aload_n (pc := 7) 0 dX1_readingsOf_7 rfl ?_
    refine V_getI (pc := 8) dX1_readingsOf_8 fl_X1_43 sh_1 rfl ?_
    refine V_icmp_ge (pc := 11) (tgt := 45) dX1_readingsOf_11 (by decide) (fun hc => ?_) (fun hc => ?_)
    · replace h := h.1 hc
      exact V_loc [3] rfl (HK45 x3 σ  h)
    · replace h := h.2 hc
      refine V_aload_n (pc := 14) 0 dX1_readingsOf_14 rfl ?_
      refine V_getR (pc := 15) dX1_readingsOf_15 fl_X1_22 sh_1 rfl ?_
      refine V_iload (pc := 18) 4 dX1_readingsOf_18 rfl ?_
      obtain ⟨i20, h⟩ := h
      refine V_iald (pc := 20) dX1_readingsOf_20 sh_15 i20 ?_
      refine V_iload_n (pc := 21) 1 dX1_readingsOf_21 rfl ?_
      refine V_icmp_ne (pc := 22) (tgt := 39) dX1_readingsOf_22 (by decide) (fun hc => ?_) (fun hc => ?_)
      · replace h := h.1 hc
        refine V_iinc (pc := 39) 4 (v := 1) dX1_readingsOf_39 rfl (by decide) (by decide) ?_
        refine V_goto (pc := 42) (tgt := 5) dX1_readingsOf_42 (by decide) ?_
        exact V_loc [1, 2, 3, 4, 0] rfl (ih x1 x2 x3 (x4 + (1 : Int32)) σ  h)
      · replace h := h.2 hc
        refine V_aload_n (pc := 25) 0 dX1_readingsOf_25 rfl ?_
        refine V_getR (pc := 26) dX1_readingsOf_26 fl_X1_25 sh_1 rfl ?_
        refine V_iload (pc := 29) 4 dX1_readingsOf_29 rfl ?_
        obtain ⟨i31, h⟩ := h
        refine V_iald (pc := 31) dX1_readingsOf_31 sh_16 i31 ?_
        refine V_iload_n (pc := 32) 2 dX1_readingsOf_32 rfl ?_
        refine V_icmp_ne (pc := 33) (tgt := 39) dX1_readingsOf_33 (by decide) (fun hc => ?_) (fun hc => ?_)
        · replace h := h.1 hc
          refine V_iinc (pc := 39) 4 (v := 1) dX1_readingsOf_39 rfl (by decide) (by decide) ?_
          refine V_goto (pc := 42) (tgt := 5) dX1_readingsOf_42 (by decide) ?_
          exact V_loc [1, 2, 3, 4, 0] rfl (ih x1 x2 x3 (x4 + (1 : Int32)) σ  h)
        · replace h := h.2 hc
          refine V_iinc (pc := 36) 3 (v := 1) dX1_readingsOf_36 rfl (by decide) (by decide) ?_
          refine V_iinc (pc := 39) 4 (v := 1) dX1_readingsOf_39 rfl (by decide) (by decide) ?_
          refine V_goto (pc := 42) (tgt := 5) dX1_readingsOf_42 (by decide) ?_
          exact V_loc [2, 3, 4, 1, 0] rfl (ih x1 x2 (x3 + (1 : Int32)) (x4 + (1 : Int32)) σ  h)
def wX1_readingsOf  (x1 : Int32) (x2 : Int32) (σ : Sto) (post : Int32 → Sto → Prop) : Prop := ∃ n5, wX1_readingsOf_5 post  (fun (x3_1 : Int32) (σ_1 : Sto) => post x3_1 σ_1) n5 x1 x2 ((0 : Int32)) ((0 : Int32)) σ
set_option maxRecDepth 100000 in
set_option maxHeartbeats 4000000 in
theorem vX1_readingsOf (E : Ev)  (x1 : Int32) (x2 : Int32) (σ : Sto) (post : Int32 → Sto → Prop)  (h : wX1_readingsOf  x1 x2 σ post) : V E 0 mX1_readingsOf (pI post) 0 [(0, .ref 1), (1, .int x1), (2, .int x2)] [] σ := by
  unfold wX1_readingsOf at h
  refine V_iconst (pc := 0) (v := 0) dX1_readingsOf_0 (by decide) ?_
  refine V_istore_n (pc := 1) dX1_readingsOf_1 (by decide) ?_
  refine V_iconst (pc := 2) (v := 0) dX1_readingsOf_2 (by decide) ?_
  refine V_istore (pc := 3) dX1_readingsOf_3 (by decide) ?_
  obtain ⟨n5, h⟩ := h
  refine V_loc [2, 3, 4, 1, 0] rfl (vX1_readingsOf_5 E post   _ (fun x3_1 σ_1 h => ?_) n5 x1 x2 ((0 : Int32)) ((0 : Int32)) σ  h)
  · refine V_iload_n (pc := 45) 0 dX1_readingsOf_45 rfl ?_
    exact V_iret dX1_readingsOf_46 rfl h
theorem dX1_isKnown_0 : decode cX1_isKnown 0 = .ok (.aload_n 0, 1) := by decide +kernel
theorem dX1_isKnown_1 : decode cX1_isKnown 1 = .ok (.getfield 9, 3) := by decide +kernel
theorem dX1_isKnown_4 : decode cX1_isKnown 4 = .ok (.iconst (-1), 1) := by decide +kernel
theorem dX1_isKnown_5 : decode cX1_isKnown 5 = .ok (.if_icmp .ne 10, 3) := by decide +kernel
theorem dX1_isKnown_8 : decode cX1_isKnown 8 = .ok (.aload_n 0, 1) := by decide +kernel
theorem dX1_isKnown_9 : decode cX1_isKnown 9 = .ok (.getfield 46, 3) := by decide +kernel
theorem dX1_isKnown_12 : decode cX1_isKnown 12 = .ok (.goto 7, 3) := by decide +kernel
theorem dX1_isKnown_15 : decode cX1_isKnown 15 = .ok (.aload_n 0, 1) := by decide +kernel
theorem dX1_isKnown_16 : decode cX1_isKnown 16 = .ok (.getfield 9, 3) := by decide +kernel
theorem dX1_isKnown_19 : decode cX1_isKnown 19 = .ok (.istore_n 2, 1) := by decide +kernel
theorem dX1_isKnown_20 : decode cX1_isKnown 20 = .ok (.aload_n 0, 1) := by decide +kernel
theorem dX1_isKnown_21 : decode cX1_isKnown 21 = .ok (.getfield 37, 3) := by decide +kernel
theorem dX1_isKnown_24 : decode cX1_isKnown 24 = .ok (.iload_n 1, 1) := by decide +kernel
theorem dX1_isKnown_25 : decode cX1_isKnown 25 = .ok (.iaload, 1) := by decide +kernel
theorem dX1_isKnown_26 : decode cX1_isKnown 26 = .ok (.istore_n 3, 1) := by decide +kernel
theorem dX1_isKnown_27 : decode cX1_isKnown 27 = .ok (.aload_n 0, 1) := by decide +kernel
theorem dX1_isKnown_28 : decode cX1_isKnown 28 = .ok (.getfield 34, 3) := by decide +kernel
theorem dX1_isKnown_31 : decode cX1_isKnown 31 = .ok (.iload_n 1, 1) := by decide +kernel
theorem dX1_isKnown_32 : decode cX1_isKnown 32 = .ok (.iaload, 1) := by decide +kernel
theorem dX1_isKnown_33 : decode cX1_isKnown 33 = .ok (.iload_n 2, 1) := by decide +kernel
theorem dX1_isKnown_34 : decode cX1_isKnown 34 = .ok (.if_icmp .gt 17, 3) := by decide +kernel
theorem dX1_isKnown_37 : decode cX1_isKnown 37 = .ok (.iload_n 3, 1) := by decide +kernel
theorem dX1_isKnown_38 : decode cX1_isKnown 38 = .ok (.iconst (-1), 1) := by decide +kernel
theorem dX1_isKnown_39 : decode cX1_isKnown 39 = .ok (.if_icmp .eq 8, 3) := by decide +kernel
theorem dX1_isKnown_42 : decode cX1_isKnown 42 = .ok (.iload_n 3, 1) := by decide +kernel
theorem dX1_isKnown_43 : decode cX1_isKnown 43 = .ok (.iload_n 2, 1) := by decide +kernel
theorem dX1_isKnown_44 : decode cX1_isKnown 44 = .ok (.if_icmp .le 7, 3) := by decide +kernel
theorem dX1_isKnown_47 : decode cX1_isKnown 47 = .ok (.iconst 1, 1) := by decide +kernel
theorem dX1_isKnown_48 : decode cX1_isKnown 48 = .ok (.goto 4, 3) := by decide +kernel
theorem dX1_isKnown_51 : decode cX1_isKnown 51 = .ok (.iconst 0, 1) := by decide +kernel
theorem dX1_isKnown_52 : decode cX1_isKnown 52 = .ok (.ireturn, 1) := by decide +kernel
def wX1_isKnown_19 (post : Bool → Sto → Prop)   (x1 : Int32) (y0 : Int32) (σ : Sto) : Prop := vp_in x1 150 ∧ (vp_in x1 150 ∧ (((y0 < (σ.1 19 x1.toNatClampNeg)) → (post false σ)) ∧ ((¬ (y0 < (σ.1 19 x1.toNatClampNeg))) → ((((σ.1 20 x1.toNatClampNeg) = ((-1 : Int32))) → (post true σ)) ∧ ((¬ ((σ.1 20 x1.toNatClampNeg) = ((-1 : Int32)))) → ((((σ.1 20 x1.toNatClampNeg) ≤ y0) → (post false σ)) ∧ ((¬ ((σ.1 20 x1.toNatClampNeg) ≤ y0)) → (post true σ))))))))
set_option maxRecDepth 100000 in
set_option maxHeartbeats 4000000 in
theorem vX1_isKnown_19 (E : Ev) (post : Bool → Sto → Prop)     (x1 : Int32) (y0 : Int32) (σ : Sto) (h : wX1_isKnown_19 post   x1 y0 σ) : V E 0 mX1_isKnown (pB post) 19 [(0, .ref 1), (1, .int x1)] [.int y0] σ := by
  unfold wX1_isKnown_19 at h
  refine V_istore_n (pc := 19) dX1_isKnown_19 (by decide) ?_
  refine V_aload_n (pc := 20) 1 dX1_isKnown_20 rfl ?_
  refine V_getR (pc := 21) dX1_isKnown_21 fl_X1_37 sh_1 rfl ?_
  refine V_iload_n (pc := 24) 2 dX1_isKnown_24 rfl ?_
  obtain ⟨i25, h⟩ := h
  refine V_iald (pc := 25) dX1_isKnown_25 sh_20 i25 ?_
  refine V_istore_n (pc := 26) dX1_isKnown_26 (by decide) ?_
  refine V_aload_n (pc := 27) 2 dX1_isKnown_27 rfl ?_
  refine V_getR (pc := 28) dX1_isKnown_28 fl_X1_34 sh_1 rfl ?_
  refine V_iload_n (pc := 31) 3 dX1_isKnown_31 rfl ?_
  obtain ⟨i32, h⟩ := h
  refine V_iald (pc := 32) dX1_isKnown_32 sh_19 i32 ?_
  refine V_iload_n (pc := 33) 1 dX1_isKnown_33 rfl ?_
  refine V_icmp_gt (pc := 34) (tgt := 51) dX1_isKnown_34 (by decide) (fun hc => ?_) (fun hc => ?_)
  · replace h := h.1 hc
    refine V_iconst (pc := 51) (v := 0) dX1_isKnown_51 (by decide) ?_
    exact V_zret false rfl dX1_isKnown_52 rfl h
  · replace h := h.2 hc
    refine V_iload_n (pc := 37) 0 dX1_isKnown_37 rfl ?_
    refine V_iconst (pc := 38) (v := -1) dX1_isKnown_38 (by decide) ?_
    refine V_icmp_eq (pc := 39) (tgt := 47) dX1_isKnown_39 (by decide) (fun hc => ?_) (fun hc => ?_)
    · replace h := h.1 hc
      refine V_iconst (pc := 47) (v := 1) dX1_isKnown_47 (by decide) ?_
      refine V_goto (pc := 48) (tgt := 52) dX1_isKnown_48 (by decide) ?_
      exact V_zret true rfl dX1_isKnown_52 rfl h
    · replace h := h.2 hc
      refine V_iload_n (pc := 42) 0 dX1_isKnown_42 rfl ?_
      refine V_iload_n (pc := 43) 1 dX1_isKnown_43 rfl ?_
      refine V_icmp_le (pc := 44) (tgt := 51) dX1_isKnown_44 (by decide) (fun hc => ?_) (fun hc => ?_)
      · replace h := h.1 hc
        refine V_iconst (pc := 51) (v := 0) dX1_isKnown_51 (by decide) ?_
        exact V_zret false rfl dX1_isKnown_52 rfl h
      · replace h := h.2 hc
        refine V_iconst (pc := 47) (v := 1) dX1_isKnown_47 (by decide) ?_
        refine V_goto (pc := 48) (tgt := 52) dX1_isKnown_48 (by decide) ?_
        exact V_zret true rfl dX1_isKnown_52 rfl h
def wX1_isKnown  (x1 : Int32) (σ : Sto) (post : Bool → Sto → Prop) : Prop := ((¬ (σ.1 1 1) = ((-1 : Int32))) → (wX1_isKnown_19 post   x1 (σ.1 1 1) σ)) ∧ (((σ.1 1 1) = ((-1 : Int32))) → (wX1_isKnown_19 post   x1 (σ.1 1 0) σ))
set_option maxRecDepth 100000 in
set_option maxHeartbeats 4000000 in
theorem vX1_isKnown (E : Ev)  (x1 : Int32) (σ : Sto) (post : Bool → Sto → Prop)  (h : wX1_isKnown  x1 σ post) : V E 0 mX1_isKnown (pB post) 0 [(0, .ref 1), (1, .int x1)] [] σ := by
  unfold wX1_isKnown at h
  refine V_aload_n (pc := 0) 0 dX1_isKnown_0 rfl ?_
  refine V_getI (pc := 1) dX1_isKnown_1 fl_X1_9 sh_1 rfl ?_
  refine V_iconst (pc := 4) (v := -1) dX1_isKnown_4 (by decide) ?_
  refine V_icmp_ne (pc := 5) (tgt := 15) dX1_isKnown_5 (by decide) (fun hc => ?_) (fun hc => ?_)
  · replace h := h.1 hc
    refine V_aload_n (pc := 15) 0 dX1_isKnown_15 rfl ?_
    refine V_getI (pc := 16) dX1_isKnown_16 fl_X1_9 sh_1 rfl ?_
    refine V_loc [0, 1] rfl (vX1_isKnown_19 E post     x1 (σ.1 1 1) σ  h)
  · replace h := h.2 hc
    refine V_aload_n (pc := 8) 0 dX1_isKnown_8 rfl ?_
    refine V_getI (pc := 9) dX1_isKnown_9 fl_X1_46 sh_1 rfl ?_
    refine V_goto (pc := 12) (tgt := 19) dX1_isKnown_12 (by decide) ?_
    refine V_loc [0, 1] rfl (vX1_isKnown_19 E post     x1 (σ.1 1 0) σ  h)
theorem dX1_isKnownOf_0 : decode cX1_isKnownOf 0 = .ok (.aload_n 0, 1) := by decide +kernel
theorem dX1_isKnownOf_1 : decode cX1_isKnownOf 1 = .ok (.getfield 25, 3) := by decide +kernel
theorem dX1_isKnownOf_4 : decode cX1_isKnownOf 4 = .ok (.iload_n 1, 1) := by decide +kernel
theorem dX1_isKnownOf_5 : decode cX1_isKnownOf 5 = .ok (.iaload, 1) := by decide +kernel
theorem dX1_isKnownOf_6 : decode cX1_isKnownOf 6 = .ok (.iload_n 2, 1) := by decide +kernel
theorem dX1_isKnownOf_7 : decode cX1_isKnownOf 7 = .ok (.if_icmp .ne 15, 3) := by decide +kernel
theorem dX1_isKnownOf_10 : decode cX1_isKnownOf 10 = .ok (.aload_n 0, 1) := by decide +kernel
theorem dX1_isKnownOf_11 : decode cX1_isKnownOf 11 = .ok (.iload_n 1, 1) := by decide +kernel
theorem dX1_isKnownOf_12 : decode cX1_isKnownOf 12 = .ok (.invokevirtual 49, 3) := by decide +kernel
theorem dX1_isKnownOf_15 : decode cX1_isKnownOf 15 = .ok (.ifCond .eq 7, 3) := by decide +kernel
theorem dX1_isKnownOf_18 : decode cX1_isKnownOf 18 = .ok (.iconst 1, 1) := by decide +kernel
theorem dX1_isKnownOf_19 : decode cX1_isKnownOf 19 = .ok (.goto 4, 3) := by decide +kernel
theorem dX1_isKnownOf_22 : decode cX1_isKnownOf 22 = .ok (.iconst 0, 1) := by decide +kernel
theorem dX1_isKnownOf_23 : decode cX1_isKnownOf 23 = .ok (.ireturn, 1) := by decide +kernel
def wX1_isKnownOf  (x1 : Int32) (x2 : Int32) (σ : Sto) (post : Bool → Sto → Prop) : Prop := vp_in x1 150 ∧ (((¬ (σ.1 16 x1.toNatClampNeg) = x2) → (post false σ)) ∧ (((σ.1 16 x1.toNatClampNeg) = x2) → (wX1_isKnown  x1 σ (fun (r12 : Bool) (s12 : Sto) => ((r12 = false) → (post false s12)) ∧ ((r12 = true) → (post true s12))))))
set_option maxRecDepth 100000 in
set_option maxHeartbeats 4000000 in
theorem vX1_isKnownOf (E : Ev)  (x1 : Int32) (x2 : Int32) (σ : Sto) (post : Bool → Sto → Prop)  (h : wX1_isKnownOf  x1 x2 σ post) : V E 1 mX1_isKnownOf (pB post) 0 [(0, .ref 1), (1, .int x1), (2, .int x2)] [] σ := by
  unfold wX1_isKnownOf at h
  refine V_aload_n (pc := 0) 0 dX1_isKnownOf_0 rfl ?_
  refine V_getR (pc := 1) dX1_isKnownOf_1 fl_X1_25 sh_1 rfl ?_
  refine V_iload_n (pc := 4) 1 dX1_isKnownOf_4 rfl ?_
  obtain ⟨i5, h⟩ := h
  refine V_iald (pc := 5) dX1_isKnownOf_5 sh_16 i5 ?_
  refine V_iload_n (pc := 6) 2 dX1_isKnownOf_6 rfl ?_
  refine V_icmp_ne (pc := 7) (tgt := 22) dX1_isKnownOf_7 (by decide) (fun hc => ?_) (fun hc => ?_)
  · replace h := h.1 hc
    refine V_iconst (pc := 22) (v := 0) dX1_isKnownOf_22 (by decide) ?_
    exact V_zret false rfl dX1_isKnownOf_23 rfl h
  · replace h := h.2 hc
    refine V_aload_n (pc := 10) 0 dX1_isKnownOf_10 rfl ?_
    refine V_iload_n (pc := 11) 1 dX1_isKnownOf_11 rfl ?_
    refine V_callV (pc := 12) (M' := mX1_isKnown) dX1_isKnownOf_12 ml_X1_49 kv_X1_isKnown ko_X1_isKnown sh_1 (by decide) (by decide) rfl rfl (Nat.le_of_ble_eq_true rfl) (Nat.le_of_ble_eq_true rfl) (vX1_isKnown E  x1 σ _  h) (kB (fun r12 s12 h => ?_))
    refine V_ifz (pc := 15) (tgt := 22) dX1_isKnownOf_15 (by decide) (fun hc => ?_) (fun hc => ?_)
    · replace h := h.1 hc
      refine V_iconst (pc := 22) (v := 0) dX1_isKnownOf_22 (by decide) ?_
      exact V_zret false rfl dX1_isKnownOf_23 rfl h
    · replace h := h.2 hc
      refine V_iconst (pc := 18) (v := 1) dX1_isKnownOf_18 (by decide) ?_
      refine V_goto (pc := 19) (tgt := 23) dX1_isKnownOf_19 (by decide) ?_
      exact V_zret true rfl dX1_isKnownOf_23 rfl h
theorem dX1_knownReadings_0 : decode cX1_knownReadings 0 = .ok (.iconst 0, 1) := by decide +kernel
theorem dX1_knownReadings_1 : decode cX1_knownReadings 1 = .ok (.istore_n 1, 1) := by decide +kernel
theorem dX1_knownReadings_2 : decode cX1_knownReadings 2 = .ok (.iconst 0, 1) := by decide +kernel
theorem dX1_knownReadings_3 : decode cX1_knownReadings 3 = .ok (.istore_n 2, 1) := by decide +kernel
theorem dX1_knownReadings_4 : decode cX1_knownReadings 4 = .ok (.iload_n 2, 1) := by decide +kernel
theorem dX1_knownReadings_5 : decode cX1_knownReadings 5 = .ok (.aload_n 0, 1) := by decide +kernel
theorem dX1_knownReadings_6 : decode cX1_knownReadings 6 = .ok (.getfield 43, 3) := by decide +kernel
theorem dX1_knownReadings_9 : decode cX1_knownReadings 9 = .ok (.if_icmp .ge 20, 3) := by decide +kernel
theorem dX1_knownReadings_12 : decode cX1_knownReadings 12 = .ok (.aload_n 0, 1) := by decide +kernel
theorem dX1_knownReadings_13 : decode cX1_knownReadings 13 = .ok (.iload_n 2, 1) := by decide +kernel
theorem dX1_knownReadings_14 : decode cX1_knownReadings 14 = .ok (.invokevirtual 49, 3) := by decide +kernel
theorem dX1_knownReadings_17 : decode cX1_knownReadings 17 = .ok (.ifCond .eq 6, 3) := by decide +kernel
theorem dX1_knownReadings_20 : decode cX1_knownReadings 20 = .ok (.iinc 1 1, 3) := by decide +kernel
theorem dX1_knownReadings_23 : decode cX1_knownReadings 23 = .ok (.iinc 2 1, 3) := by decide +kernel
theorem dX1_knownReadings_26 : decode cX1_knownReadings 26 = .ok (.goto (-22), 3) := by decide +kernel
theorem dX1_knownReadings_29 : decode cX1_knownReadings 29 = .ok (.iload_n 1, 1) := by decide +kernel
theorem dX1_knownReadings_30 : decode cX1_knownReadings 30 = .ok (.ireturn, 1) := by decide +kernel
def wX1_knownReadings_4 (post : Int32 → Sto → Prop)  (K29 : Int32 → Sto → Prop) : Nat → Int32 → Int32 → Sto → Prop
  | 0, _, _, _ => False
  | n + 1, x1, x2, σ => (((σ.1 1 5) ≤ x2) → (K29 x1 σ)) ∧ ((¬ ((σ.1 1 5) ≤ x2)) → (wX1_isKnown  x2 σ (fun (r14 : Bool) (s14 : Sto) => ((r14 = false) → (wX1_knownReadings_4 post  K29 n x1 (x2 + (1 : Int32)) s14)) ∧ ((r14 = true) → (wX1_knownReadings_4 post  K29 n (x1 + (1 : Int32)) (x2 + (1 : Int32)) s14)))))
set_option maxRecDepth 100000 in
set_option maxHeartbeats 4000000 in
theorem vX1_knownReadings_4 (E : Ev) (post : Int32 → Sto → Prop)   (K29 : Int32 → Sto → Prop) (HK29 : ∀ (x1 : Int32) (σ : Sto), K29 x1 σ → V E 1 mX1_knownReadings (pI post) 29 [(1, .int x1)] [] σ) : ∀ (n : Nat) (x1 : Int32) (x2 : Int32) (σ : Sto), wX1_knownReadings_4 post  K29 n x1 x2 σ → V E 1 mX1_knownReadings (pI post) 4 [(0, .ref 1), (1, .int x1), (2, .int x2)] [] σ := by
  intro n
  induction n with
  | zero => intro x1 x2 σ h; exact h.elim
  | succ n ih =>
    intro x1 x2 σ h
    unfold wX1_knownReadings_4 at h
    refine V_iload_n (pc := 4) 2 dX1_knownReadings_4 rfl ?_
    refine V_aload_n (pc := 5) 0 dX1_knownReadings_5 rfl ?_
    refine V_getI (pc := 6) dX1_knownReadings_6 fl_X1_43 sh_1 rfl ?_
    refine V_icmp_ge (pc := 9) (tgt := 29) dX1_knownReadings_9 (by decide) (fun hc => ?_) (fun hc => ?_)
    · replace h := h.1 hc
      exact V_loc [1] rfl (HK29 x1 σ  h)
    · replace h := h.2 hc
      refine V_aload_n (pc := 12) 0 dX1_knownReadings_12 rfl ?_
      refine V_iload_n (pc := 13) 2 dX1_knownReadings_13 rfl ?_
      refine V_callV (pc := 14) (M' := mX1_isKnown) dX1_knownReadings_14 ml_X1_49 kv_X1_isKnown ko_X1_isKnown sh_1 (by decide) (by decide) rfl rfl (Nat.le_of_ble_eq_true rfl) (Nat.le_of_ble_eq_true rfl) (vX1_isKnown E  x2 σ _  h) (kB (fun r14 s14 h => ?_))
      refine V_ifz (pc := 17) (tgt := 23) dX1_knownReadings_17 (by decide) (fun hc => ?_) (fun hc => ?_)
      · replace h := h.1 hc
        refine V_iinc (pc := 23) 2 (v := 1) dX1_knownReadings_23 rfl (by decide) (by decide) ?_
        refine V_goto (pc := 26) (tgt := 4) dX1_knownReadings_26 (by decide) ?_
        exact V_loc [1, 2, 0] rfl (ih x1 (x2 + (1 : Int32)) s14  h)
      · replace h := h.2 hc
        refine V_iinc (pc := 20) 1 (v := 1) dX1_knownReadings_20 rfl (by decide) (by decide) ?_
        refine V_iinc (pc := 23) 2 (v := 1) dX1_knownReadings_23 rfl (by decide) (by decide) ?_
        refine V_goto (pc := 26) (tgt := 4) dX1_knownReadings_26 (by decide) ?_
        exact V_loc [2, 1, 0] rfl (ih (x1 + (1 : Int32)) (x2 + (1 : Int32)) s14  h)
def wX1_knownReadings   (σ : Sto) (post : Int32 → Sto → Prop) : Prop := ∃ n4, wX1_knownReadings_4 post  (fun (x1_1 : Int32) (σ_1 : Sto) => post x1_1 σ_1) n4 ((0 : Int32)) ((0 : Int32)) σ
set_option maxRecDepth 100000 in
set_option maxHeartbeats 4000000 in
theorem vX1_knownReadings (E : Ev)   (σ : Sto) (post : Int32 → Sto → Prop)  (h : wX1_knownReadings   σ post) : V E 1 mX1_knownReadings (pI post) 0 [(0, .ref 1)] [] σ := by
  unfold wX1_knownReadings at h
  refine V_iconst (pc := 0) (v := 0) dX1_knownReadings_0 (by decide) ?_
  refine V_istore_n (pc := 1) dX1_knownReadings_1 (by decide) ?_
  refine V_iconst (pc := 2) (v := 0) dX1_knownReadings_2 (by decide) ?_
  refine V_istore_n (pc := 3) dX1_knownReadings_3 (by decide) ?_
  obtain ⟨n4, h⟩ := h
  refine V_loc [2, 1, 0] rfl (vX1_knownReadings_4 E post   _ (fun x1_1 σ_1 h => ?_) n4 ((0 : Int32)) ((0 : Int32)) σ  h)
  · refine V_iload_n (pc := 29) 0 dX1_knownReadings_29 rfl ?_
    exact V_iret dX1_knownReadings_30 rfl h
theorem dX5_greatestShared_0 : decode cX5_greatestShared 0 = .ok (.lload_n 0, 1) := by decide +kernel
theorem dX5_greatestShared_1 : decode cX5_greatestShared 1 = .ok (.lstore 4, 2) := by decide +kernel
theorem dX5_greatestShared_3 : decode cX5_greatestShared 3 = .ok (.lload_n 2, 1) := by decide +kernel
theorem dX5_greatestShared_4 : decode cX5_greatestShared 4 = .ok (.lstore 6, 2) := by decide +kernel
theorem dX5_greatestShared_6 : decode cX5_greatestShared 6 = .ok (.iconst 0, 1) := by decide +kernel
theorem dX5_greatestShared_7 : decode cX5_greatestShared 7 = .ok (.istore 8, 2) := by decide +kernel
theorem dX5_greatestShared_9 : decode cX5_greatestShared 9 = .ok (.iload 8, 2) := by decide +kernel
theorem dX5_greatestShared_11 : decode cX5_greatestShared 11 = .ok (.bipush 100, 2) := by decide +kernel
theorem dX5_greatestShared_13 : decode cX5_greatestShared 13 = .ok (.if_icmp .ge 31, 3) := by decide +kernel
theorem dX5_greatestShared_16 : decode cX5_greatestShared 16 = .ok (.lload 6, 2) := by decide +kernel
theorem dX5_greatestShared_18 : decode cX5_greatestShared 18 = .ok (.lconst 0, 1) := by decide +kernel
theorem dX5_greatestShared_19 : decode cX5_greatestShared 19 = .ok (.lcmp, 1) := by decide +kernel
theorem dX5_greatestShared_20 : decode cX5_greatestShared 20 = .ok (.ifCond .eq 24, 3) := by decide +kernel
theorem dX5_greatestShared_23 : decode cX5_greatestShared 23 = .ok (.lload 4, 2) := by decide +kernel
theorem dX5_greatestShared_25 : decode cX5_greatestShared 25 = .ok (.lload 6, 2) := by decide +kernel
theorem dX5_greatestShared_27 : decode cX5_greatestShared 27 = .ok (.lrem, 1) := by decide +kernel
theorem dX5_greatestShared_28 : decode cX5_greatestShared 28 = .ok (.lstore 9, 2) := by decide +kernel
theorem dX5_greatestShared_30 : decode cX5_greatestShared 30 = .ok (.lload 6, 2) := by decide +kernel
theorem dX5_greatestShared_32 : decode cX5_greatestShared 32 = .ok (.lstore 4, 2) := by decide +kernel
theorem dX5_greatestShared_34 : decode cX5_greatestShared 34 = .ok (.lload 9, 2) := by decide +kernel
theorem dX5_greatestShared_36 : decode cX5_greatestShared 36 = .ok (.lstore 6, 2) := by decide +kernel
theorem dX5_greatestShared_38 : decode cX5_greatestShared 38 = .ok (.iinc 8 1, 3) := by decide +kernel
theorem dX5_greatestShared_41 : decode cX5_greatestShared 41 = .ok (.goto (-32), 3) := by decide +kernel
theorem dX5_greatestShared_44 : decode cX5_greatestShared 44 = .ok (.lload 4, 2) := by decide +kernel
theorem dX5_greatestShared_46 : decode cX5_greatestShared 46 = .ok (.lreturn, 1) := by decide +kernel
def wX5_greatestShared_9 (post : Int64 → Sto → Prop)  (K44 : Int64 → Sto → Prop) : Nat → Int64 → Int64 → Int32 → Sto → Prop
  | 0, _, _, _, _ => False
  | n + 1, x4, x6, x8, σ => ((((100 : Int32)) ≤ x8) → (K44 x4 σ)) ∧ ((¬ (((100 : Int32)) ≤ x8)) → (((x6 = ((0 : Int64))) → (K44 x4 σ)) ∧ ((¬ (x6 = ((0 : Int64)))) → ((¬ x6 = 0) ∧ (wX5_greatestShared_9 post  K44 n x6 (x4 - x4 / x6 * x6) (x8 + (1 : Int32)) σ)))))
set_option maxRecDepth 100000 in
set_option maxHeartbeats 4000000 in
theorem vX5_greatestShared_9 (E : Ev) (post : Int64 → Sto → Prop)   (K44 : Int64 → Sto → Prop) (HK44 : ∀ (x4 : Int64) (σ : Sto), K44 x4 σ → V E 0 mX5_greatestShared (pL post) 44 [(4, .long x4)] [] σ) : ∀ (n : Nat) (x4 : Int64) (x6 : Int64) (x8 : Int32) (σ : Sto), wX5_greatestShared_9 post  K44 n x4 x6 x8 σ → V E 0 mX5_greatestShared (pL post) 9 [(4, .long x4), (6, .long x6), (8, .int x8)] [] σ := by
  intro n
  induction n with
  | zero => intro x4 x6 x8 σ h; exact h.elim
  | succ n ih =>
    intro x4 x6 x8 σ h
    unfold wX5_greatestShared_9 at h
    refine V_iload (pc := 9) 2 dX5_greatestShared_9 rfl ?_
    refine V_bipush (pc := 11) (v := 100) dX5_greatestShared_11 (by decide) ?_
    refine V_icmp_ge (pc := 13) (tgt := 44) dX5_greatestShared_13 (by decide) (fun hc => ?_) (fun hc => ?_)
    · replace h := h.1 hc
      exact V_loc [0] rfl (HK44 x4 σ  h)
    · replace h := h.2 hc
      refine V_lload (pc := 16) 1 dX5_greatestShared_16 rfl ?_
      refine V_lconst (pc := 18) (v := 0) dX5_greatestShared_18 (by decide) ?_
      refine V_lc_eq (pc := 19) (tgt := 44) dX5_greatestShared_19 dX5_greatestShared_20 (by decide) (fun hc => ?_) (fun hc => ?_)
      · replace h := h.1 hc
        exact V_loc [0] rfl (HK44 x4 σ  h)
      · replace h := h.2 hc
        refine V_lload (pc := 23) 0 dX5_greatestShared_23 rfl ?_
        refine V_lload (pc := 25) 1 dX5_greatestShared_25 rfl ?_
        obtain ⟨z27, h⟩ := h
        refine V_lrem (pc := 27) dX5_greatestShared_27 z27 ?_
        refine V_lstore (pc := 28) dX5_greatestShared_28 (by decide) ?_
        refine V_lload (pc := 30) 2 dX5_greatestShared_30 rfl ?_
        refine V_lstore (pc := 32) dX5_greatestShared_32 (by decide) ?_
        refine V_lload (pc := 34) 1 dX5_greatestShared_34 rfl ?_
        refine V_lstore (pc := 36) dX5_greatestShared_36 (by decide) ?_
        refine V_iinc (pc := 38) 3 (v := 1) dX5_greatestShared_38 rfl (by decide) (by decide) ?_
        refine V_goto (pc := 41) (tgt := 9) dX5_greatestShared_41 (by decide) ?_
        exact V_loc [2, 1, 0] rfl (ih x6 (x4 - x4 / x6 * x6) (x8 + (1 : Int32)) σ  h)
def wX5_greatestShared  (x0 : Int64) (x2 : Int64) (σ : Sto) (post : Int64 → Sto → Prop) : Prop := ∃ n9, wX5_greatestShared_9 post  (fun (x4_1 : Int64) (σ_1 : Sto) => post x4_1 σ_1) n9 x0 x2 ((0 : Int32)) σ
set_option maxRecDepth 100000 in
set_option maxHeartbeats 4000000 in
theorem vX5_greatestShared (E : Ev)  (x0 : Int64) (x2 : Int64) (σ : Sto) (post : Int64 → Sto → Prop)  (h : wX5_greatestShared  x0 x2 σ post) : V E 0 mX5_greatestShared (pL post) 0 [(0, .long x0), (2, .long x2)] [] σ := by
  unfold wX5_greatestShared at h
  refine V_lload_n (pc := 0) 0 dX5_greatestShared_0 rfl ?_
  refine V_lstore (pc := 1) dX5_greatestShared_1 (by decide) ?_
  refine V_lload_n (pc := 3) 2 dX5_greatestShared_3 rfl ?_
  refine V_lstore (pc := 4) dX5_greatestShared_4 (by decide) ?_
  refine V_iconst (pc := 6) (v := 0) dX5_greatestShared_6 (by decide) ?_
  refine V_istore (pc := 7) dX5_greatestShared_7 (by decide) ?_
  obtain ⟨n9, h⟩ := h
  refine V_loc [2, 1, 0] rfl (vX5_greatestShared_9 E post   _ (fun x4_1 σ_1 h => ?_) n9 x0 x2 ((0 : Int32)) σ  h)
  · refine V_lload (pc := 44) 0 dX5_greatestShared_44 rfl ?_
    exact V_lret dX5_greatestShared_46 rfl h
theorem dX5_become_0 : decode cX5_become 0 = .ok (.lload_n 1, 1) := by decide +kernel
theorem dX5_become_1 : decode cX5_become 1 = .ok (.invokestatic 13, 3) := by decide +kernel
theorem dX5_become_4 : decode cX5_become 4 = .ok (.lload_n 3, 1) := by decide +kernel
theorem dX5_become_5 : decode cX5_become 5 = .ok (.invokestatic 19, 3) := by decide +kernel
theorem dX5_become_8 : decode cX5_become 8 = .ok (.lstore 5, 2) := by decide +kernel
theorem dX5_become_10 : decode cX5_become 10 = .ok (.lload_n 3, 1) := by decide +kernel
theorem dX5_become_11 : decode cX5_become 11 = .ok (.lconst 1, 1) := by decide +kernel
theorem dX5_become_12 : decode cX5_become 12 = .ok (.lcmp, 1) := by decide +kernel
theorem dX5_become_13 : decode cX5_become 13 = .ok (.ifCond .lt 10, 3) := by decide +kernel
theorem dX5_become_16 : decode cX5_become 16 = .ok (.lload 5, 2) := by decide +kernel
theorem dX5_become_18 : decode cX5_become 18 = .ok (.lconst 1, 1) := by decide +kernel
theorem dX5_become_19 : decode cX5_become 19 = .ok (.lcmp, 1) := by decide +kernel
theorem dX5_become_20 : decode cX5_become 20 = .ok (.ifCond .ge 16, 3) := by decide +kernel
theorem dX5_become_23 : decode cX5_become 23 = .ok (.aload_n 0, 1) := by decide +kernel
theorem dX5_become_24 : decode cX5_become 24 = .ok (.lconst 0, 1) := by decide +kernel
theorem dX5_become_25 : decode cX5_become 25 = .ok (.putfield 23, 3) := by decide +kernel
theorem dX5_become_28 : decode cX5_become 28 = .ok (.aload_n 0, 1) := by decide +kernel
theorem dX5_become_29 : decode cX5_become 29 = .ok (.lconst 1, 1) := by decide +kernel
theorem dX5_become_30 : decode cX5_become 30 = .ok (.putfield 7, 3) := by decide +kernel
theorem dX5_become_33 : decode cX5_become 33 = .ok (.goto 19, 3) := by decide +kernel
theorem dX5_become_36 : decode cX5_become 36 = .ok (.aload_n 0, 1) := by decide +kernel
theorem dX5_become_37 : decode cX5_become 37 = .ok (.lload_n 1, 1) := by decide +kernel
theorem dX5_become_38 : decode cX5_become 38 = .ok (.lload 5, 2) := by decide +kernel
theorem dX5_become_40 : decode cX5_become 40 = .ok (.ldiv, 1) := by decide +kernel
theorem dX5_become_41 : decode cX5_become 41 = .ok (.putfield 23, 3) := by decide +kernel
theorem dX5_become_44 : decode cX5_become 44 = .ok (.aload_n 0, 1) := by decide +kernel
theorem dX5_become_45 : decode cX5_become 45 = .ok (.lload_n 3, 1) := by decide +kernel
theorem dX5_become_46 : decode cX5_become 46 = .ok (.lload 5, 2) := by decide +kernel
theorem dX5_become_48 : decode cX5_become 48 = .ok (.ldiv, 1) := by decide +kernel
theorem dX5_become_49 : decode cX5_become 49 = .ok (.putfield 7, 3) := by decide +kernel
theorem dX5_become_52 : decode cX5_become 52 = .ok (.return_, 1) := by decide +kernel
def wX5_become_23 (post : Sto → Prop) (c : Nat)   (σ : Sto) : Prop := post (wL (wL σ c 0 ((0 : Int64))) c 1 ((1 : Int64)))
set_option maxRecDepth 100000 in
set_option maxHeartbeats 4000000 in
theorem vX5_become_23 (E : Ev) (post : Sto → Prop) (c : Nat) (hs_c : gs c = .inr (5, [1, 1]))    (σ : Sto) (h : wX5_become_23 post c   σ) : V E 1 mX5_become (pV post) 23 [(0, .ref c)] [] σ := by
  unfold wX5_become_23 at h
  refine V_aload_n (pc := 23) 0 dX5_become_23 rfl ?_
  refine V_lconst (pc := 24) (v := 0) dX5_become_24 (by decide) ?_
  refine V_putL (pc := 25) dX5_become_25 fl_X5_23 po_X5_0 hs_c rfl rfl rfl ?_
  refine V_aload_n (pc := 28) 0 dX5_become_28 rfl ?_
  refine V_lconst (pc := 29) (v := 1) dX5_become_29 (by decide) ?_
  refine V_putL (pc := 30) dX5_become_30 fl_X5_7 po_X5_1 hs_c rfl rfl rfl ?_
  refine V_goto (pc := 33) (tgt := 52) dX5_become_33 (by decide) ?_
  exact V_vret dX5_become_52 rfl h
def wX5_become (c : Nat) (x1 : Int64) (x3 : Int64) (σ : Sto) (post : Sto → Prop) : Prop := wJ9_abs_067f4  x1 σ (fun (r1 : Int64) (s1 : Sto) => wX5_greatestShared  r1 x3 s1 (fun (r5 : Int64) (s5 : Sto) => ((x3 < ((1 : Int64))) → (wX5_become_23 post c   s5)) ∧ ((¬ (x3 < ((1 : Int64)))) → (((((1 : Int64)) ≤ r5) → ((¬ r5 = 0) ∧ ((¬ r5 = 0) ∧ (post (wL (wL s5 c 0 (x1 / r5)) c 1 (x3 / r5)))))) ∧ ((¬ (((1 : Int64)) ≤ r5)) → (wX5_become_23 post c   s5))))))
set_option maxRecDepth 100000 in
set_option maxHeartbeats 4000000 in
theorem vX5_become (E : Ev) (c : Nat) (x1 : Int64) (x3 : Int64) (σ : Sto) (post : Sto → Prop) (hs_c : gs c = .inr (5, [1, 1])) (h : wX5_become c x1 x3 σ post) : V E 1 mX5_become (pV post) 0 [(0, .ref c), (1, .long x1), (3, .long x3)] [] σ := by
  unfold wX5_become at h
  refine V_lload_n (pc := 0) 1 dX5_become_0 rfl ?_
  refine V_callS (pc := 1) (M' := mJ9_abs_067f4) dX5_become_1 ml_X5_13 ks_J9_abs_067f4 ko_J9_abs_067f4 (by decide) rfl (Nat.le_of_ble_eq_true rfl) (Nat.le_of_ble_eq_true rfl) (vJ9_abs_067f4 E  x1 σ _  h) (kL (fun r1 s1 h => ?_))
  refine V_lload_n (pc := 4) 2 dX5_become_4 rfl ?_
  refine V_callS (pc := 5) (M' := mX5_greatestShared) dX5_become_5 ml_X5_19 ks_X5_greatestShared ko_X5_greatestShared (by decide) rfl (Nat.le_of_ble_eq_true rfl) (Nat.le_of_ble_eq_true rfl) (vX5_greatestShared E  r1 x3 s1 _  h) (kL (fun r5 s5 h => ?_))
  refine V_lstore (pc := 8) dX5_become_8 (by decide) ?_
  refine V_lload_n (pc := 10) 3 dX5_become_10 rfl ?_
  refine V_lconst (pc := 11) (v := 1) dX5_become_11 (by decide) ?_
  refine V_lc_lt (pc := 12) (tgt := 23) dX5_become_12 dX5_become_13 (by decide) (fun hc => ?_) (fun hc => ?_)
  · replace h := h.1 hc
    refine V_loc [1] rfl (vX5_become_23 E post c hs_c    s5  h)
  · replace h := h.2 hc
    refine V_lload (pc := 16) 0 dX5_become_16 rfl ?_
    refine V_lconst (pc := 18) (v := 1) dX5_become_18 (by decide) ?_
    refine V_lc_ge (pc := 19) (tgt := 36) dX5_become_19 dX5_become_20 (by decide) (fun hc => ?_) (fun hc => ?_)
    · replace h := h.1 hc
      refine V_aload_n (pc := 36) 1 dX5_become_36 rfl ?_
      refine V_lload_n (pc := 37) 2 dX5_become_37 rfl ?_
      refine V_lload (pc := 38) 0 dX5_become_38 rfl ?_
      obtain ⟨z40, h⟩ := h
      refine V_ldiv (pc := 40) dX5_become_40 z40 ?_
      refine V_putL (pc := 41) dX5_become_41 fl_X5_23 po_X5_0 hs_c rfl rfl rfl ?_
      refine V_aload_n (pc := 44) 1 dX5_become_44 rfl ?_
      refine V_lload_n (pc := 45) 3 dX5_become_45 rfl ?_
      refine V_lload (pc := 46) 0 dX5_become_46 rfl ?_
      obtain ⟨z48, h⟩ := h
      refine V_ldiv (pc := 48) dX5_become_48 z48 ?_
      refine V_putL (pc := 49) dX5_become_49 fl_X5_7 po_X5_1 hs_c rfl rfl rfl ?_
      exact V_vret dX5_become_52 rfl h
    · replace h := h.2 hc
      refine V_loc [1] rfl (vX5_become_23 E post c hs_c    s5  h)
theorem dX5_side_0 : decode cX5_side 0 = .ok (.iload_n 1, 1) := by decide +kernel
theorem dX5_side_1 : decode cX5_side 1 = .ok (.ifCond .ne 10, 3) := by decide +kernel
theorem dX5_side_4 : decode cX5_side 4 = .ok (.aload_n 0, 1) := by decide +kernel
theorem dX5_side_5 : decode cX5_side 5 = .ok (.getfield 23, 3) := by decide +kernel
theorem dX5_side_8 : decode cX5_side 8 = .ok (.goto 7, 3) := by decide +kernel
theorem dX5_side_11 : decode cX5_side 11 = .ok (.aload_n 0, 1) := by decide +kernel
theorem dX5_side_12 : decode cX5_side 12 = .ok (.getfield 7, 3) := by decide +kernel
theorem dX5_side_15 : decode cX5_side 15 = .ok (.lreturn, 1) := by decide +kernel
def wX5_side (c : Nat) (x1 : Int32) (σ : Sto) (post : Int64 → Sto → Prop) : Prop := ((¬ x1 = 0) → (post (σ.2 c 1) σ)) ∧ ((x1 = 0) → (post (σ.2 c 0) σ))
set_option maxRecDepth 100000 in
set_option maxHeartbeats 4000000 in
theorem vX5_side (E : Ev) (c : Nat) (x1 : Int32) (σ : Sto) (post : Int64 → Sto → Prop) (hs_c : gs c = .inr (5, [1, 1])) (h : wX5_side c x1 σ post) : V E 0 mX5_side (pL post) 0 [(0, .ref c), (1, .int x1)] [] σ := by
  unfold wX5_side at h
  refine V_iload_n (pc := 0) 1 dX5_side_0 rfl ?_
  refine V_if_ne (pc := 1) (tgt := 11) dX5_side_1 (by decide) (fun hc => ?_) (fun hc => ?_)
  · replace h := h.1 hc
    refine V_aload_n (pc := 11) 0 dX5_side_11 rfl ?_
    refine V_getL (pc := 12) dX5_side_12 fl_X5_7 hs_c rfl ?_
    exact V_lret dX5_side_15 rfl h
  · replace h := h.2 hc
    refine V_aload_n (pc := 4) 0 dX5_side_4 rfl ?_
    refine V_getL (pc := 5) dX5_side_5 fl_X5_23 hs_c rfl ?_
    refine V_goto (pc := 8) (tgt := 15) dX5_side_8 (by decide) ?_
    exact V_lret dX5_side_15 rfl h
theorem dX9_find_0 : decode cX9_find 0 = .ok (.aload_n 0, 1) := by decide +kernel
theorem dX9_find_1 : decode cX9_find 1 = .ok (.iload_n 1, 1) := by decide +kernel
theorem dX9_find_2 : decode cX9_find 2 = .ok (.putfield 29, 3) := by decide +kernel
theorem dX9_find_5 : decode cX9_find 5 = .ok (.bipush (-10), 2) := by decide +kernel
theorem dX9_find_7 : decode cX9_find 7 = .ok (.iload_n 1, 1) := by decide +kernel
theorem dX9_find_8 : decode cX9_find 8 = .ok (.isub, 1) := by decide +kernel
theorem dX9_find_9 : decode cX9_find 9 = .ok (.ireturn, 1) := by decide +kernel
def wX9_find  (x1 : Int32) (σ : Sto) (post : Int32 → Sto → Prop) : Prop := post (((-10 : Int32)) - x1) (wI σ 9 3 x1)
set_option maxRecDepth 100000 in
set_option maxHeartbeats 4000000 in
theorem vX9_find (E : Ev)  (x1 : Int32) (σ : Sto) (post : Int32 → Sto → Prop)  (h : wX9_find  x1 σ post) : V E 0 mX9_find (pI post) 0 [(0, .ref 9), (1, .int x1)] [] σ := by
  unfold wX9_find at h
  refine V_aload_n (pc := 0) 0 dX9_find_0 rfl ?_
  refine V_iload_n (pc := 1) 1 dX9_find_1 rfl ?_
  refine V_putI (pc := 2) dX9_find_2 fl_X9_29 po_X9_3 sh_9 rfl rfl rfl ?_
  refine V_bipush (pc := 5) (v := -10) dX9_find_5 (by decide) ?_
  refine V_iload_n (pc := 7) 1 dX9_find_7 rfl ?_
  refine V_isub (pc := 8) dX9_find_8 ?_
  exact V_iret dX9_find_9 rfl h
theorem dX9_isLost_0 : decode cX9_isLost 0 = .ok (.aload_n 0, 1) := by decide +kernel
theorem dX9_isLost_1 : decode cX9_isLost 1 = .ok (.getfield 16, 3) := by decide +kernel
theorem dX9_isLost_4 : decode cX9_isLost 4 = .ok (.iload_n 1, 1) := by decide +kernel
theorem dX9_isLost_5 : decode cX9_isLost 5 = .ok (.iaload, 1) := by decide +kernel
theorem dX9_isLost_6 : decode cX9_isLost 6 = .ok (.iconst (-1), 1) := by decide +kernel
theorem dX9_isLost_7 : decode cX9_isLost 7 = .ok (.if_icmp .ne 7, 3) := by decide +kernel
theorem dX9_isLost_10 : decode cX9_isLost 10 = .ok (.iconst 1, 1) := by decide +kernel
theorem dX9_isLost_11 : decode cX9_isLost 11 = .ok (.goto 4, 3) := by decide +kernel
theorem dX9_isLost_14 : decode cX9_isLost 14 = .ok (.iconst 0, 1) := by decide +kernel
theorem dX9_isLost_15 : decode cX9_isLost 15 = .ok (.ireturn, 1) := by decide +kernel
def wX9_isLost  (x1 : Int32) (σ : Sto) (post : Bool → Sto → Prop) : Prop := vp_in x1 4 ∧ (((¬ (σ.1 65 x1.toNatClampNeg) = ((-1 : Int32))) → (post false σ)) ∧ (((σ.1 65 x1.toNatClampNeg) = ((-1 : Int32))) → (post true σ)))
set_option maxRecDepth 100000 in
set_option maxHeartbeats 4000000 in
theorem vX9_isLost (E : Ev)  (x1 : Int32) (σ : Sto) (post : Bool → Sto → Prop)  (h : wX9_isLost  x1 σ post) : V E 0 mX9_isLost (pB post) 0 [(0, .ref 9), (1, .int x1)] [] σ := by
  unfold wX9_isLost at h
  refine V_aload_n (pc := 0) 0 dX9_isLost_0 rfl ?_
  refine V_getR (pc := 1) dX9_isLost_1 fl_X9_16 sh_9 rfl ?_
  refine V_iload_n (pc := 4) 1 dX9_isLost_4 rfl ?_
  obtain ⟨i5, h⟩ := h
  refine V_iald (pc := 5) dX9_isLost_5 sh_65 i5 ?_
  refine V_iconst (pc := 6) (v := -1) dX9_isLost_6 (by decide) ?_
  refine V_icmp_ne (pc := 7) (tgt := 14) dX9_isLost_7 (by decide) (fun hc => ?_) (fun hc => ?_)
  · replace h := h.1 hc
    refine V_iconst (pc := 14) (v := 0) dX9_isLost_14 (by decide) ?_
    exact V_zret false rfl dX9_isLost_15 rfl h
  · replace h := h.2 hc
    refine V_iconst (pc := 10) (v := 1) dX9_isLost_10 (by decide) ?_
    refine V_goto (pc := 11) (tgt := 15) dX9_isLost_11 (by decide) ?_
    exact V_zret true rfl dX9_isLost_15 rfl h
theorem dX9_make_0 : decode cX9_make 0 = .ok (.aload_n 0, 1) := by decide +kernel
theorem dX9_make_1 : decode cX9_make 1 = .ok (.getfield 16, 3) := by decide +kernel
theorem dX9_make_4 : decode cX9_make 4 = .ok (.iload_n 1, 1) := by decide +kernel
theorem dX9_make_5 : decode cX9_make 5 = .ok (.iload_n 2, 1) := by decide +kernel
theorem dX9_make_6 : decode cX9_make 6 = .ok (.iastore, 1) := by decide +kernel
theorem dX9_make_7 : decode cX9_make 7 = .ok (.aload_n 0, 1) := by decide +kernel
theorem dX9_make_8 : decode cX9_make 8 = .ok (.getfield 20, 3) := by decide +kernel
theorem dX9_make_11 : decode cX9_make 11 = .ok (.iload_n 1, 1) := by decide +kernel
theorem dX9_make_12 : decode cX9_make 12 = .ok (.iload_n 3, 1) := by decide +kernel
theorem dX9_make_13 : decode cX9_make 13 = .ok (.iastore, 1) := by decide +kernel
theorem dX9_make_14 : decode cX9_make 14 = .ok (.aload_n 0, 1) := by decide +kernel
theorem dX9_make_15 : decode cX9_make 15 = .ok (.getfield 11, 3) := by decide +kernel
theorem dX9_make_18 : decode cX9_make 18 = .ok (.iload_n 1, 1) := by decide +kernel
theorem dX9_make_19 : decode cX9_make 19 = .ok (.aaload, 1) := by decide +kernel
theorem dX9_make_20 : decode cX9_make 20 = .ok (.iconst 0, 1) := by decide +kernel
theorem dX9_make_21 : decode cX9_make 21 = .ok (.invokestatic 23, 3) := by decide +kernel
theorem dX9_make_24 : decode cX9_make 24 = .ok (.iload_n 3, 1) := by decide +kernel
theorem dX9_make_25 : decode cX9_make 25 = .ok (.ireturn, 1) := by decide +kernel
def wX9_make  (x1 : Int32) (x2 : Int32) (x3 : Int32) (σ : Sto) (post : Int32 → Sto → Prop) : Prop := vp_in x1 4 ∧ (vp_in x1 4 ∧ (vp_in x1 4 ∧ (wJ7_fill_53178 (61 + x1.toNatClampNeg) 60 ((0 : Int32)) (wI (wI σ 65 x1.toNatClampNeg x2) 66 x1.toNatClampNeg x3) (fun (s21 : Sto) => post x3 s21))))
set_option maxRecDepth 100000 in
set_option maxHeartbeats 4000000 in
theorem vX9_make (E : Ev)  (x1 : Int32) (x2 : Int32) (x3 : Int32) (σ : Sto) (post : Int32 → Sto → Prop)  (h : wX9_make  x1 x2 x3 σ post) : V E 1 mX9_make (pI post) 0 [(0, .ref 9), (1, .int x1), (2, .int x2), (3, .int x3)] [] σ := by
  unfold wX9_make at h
  refine V_aload_n (pc := 0) 0 dX9_make_0 rfl ?_
  refine V_getR (pc := 1) dX9_make_1 fl_X9_16 sh_9 rfl ?_
  refine V_iload_n (pc := 4) 1 dX9_make_4 rfl ?_
  refine V_iload_n (pc := 5) 2 dX9_make_5 rfl ?_
  obtain ⟨i6, h⟩ := h
  refine V_iast (pc := 6) dX9_make_6 sh_65 i6 ?_
  refine V_aload_n (pc := 7) 0 dX9_make_7 rfl ?_
  refine V_getR (pc := 8) dX9_make_8 fl_X9_20 sh_9 rfl ?_
  refine V_iload_n (pc := 11) 1 dX9_make_11 rfl ?_
  refine V_iload_n (pc := 12) 3 dX9_make_12 rfl ?_
  obtain ⟨i13, h⟩ := h
  refine V_iast (pc := 13) dX9_make_13 sh_66 i13 ?_
  refine V_aload_n (pc := 14) 0 dX9_make_14 rfl ?_
  refine V_getR (pc := 15) dX9_make_15 fl_X9_11 sh_9 rfl ?_
  refine V_iload_n (pc := 18) 1 dX9_make_18 rfl ?_
  obtain ⟨i19, h⟩ := h
  refine V_aald (pc := 19) dX9_make_19 sh_60 i19 ?_
  refine V_iconst (pc := 20) (v := 0) dX9_make_20 (by decide) ?_
  refine V_callS (pc := 21) (M' := mJ7_fill_53178) dX9_make_21 ml_X9_23 ks_J7_fill_53178 ko_J7_fill_53178 (by decide) rfl (Nat.le_of_ble_eq_true rfl) (Nat.le_of_ble_eq_true rfl) (vJ7_fill_53178 E (61 + x1.toNatClampNeg) 60 ((0 : Int32)) (wI (wI σ 65 x1.toNatClampNeg x2) 66 x1.toNatClampNeg x3) _ (sr_61 (vp_lt i19)) h) (kV (fun s21 h => ?_))
  refine V_iload_n (pc := 24) 3 dX9_make_24 rfl ?_
  exact V_iret dX9_make_25 rfl h
theorem dX9_against_0 : decode cX9_against 0 = .ok (.aload_n 0, 1) := by decide +kernel
theorem dX9_against_1 : decode cX9_against 1 = .ok (.iload_n 1, 1) := by decide +kernel
theorem dX9_against_2 : decode cX9_against 2 = .ok (.invokevirtual 33, 3) := by decide +kernel
theorem dX9_against_5 : decode cX9_against 5 = .ok (.ifCond .eq 5, 3) := by decide +kernel
theorem dX9_against_8 : decode cX9_against 8 = .ok (.iconst 1, 1) := by decide +kernel
theorem dX9_against_9 : decode cX9_against 9 = .ok (.ireturn, 1) := by decide +kernel
theorem dX9_against_10 : decode cX9_against 10 = .ok (.aload_n 0, 1) := by decide +kernel
theorem dX9_against_11 : decode cX9_against 11 = .ok (.getfield 16, 3) := by decide +kernel
theorem dX9_against_14 : decode cX9_against 14 = .ok (.iload_n 1, 1) := by decide +kernel
theorem dX9_against_15 : decode cX9_against 15 = .ok (.iaload, 1) := by decide +kernel
theorem dX9_against_16 : decode cX9_against 16 = .ok (.iload_n 2, 1) := by decide +kernel
theorem dX9_against_17 : decode cX9_against 17 = .ok (.if_icmp .eq 5, 3) := by decide +kernel
theorem dX9_against_20 : decode cX9_against 20 = .ok (.iconst 3, 1) := by decide +kernel
theorem dX9_against_21 : decode cX9_against 21 = .ok (.ireturn, 1) := by decide +kernel
theorem dX9_against_22 : decode cX9_against 22 = .ok (.iload_n 3, 1) := by decide +kernel
theorem dX9_against_23 : decode cX9_against 23 = .ok (.ifCond .lt 13, 3) := by decide +kernel
theorem dX9_against_26 : decode cX9_against 26 = .ok (.iload_n 3, 1) := by decide +kernel
theorem dX9_against_27 : decode cX9_against 27 = .ok (.aload_n 0, 1) := by decide +kernel
theorem dX9_against_28 : decode cX9_against 28 = .ok (.getfield 20, 3) := by decide +kernel
theorem dX9_against_31 : decode cX9_against 31 = .ok (.iload_n 1, 1) := by decide +kernel
theorem dX9_against_32 : decode cX9_against 32 = .ok (.iaload, 1) := by decide +kernel
theorem dX9_against_33 : decode cX9_against 33 = .ok (.if_icmp .lt 7, 3) := by decide +kernel
theorem dX9_against_36 : decode cX9_against 36 = .ok (.iconst 2, 1) := by decide +kernel
theorem dX9_against_37 : decode cX9_against 37 = .ok (.goto 4, 3) := by decide +kernel
theorem dX9_against_40 : decode cX9_against 40 = .ok (.iconst 0, 1) := by decide +kernel
theorem dX9_against_41 : decode cX9_against 41 = .ok (.ireturn, 1) := by decide +kernel
def wX9_against  (x1 : Int32) (x2 : Int32) (x3 : Int32) (σ : Sto) (post : Int32 → Sto → Prop) : Prop := wX9_isLost  x1 σ (fun (r2 : Bool) (s2 : Sto) => ((r2 = false) → (vp_in x1 4 ∧ ((((s2.1 65 x1.toNatClampNeg) = x2) → (((x3 < 0) → (post ((2 : Int32)) s2)) ∧ ((¬ (x3 < 0)) → (vp_in x1 4 ∧ (((x3 < (s2.1 66 x1.toNatClampNeg)) → (post ((0 : Int32)) s2)) ∧ ((¬ (x3 < (s2.1 66 x1.toNatClampNeg))) → (post ((2 : Int32)) s2))))))) ∧ ((¬ ((s2.1 65 x1.toNatClampNeg) = x2)) → (post ((3 : Int32)) s2))))) ∧ ((r2 = true) → (post ((1 : Int32)) s2)))
set_option maxRecDepth 100000 in
set_option maxHeartbeats 4000000 in
theorem vX9_against (E : Ev)  (x1 : Int32) (x2 : Int32) (x3 : Int32) (σ : Sto) (post : Int32 → Sto → Prop)  (h : wX9_against  x1 x2 x3 σ post) : V E 1 mX9_against (pI post) 0 [(0, .ref 9), (1, .int x1), (2, .int x2), (3, .int x3)] [] σ := by
  unfold wX9_against at h
  refine V_aload_n (pc := 0) 0 dX9_against_0 rfl ?_
  refine V_iload_n (pc := 1) 1 dX9_against_1 rfl ?_
  refine V_callV (pc := 2) (M' := mX9_isLost) dX9_against_2 ml_X9_33 kv_X9_isLost ko_X9_isLost sh_9 (by decide) (by decide) rfl rfl (Nat.le_of_ble_eq_true rfl) (Nat.le_of_ble_eq_true rfl) (vX9_isLost E  x1 σ _  h) (kB (fun r2 s2 h => ?_))
  refine V_ifz (pc := 5) (tgt := 10) dX9_against_5 (by decide) (fun hc => ?_) (fun hc => ?_)
  · replace h := h.1 hc
    refine V_aload_n (pc := 10) 0 dX9_against_10 rfl ?_
    refine V_getR (pc := 11) dX9_against_11 fl_X9_16 sh_9 rfl ?_
    refine V_iload_n (pc := 14) 1 dX9_against_14 rfl ?_
    obtain ⟨i15, h⟩ := h
    refine V_iald (pc := 15) dX9_against_15 sh_65 i15 ?_
    refine V_iload_n (pc := 16) 2 dX9_against_16 rfl ?_
    refine V_icmp_eq (pc := 17) (tgt := 22) dX9_against_17 (by decide) (fun hc => ?_) (fun hc => ?_)
    · replace h := h.1 hc
      refine V_iload_n (pc := 22) 3 dX9_against_22 rfl ?_
      refine V_if_lt (pc := 23) (tgt := 36) dX9_against_23 (by decide) (fun hc => ?_) (fun hc => ?_)
      · replace h := h.1 hc
        refine V_iconst (pc := 36) (v := 2) dX9_against_36 (by decide) ?_
        refine V_goto (pc := 37) (tgt := 41) dX9_against_37 (by decide) ?_
        exact V_iret dX9_against_41 rfl h
      · replace h := h.2 hc
        refine V_iload_n (pc := 26) 3 dX9_against_26 rfl ?_
        refine V_aload_n (pc := 27) 0 dX9_against_27 rfl ?_
        refine V_getR (pc := 28) dX9_against_28 fl_X9_20 sh_9 rfl ?_
        refine V_iload_n (pc := 31) 1 dX9_against_31 rfl ?_
        obtain ⟨i32, h⟩ := h
        refine V_iald (pc := 32) dX9_against_32 sh_66 i32 ?_
        refine V_icmp_lt (pc := 33) (tgt := 40) dX9_against_33 (by decide) (fun hc => ?_) (fun hc => ?_)
        · replace h := h.1 hc
          refine V_iconst (pc := 40) (v := 0) dX9_against_40 (by decide) ?_
          exact V_iret dX9_against_41 rfl h
        · replace h := h.2 hc
          refine V_iconst (pc := 36) (v := 2) dX9_against_36 (by decide) ?_
          refine V_goto (pc := 37) (tgt := 41) dX9_against_37 (by decide) ?_
          exact V_iret dX9_against_41 rfl h
    · replace h := h.2 hc
      refine V_iconst (pc := 20) (v := 3) dX9_against_20 (by decide) ?_
      exact V_iret dX9_against_21 rfl h
  · replace h := h.2 hc
    refine V_iconst (pc := 8) (v := 1) dX9_against_8 (by decide) ?_
    exact V_iret dX9_against_9 rfl h
theorem dX9_holds_0 : decode cX9_holds 0 = .ok (.iload_n 2, 1) := by decide +kernel
theorem dX9_holds_1 : decode cX9_holds 1 = .ok (.ifCond .lt 33, 3) := by decide +kernel
theorem dX9_holds_4 : decode cX9_holds 4 = .ok (.iload_n 3, 1) := by decide +kernel
theorem dX9_holds_5 : decode cX9_holds 5 = .ok (.ifCond .lt 29, 3) := by decide +kernel
theorem dX9_holds_8 : decode cX9_holds 8 = .ok (.iload_n 2, 1) := by decide +kernel
theorem dX9_holds_9 : decode cX9_holds 9 = .ok (.aload_n 0, 1) := by decide +kernel
theorem dX9_holds_10 : decode cX9_holds 10 = .ok (.getfield 20, 3) := by decide +kernel
theorem dX9_holds_13 : decode cX9_holds 13 = .ok (.iload_n 1, 1) := by decide +kernel
theorem dX9_holds_14 : decode cX9_holds 14 = .ok (.iaload, 1) := by decide +kernel
theorem dX9_holds_15 : decode cX9_holds 15 = .ok (.if_icmp .gt 19, 3) := by decide +kernel
theorem dX9_holds_18 : decode cX9_holds 18 = .ok (.iload_n 3, 1) := by decide +kernel
theorem dX9_holds_19 : decode cX9_holds 19 = .ok (.aload_n 0, 1) := by decide +kernel
theorem dX9_holds_20 : decode cX9_holds 20 = .ok (.getfield 20, 3) := by decide +kernel
theorem dX9_holds_23 : decode cX9_holds 23 = .ok (.iload_n 1, 1) := by decide +kernel
theorem dX9_holds_24 : decode cX9_holds 24 = .ok (.iaload, 1) := by decide +kernel
theorem dX9_holds_25 : decode cX9_holds 25 = .ok (.iload_n 2, 1) := by decide +kernel
theorem dX9_holds_26 : decode cX9_holds 26 = .ok (.isub, 1) := by decide +kernel
theorem dX9_holds_27 : decode cX9_holds 27 = .ok (.if_icmp .gt 7, 3) := by decide +kernel
theorem dX9_holds_30 : decode cX9_holds 30 = .ok (.iconst 1, 1) := by decide +kernel
theorem dX9_holds_31 : decode cX9_holds 31 = .ok (.goto 4, 3) := by decide +kernel
theorem dX9_holds_34 : decode cX9_holds 34 = .ok (.iconst 0, 1) := by decide +kernel
theorem dX9_holds_35 : decode cX9_holds 35 = .ok (.ireturn, 1) := by decide +kernel
def wX9_holds  (x1 : Int32) (x2 : Int32) (x3 : Int32) (σ : Sto) (post : Bool → Sto → Prop) : Prop := ((x2 < 0) → (post false σ)) ∧ ((¬ (x2 < 0)) → (((x3 < 0) → (post false σ)) ∧ ((¬ (x3 < 0)) → (vp_in x1 4 ∧ ((((σ.1 66 x1.toNatClampNeg) < x2) → (post false σ)) ∧ ((¬ ((σ.1 66 x1.toNatClampNeg) < x2)) → (vp_in x1 4 ∧ (((((σ.1 66 x1.toNatClampNeg) - x2) < x3) → (post false σ)) ∧ ((¬ (((σ.1 66 x1.toNatClampNeg) - x2) < x3)) → (post true σ))))))))))
set_option maxRecDepth 100000 in
set_option maxHeartbeats 4000000 in
theorem vX9_holds (E : Ev)  (x1 : Int32) (x2 : Int32) (x3 : Int32) (σ : Sto) (post : Bool → Sto → Prop)  (h : wX9_holds  x1 x2 x3 σ post) : V E 0 mX9_holds (pB post) 0 [(0, .ref 9), (1, .int x1), (2, .int x2), (3, .int x3)] [] σ := by
  unfold wX9_holds at h
  refine V_iload_n (pc := 0) 2 dX9_holds_0 rfl ?_
  refine V_if_lt (pc := 1) (tgt := 34) dX9_holds_1 (by decide) (fun hc => ?_) (fun hc => ?_)
  · replace h := h.1 hc
    refine V_iconst (pc := 34) (v := 0) dX9_holds_34 (by decide) ?_
    exact V_zret false rfl dX9_holds_35 rfl h
  · replace h := h.2 hc
    refine V_iload_n (pc := 4) 3 dX9_holds_4 rfl ?_
    refine V_if_lt (pc := 5) (tgt := 34) dX9_holds_5 (by decide) (fun hc => ?_) (fun hc => ?_)
    · replace h := h.1 hc
      refine V_iconst (pc := 34) (v := 0) dX9_holds_34 (by decide) ?_
      exact V_zret false rfl dX9_holds_35 rfl h
    · replace h := h.2 hc
      refine V_iload_n (pc := 8) 2 dX9_holds_8 rfl ?_
      refine V_aload_n (pc := 9) 0 dX9_holds_9 rfl ?_
      refine V_getR (pc := 10) dX9_holds_10 fl_X9_20 sh_9 rfl ?_
      refine V_iload_n (pc := 13) 1 dX9_holds_13 rfl ?_
      obtain ⟨i14, h⟩ := h
      refine V_iald (pc := 14) dX9_holds_14 sh_66 i14 ?_
      refine V_icmp_gt (pc := 15) (tgt := 34) dX9_holds_15 (by decide) (fun hc => ?_) (fun hc => ?_)
      · replace h := h.1 hc
        refine V_iconst (pc := 34) (v := 0) dX9_holds_34 (by decide) ?_
        exact V_zret false rfl dX9_holds_35 rfl h
      · replace h := h.2 hc
        refine V_iload_n (pc := 18) 3 dX9_holds_18 rfl ?_
        refine V_aload_n (pc := 19) 0 dX9_holds_19 rfl ?_
        refine V_getR (pc := 20) dX9_holds_20 fl_X9_20 sh_9 rfl ?_
        refine V_iload_n (pc := 23) 1 dX9_holds_23 rfl ?_
        obtain ⟨i24, h⟩ := h
        refine V_iald (pc := 24) dX9_holds_24 sh_66 i24 ?_
        refine V_iload_n (pc := 25) 2 dX9_holds_25 rfl ?_
        refine V_isub (pc := 26) dX9_holds_26 ?_
        refine V_icmp_gt (pc := 27) (tgt := 34) dX9_holds_27 (by decide) (fun hc => ?_) (fun hc => ?_)
        · replace h := h.1 hc
          refine V_iconst (pc := 34) (v := 0) dX9_holds_34 (by decide) ?_
          exact V_zret false rfl dX9_holds_35 rfl h
        · replace h := h.2 hc
          refine V_iconst (pc := 30) (v := 1) dX9_holds_30 (by decide) ?_
          refine V_goto (pc := 31) (tgt := 35) dX9_holds_31 (by decide) ?_
          exact V_zret true rfl dX9_holds_35 rfl h
theorem dX9_store_0 : decode cX9_store 0 = .ok (.aload_n 0, 1) := by decide +kernel
theorem dX9_store_1 : decode cX9_store 1 = .ok (.getfield 16, 3) := by decide +kernel
theorem dX9_store_4 : decode cX9_store 4 = .ok (.iload_n 1, 1) := by decide +kernel
theorem dX9_store_5 : decode cX9_store 5 = .ok (.iaload, 1) := by decide +kernel
theorem dX9_store_6 : decode cX9_store 6 = .ok (.istore 4, 2) := by decide +kernel
theorem dX9_store_8 : decode cX9_store 8 = .ok (.aload_n 0, 1) := by decide +kernel
theorem dX9_store_9 : decode cX9_store 9 = .ok (.getfield 11, 3) := by decide +kernel
theorem dX9_store_12 : decode cX9_store 12 = .ok (.iload_n 1, 1) := by decide +kernel
theorem dX9_store_13 : decode cX9_store 13 = .ok (.aaload, 1) := by decide +kernel
theorem dX9_store_14 : decode cX9_store 14 = .ok (.iload_n 2, 1) := by decide +kernel
theorem dX9_store_15 : decode cX9_store 15 = .ok (.iload 4, 2) := by decide +kernel
theorem dX9_store_17 : decode cX9_store 17 = .ok (.ifCond .ne 8, 3) := by decide +kernel
theorem dX9_store_20 : decode cX9_store 20 = .ok (.iload_n 3, 1) := by decide +kernel
theorem dX9_store_21 : decode cX9_store 21 = .ok (.i2b, 1) := by decide +kernel
theorem dX9_store_22 : decode cX9_store 22 = .ok (.goto 15, 3) := by decide +kernel
theorem dX9_store_25 : decode cX9_store 25 = .ok (.iload 4, 2) := by decide +kernel
theorem dX9_store_27 : decode cX9_store 27 = .ok (.iconst 1, 1) := by decide +kernel
theorem dX9_store_28 : decode cX9_store 28 = .ok (.if_icmp .ne 8, 3) := by decide +kernel
theorem dX9_store_31 : decode cX9_store 31 = .ok (.iload_n 3, 1) := by decide +kernel
theorem dX9_store_32 : decode cX9_store 32 = .ok (.i2s, 1) := by decide +kernel
theorem dX9_store_33 : decode cX9_store 33 = .ok (.goto 4, 3) := by decide +kernel
theorem dX9_store_36 : decode cX9_store 36 = .ok (.iload_n 3, 1) := by decide +kernel
theorem dX9_store_37 : decode cX9_store 37 = .ok (.iastore, 1) := by decide +kernel
theorem dX9_store_38 : decode cX9_store 38 = .ok (.return_, 1) := by decide +kernel
def wX9_store  (x1 : Int32) (x2 : Int32) (x3 : Int32) (σ : Sto) (post : Sto → Prop) : Prop := vp_in x1 4 ∧ (vp_in x1 4 ∧ (((¬ (σ.1 65 x1.toNatClampNeg) = 0) → (((¬ (σ.1 65 x1.toNatClampNeg) = ((1 : Int32))) → (vp_in x2 60 ∧ (post (wI σ (61 + x1.toNatClampNeg) x2.toNatClampNeg x3)))) ∧ (((σ.1 65 x1.toNatClampNeg) = ((1 : Int32))) → (vp_in x2 60 ∧ (post (wI σ (61 + x1.toNatClampNeg) x2.toNatClampNeg x3.toInt16.toInt32)))))) ∧ (((σ.1 65 x1.toNatClampNeg) = 0) → (vp_in x2 60 ∧ (post (wI σ (61 + x1.toNatClampNeg) x2.toNatClampNeg x3.toInt8.toInt32))))))
set_option maxRecDepth 100000 in
set_option maxHeartbeats 4000000 in
theorem vX9_store (E : Ev)  (x1 : Int32) (x2 : Int32) (x3 : Int32) (σ : Sto) (post : Sto → Prop)  (h : wX9_store  x1 x2 x3 σ post) : V E 0 mX9_store (pV post) 0 [(0, .ref 9), (1, .int x1), (2, .int x2), (3, .int x3)] [] σ := by
  unfold wX9_store at h
  refine V_aload_n (pc := 0) 0 dX9_store_0 rfl ?_
  refine V_getR (pc := 1) dX9_store_1 fl_X9_16 sh_9 rfl ?_
  refine V_iload_n (pc := 4) 1 dX9_store_4 rfl ?_
  obtain ⟨i5, h⟩ := h
  refine V_iald (pc := 5) dX9_store_5 sh_65 i5 ?_
  refine V_istore (pc := 6) dX9_store_6 (by decide) ?_
  refine V_aload_n (pc := 8) 1 dX9_store_8 rfl ?_
  refine V_getR (pc := 9) dX9_store_9 fl_X9_11 sh_9 rfl ?_
  refine V_iload_n (pc := 12) 2 dX9_store_12 rfl ?_
  obtain ⟨i13, h⟩ := h
  refine V_aald (pc := 13) dX9_store_13 sh_60 i13 ?_
  refine V_iload_n (pc := 14) 3 dX9_store_14 rfl ?_
  refine V_iload (pc := 15) 0 dX9_store_15 rfl ?_
  refine V_if_ne (pc := 17) (tgt := 25) dX9_store_17 (by decide) (fun hc => ?_) (fun hc => ?_)
  · replace h := h.1 hc
    refine V_iload (pc := 25) 0 dX9_store_25 rfl ?_
    refine V_iconst (pc := 27) (v := 1) dX9_store_27 (by decide) ?_
    refine V_icmp_ne (pc := 28) (tgt := 36) dX9_store_28 (by decide) (fun hc => ?_) (fun hc => ?_)
    · replace h := h.1 hc
      refine V_iload_n (pc := 36) 4 dX9_store_36 rfl ?_
      obtain ⟨i37, h⟩ := h
      refine V_iast (pc := 37) dX9_store_37 (sr_61 (vp_lt i13)) i37 ?_
      exact V_vret dX9_store_38 rfl h
    · replace h := h.2 hc
      refine V_iload_n (pc := 31) 4 dX9_store_31 rfl ?_
      refine V_i2s (pc := 32) dX9_store_32 ?_
      refine V_goto (pc := 33) (tgt := 37) dX9_store_33 (by decide) ?_
      obtain ⟨i37, h⟩ := h
      refine V_iast (pc := 37) dX9_store_37 (sr_61 (vp_lt i13)) i37 ?_
      exact V_vret dX9_store_38 rfl h
  · replace h := h.2 hc
    refine V_iload_n (pc := 20) 4 dX9_store_20 rfl ?_
    refine V_i2b (pc := 21) dX9_store_21 ?_
    refine V_goto (pc := 22) (tgt := 37) dX9_store_22 (by decide) ?_
    obtain ⟨i37, h⟩ := h
    refine V_iast (pc := 37) dX9_store_37 (sr_61 (vp_lt i13)) i37 ?_
    exact V_vret dX9_store_38 rfl h

theorem dX10_pass_0 : decode cX10_pass 0 = .ok (.iload_n 1, 1) := by decide +kernel
theorem dX10_pass_1 : decode cX10_pass 1 = .ok (.iconst 1, 1) := by decide +kernel
theorem dX10_pass_2 : decode cX10_pass 2 = .ok (.if_icmp .lt 24, 3) := by decide +kernel
theorem dX10_pass_5 : decode cX10_pass 5 = .ok (.iload_n 1, 1) := by decide +kernel
theorem dX10_pass_6 : decode cX10_pass 6 = .ok (.bipush 100, 2) := by decide +kernel
theorem dX10_pass_8 : decode cX10_pass 8 = .ok (.if_icmp .gt 18, 3) := by decide +kernel
theorem dX10_pass_11 : decode cX10_pass 11 = .ok (.iload_n 1, 1) := by decide +kernel
theorem dX10_pass_12 : decode cX10_pass 12 = .ok (.sipush 399, 3) := by decide +kernel
theorem dX10_pass_15 : decode cX10_pass 15 = .ok (.aload_n 0, 1) := by decide +kernel
theorem dX10_pass_16 : decode cX10_pass 16 = .ok (.getfield 12, 3) := by decide +kernel
theorem dX10_pass_19 : decode cX10_pass 19 = .ok (.getfield 78, 3) := by decide +kernel
theorem dX10_pass_22 : decode cX10_pass 22 = .ok (.isub, 1) := by decide +kernel
theorem dX10_pass_23 : decode cX10_pass 23 = .ok (.if_icmp .le 6, 3) := by decide +kernel
theorem dX10_pass_26 : decode cX10_pass 26 = .ok (.bipush (-2), 2) := by decide +kernel
theorem dX10_pass_28 : decode cX10_pass 28 = .ok (.ireturn, 1) := by decide +kernel
theorem dX10_pass_29 : decode cX10_pass 29 = .ok (.aload_n 0, 1) := by decide +kernel
theorem dX10_pass_30 : decode cX10_pass 30 = .ok (.getfield 12, 3) := by decide +kernel
theorem dX10_pass_33 : decode cX10_pass 33 = .ok (.dup, 1) := by decide +kernel
theorem dX10_pass_34 : decode cX10_pass 34 = .ok (.getfield 78, 3) := by decide +kernel
theorem dX10_pass_37 : decode cX10_pass 37 = .ok (.iload_n 1, 1) := by decide +kernel
theorem dX10_pass_38 : decode cX10_pass 38 = .ok (.iadd, 1) := by decide +kernel
theorem dX10_pass_39 : decode cX10_pass 39 = .ok (.putfield 78, 3) := by decide +kernel
theorem dX10_pass_42 : decode cX10_pass 42 = .ok (.aload_n 0, 1) := by decide +kernel
theorem dX10_pass_43 : decode cX10_pass 43 = .ok (.getfield 12, 3) := by decide +kernel
theorem dX10_pass_46 : decode cX10_pass 46 = .ok (.getfield 78, 3) := by decide +kernel
theorem dX10_pass_49 : decode cX10_pass 49 = .ok (.ireturn, 1) := by decide +kernel
def wX10_pass  (x1 : Int32) (σ : Sto) (post : Int32 → Sto → Prop) : Prop := ((x1 < ((1 : Int32))) → (post ((-2 : Int32)) σ)) ∧ ((¬ (x1 < ((1 : Int32)))) → (((((100 : Int32)) < x1) → (post ((-2 : Int32)) σ)) ∧ ((¬ (((100 : Int32)) < x1)) → (((x1 ≤ (((399 : Int32)) - (σ.1 1 0))) → (post ((σ.1 1 0) + x1) (wI σ 1 0 ((σ.1 1 0) + x1)))) ∧ ((¬ (x1 ≤ (((399 : Int32)) - (σ.1 1 0)))) → (post ((-2 : Int32)) σ))))))
set_option maxRecDepth 100000 in
set_option maxHeartbeats 4000000 in
theorem vX10_pass (E : Ev)  (x1 : Int32) (σ : Sto) (post : Int32 → Sto → Prop)  (h : wX10_pass  x1 σ post) : V E 0 mX10_pass (pI post) 0 [(0, .ref 0), (1, .int x1)] [] σ := by
  unfold wX10_pass at h
  refine V_iload_n (pc := 0) 1 dX10_pass_0 rfl ?_
  refine V_iconst (pc := 1) (v := 1) dX10_pass_1 (by decide) ?_
  refine V_icmp_lt (pc := 2) (tgt := 26) dX10_pass_2 (by decide) (fun hc => ?_) (fun hc => ?_)
  · replace h := h.1 hc
    refine V_bipush (pc := 26) (v := -2) dX10_pass_26 (by decide) ?_
    exact V_iret dX10_pass_28 rfl h
  · replace h := h.2 hc
    refine V_iload_n (pc := 5) 1 dX10_pass_5 rfl ?_
    refine V_bipush (pc := 6) (v := 100) dX10_pass_6 (by decide) ?_
    refine V_icmp_gt (pc := 8) (tgt := 26) dX10_pass_8 (by decide) (fun hc => ?_) (fun hc => ?_)
    · replace h := h.1 hc
      refine V_bipush (pc := 26) (v := -2) dX10_pass_26 (by decide) ?_
      exact V_iret dX10_pass_28 rfl h
    · replace h := h.2 hc
      refine V_iload_n (pc := 11) 1 dX10_pass_11 rfl ?_
      refine V_sipush (pc := 12) (v := 399) dX10_pass_12 (by decide) ?_
      refine V_aload_n (pc := 15) 0 dX10_pass_15 rfl ?_
      refine V_getR (pc := 16) dX10_pass_16 fl_X10_12 sh_0 rfl ?_
      refine V_getI (pc := 19) dX10_pass_19 fl_X10_78 sh_1 rfl ?_
      refine V_isub (pc := 22) dX10_pass_22 ?_
      refine V_icmp_le (pc := 23) (tgt := 29) dX10_pass_23 (by decide) (fun hc => ?_) (fun hc => ?_)
      · replace h := h.1 hc
        refine V_aload_n (pc := 29) 0 dX10_pass_29 rfl ?_
        refine V_getR (pc := 30) dX10_pass_30 fl_X10_12 sh_0 rfl ?_
        refine V_dup (pc := 33) dX10_pass_33 rfl ?_
        refine V_getI (pc := 34) dX10_pass_34 fl_X10_78 sh_1 rfl ?_
        refine V_iload_n (pc := 37) 1 dX10_pass_37 rfl ?_
        refine V_iadd (pc := 38) dX10_pass_38 ?_
        refine V_putI (pc := 39) dX10_pass_39 fl_X10_78 po_X1_0 sh_1 rfl rfl rfl ?_
        refine V_aload_n (pc := 42) 0 dX10_pass_42 rfl ?_
        refine V_getR (pc := 43) dX10_pass_43 fl_X10_12 sh_0 rfl ?_
        refine V_getI (pc := 46) dX10_pass_46 fl_X10_78 sh_1 rfl ?_
        exact V_iret dX10_pass_49 rfl h
      · replace h := h.2 hc
        refine V_bipush (pc := 26) (v := -2) dX10_pass_26 (by decide) ?_
        exact V_iret dX10_pass_28 rfl h
theorem dX10_house_0 : decode cX10_house 0 = .ok (.iload_n 1, 1) := by decide +kernel
theorem dX10_house_1 : decode cX10_house 1 = .ok (.ifCond .lt 8, 3) := by decide +kernel
theorem dX10_house_4 : decode cX10_house 4 = .ok (.iload_n 1, 1) := by decide +kernel
theorem dX10_house_5 : decode cX10_house 5 = .ok (.iconst 2, 1) := by decide +kernel
theorem dX10_house_6 : decode cX10_house 6 = .ok (.if_icmp .lt 6, 3) := by decide +kernel
theorem dX10_house_9 : decode cX10_house 9 = .ok (.bipush (-2), 2) := by decide +kernel
theorem dX10_house_11 : decode cX10_house 11 = .ok (.ireturn, 1) := by decide +kernel
theorem dX10_house_12 : decode cX10_house 12 = .ok (.aload_n 0, 1) := by decide +kernel
theorem dX10_house_13 : decode cX10_house 13 = .ok (.getfield 12, 3) := by decide +kernel
theorem dX10_house_16 : decode cX10_house 16 = .ok (.getfield 82, 3) := by decide +kernel
theorem dX10_house_19 : decode cX10_house 19 = .ok (.bipush 14, 2) := by decide +kernel
theorem dX10_house_21 : decode cX10_house 21 = .ok (.if_icmp .lt 6, 3) := by decide +kernel
theorem dX10_house_24 : decode cX10_house 24 = .ok (.bipush (-4), 2) := by decide +kernel
theorem dX10_house_26 : decode cX10_house 26 = .ok (.ireturn, 1) := by decide +kernel
theorem dX10_house_27 : decode cX10_house 27 = .ok (.aload_n 0, 1) := by decide +kernel
theorem dX10_house_28 : decode cX10_house 28 = .ok (.getfield 12, 3) := by decide +kernel
theorem dX10_house_31 : decode cX10_house 31 = .ok (.iload_n 1, 1) := by decide +kernel
theorem dX10_house_32 : decode cX10_house 32 = .ok (.invokevirtual 85, 3) := by decide +kernel
theorem dX10_house_35 : decode cX10_house 35 = .ok (.ireturn, 1) := by decide +kernel
def wX10_house  (x1 : Int32) (σ : Sto) (post : Int32 → Sto → Prop) : Prop := ((x1 < 0) → (post ((-2 : Int32)) σ)) ∧ ((¬ (x1 < 0)) → (((x1 < ((2 : Int32))) → ((((σ.1 1 2) < ((14 : Int32))) → (wX1_addHouse  x1 σ (fun (r32 : Int32) (s32 : Sto) => post r32 s32))) ∧ ((¬ ((σ.1 1 2) < ((14 : Int32)))) → (post ((-4 : Int32)) σ)))) ∧ ((¬ (x1 < ((2 : Int32)))) → (post ((-2 : Int32)) σ))))
set_option maxRecDepth 100000 in
set_option maxHeartbeats 4000000 in
theorem vX10_house (E : Ev)  (x1 : Int32) (σ : Sto) (post : Int32 → Sto → Prop)  (h : wX10_house  x1 σ post) : V E 1 mX10_house (pI post) 0 [(0, .ref 0), (1, .int x1)] [] σ := by
  unfold wX10_house at h
  refine V_iload_n (pc := 0) 1 dX10_house_0 rfl ?_
  refine V_if_lt (pc := 1) (tgt := 9) dX10_house_1 (by decide) (fun hc => ?_) (fun hc => ?_)
  · replace h := h.1 hc
    refine V_bipush (pc := 9) (v := -2) dX10_house_9 (by decide) ?_
    exact V_iret dX10_house_11 rfl h
  · replace h := h.2 hc
    refine V_iload_n (pc := 4) 1 dX10_house_4 rfl ?_
    refine V_iconst (pc := 5) (v := 2) dX10_house_5 (by decide) ?_
    refine V_icmp_lt (pc := 6) (tgt := 12) dX10_house_6 (by decide) (fun hc => ?_) (fun hc => ?_)
    · replace h := h.1 hc
      refine V_aload_n (pc := 12) 0 dX10_house_12 rfl ?_
      refine V_getR (pc := 13) dX10_house_13 fl_X10_12 sh_0 rfl ?_
      refine V_getI (pc := 16) dX10_house_16 fl_X10_82 sh_1 rfl ?_
      refine V_bipush (pc := 19) (v := 14) dX10_house_19 (by decide) ?_
      refine V_icmp_lt (pc := 21) (tgt := 27) dX10_house_21 (by decide) (fun hc => ?_) (fun hc => ?_)
      · replace h := h.1 hc
        refine V_aload_n (pc := 27) 0 dX10_house_27 rfl ?_
        refine V_getR (pc := 28) dX10_house_28 fl_X10_12 sh_0 rfl ?_
        refine V_iload_n (pc := 31) 1 dX10_house_31 rfl ?_
        refine V_callV (pc := 32) (M' := mX1_addHouse) dX10_house_32 ml_X10_85 kv_X1_addHouse ko_X1_addHouse sh_1 (by decide) (by decide) rfl rfl (Nat.le_of_ble_eq_true rfl) (Nat.le_of_ble_eq_true rfl) (vX1_addHouse E  x1 σ _  h) (kI (fun r32 s32 h => ?_))
        exact V_iret dX10_house_35 rfl h
      · replace h := h.2 hc
        refine V_bipush (pc := 24) (v := -4) dX10_house_24 (by decide) ?_
        exact V_iret dX10_house_26 rfl h
    · replace h := h.2 hc
      refine V_bipush (pc := 9) (v := -2) dX10_house_9 (by decide) ?_
      exact V_iret dX10_house_11 rfl h
theorem dX10_noHouse_0 : decode cX10_noHouse 0 = .ok (.iload_n 1, 1) := by decide +kernel
theorem dX10_noHouse_1 : decode cX10_noHouse 1 = .ok (.ifCond .lt 14, 3) := by decide +kernel
theorem dX10_noHouse_4 : decode cX10_noHouse 4 = .ok (.iload_n 1, 1) := by decide +kernel
theorem dX10_noHouse_5 : decode cX10_noHouse 5 = .ok (.aload_n 0, 1) := by decide +kernel
theorem dX10_noHouse_6 : decode cX10_noHouse 6 = .ok (.getfield 12, 3) := by decide +kernel
theorem dX10_noHouse_9 : decode cX10_noHouse 9 = .ok (.getfield 82, 3) := by decide +kernel
theorem dX10_noHouse_12 : decode cX10_noHouse 12 = .ok (.if_icmp .lt 7, 3) := by decide +kernel
theorem dX10_noHouse_15 : decode cX10_noHouse 15 = .ok (.iconst 1, 1) := by decide +kernel
theorem dX10_noHouse_16 : decode cX10_noHouse 16 = .ok (.goto 4, 3) := by decide +kernel
theorem dX10_noHouse_19 : decode cX10_noHouse 19 = .ok (.iconst 0, 1) := by decide +kernel
theorem dX10_noHouse_20 : decode cX10_noHouse 20 = .ok (.ireturn, 1) := by decide +kernel
def wX10_noHouse  (x1 : Int32) (σ : Sto) (post : Bool → Sto → Prop) : Prop := ((x1 < 0) → (post true σ)) ∧ ((¬ (x1 < 0)) → (((x1 < (σ.1 1 2)) → (post false σ)) ∧ ((¬ (x1 < (σ.1 1 2))) → (post true σ))))
set_option maxRecDepth 100000 in
set_option maxHeartbeats 4000000 in
theorem vX10_noHouse (E : Ev)  (x1 : Int32) (σ : Sto) (post : Bool → Sto → Prop)  (h : wX10_noHouse  x1 σ post) : V E 0 mX10_noHouse (pB post) 0 [(0, .ref 0), (1, .int x1)] [] σ := by
  unfold wX10_noHouse at h
  refine V_iload_n (pc := 0) 1 dX10_noHouse_0 rfl ?_
  refine V_if_lt (pc := 1) (tgt := 15) dX10_noHouse_1 (by decide) (fun hc => ?_) (fun hc => ?_)
  · replace h := h.1 hc
    refine V_iconst (pc := 15) (v := 1) dX10_noHouse_15 (by decide) ?_
    refine V_goto (pc := 16) (tgt := 20) dX10_noHouse_16 (by decide) ?_
    exact V_zret true rfl dX10_noHouse_20 rfl h
  · replace h := h.2 hc
    refine V_iload_n (pc := 4) 1 dX10_noHouse_4 rfl ?_
    refine V_aload_n (pc := 5) 0 dX10_noHouse_5 rfl ?_
    refine V_getR (pc := 6) dX10_noHouse_6 fl_X10_12 sh_0 rfl ?_
    refine V_getI (pc := 9) dX10_noHouse_9 fl_X10_82 sh_1 rfl ?_
    refine V_icmp_lt (pc := 12) (tgt := 19) dX10_noHouse_12 (by decide) (fun hc => ?_) (fun hc => ?_)
    · replace h := h.1 hc
      refine V_iconst (pc := 19) (v := 0) dX10_noHouse_19 (by decide) ?_
      exact V_zret false rfl dX10_noHouse_20 rfl h
    · replace h := h.2 hc
      refine V_iconst (pc := 15) (v := 1) dX10_noHouse_15 (by decide) ?_
      refine V_goto (pc := 16) (tgt := 20) dX10_noHouse_16 (by decide) ?_
      exact V_zret true rfl dX10_noHouse_20 rfl h
theorem dX10_doubt_0 : decode cX10_doubt 0 = .ok (.aload_n 0, 1) := by decide +kernel
theorem dX10_doubt_1 : decode cX10_doubt 1 = .ok (.iload_n 1, 1) := by decide +kernel
theorem dX10_doubt_2 : decode cX10_doubt 2 = .ok (.invokevirtual 89, 3) := by decide +kernel
theorem dX10_doubt_5 : decode cX10_doubt 5 = .ok (.ifCond .ne 15, 3) := by decide +kernel
theorem dX10_doubt_8 : decode cX10_doubt 8 = .ok (.iload_n 2, 1) := by decide +kernel
theorem dX10_doubt_9 : decode cX10_doubt 9 = .ok (.iconst 1, 1) := by decide +kernel
theorem dX10_doubt_10 : decode cX10_doubt 10 = .ok (.if_icmp .lt 10, 3) := by decide +kernel
theorem dX10_doubt_13 : decode cX10_doubt 13 = .ok (.iload_n 2, 1) := by decide +kernel
theorem dX10_doubt_14 : decode cX10_doubt 14 = .ok (.sipush 1000, 3) := by decide +kernel
theorem dX10_doubt_17 : decode cX10_doubt 17 = .ok (.if_icmp .le 6, 3) := by decide +kernel
theorem dX10_doubt_20 : decode cX10_doubt 20 = .ok (.bipush (-2), 2) := by decide +kernel
theorem dX10_doubt_22 : decode cX10_doubt 22 = .ok (.ireturn, 1) := by decide +kernel
theorem dX10_doubt_23 : decode cX10_doubt 23 = .ok (.aload_n 0, 1) := by decide +kernel
theorem dX10_doubt_24 : decode cX10_doubt 24 = .ok (.getfield 12, 3) := by decide +kernel
theorem dX10_doubt_27 : decode cX10_doubt 27 = .ok (.iload_n 1, 1) := by decide +kernel
theorem dX10_doubt_28 : decode cX10_doubt 28 = .ok (.iload_n 2, 1) := by decide +kernel
theorem dX10_doubt_29 : decode cX10_doubt 29 = .ok (.invokevirtual 93, 3) := by decide +kernel
theorem dX10_doubt_32 : decode cX10_doubt 32 = .ok (.ireturn, 1) := by decide +kernel
def wX10_doubt  (x1 : Int32) (x2 : Int32) (σ : Sto) (post : Int32 → Sto → Prop) : Prop := wX10_noHouse  x1 σ (fun (r2 : Bool) (s2 : Sto) => ((r2 = true) → (post ((-2 : Int32)) s2)) ∧ ((r2 = false) → (((x2 < ((1 : Int32))) → (post ((-2 : Int32)) s2)) ∧ ((¬ (x2 < ((1 : Int32)))) → (((x2 ≤ ((1000 : Int32))) → (wX1_changeDoubt  x1 x2 s2 (fun (r29 : Int32) (s29 : Sto) => post r29 s29))) ∧ ((¬ (x2 ≤ ((1000 : Int32)))) → (post ((-2 : Int32)) s2)))))))
set_option maxRecDepth 100000 in
set_option maxHeartbeats 4000000 in
theorem vX10_doubt (E : Ev)  (x1 : Int32) (x2 : Int32) (σ : Sto) (post : Int32 → Sto → Prop)  (h : wX10_doubt  x1 x2 σ post) : V E 1 mX10_doubt (pI post) 0 [(0, .ref 0), (1, .int x1), (2, .int x2)] [] σ := by
  unfold wX10_doubt at h
  refine V_aload_n (pc := 0) 0 dX10_doubt_0 rfl ?_
  refine V_iload_n (pc := 1) 1 dX10_doubt_1 rfl ?_
  refine V_callV (pc := 2) (M' := mX10_noHouse) dX10_doubt_2 ml_X10_89 kv_X10_noHouse ko_X10_noHouse sh_0 (by decide) (by decide) rfl rfl (Nat.le_of_ble_eq_true rfl) (Nat.le_of_ble_eq_true rfl) (vX10_noHouse E  x1 σ _  h) (kB (fun r2 s2 h => ?_))
  refine V_ifnz (pc := 5) (tgt := 20) dX10_doubt_5 (by decide) (fun hc => ?_) (fun hc => ?_)
  · replace h := h.1 hc
    refine V_bipush (pc := 20) (v := -2) dX10_doubt_20 (by decide) ?_
    exact V_iret dX10_doubt_22 rfl h
  · replace h := h.2 hc
    refine V_iload_n (pc := 8) 2 dX10_doubt_8 rfl ?_
    refine V_iconst (pc := 9) (v := 1) dX10_doubt_9 (by decide) ?_
    refine V_icmp_lt (pc := 10) (tgt := 20) dX10_doubt_10 (by decide) (fun hc => ?_) (fun hc => ?_)
    · replace h := h.1 hc
      refine V_bipush (pc := 20) (v := -2) dX10_doubt_20 (by decide) ?_
      exact V_iret dX10_doubt_22 rfl h
    · replace h := h.2 hc
      refine V_iload_n (pc := 13) 2 dX10_doubt_13 rfl ?_
      refine V_sipush (pc := 14) (v := 1000) dX10_doubt_14 (by decide) ?_
      refine V_icmp_le (pc := 17) (tgt := 23) dX10_doubt_17 (by decide) (fun hc => ?_) (fun hc => ?_)
      · replace h := h.1 hc
        refine V_aload_n (pc := 23) 0 dX10_doubt_23 rfl ?_
        refine V_getR (pc := 24) dX10_doubt_24 fl_X10_12 sh_0 rfl ?_
        refine V_iload_n (pc := 27) 1 dX10_doubt_27 rfl ?_
        refine V_iload_n (pc := 28) 2 dX10_doubt_28 rfl ?_
        refine V_callV (pc := 29) (M' := mX1_changeDoubt) dX10_doubt_29 ml_X10_93 kv_X1_changeDoubt ko_X1_changeDoubt sh_1 (by decide) (by decide) rfl rfl (Nat.le_of_ble_eq_true rfl) (Nat.le_of_ble_eq_true rfl) (vX1_changeDoubt E  x1 x2 s2 _  h) (kI (fun r29 s29 h => ?_))
        exact V_iret dX10_doubt_32 rfl h
      · replace h := h.2 hc
        refine V_bipush (pc := 20) (v := -2) dX10_doubt_20 (by decide) ?_
        exact V_iret dX10_doubt_22 rfl h
theorem dX10_tell_0 : decode cX10_tell 0 = .ok (.aload_n 0, 1) := by decide +kernel
theorem dX10_tell_1 : decode cX10_tell 1 = .ok (.iload_n 1, 1) := by decide +kernel
theorem dX10_tell_2 : decode cX10_tell 2 = .ok (.invokevirtual 89, 3) := by decide +kernel
theorem dX10_tell_5 : decode cX10_tell 5 = .ok (.ifCond .ne 41, 3) := by decide +kernel
theorem dX10_tell_8 : decode cX10_tell 8 = .ok (.iload_n 2, 1) := by decide +kernel
theorem dX10_tell_9 : decode cX10_tell 9 = .ok (.invokestatic 152, 3) := by decide +kernel
theorem dX10_tell_12 : decode cX10_tell 12 = .ok (.ifCond .ne 34, 3) := by decide +kernel
theorem dX10_tell_15 : decode cX10_tell 15 = .ok (.iload_n 3, 1) := by decide +kernel
theorem dX10_tell_16 : decode cX10_tell 16 = .ok (.ifCond .lt 30, 3) := by decide +kernel
theorem dX10_tell_19 : decode cX10_tell 19 = .ok (.iload_n 3, 1) := by decide +kernel
theorem dX10_tell_20 : decode cX10_tell 20 = .ok (.aload_n 0, 1) := by decide +kernel
theorem dX10_tell_21 : decode cX10_tell 21 = .ok (.getfield 12, 3) := by decide +kernel
theorem dX10_tell_24 : decode cX10_tell 24 = .ok (.getfield 78, 3) := by decide +kernel
theorem dX10_tell_27 : decode cX10_tell 27 = .ok (.if_icmp .gt 19, 3) := by decide +kernel
theorem dX10_tell_30 : decode cX10_tell 30 = .ok (.iload 4, 2) := by decide +kernel
theorem dX10_tell_32 : decode cX10_tell 32 = .ok (.sipush (-20000), 3) := by decide +kernel
theorem dX10_tell_35 : decode cX10_tell 35 = .ok (.if_icmp .lt 11, 3) := by decide +kernel
theorem dX10_tell_38 : decode cX10_tell 38 = .ok (.iload 4, 2) := by decide +kernel
theorem dX10_tell_40 : decode cX10_tell 40 = .ok (.sipush 20000, 3) := by decide +kernel
theorem dX10_tell_43 : decode cX10_tell 43 = .ok (.if_icmp .le 6, 3) := by decide +kernel
theorem dX10_tell_46 : decode cX10_tell 46 = .ok (.bipush (-2), 2) := by decide +kernel
theorem dX10_tell_48 : decode cX10_tell 48 = .ok (.ireturn, 1) := by decide +kernel
theorem dX10_tell_49 : decode cX10_tell 49 = .ok (.aload_n 0, 1) := by decide +kernel
theorem dX10_tell_50 : decode cX10_tell 50 = .ok (.getfield 12, 3) := by decide +kernel
theorem dX10_tell_53 : decode cX10_tell 53 = .ok (.getfield 294, 3) := by decide +kernel
theorem dX10_tell_56 : decode cX10_tell 56 = .ok (.sipush 150, 3) := by decide +kernel
theorem dX10_tell_59 : decode cX10_tell 59 = .ok (.if_icmp .ge 17, 3) := by decide +kernel
theorem dX10_tell_62 : decode cX10_tell 62 = .ok (.aload_n 0, 1) := by decide +kernel
theorem dX10_tell_63 : decode cX10_tell 63 = .ok (.getfield 12, 3) := by decide +kernel
theorem dX10_tell_66 : decode cX10_tell 66 = .ok (.iload_n 1, 1) := by decide +kernel
theorem dX10_tell_67 : decode cX10_tell 67 = .ok (.iload_n 2, 1) := by decide +kernel
theorem dX10_tell_68 : decode cX10_tell 68 = .ok (.invokevirtual 349, 3) := by decide +kernel
theorem dX10_tell_71 : decode cX10_tell 71 = .ok (.bipush 8, 2) := by decide +kernel
theorem dX10_tell_73 : decode cX10_tell 73 = .ok (.if_icmp .lt 6, 3) := by decide +kernel
theorem dX10_tell_76 : decode cX10_tell 76 = .ok (.bipush (-4), 2) := by decide +kernel
theorem dX10_tell_78 : decode cX10_tell 78 = .ok (.ireturn, 1) := by decide +kernel
theorem dX10_tell_79 : decode cX10_tell 79 = .ok (.aload_n 0, 1) := by decide +kernel
theorem dX10_tell_80 : decode cX10_tell 80 = .ok (.getfield 12, 3) := by decide +kernel
theorem dX10_tell_83 : decode cX10_tell 83 = .ok (.iload_n 1, 1) := by decide +kernel
theorem dX10_tell_84 : decode cX10_tell 84 = .ok (.iload_n 2, 1) := by decide +kernel
theorem dX10_tell_85 : decode cX10_tell 85 = .ok (.iload_n 3, 1) := by decide +kernel
theorem dX10_tell_86 : decode cX10_tell 86 = .ok (.iload 4, 2) := by decide +kernel
theorem dX10_tell_88 : decode cX10_tell 88 = .ok (.invokevirtual 352, 3) := by decide +kernel
theorem dX10_tell_91 : decode cX10_tell 91 = .ok (.istore 5, 2) := by decide +kernel
theorem dX10_tell_93 : decode cX10_tell 93 = .ok (.aload_n 0, 1) := by decide +kernel
theorem dX10_tell_94 : decode cX10_tell 94 = .ok (.getfield 23, 3) := by decide +kernel
theorem dX10_tell_97 : decode cX10_tell 97 = .ok (.iload_n 2, 1) := by decide +kernel
theorem dX10_tell_98 : decode cX10_tell 98 = .ok (.invokevirtual 127, 3) := by decide +kernel
theorem dX10_tell_101 : decode cX10_tell 101 = .ok (.iload 5, 2) := by decide +kernel
theorem dX10_tell_103 : decode cX10_tell 103 = .ok (.ireturn, 1) := by decide +kernel
def wX10_tell  (x1 : Int32) (x2 : Int32) (x3 : Int32) (x4 : Int32) (σ : Sto) (post : Int32 → Sto → Prop) : Prop := wX10_noHouse  x1 σ (fun (r2 : Bool) (s2 : Sto) => ((r2 = true) → (post ((-2 : Int32)) s2)) ∧ ((r2 = false) → (wX10_noPiece  x2 s2 (fun (r9 : Bool) (s9 : Sto) => ((r9 = true) → (post ((-2 : Int32)) s9)) ∧ ((r9 = false) → (((x3 < 0) → (post ((-2 : Int32)) s9)) ∧ ((¬ (x3 < 0)) → ((((s9.1 1 0) < x3) → (post ((-2 : Int32)) s9)) ∧ ((¬ ((s9.1 1 0) < x3)) → (((x4 < ((-20000 : Int32))) → (post ((-2 : Int32)) s9)) ∧ ((¬ (x4 < ((-20000 : Int32)))) → (((x4 ≤ ((20000 : Int32))) → (((((150 : Int32)) ≤ (s9.1 1 5)) → (post ((-4 : Int32)) s9)) ∧ ((¬ (((150 : Int32)) ≤ (s9.1 1 5))) → (wX1_readingsOf  x1 x2 s9 (fun (r68 : Int32) (s68 : Sto) => ((r68 < ((8 : Int32))) → (wX1_addReading  x1 x2 x3 x4 s68 (fun (r88 : Int32) (s88 : Sto) => wX7_renew  x2 s88 (fun (s98 : Sto) => post r88 s98)))) ∧ ((¬ (r68 < ((8 : Int32)))) → (post ((-4 : Int32)) s68))))))) ∧ ((¬ (x4 ≤ ((20000 : Int32)))) → (post ((-2 : Int32)) s9))))))))))))))
set_option maxRecDepth 100000 in
set_option maxHeartbeats 4000000 in
theorem vX10_tell (E : Ev)  (x1 : Int32) (x2 : Int32) (x3 : Int32) (x4 : Int32) (σ : Sto) (post : Int32 → Sto → Prop)  (h : wX10_tell  x1 x2 x3 x4 σ post) : V E 5 mX10_tell (pI post) 0 [(0, .ref 0), (1, .int x1), (2, .int x2), (3, .int x3), (4, .int x4)] [] σ := by
  unfold wX10_tell at h
  refine V_aload_n (pc := 0) 0 dX10_tell_0 rfl ?_
  refine V_iload_n (pc := 1) 1 dX10_tell_1 rfl ?_
  refine V_callV (pc := 2) (M' := mX10_noHouse) dX10_tell_2 ml_X10_89 kv_X10_noHouse ko_X10_noHouse sh_0 (by decide) (by decide) rfl rfl (Nat.le_of_ble_eq_true rfl) (Nat.le_of_ble_eq_true rfl) (vX10_noHouse E  x1 σ _  h) (kB (fun r2 s2 h => ?_))
  refine V_ifnz (pc := 5) (tgt := 46) dX10_tell_5 (by decide) (fun hc => ?_) (fun hc => ?_)
  · replace h := h.1 hc
    refine V_bipush (pc := 46) (v := -2) dX10_tell_46 (by decide) ?_
    exact V_iret dX10_tell_48 rfl h
  · replace h := h.2 hc
    refine V_iload_n (pc := 8) 2 dX10_tell_8 rfl ?_
    refine V_callS (pc := 9) (M' := mX10_noPiece) dX10_tell_9 ml_X10_152 ks_X10_noPiece ko_X10_noPiece (by decide) rfl (Nat.le_of_ble_eq_true rfl) (Nat.le_of_ble_eq_true rfl) (vX10_noPiece E  x2 s2 _  h) (kB (fun r9 s9 h => ?_))
    refine V_ifnz (pc := 12) (tgt := 46) dX10_tell_12 (by decide) (fun hc => ?_) (fun hc => ?_)
    · replace h := h.1 hc
      refine V_bipush (pc := 46) (v := -2) dX10_tell_46 (by decide) ?_
      exact V_iret dX10_tell_48 rfl h
    · replace h := h.2 hc
      refine V_iload_n (pc := 15) 3 dX10_tell_15 rfl ?_
      refine V_if_lt (pc := 16) (tgt := 46) dX10_tell_16 (by decide) (fun hc => ?_) (fun hc => ?_)
      · replace h := h.1 hc
        refine V_bipush (pc := 46) (v := -2) dX10_tell_46 (by decide) ?_
        exact V_iret dX10_tell_48 rfl h
      · replace h := h.2 hc
        refine V_iload_n (pc := 19) 3 dX10_tell_19 rfl ?_
        refine V_aload_n (pc := 20) 0 dX10_tell_20 rfl ?_
        refine V_getR (pc := 21) dX10_tell_21 fl_X10_12 sh_0 rfl ?_
        refine V_getI (pc := 24) dX10_tell_24 fl_X10_78 sh_1 rfl ?_
        refine V_icmp_gt (pc := 27) (tgt := 46) dX10_tell_27 (by decide) (fun hc => ?_) (fun hc => ?_)
        · replace h := h.1 hc
          refine V_bipush (pc := 46) (v := -2) dX10_tell_46 (by decide) ?_
          exact V_iret dX10_tell_48 rfl h
        · replace h := h.2 hc
          refine V_iload (pc := 30) 4 dX10_tell_30 rfl ?_
          refine V_sipush (pc := 32) (v := -20000) dX10_tell_32 (by decide) ?_
          refine V_icmp_lt (pc := 35) (tgt := 46) dX10_tell_35 (by decide) (fun hc => ?_) (fun hc => ?_)
          · replace h := h.1 hc
            refine V_bipush (pc := 46) (v := -2) dX10_tell_46 (by decide) ?_
            exact V_iret dX10_tell_48 rfl h
          · replace h := h.2 hc
            refine V_iload (pc := 38) 4 dX10_tell_38 rfl ?_
            refine V_sipush (pc := 40) (v := 20000) dX10_tell_40 (by decide) ?_
            refine V_icmp_le (pc := 43) (tgt := 49) dX10_tell_43 (by decide) (fun hc => ?_) (fun hc => ?_)
            · replace h := h.1 hc
              refine V_aload_n (pc := 49) 0 dX10_tell_49 rfl ?_
              refine V_getR (pc := 50) dX10_tell_50 fl_X10_12 sh_0 rfl ?_
              refine V_getI (pc := 53) dX10_tell_53 fl_X10_294 sh_1 rfl ?_
              refine V_sipush (pc := 56) (v := 150) dX10_tell_56 (by decide) ?_
              refine V_icmp_ge (pc := 59) (tgt := 76) dX10_tell_59 (by decide) (fun hc => ?_) (fun hc => ?_)
              · replace h := h.1 hc
                refine V_bipush (pc := 76) (v := -4) dX10_tell_76 (by decide) ?_
                exact V_iret dX10_tell_78 rfl h
              · replace h := h.2 hc
                refine V_aload_n (pc := 62) 0 dX10_tell_62 rfl ?_
                refine V_getR (pc := 63) dX10_tell_63 fl_X10_12 sh_0 rfl ?_
                refine V_iload_n (pc := 66) 1 dX10_tell_66 rfl ?_
                refine V_iload_n (pc := 67) 2 dX10_tell_67 rfl ?_
                refine V_callV (pc := 68) (M' := mX1_readingsOf) dX10_tell_68 ml_X10_349 kv_X1_readingsOf ko_X1_readingsOf sh_1 (by decide) (by decide) rfl rfl (Nat.le_of_ble_eq_true rfl) (Nat.le_of_ble_eq_true rfl) (vX1_readingsOf E  x1 x2 s9 _  h) (kI (fun r68 s68 h => ?_))
                refine V_bipush (pc := 71) (v := 8) dX10_tell_71 (by decide) ?_
                refine V_icmp_lt (pc := 73) (tgt := 79) dX10_tell_73 (by decide) (fun hc => ?_) (fun hc => ?_)
                · replace h := h.1 hc
                  refine V_aload_n (pc := 79) 0 dX10_tell_79 rfl ?_
                  refine V_getR (pc := 80) dX10_tell_80 fl_X10_12 sh_0 rfl ?_
                  refine V_iload_n (pc := 83) 1 dX10_tell_83 rfl ?_
                  refine V_iload_n (pc := 84) 2 dX10_tell_84 rfl ?_
                  refine V_iload_n (pc := 85) 3 dX10_tell_85 rfl ?_
                  refine V_iload (pc := 86) 4 dX10_tell_86 rfl ?_
                  refine V_callV (pc := 88) (M' := mX1_addReading) dX10_tell_88 ml_X10_352 kv_X1_addReading ko_X1_addReading sh_1 (by decide) (by decide) rfl rfl (Nat.le_of_ble_eq_true rfl) (Nat.le_of_ble_eq_true rfl) (vX1_addReading E  x1 x2 x3 x4 s68 _  h) (kI (fun r88 s88 h => ?_))
                  refine V_istore (pc := 91) dX10_tell_91 (by decide) ?_
                  refine V_aload_n (pc := 93) 1 dX10_tell_93 rfl ?_
                  refine V_getR (pc := 94) dX10_tell_94 fl_X10_23 sh_0 rfl ?_
                  refine V_iload_n (pc := 97) 3 dX10_tell_97 rfl ?_
                  refine V_callV (pc := 98) (M' := mX7_renew) dX10_tell_98 ml_X10_127 kv_X7_renew ko_X7_renew sh_2 (by decide) (by decide) rfl rfl (Nat.le_of_ble_eq_true rfl) (Nat.le_of_ble_eq_true rfl) (vX7_renew E  x2 s88 _  h) (kV (fun s98 h => ?_))
                  refine V_iload (pc := 101) 0 dX10_tell_101 rfl ?_
                  exact V_iret dX10_tell_103 rfl h
                · replace h := h.2 hc
                  refine V_bipush (pc := 76) (v := -4) dX10_tell_76 (by decide) ?_
                  exact V_iret dX10_tell_78 rfl h
            · replace h := h.2 hc
              refine V_bipush (pc := 46) (v := -2) dX10_tell_46 (by decide) ?_
              exact V_iret dX10_tell_48 rfl h
theorem dX10_reading_0 : decode cX10_reading 0 = .ok (.aload_n 0, 1) := by decide +kernel
theorem dX10_reading_1 : decode cX10_reading 1 = .ok (.iload_n 1, 1) := by decide +kernel
theorem dX10_reading_2 : decode cX10_reading 2 = .ok (.iload_n 2, 1) := by decide +kernel
theorem dX10_reading_3 : decode cX10_reading 3 = .ok (.iload_n 3, 1) := by decide +kernel
theorem dX10_reading_4 : decode cX10_reading 4 = .ok (.iload 4, 2) := by decide +kernel
theorem dX10_reading_6 : decode cX10_reading 6 = .ok (.invokevirtual 97, 3) := by decide +kernel
theorem dX10_reading_9 : decode cX10_reading 9 = .ok (.ireturn, 1) := by decide +kernel
def wX10_reading  (x1 : Int32) (x2 : Int32) (x3 : Int32) (x4 : Int32) (σ : Sto) (post : Int32 → Sto → Prop) : Prop := wX10_tell  x1 x2 x3 x4 σ (fun (r6 : Int32) (s6 : Sto) => post r6 s6)
set_option maxRecDepth 100000 in
set_option maxHeartbeats 4000000 in
theorem vX10_reading (E : Ev)  (x1 : Int32) (x2 : Int32) (x3 : Int32) (x4 : Int32) (σ : Sto) (post : Int32 → Sto → Prop)  (h : wX10_reading  x1 x2 x3 x4 σ post) : V E 6 mX10_reading (pI post) 0 [(0, .ref 0), (1, .int x1), (2, .int x2), (3, .int x3), (4, .int x4)] [] σ := by
  unfold wX10_reading at h
  refine V_aload_n (pc := 0) 0 dX10_reading_0 rfl ?_
  refine V_iload_n (pc := 1) 1 dX10_reading_1 rfl ?_
  refine V_iload_n (pc := 2) 2 dX10_reading_2 rfl ?_
  refine V_iload_n (pc := 3) 3 dX10_reading_3 rfl ?_
  refine V_iload (pc := 4) 4 dX10_reading_4 rfl ?_
  refine V_callV (pc := 6) (M' := mX10_tell) dX10_reading_6 ml_X10_97 kv_X10_tell ko_X10_tell sh_0 (by decide) (by decide) rfl rfl (Nat.le_of_ble_eq_true rfl) (Nat.le_of_ble_eq_true rfl) (vX10_tell E  x1 x2 x3 x4 σ _  h) (kI (fun r6 s6 h => ?_))
  exact V_iret dX10_reading_9 rfl h
theorem dX10_read_0 : decode cX10_read 0 = .ok (.iload_n 1, 1) := by decide +kernel
theorem dX10_read_1 : decode cX10_read 1 = .ok (.invokestatic 101, 3) := by decide +kernel
theorem dX10_read_4 : decode cX10_read 4 = .ok (.ifCond .eq 6, 3) := by decide +kernel
theorem dX10_read_7 : decode cX10_read 7 = .ok (.bipush (-2), 2) := by decide +kernel
theorem dX10_read_9 : decode cX10_read 9 = .ok (.ireturn, 1) := by decide +kernel
theorem dX10_read_10 : decode cX10_read 10 = .ok (.aload_n 0, 1) := by decide +kernel
theorem dX10_read_11 : decode cX10_read 11 = .ok (.getfield 74, 3) := by decide +kernel
theorem dX10_read_14 : decode cX10_read 14 = .ok (.iload_n 1, 1) := by decide +kernel
theorem dX10_read_15 : decode cX10_read 15 = .ok (.invokevirtual 104, 3) := by decide +kernel
theorem dX10_read_18 : decode cX10_read 18 = .ok (.ifCond .eq 12, 3) := by decide +kernel
theorem dX10_read_21 : decode cX10_read 21 = .ok (.aload_n 0, 1) := by decide +kernel
theorem dX10_read_22 : decode cX10_read 22 = .ok (.getfield 74, 3) := by decide +kernel
theorem dX10_read_25 : decode cX10_read 25 = .ok (.iconst 1, 1) := by decide +kernel
theorem dX10_read_26 : decode cX10_read 26 = .ok (.invokevirtual 107, 3) := by decide +kernel
theorem dX10_read_29 : decode cX10_read 29 = .ok (.ireturn, 1) := by decide +kernel
theorem dX10_read_30 : decode cX10_read 30 = .ok (.aload_n 0, 1) := by decide +kernel
theorem dX10_read_31 : decode cX10_read 31 = .ok (.getfield 74, 3) := by decide +kernel
theorem dX10_read_34 : decode cX10_read 34 = .ok (.getfield 110, 3) := by decide +kernel
theorem dX10_read_37 : decode cX10_read 37 = .ok (.iload_n 1, 1) := by decide +kernel
theorem dX10_read_38 : decode cX10_read 38 = .ok (.aaload, 1) := by decide +kernel
theorem dX10_read_39 : decode cX10_read 39 = .ok (.astore_n 2, 1) := by decide +kernel
theorem dX10_read_40 : decode cX10_read 40 = .ok (.aload_n 0, 1) := by decide +kernel
theorem dX10_read_41 : decode cX10_read 41 = .ok (.getfield 74, 3) := by decide +kernel
theorem dX10_read_44 : decode cX10_read 44 = .ok (.getfield 114, 3) := by decide +kernel
theorem dX10_read_47 : decode cX10_read 47 = .ok (.iload_n 1, 1) := by decide +kernel
theorem dX10_read_48 : decode cX10_read 48 = .ok (.iaload, 1) := by decide +kernel
theorem dX10_read_49 : decode cX10_read 49 = .ok (.iconst 4, 1) := by decide +kernel
theorem dX10_read_50 : decode cX10_read 50 = .ok (.idiv, 1) := by decide +kernel
theorem dX10_read_51 : decode cX10_read 51 = .ok (.istore_n 3, 1) := by decide +kernel
theorem dX10_read_52 : decode cX10_read 52 = .ok (.iconst 0, 1) := by decide +kernel
theorem dX10_read_53 : decode cX10_read 53 = .ok (.istore 4, 2) := by decide +kernel
theorem dX10_read_55 : decode cX10_read 55 = .ok (.iload 4, 2) := by decide +kernel
theorem dX10_read_57 : decode cX10_read 57 = .ok (.iload_n 3, 1) := by decide +kernel
theorem dX10_read_58 : decode cX10_read 58 = .ok (.if_icmp .ge 47, 3) := by decide +kernel
theorem dX10_read_61 : decode cX10_read 61 = .ok (.iload 4, 2) := by decide +kernel
theorem dX10_read_63 : decode cX10_read 63 = .ok (.iconst 4, 1) := by decide +kernel
theorem dX10_read_64 : decode cX10_read 64 = .ok (.imul, 1) := by decide +kernel
theorem dX10_read_65 : decode cX10_read 65 = .ok (.istore 5, 2) := by decide +kernel
theorem dX10_read_67 : decode cX10_read 67 = .ok (.aload_n 0, 1) := by decide +kernel
theorem dX10_read_68 : decode cX10_read 68 = .ok (.aload_n 2, 1) := by decide +kernel
theorem dX10_read_69 : decode cX10_read 69 = .ok (.iload 5, 2) := by decide +kernel
theorem dX10_read_71 : decode cX10_read 71 = .ok (.iaload, 1) := by decide +kernel
theorem dX10_read_72 : decode cX10_read 72 = .ok (.aload_n 2, 1) := by decide +kernel
theorem dX10_read_73 : decode cX10_read 73 = .ok (.iload 5, 2) := by decide +kernel
theorem dX10_read_75 : decode cX10_read 75 = .ok (.iconst 1, 1) := by decide +kernel
theorem dX10_read_76 : decode cX10_read 76 = .ok (.iadd, 1) := by decide +kernel
theorem dX10_read_77 : decode cX10_read 77 = .ok (.iaload, 1) := by decide +kernel
theorem dX10_read_78 : decode cX10_read 78 = .ok (.aload_n 2, 1) := by decide +kernel
theorem dX10_read_79 : decode cX10_read 79 = .ok (.iload 5, 2) := by decide +kernel
theorem dX10_read_81 : decode cX10_read 81 = .ok (.iconst 2, 1) := by decide +kernel
theorem dX10_read_82 : decode cX10_read 82 = .ok (.iadd, 1) := by decide +kernel
theorem dX10_read_83 : decode cX10_read 83 = .ok (.iaload, 1) := by decide +kernel
theorem dX10_read_84 : decode cX10_read 84 = .ok (.aload_n 2, 1) := by decide +kernel
theorem dX10_read_85 : decode cX10_read 85 = .ok (.iload 5, 2) := by decide +kernel
theorem dX10_read_87 : decode cX10_read 87 = .ok (.iconst 3, 1) := by decide +kernel
theorem dX10_read_88 : decode cX10_read 88 = .ok (.iadd, 1) := by decide +kernel
theorem dX10_read_89 : decode cX10_read 89 = .ok (.iaload, 1) := by decide +kernel
theorem dX10_read_90 : decode cX10_read 90 = .ok (.invokevirtual 97, 3) := by decide +kernel
theorem dX10_read_93 : decode cX10_read 93 = .ok (.ifCond .ge 6, 3) := by decide +kernel
theorem dX10_read_96 : decode cX10_read 96 = .ok (.iload 4, 2) := by decide +kernel
theorem dX10_read_98 : decode cX10_read 98 = .ok (.ireturn, 1) := by decide +kernel
theorem dX10_read_99 : decode cX10_read 99 = .ok (.iinc 4 1, 3) := by decide +kernel
theorem dX10_read_102 : decode cX10_read 102 = .ok (.goto (-47), 3) := by decide +kernel
theorem dX10_read_105 : decode cX10_read 105 = .ok (.iload_n 3, 1) := by decide +kernel
theorem dX10_read_106 : decode cX10_read 106 = .ok (.ireturn, 1) := by decide +kernel
def wX10_read_55 (post : Int32 → Sto → Prop)  (K105 : Int32 → Sto → Prop) (K96 : Int32 → Sto → Prop) : Nat → Int32 → Int32 → Int32 → Sto → Prop
  | 0, _, _, _, _ => False
  | n + 1, x2, x3, x4, σ => ((x3 ≤ x4) → (K105 x3 σ)) ∧ ((¬ (x3 ≤ x4)) → (vp_in (x4 * ((4 : Int32))) 60 ∧ (vp_in ((x4 * ((4 : Int32))) + ((1 : Int32))) 60 ∧ (vp_in ((x4 * ((4 : Int32))) + ((2 : Int32))) 60 ∧ (vp_in ((x4 * ((4 : Int32))) + ((3 : Int32))) 60 ∧ (wX10_tell  (σ.1 (61 + x2.toNatClampNeg) (x4 * ((4 : Int32))).toNatClampNeg) (σ.1 (61 + x2.toNatClampNeg) ((x4 * ((4 : Int32))) + ((1 : Int32))).toNatClampNeg) (σ.1 (61 + x2.toNatClampNeg) ((x4 * ((4 : Int32))) + ((2 : Int32))).toNatClampNeg) (σ.1 (61 + x2.toNatClampNeg) ((x4 * ((4 : Int32))) + ((3 : Int32))).toNatClampNeg) σ (fun (r90 : Int32) (s90 : Sto) => ((0 ≤ r90) → (wX10_read_55 post  K105 K96 n x2 x3 (x4 + (1 : Int32)) s90)) ∧ ((¬ (0 ≤ r90)) → (K96 x4 s90)))))))))
set_option maxRecDepth 100000 in
set_option maxHeartbeats 4000000 in
theorem vX10_read_55 (E : Ev) (post : Int32 → Sto → Prop)   (K105 : Int32 → Sto → Prop) (K96 : Int32 → Sto → Prop) (HK105 : ∀ (x3 : Int32) (σ : Sto), K105 x3 σ → V E 6 mX10_read (pI post) 105 [(3, .int x3)] [] σ) (HK96 : ∀ (x4 : Int32) (σ : Sto), K96 x4 σ → V E 6 mX10_read (pI post) 96 [(4, .int x4)] [] σ) : ∀ (n : Nat) (x2 : Int32) (x3 : Int32) (x4 : Int32) (σ : Sto) (q2 : vp_in x2 4), wX10_read_55 post  K105 K96 n x2 x3 x4 σ → V E 6 mX10_read (pI post) 55 [(0, .ref 0), (2, .ref (61 + x2.toNatClampNeg)), (3, .int x3), (4, .int x4)] [] σ := by
  intro n
  induction n with
  | zero => intro x2 x3 x4 σ q2 h; exact h.elim
  | succ n ih =>
    intro x2 x3 x4 σ q2 h
    unfold wX10_read_55 at h
    refine V_iload (pc := 55) 3 dX10_read_55 rfl ?_
    refine V_iload_n (pc := 57) 2 dX10_read_57 rfl ?_
    refine V_icmp_ge (pc := 58) (tgt := 105) dX10_read_58 (by decide) (fun hc => ?_) (fun hc => ?_)
    · replace h := h.1 hc
      exact V_loc [2] rfl (HK105 x3 σ  h)
    · replace h := h.2 hc
      refine V_iload (pc := 61) 3 dX10_read_61 rfl ?_
      refine V_iconst (pc := 63) (v := 4) dX10_read_63 (by decide) ?_
      refine V_imul (pc := 64) dX10_read_64 ?_
      refine V_istore (pc := 65) dX10_read_65 (by decide) ?_
      refine V_aload_n (pc := 67) 1 dX10_read_67 rfl ?_
      refine V_aload_n (pc := 68) 2 dX10_read_68 rfl ?_
      refine V_iload (pc := 69) 0 dX10_read_69 rfl ?_
      obtain ⟨i71, h⟩ := h
      refine V_iald (pc := 71) dX10_read_71 (sr_61 (vp_lt q2)) i71 ?_
      refine V_aload_n (pc := 72) 2 dX10_read_72 rfl ?_
      refine V_iload (pc := 73) 0 dX10_read_73 rfl ?_
      refine V_iconst (pc := 75) (v := 1) dX10_read_75 (by decide) ?_
      refine V_iadd (pc := 76) dX10_read_76 ?_
      obtain ⟨i77, h⟩ := h
      refine V_iald (pc := 77) dX10_read_77 (sr_61 (vp_lt q2)) i77 ?_
      refine V_aload_n (pc := 78) 2 dX10_read_78 rfl ?_
      refine V_iload (pc := 79) 0 dX10_read_79 rfl ?_
      refine V_iconst (pc := 81) (v := 2) dX10_read_81 (by decide) ?_
      refine V_iadd (pc := 82) dX10_read_82 ?_
      obtain ⟨i83, h⟩ := h
      refine V_iald (pc := 83) dX10_read_83 (sr_61 (vp_lt q2)) i83 ?_
      refine V_aload_n (pc := 84) 2 dX10_read_84 rfl ?_
      refine V_iload (pc := 85) 0 dX10_read_85 rfl ?_
      refine V_iconst (pc := 87) (v := 3) dX10_read_87 (by decide) ?_
      refine V_iadd (pc := 88) dX10_read_88 ?_
      obtain ⟨i89, h⟩ := h
      refine V_iald (pc := 89) dX10_read_89 (sr_61 (vp_lt q2)) i89 ?_
      refine V_callV (pc := 90) (M' := mX10_tell) dX10_read_90 ml_X10_97 kv_X10_tell ko_X10_tell sh_0 (by decide) (by decide) rfl rfl (Nat.le_of_ble_eq_true rfl) (Nat.le_of_ble_eq_true rfl) (vX10_tell E  (σ.1 (61 + x2.toNatClampNeg) (x4 * ((4 : Int32))).toNatClampNeg) (σ.1 (61 + x2.toNatClampNeg) ((x4 * ((4 : Int32))) + ((1 : Int32))).toNatClampNeg) (σ.1 (61 + x2.toNatClampNeg) ((x4 * ((4 : Int32))) + ((2 : Int32))).toNatClampNeg) (σ.1 (61 + x2.toNatClampNeg) ((x4 * ((4 : Int32))) + ((3 : Int32))).toNatClampNeg) σ _  h) (kI (fun r90 s90 h => ?_))
      refine V_if_ge (pc := 93) (tgt := 99) dX10_read_93 (by decide) (fun hc => ?_) (fun hc => ?_)
      · replace h := h.1 hc
        refine V_iinc (pc := 99) 4 (v := 1) dX10_read_99 rfl (by decide) (by decide) ?_
        refine V_goto (pc := 102) (tgt := 55) dX10_read_102 (by decide) ?_
        exact V_loc [2, 3, 4, 0] rfl (ih x2 x3 (x4 + (1 : Int32)) s90 q2 h)
      · replace h := h.2 hc
        exact V_loc [4] rfl (HK96 x4 s90  h)
def wX10_read  (x1 : Int32) (σ : Sto) (post : Int32 → Sto → Prop) : Prop := wX10_noSheet  x1 σ (fun (r1 : Bool) (s1 : Sto) => ((r1 = false) → (wX9_isLost  x1 s1 (fun (r15 : Bool) (s15 : Sto) => ((r15 = false) → (vp_in x1 4 ∧ (vp_in x1 4 ∧ (∃ n55, wX10_read_55 post  (fun (x3_1 : Int32) (σ_1 : Sto) => post x3_1 σ_1) (fun (x4_2 : Int32) (σ_2 : Sto) => post x4_2 σ_2) n55 x1 ((s15.1 66 x1.toNatClampNeg) / ((4 : Int32))) ((0 : Int32)) s15)))) ∧ ((r15 = true) → (wX9_find  ((1 : Int32)) s15 (fun (r26 : Int32) (s26 : Sto) => post r26 s26)))))) ∧ ((r1 = true) → (post ((-2 : Int32)) s1)))
set_option maxRecDepth 100000 in
set_option maxHeartbeats 4000000 in
theorem vX10_read (E : Ev)  (x1 : Int32) (σ : Sto) (post : Int32 → Sto → Prop)  (h : wX10_read  x1 σ post) : V E 6 mX10_read (pI post) 0 [(0, .ref 0), (1, .int x1)] [] σ := by
  unfold wX10_read at h
  refine V_iload_n (pc := 0) 1 dX10_read_0 rfl ?_
  refine V_callS (pc := 1) (M' := mX10_noSheet) dX10_read_1 ml_X10_101 ks_X10_noSheet ko_X10_noSheet (by decide) rfl (Nat.le_of_ble_eq_true rfl) (Nat.le_of_ble_eq_true rfl) (vX10_noSheet E  x1 σ _  h) (kB (fun r1 s1 h => ?_))
  refine V_ifz (pc := 4) (tgt := 10) dX10_read_4 (by decide) (fun hc => ?_) (fun hc => ?_)
  · replace h := h.1 hc
    refine V_aload_n (pc := 10) 0 dX10_read_10 rfl ?_
    refine V_getR (pc := 11) dX10_read_11 fl_X10_74 sh_0 rfl ?_
    refine V_iload_n (pc := 14) 1 dX10_read_14 rfl ?_
    refine V_callV (pc := 15) (M' := mX9_isLost) dX10_read_15 ml_X10_104 kv_X9_isLost ko_X9_isLost sh_9 (by decide) (by decide) rfl rfl (Nat.le_of_ble_eq_true rfl) (Nat.le_of_ble_eq_true rfl) (vX9_isLost E  x1 s1 _  h) (kB (fun r15 s15 h => ?_))
    refine V_ifz (pc := 18) (tgt := 30) dX10_read_18 (by decide) (fun hc => ?_) (fun hc => ?_)
    · replace h := h.1 hc
      refine V_aload_n (pc := 30) 0 dX10_read_30 rfl ?_
      refine V_getR (pc := 31) dX10_read_31 fl_X10_74 sh_0 rfl ?_
      refine V_getR (pc := 34) dX10_read_34 fl_X10_110 sh_9 rfl ?_
      refine V_iload_n (pc := 37) 1 dX10_read_37 rfl ?_
      obtain ⟨i38, h⟩ := h
      refine V_aald (pc := 38) dX10_read_38 sh_60 i38 ?_
      refine V_astore_n (pc := 39) dX10_read_39 (by decide) ?_
      refine V_aload_n (pc := 40) 1 dX10_read_40 rfl ?_
      refine V_getR (pc := 41) dX10_read_41 fl_X10_74 sh_0 rfl ?_
      refine V_getR (pc := 44) dX10_read_44 fl_X10_114 sh_9 rfl ?_
      refine V_iload_n (pc := 47) 2 dX10_read_47 rfl ?_
      obtain ⟨i48, h⟩ := h
      refine V_iald (pc := 48) dX10_read_48 sh_66 i48 ?_
      refine V_iconst (pc := 49) (v := 4) dX10_read_49 (by decide) ?_
      refine V_idiv (pc := 50) dX10_read_50 (by decide) ?_
      refine V_istore_n (pc := 51) dX10_read_51 (by decide) ?_
      refine V_iconst (pc := 52) (v := 0) dX10_read_52 (by decide) ?_
      refine V_istore (pc := 53) dX10_read_53 (by decide) ?_
      obtain ⟨n55, h⟩ := h
      refine V_loc [3, 2, 1, 0] rfl (vX10_read_55 E post   _ _ (fun x3_1 σ_1 h => ?_) (fun x4_2 σ_2 h => ?_) n55 x1 ((s15.1 66 x1.toNatClampNeg) / ((4 : Int32))) ((0 : Int32)) s15 i38 h)
      · refine V_iload_n (pc := 105) 0 dX10_read_105 rfl ?_
        exact V_iret dX10_read_106 rfl h
      · refine V_iload (pc := 96) 0 dX10_read_96 rfl ?_
        exact V_iret dX10_read_98 rfl h
    · replace h := h.2 hc
      refine V_aload_n (pc := 21) 0 dX10_read_21 rfl ?_
      refine V_getR (pc := 22) dX10_read_22 fl_X10_74 sh_0 rfl ?_
      refine V_iconst (pc := 25) (v := 1) dX10_read_25 (by decide) ?_
      refine V_callV (pc := 26) (M' := mX9_find) dX10_read_26 ml_X10_107 kv_X9_find ko_X9_find sh_9 (by decide) (by decide) rfl rfl (Nat.le_of_ble_eq_true rfl) (Nat.le_of_ble_eq_true rfl) (vX9_find E  ((1 : Int32)) s15 _  h) (kI (fun r26 s26 h => ?_))
      exact V_iret dX10_read_29 rfl h
  · replace h := h.2 hc
    refine V_bipush (pc := 7) (v := -2) dX10_read_7 (by decide) ?_
    exact V_iret dX10_read_9 rfl h
theorem dX10_noReading_0 : decode cX10_noReading 0 = .ok (.iload_n 1, 1) := by decide +kernel
theorem dX10_noReading_1 : decode cX10_noReading 1 = .ok (.ifCond .lt 14, 3) := by decide +kernel
theorem dX10_noReading_4 : decode cX10_noReading 4 = .ok (.iload_n 1, 1) := by decide +kernel
theorem dX10_noReading_5 : decode cX10_noReading 5 = .ok (.aload_n 0, 1) := by decide +kernel
theorem dX10_noReading_6 : decode cX10_noReading 6 = .ok (.getfield 12, 3) := by decide +kernel
theorem dX10_noReading_9 : decode cX10_noReading 9 = .ok (.getfield 294, 3) := by decide +kernel
theorem dX10_noReading_12 : decode cX10_noReading 12 = .ok (.if_icmp .lt 7, 3) := by decide +kernel
theorem dX10_noReading_15 : decode cX10_noReading 15 = .ok (.iconst 1, 1) := by decide +kernel
theorem dX10_noReading_16 : decode cX10_noReading 16 = .ok (.goto 4, 3) := by decide +kernel
theorem dX10_noReading_19 : decode cX10_noReading 19 = .ok (.iconst 0, 1) := by decide +kernel
theorem dX10_noReading_20 : decode cX10_noReading 20 = .ok (.ireturn, 1) := by decide +kernel
def wX10_noReading  (x1 : Int32) (σ : Sto) (post : Bool → Sto → Prop) : Prop := ((x1 < 0) → (post true σ)) ∧ ((¬ (x1 < 0)) → (((x1 < (σ.1 1 5)) → (post false σ)) ∧ ((¬ (x1 < (σ.1 1 5))) → (post true σ))))
set_option maxRecDepth 100000 in
set_option maxHeartbeats 4000000 in
theorem vX10_noReading (E : Ev)  (x1 : Int32) (σ : Sto) (post : Bool → Sto → Prop)  (h : wX10_noReading  x1 σ post) : V E 0 mX10_noReading (pB post) 0 [(0, .ref 0), (1, .int x1)] [] σ := by
  unfold wX10_noReading at h
  refine V_iload_n (pc := 0) 1 dX10_noReading_0 rfl ?_
  refine V_if_lt (pc := 1) (tgt := 15) dX10_noReading_1 (by decide) (fun hc => ?_) (fun hc => ?_)
  · replace h := h.1 hc
    refine V_iconst (pc := 15) (v := 1) dX10_noReading_15 (by decide) ?_
    refine V_goto (pc := 16) (tgt := 20) dX10_noReading_16 (by decide) ?_
    exact V_zret true rfl dX10_noReading_20 rfl h
  · replace h := h.2 hc
    refine V_iload_n (pc := 4) 1 dX10_noReading_4 rfl ?_
    refine V_aload_n (pc := 5) 0 dX10_noReading_5 rfl ?_
    refine V_getR (pc := 6) dX10_noReading_6 fl_X10_12 sh_0 rfl ?_
    refine V_getI (pc := 9) dX10_noReading_9 fl_X10_294 sh_1 rfl ?_
    refine V_icmp_lt (pc := 12) (tgt := 19) dX10_noReading_12 (by decide) (fun hc => ?_) (fun hc => ?_)
    · replace h := h.1 hc
      refine V_iconst (pc := 19) (v := 0) dX10_noReading_19 (by decide) ?_
      exact V_zret false rfl dX10_noReading_20 rfl h
    · replace h := h.2 hc
      refine V_iconst (pc := 15) (v := 1) dX10_noReading_15 (by decide) ?_
      refine V_goto (pc := 16) (tgt := 20) dX10_noReading_16 (by decide) ?_
      exact V_zret true rfl dX10_noReading_20 rfl h
theorem dX10_takeBack_0 : decode cX10_takeBack 0 = .ok (.aload_n 0, 1) := by decide +kernel
theorem dX10_takeBack_1 : decode cX10_takeBack 1 = .ok (.iload_n 1, 1) := by decide +kernel
theorem dX10_takeBack_2 : decode cX10_takeBack 2 = .ok (.invokevirtual 118, 3) := by decide +kernel
theorem dX10_takeBack_5 : decode cX10_takeBack 5 = .ok (.ifCond .eq 6, 3) := by decide +kernel
theorem dX10_takeBack_8 : decode cX10_takeBack 8 = .ok (.bipush (-2), 2) := by decide +kernel
theorem dX10_takeBack_10 : decode cX10_takeBack 10 = .ok (.ireturn, 1) := by decide +kernel
theorem dX10_takeBack_11 : decode cX10_takeBack 11 = .ok (.aload_n 0, 1) := by decide +kernel
theorem dX10_takeBack_12 : decode cX10_takeBack 12 = .ok (.getfield 12, 3) := by decide +kernel
theorem dX10_takeBack_15 : decode cX10_takeBack 15 = .ok (.getfield 121, 3) := by decide +kernel
theorem dX10_takeBack_18 : decode cX10_takeBack 18 = .ok (.iload_n 1, 1) := by decide +kernel
theorem dX10_takeBack_19 : decode cX10_takeBack 19 = .ok (.iaload, 1) := by decide +kernel
theorem dX10_takeBack_20 : decode cX10_takeBack 20 = .ok (.iconst (-1), 1) := by decide +kernel
theorem dX10_takeBack_21 : decode cX10_takeBack 21 = .ok (.if_icmp .eq 6, 3) := by decide +kernel
theorem dX10_takeBack_24 : decode cX10_takeBack 24 = .ok (.bipush (-3), 2) := by decide +kernel
theorem dX10_takeBack_26 : decode cX10_takeBack 26 = .ok (.ireturn, 1) := by decide +kernel
theorem dX10_takeBack_27 : decode cX10_takeBack 27 = .ok (.aload_n 0, 1) := by decide +kernel
theorem dX10_takeBack_28 : decode cX10_takeBack 28 = .ok (.getfield 12, 3) := by decide +kernel
theorem dX10_takeBack_31 : decode cX10_takeBack 31 = .ok (.getfield 121, 3) := by decide +kernel
theorem dX10_takeBack_34 : decode cX10_takeBack 34 = .ok (.iload_n 1, 1) := by decide +kernel
theorem dX10_takeBack_35 : decode cX10_takeBack 35 = .ok (.aload_n 0, 1) := by decide +kernel
theorem dX10_takeBack_36 : decode cX10_takeBack 36 = .ok (.getfield 12, 3) := by decide +kernel
theorem dX10_takeBack_39 : decode cX10_takeBack 39 = .ok (.getfield 78, 3) := by decide +kernel
theorem dX10_takeBack_42 : decode cX10_takeBack 42 = .ok (.iastore, 1) := by decide +kernel
theorem dX10_takeBack_43 : decode cX10_takeBack 43 = .ok (.aload_n 0, 1) := by decide +kernel
theorem dX10_takeBack_44 : decode cX10_takeBack 44 = .ok (.getfield 23, 3) := by decide +kernel
theorem dX10_takeBack_47 : decode cX10_takeBack 47 = .ok (.aload_n 0, 1) := by decide +kernel
theorem dX10_takeBack_48 : decode cX10_takeBack 48 = .ok (.getfield 12, 3) := by decide +kernel
theorem dX10_takeBack_51 : decode cX10_takeBack 51 = .ok (.getfield 124, 3) := by decide +kernel
theorem dX10_takeBack_54 : decode cX10_takeBack 54 = .ok (.iload_n 1, 1) := by decide +kernel
theorem dX10_takeBack_55 : decode cX10_takeBack 55 = .ok (.iaload, 1) := by decide +kernel
theorem dX10_takeBack_56 : decode cX10_takeBack 56 = .ok (.invokevirtual 127, 3) := by decide +kernel
theorem dX10_takeBack_59 : decode cX10_takeBack 59 = .ok (.iconst 1, 1) := by decide +kernel
theorem dX10_takeBack_60 : decode cX10_takeBack 60 = .ok (.ireturn, 1) := by decide +kernel
def wX10_takeBack  (x1 : Int32) (σ : Sto) (post : Int32 → Sto → Prop) : Prop := wX10_noReading  x1 σ (fun (r2 : Bool) (s2 : Sto) => ((r2 = false) → (vp_in x1 150 ∧ ((((s2.1 20 x1.toNatClampNeg) = ((-1 : Int32))) → (vp_in x1 150 ∧ (vp_in x1 150 ∧ (wX7_renew  (s2.1 16 x1.toNatClampNeg) (wI s2 20 x1.toNatClampNeg (s2.1 1 0)) (fun (s56 : Sto) => post ((1 : Int32)) s56))))) ∧ ((¬ ((s2.1 20 x1.toNatClampNeg) = ((-1 : Int32)))) → (post ((-3 : Int32)) s2))))) ∧ ((r2 = true) → (post ((-2 : Int32)) s2)))
set_option maxRecDepth 100000 in
set_option maxHeartbeats 4000000 in
theorem vX10_takeBack (E : Ev)  (x1 : Int32) (σ : Sto) (post : Int32 → Sto → Prop)  (h : wX10_takeBack  x1 σ post) : V E 5 mX10_takeBack (pI post) 0 [(0, .ref 0), (1, .int x1)] [] σ := by
  unfold wX10_takeBack at h
  refine V_aload_n (pc := 0) 0 dX10_takeBack_0 rfl ?_
  refine V_iload_n (pc := 1) 1 dX10_takeBack_1 rfl ?_
  refine V_callV (pc := 2) (M' := mX10_noReading) dX10_takeBack_2 ml_X10_118 kv_X10_noReading ko_X10_noReading sh_0 (by decide) (by decide) rfl rfl (Nat.le_of_ble_eq_true rfl) (Nat.le_of_ble_eq_true rfl) (vX10_noReading E  x1 σ _  h) (kB (fun r2 s2 h => ?_))
  refine V_ifz (pc := 5) (tgt := 11) dX10_takeBack_5 (by decide) (fun hc => ?_) (fun hc => ?_)
  · replace h := h.1 hc
    refine V_aload_n (pc := 11) 0 dX10_takeBack_11 rfl ?_
    refine V_getR (pc := 12) dX10_takeBack_12 fl_X10_12 sh_0 rfl ?_
    refine V_getR (pc := 15) dX10_takeBack_15 fl_X10_121 sh_1 rfl ?_
    refine V_iload_n (pc := 18) 1 dX10_takeBack_18 rfl ?_
    obtain ⟨i19, h⟩ := h
    refine V_iald (pc := 19) dX10_takeBack_19 sh_20 i19 ?_
    refine V_iconst (pc := 20) (v := -1) dX10_takeBack_20 (by decide) ?_
    refine V_icmp_eq (pc := 21) (tgt := 27) dX10_takeBack_21 (by decide) (fun hc => ?_) (fun hc => ?_)
    · replace h := h.1 hc
      refine V_aload_n (pc := 27) 0 dX10_takeBack_27 rfl ?_
      refine V_getR (pc := 28) dX10_takeBack_28 fl_X10_12 sh_0 rfl ?_
      refine V_getR (pc := 31) dX10_takeBack_31 fl_X10_121 sh_1 rfl ?_
      refine V_iload_n (pc := 34) 1 dX10_takeBack_34 rfl ?_
      refine V_aload_n (pc := 35) 0 dX10_takeBack_35 rfl ?_
      refine V_getR (pc := 36) dX10_takeBack_36 fl_X10_12 sh_0 rfl ?_
      refine V_getI (pc := 39) dX10_takeBack_39 fl_X10_78 sh_1 rfl ?_
      obtain ⟨i42, h⟩ := h
      refine V_iast (pc := 42) dX10_takeBack_42 sh_20 i42 ?_
      refine V_aload_n (pc := 43) 0 dX10_takeBack_43 rfl ?_
      refine V_getR (pc := 44) dX10_takeBack_44 fl_X10_23 sh_0 rfl ?_
      refine V_aload_n (pc := 47) 0 dX10_takeBack_47 rfl ?_
      refine V_getR (pc := 48) dX10_takeBack_48 fl_X10_12 sh_0 rfl ?_
      refine V_getR (pc := 51) dX10_takeBack_51 fl_X10_124 sh_1 rfl ?_
      refine V_iload_n (pc := 54) 1 dX10_takeBack_54 rfl ?_
      obtain ⟨i55, h⟩ := h
      refine V_iald (pc := 55) dX10_takeBack_55 sh_16 i55 ?_
      refine V_callV (pc := 56) (M' := mX7_renew) dX10_takeBack_56 ml_X10_127 kv_X7_renew ko_X7_renew sh_2 (by decide) (by decide) rfl rfl (Nat.le_of_ble_eq_true rfl) (Nat.le_of_ble_eq_true rfl) (vX7_renew E  (s2.1 16 x1.toNatClampNeg) (wI s2 20 x1.toNatClampNeg (s2.1 1 0)) _  h) (kV (fun s56 h => ?_))
      refine V_iconst (pc := 59) (v := 1) dX10_takeBack_59 (by decide) ?_
      exact V_iret dX10_takeBack_60 rfl h
    · replace h := h.2 hc
      refine V_bipush (pc := 24) (v := -3) dX10_takeBack_24 (by decide) ?_
      exact V_iret dX10_takeBack_26 rfl h
  · replace h := h.2 hc
    refine V_bipush (pc := 8) (v := -2) dX10_takeBack_8 (by decide) ?_
    exact V_iret dX10_takeBack_10 rfl h
theorem dX10_about_0 : decode cX10_about 0 = .ok (.aload_n 0, 1) := by decide +kernel
theorem dX10_about_1 : decode cX10_about 1 = .ok (.iload_n 1, 1) := by decide +kernel
theorem dX10_about_2 : decode cX10_about 2 = .ok (.invokevirtual 118, 3) := by decide +kernel
theorem dX10_about_5 : decode cX10_about 5 = .ok (.ifCond .eq 7, 3) := by decide +kernel
theorem dX10_about_8 : decode cX10_about 8 = .ok (.sipush (-30000), 3) := by decide +kernel
theorem dX10_about_11 : decode cX10_about 11 = .ok (.ireturn, 1) := by decide +kernel
theorem dX10_about_12 : decode cX10_about 12 = .ok (.iload_n 2, 1) := by decide +kernel
theorem dX10_about_13 : decode cX10_about 13 = .ok (.tableswitch 120 0 6 #[43, 53, 63, 73, 83, 93, 103], 43) := by decide +kernel
theorem dX10_about_56 : decode cX10_about 56 = .ok (.aload_n 0, 1) := by decide +kernel
theorem dX10_about_57 : decode cX10_about 57 = .ok (.getfield 12, 3) := by decide +kernel
theorem dX10_about_60 : decode cX10_about 60 = .ok (.getfield 131, 3) := by decide +kernel
theorem dX10_about_63 : decode cX10_about 63 = .ok (.iload_n 1, 1) := by decide +kernel
theorem dX10_about_64 : decode cX10_about 64 = .ok (.iaload, 1) := by decide +kernel
theorem dX10_about_65 : decode cX10_about 65 = .ok (.ireturn, 1) := by decide +kernel
theorem dX10_about_66 : decode cX10_about 66 = .ok (.aload_n 0, 1) := by decide +kernel
theorem dX10_about_67 : decode cX10_about 67 = .ok (.getfield 12, 3) := by decide +kernel
theorem dX10_about_70 : decode cX10_about 70 = .ok (.getfield 124, 3) := by decide +kernel
theorem dX10_about_73 : decode cX10_about 73 = .ok (.iload_n 1, 1) := by decide +kernel
theorem dX10_about_74 : decode cX10_about 74 = .ok (.iaload, 1) := by decide +kernel
theorem dX10_about_75 : decode cX10_about 75 = .ok (.ireturn, 1) := by decide +kernel
theorem dX10_about_76 : decode cX10_about 76 = .ok (.aload_n 0, 1) := by decide +kernel
theorem dX10_about_77 : decode cX10_about 77 = .ok (.getfield 12, 3) := by decide +kernel
theorem dX10_about_80 : decode cX10_about 80 = .ok (.getfield 134, 3) := by decide +kernel
theorem dX10_about_83 : decode cX10_about 83 = .ok (.iload_n 1, 1) := by decide +kernel
theorem dX10_about_84 : decode cX10_about 84 = .ok (.iaload, 1) := by decide +kernel
theorem dX10_about_85 : decode cX10_about 85 = .ok (.ireturn, 1) := by decide +kernel
theorem dX10_about_86 : decode cX10_about 86 = .ok (.aload_n 0, 1) := by decide +kernel
theorem dX10_about_87 : decode cX10_about 87 = .ok (.getfield 12, 3) := by decide +kernel
theorem dX10_about_90 : decode cX10_about 90 = .ok (.getfield 137, 3) := by decide +kernel
theorem dX10_about_93 : decode cX10_about 93 = .ok (.iload_n 1, 1) := by decide +kernel
theorem dX10_about_94 : decode cX10_about 94 = .ok (.iaload, 1) := by decide +kernel
theorem dX10_about_95 : decode cX10_about 95 = .ok (.ireturn, 1) := by decide +kernel
theorem dX10_about_96 : decode cX10_about 96 = .ok (.aload_n 0, 1) := by decide +kernel
theorem dX10_about_97 : decode cX10_about 97 = .ok (.getfield 12, 3) := by decide +kernel
theorem dX10_about_100 : decode cX10_about 100 = .ok (.getfield 140, 3) := by decide +kernel
theorem dX10_about_103 : decode cX10_about 103 = .ok (.iload_n 1, 1) := by decide +kernel
theorem dX10_about_104 : decode cX10_about 104 = .ok (.iaload, 1) := by decide +kernel
theorem dX10_about_105 : decode cX10_about 105 = .ok (.ireturn, 1) := by decide +kernel
theorem dX10_about_106 : decode cX10_about 106 = .ok (.aload_n 0, 1) := by decide +kernel
theorem dX10_about_107 : decode cX10_about 107 = .ok (.getfield 12, 3) := by decide +kernel
theorem dX10_about_110 : decode cX10_about 110 = .ok (.getfield 121, 3) := by decide +kernel
theorem dX10_about_113 : decode cX10_about 113 = .ok (.iload_n 1, 1) := by decide +kernel
theorem dX10_about_114 : decode cX10_about 114 = .ok (.iaload, 1) := by decide +kernel
theorem dX10_about_115 : decode cX10_about 115 = .ok (.ireturn, 1) := by decide +kernel
theorem dX10_about_116 : decode cX10_about 116 = .ok (.aload_n 0, 1) := by decide +kernel
theorem dX10_about_117 : decode cX10_about 117 = .ok (.getfield 12, 3) := by decide +kernel
theorem dX10_about_120 : decode cX10_about 120 = .ok (.iload_n 1, 1) := by decide +kernel
theorem dX10_about_121 : decode cX10_about 121 = .ok (.invokevirtual 143, 3) := by decide +kernel
theorem dX10_about_124 : decode cX10_about 124 = .ok (.ifCond .eq 7, 3) := by decide +kernel
theorem dX10_about_127 : decode cX10_about 127 = .ok (.iconst 1, 1) := by decide +kernel
theorem dX10_about_128 : decode cX10_about 128 = .ok (.goto 4, 3) := by decide +kernel
theorem dX10_about_131 : decode cX10_about 131 = .ok (.iconst 0, 1) := by decide +kernel
theorem dX10_about_132 : decode cX10_about 132 = .ok (.ireturn, 1) := by decide +kernel
theorem dX10_about_133 : decode cX10_about 133 = .ok (.sipush (-30000), 3) := by decide +kernel
theorem dX10_about_136 : decode cX10_about 136 = .ok (.ireturn, 1) := by decide +kernel
def wX10_about  (x1 : Int32) (x2 : Int32) (σ : Sto) (post : Int32 → Sto → Prop) : Prop := wX10_noReading  x1 σ (fun (r2 : Bool) (s2 : Sto) => ((r2 = false) → (((x2 = 0) → (vp_in x1 150 ∧ (post (s2.1 15 x1.toNatClampNeg) s2))) ∧ ((¬ x2 = 0) → (((x2 = 1) → (vp_in x1 150 ∧ (post (s2.1 16 x1.toNatClampNeg) s2))) ∧ ((¬ x2 = 1) → (((x2 = 2) → (vp_in x1 150 ∧ (post (s2.1 17 x1.toNatClampNeg) s2))) ∧ ((¬ x2 = 2) → (((x2 = 3) → (vp_in x1 150 ∧ (post (s2.1 18 x1.toNatClampNeg) s2))) ∧ ((¬ x2 = 3) → (((x2 = 4) → (vp_in x1 150 ∧ (post (s2.1 19 x1.toNatClampNeg) s2))) ∧ ((¬ x2 = 4) → (((x2 = 5) → (vp_in x1 150 ∧ (post (s2.1 20 x1.toNatClampNeg) s2))) ∧ ((¬ x2 = 5) → (((x2 = 6) → (wX1_isKnown  x1 s2 (fun (r121 : Bool) (s121 : Sto) => ((r121 = false) → (post ((0 : Int32)) s121)) ∧ ((r121 = true) → (post ((1 : Int32)) s121))))) ∧ ((¬ x2 = 6) → (post ((-30000 : Int32)) s2)))))))))))))))) ∧ ((r2 = true) → (post ((-30000 : Int32)) s2)))
set_option maxRecDepth 100000 in
set_option maxHeartbeats 4000000 in
theorem vX10_about (E : Ev)  (x1 : Int32) (x2 : Int32) (σ : Sto) (post : Int32 → Sto → Prop)  (h : wX10_about  x1 x2 σ post) : V E 1 mX10_about (pI post) 0 [(0, .ref 0), (1, .int x1), (2, .int x2)] [] σ := by
  unfold wX10_about at h
  refine V_aload_n (pc := 0) 0 dX10_about_0 rfl ?_
  refine V_iload_n (pc := 1) 1 dX10_about_1 rfl ?_
  refine V_callV (pc := 2) (M' := mX10_noReading) dX10_about_2 ml_X10_118 kv_X10_noReading ko_X10_noReading sh_0 (by decide) (by decide) rfl rfl (Nat.le_of_ble_eq_true rfl) (Nat.le_of_ble_eq_true rfl) (vX10_noReading E  x1 σ _  h) (kB (fun r2 s2 h => ?_))
  refine V_ifz (pc := 5) (tgt := 12) dX10_about_5 (by decide) (fun hc => ?_) (fun hc => ?_)
  · replace h := h.1 hc
    refine V_iload_n (pc := 12) 2 dX10_about_12 rfl ?_
    by_cases e0 : x2 = 0
    · replace h := h.1 e0
      refine V_tabIn (pc := 13) (tgt := 56) (off := 43) dX10_about_13 (by rw [e0]; decide) (by rw [e0]; decide) (by rw [e0]; rfl) (by decide) ?_
      refine V_aload_n (pc := 56) 0 dX10_about_56 rfl ?_
      refine V_getR (pc := 57) dX10_about_57 fl_X10_12 sh_0 rfl ?_
      refine V_getR (pc := 60) dX10_about_60 fl_X10_131 sh_1 rfl ?_
      refine V_iload_n (pc := 63) 1 dX10_about_63 rfl ?_
      obtain ⟨i64, h⟩ := h
      refine V_iald (pc := 64) dX10_about_64 sh_15 i64 ?_
      exact V_iret dX10_about_65 rfl h
    · replace h := h.2 e0
      by_cases e1 : x2 = 1
      · replace h := h.1 e1
        refine V_tabIn (pc := 13) (tgt := 66) (off := 53) dX10_about_13 (by rw [e1]; decide) (by rw [e1]; decide) (by rw [e1]; rfl) (by decide) ?_
        refine V_aload_n (pc := 66) 0 dX10_about_66 rfl ?_
        refine V_getR (pc := 67) dX10_about_67 fl_X10_12 sh_0 rfl ?_
        refine V_getR (pc := 70) dX10_about_70 fl_X10_124 sh_1 rfl ?_
        refine V_iload_n (pc := 73) 1 dX10_about_73 rfl ?_
        obtain ⟨i74, h⟩ := h
        refine V_iald (pc := 74) dX10_about_74 sh_16 i74 ?_
        exact V_iret dX10_about_75 rfl h
      · replace h := h.2 e1
        by_cases e2 : x2 = 2
        · replace h := h.1 e2
          refine V_tabIn (pc := 13) (tgt := 76) (off := 63) dX10_about_13 (by rw [e2]; decide) (by rw [e2]; decide) (by rw [e2]; rfl) (by decide) ?_
          refine V_aload_n (pc := 76) 0 dX10_about_76 rfl ?_
          refine V_getR (pc := 77) dX10_about_77 fl_X10_12 sh_0 rfl ?_
          refine V_getR (pc := 80) dX10_about_80 fl_X10_134 sh_1 rfl ?_
          refine V_iload_n (pc := 83) 1 dX10_about_83 rfl ?_
          obtain ⟨i84, h⟩ := h
          refine V_iald (pc := 84) dX10_about_84 sh_17 i84 ?_
          exact V_iret dX10_about_85 rfl h
        · replace h := h.2 e2
          by_cases e3 : x2 = 3
          · replace h := h.1 e3
            refine V_tabIn (pc := 13) (tgt := 86) (off := 73) dX10_about_13 (by rw [e3]; decide) (by rw [e3]; decide) (by rw [e3]; rfl) (by decide) ?_
            refine V_aload_n (pc := 86) 0 dX10_about_86 rfl ?_
            refine V_getR (pc := 87) dX10_about_87 fl_X10_12 sh_0 rfl ?_
            refine V_getR (pc := 90) dX10_about_90 fl_X10_137 sh_1 rfl ?_
            refine V_iload_n (pc := 93) 1 dX10_about_93 rfl ?_
            obtain ⟨i94, h⟩ := h
            refine V_iald (pc := 94) dX10_about_94 sh_18 i94 ?_
            exact V_iret dX10_about_95 rfl h
          · replace h := h.2 e3
            by_cases e4 : x2 = 4
            · replace h := h.1 e4
              refine V_tabIn (pc := 13) (tgt := 96) (off := 83) dX10_about_13 (by rw [e4]; decide) (by rw [e4]; decide) (by rw [e4]; rfl) (by decide) ?_
              refine V_aload_n (pc := 96) 0 dX10_about_96 rfl ?_
              refine V_getR (pc := 97) dX10_about_97 fl_X10_12 sh_0 rfl ?_
              refine V_getR (pc := 100) dX10_about_100 fl_X10_140 sh_1 rfl ?_
              refine V_iload_n (pc := 103) 1 dX10_about_103 rfl ?_
              obtain ⟨i104, h⟩ := h
              refine V_iald (pc := 104) dX10_about_104 sh_19 i104 ?_
              exact V_iret dX10_about_105 rfl h
            · replace h := h.2 e4
              by_cases e5 : x2 = 5
              · replace h := h.1 e5
                refine V_tabIn (pc := 13) (tgt := 106) (off := 93) dX10_about_13 (by rw [e5]; decide) (by rw [e5]; decide) (by rw [e5]; rfl) (by decide) ?_
                refine V_aload_n (pc := 106) 0 dX10_about_106 rfl ?_
                refine V_getR (pc := 107) dX10_about_107 fl_X10_12 sh_0 rfl ?_
                refine V_getR (pc := 110) dX10_about_110 fl_X10_121 sh_1 rfl ?_
                refine V_iload_n (pc := 113) 1 dX10_about_113 rfl ?_
                obtain ⟨i114, h⟩ := h
                refine V_iald (pc := 114) dX10_about_114 sh_20 i114 ?_
                exact V_iret dX10_about_115 rfl h
              · replace h := h.2 e5
                by_cases e6 : x2 = 6
                · replace h := h.1 e6
                  refine V_tabIn (pc := 13) (tgt := 116) (off := 103) dX10_about_13 (by rw [e6]; decide) (by rw [e6]; decide) (by rw [e6]; rfl) (by decide) ?_
                  refine V_aload_n (pc := 116) 0 dX10_about_116 rfl ?_
                  refine V_getR (pc := 117) dX10_about_117 fl_X10_12 sh_0 rfl ?_
                  refine V_iload_n (pc := 120) 1 dX10_about_120 rfl ?_
                  refine V_callV (pc := 121) (M' := mX1_isKnown) dX10_about_121 ml_X10_143 kv_X1_isKnown ko_X1_isKnown sh_1 (by decide) (by decide) rfl rfl (Nat.le_of_ble_eq_true rfl) (Nat.le_of_ble_eq_true rfl) (vX1_isKnown E  x1 s2 _  h) (kB (fun r121 s121 h => ?_))
                  refine V_ifz (pc := 124) (tgt := 131) dX10_about_124 (by decide) (fun hc => ?_) (fun hc => ?_)
                  · replace h := h.1 hc
                    refine V_iconst (pc := 131) (v := 0) dX10_about_131 (by decide) ?_
                    exact V_iret dX10_about_132 rfl h
                  · replace h := h.2 hc
                    refine V_iconst (pc := 127) (v := 1) dX10_about_127 (by decide) ?_
                    refine V_goto (pc := 128) (tgt := 132) dX10_about_128 (by decide) ?_
                    exact V_iret dX10_about_132 rfl h
                · replace h := h.2 e6
                  refine V_tabOut (pc := 13) (tgt := 133) dX10_about_13 ?_ (by decide) ?_
                  · have z0 := lv_neT (a := 0) e0 (by decide); have z1 := lv_neT (a := 1) e1 (by decide); have z2 := lv_neT (a := 2) e2 (by decide); have z3 := lv_neT (a := 3) e3 (by decide); have z4 := lv_neT (a := 4) e4 (by decide); have z5 := lv_neT (a := 5) e5 (by decide); have z6 := lv_neT (a := 6) e6 (by decide); omega
                  refine V_sipush (pc := 133) (v := -30000) dX10_about_133 (by decide) ?_
                  exact V_iret dX10_about_136 rfl h
  · replace h := h.2 hc
    refine V_sipush (pc := 8) (v := -30000) dX10_about_8 (by decide) ?_
    exact V_iret dX10_about_11 rfl h
theorem dX10_asOf_0 : decode cX10_asOf 0 = .ok (.iload_n 1, 1) := by decide +kernel
theorem dX10_asOf_1 : decode cX10_asOf 1 = .ok (.iconst (-1), 1) := by decide +kernel
theorem dX10_asOf_2 : decode cX10_asOf 2 = .ok (.if_icmp .eq 21, 3) := by decide +kernel
theorem dX10_asOf_5 : decode cX10_asOf 5 = .ok (.iload_n 1, 1) := by decide +kernel
theorem dX10_asOf_6 : decode cX10_asOf 6 = .ok (.ifCond .lt 14, 3) := by decide +kernel
theorem dX10_asOf_9 : decode cX10_asOf 9 = .ok (.iload_n 1, 1) := by decide +kernel
theorem dX10_asOf_10 : decode cX10_asOf 10 = .ok (.aload_n 0, 1) := by decide +kernel
theorem dX10_asOf_11 : decode cX10_asOf 11 = .ok (.getfield 12, 3) := by decide +kernel
theorem dX10_asOf_14 : decode cX10_asOf 14 = .ok (.getfield 78, 3) := by decide +kernel
theorem dX10_asOf_17 : decode cX10_asOf 17 = .ok (.if_icmp .le 6, 3) := by decide +kernel
theorem dX10_asOf_20 : decode cX10_asOf 20 = .ok (.bipush (-2), 2) := by decide +kernel
theorem dX10_asOf_22 : decode cX10_asOf 22 = .ok (.ireturn, 1) := by decide +kernel
theorem dX10_asOf_23 : decode cX10_asOf 23 = .ok (.aload_n 0, 1) := by decide +kernel
theorem dX10_asOf_24 : decode cX10_asOf 24 = .ok (.getfield 12, 3) := by decide +kernel
theorem dX10_asOf_27 : decode cX10_asOf 27 = .ok (.getfield 146, 3) := by decide +kernel
theorem dX10_asOf_30 : decode cX10_asOf 30 = .ok (.istore_n 2, 1) := by decide +kernel
theorem dX10_asOf_31 : decode cX10_asOf 31 = .ok (.aload_n 0, 1) := by decide +kernel
theorem dX10_asOf_32 : decode cX10_asOf 32 = .ok (.getfield 12, 3) := by decide +kernel
theorem dX10_asOf_35 : decode cX10_asOf 35 = .ok (.iload_n 1, 1) := by decide +kernel
theorem dX10_asOf_36 : decode cX10_asOf 36 = .ok (.putfield 146, 3) := by decide +kernel
theorem dX10_asOf_39 : decode cX10_asOf 39 = .ok (.iconst 0, 1) := by decide +kernel
theorem dX10_asOf_40 : decode cX10_asOf 40 = .ok (.istore_n 3, 1) := by decide +kernel
theorem dX10_asOf_41 : decode cX10_asOf 41 = .ok (.iload_n 3, 1) := by decide +kernel
theorem dX10_asOf_42 : decode cX10_asOf 42 = .ok (.iconst 4, 1) := by decide +kernel
theorem dX10_asOf_43 : decode cX10_asOf 43 = .ok (.if_icmp .ge 17, 3) := by decide +kernel
theorem dX10_asOf_46 : decode cX10_asOf 46 = .ok (.aload_n 0, 1) := by decide +kernel
theorem dX10_asOf_47 : decode cX10_asOf 47 = .ok (.getfield 23, 3) := by decide +kernel
theorem dX10_asOf_50 : decode cX10_asOf 50 = .ok (.iload_n 3, 1) := by decide +kernel
theorem dX10_asOf_51 : decode cX10_asOf 51 = .ok (.invokevirtual 127, 3) := by decide +kernel
theorem dX10_asOf_54 : decode cX10_asOf 54 = .ok (.iinc 3 1, 3) := by decide +kernel
theorem dX10_asOf_57 : decode cX10_asOf 57 = .ok (.goto (-16), 3) := by decide +kernel
theorem dX10_asOf_60 : decode cX10_asOf 60 = .ok (.iload_n 2, 1) := by decide +kernel
theorem dX10_asOf_61 : decode cX10_asOf 61 = .ok (.ireturn, 1) := by decide +kernel
def wX10_asOf_41 (post : Int32 → Sto → Prop)  (K60 : Int32 → Sto → Prop) : Nat → Int32 → Int32 → Sto → Prop
  | 0, _, _, _ => False
  | n + 1, x2, x3, σ => ((((4 : Int32)) ≤ x3) → (K60 x2 σ)) ∧ ((¬ (((4 : Int32)) ≤ x3)) → (wX7_renew  x3 σ (fun (s51 : Sto) => wX10_asOf_41 post  K60 n x2 (x3 + (1 : Int32)) s51)))
set_option maxRecDepth 100000 in
set_option maxHeartbeats 4000000 in
theorem vX10_asOf_41 (E : Ev) (post : Int32 → Sto → Prop)   (K60 : Int32 → Sto → Prop) (HK60 : ∀ (x2 : Int32) (σ : Sto), K60 x2 σ → V E 5 mX10_asOf (pI post) 60 [(2, .int x2)] [] σ) : ∀ (n : Nat) (x2 : Int32) (x3 : Int32) (σ : Sto), wX10_asOf_41 post  K60 n x2 x3 σ → V E 5 mX10_asOf (pI post) 41 [(0, .ref 0), (2, .int x2), (3, .int x3)] [] σ := by
  intro n
  induction n with
  | zero => intro x2 x3 σ h; exact h.elim
  | succ n ih =>
    intro x2 x3 σ h
    unfold wX10_asOf_41 at h
    refine V_iload_n (pc := 41) 2 dX10_asOf_41 rfl ?_
    refine V_iconst (pc := 42) (v := 4) dX10_asOf_42 (by decide) ?_
    refine V_icmp_ge (pc := 43) (tgt := 60) dX10_asOf_43 (by decide) (fun hc => ?_) (fun hc => ?_)
    · replace h := h.1 hc
      exact V_loc [1] rfl (HK60 x2 σ  h)
    · replace h := h.2 hc
      refine V_aload_n (pc := 46) 0 dX10_asOf_46 rfl ?_
      refine V_getR (pc := 47) dX10_asOf_47 fl_X10_23 sh_0 rfl ?_
      refine V_iload_n (pc := 50) 2 dX10_asOf_50 rfl ?_
      refine V_callV (pc := 51) (M' := mX7_renew) dX10_asOf_51 ml_X10_127 kv_X7_renew ko_X7_renew sh_2 (by decide) (by decide) rfl rfl (Nat.le_of_ble_eq_true rfl) (Nat.le_of_ble_eq_true rfl) (vX7_renew E  x3 σ _  h) (kV (fun s51 h => ?_))
      refine V_iinc (pc := 54) 2 (v := 1) dX10_asOf_54 rfl (by decide) (by decide) ?_
      refine V_goto (pc := 57) (tgt := 41) dX10_asOf_57 (by decide) ?_
      exact V_loc [1, 2, 0] rfl (ih x2 (x3 + (1 : Int32)) s51  h)
def wX10_asOf_23 (post : Int32 → Sto → Prop)   (x1 : Int32) (σ : Sto) : Prop := ∃ n41, wX10_asOf_41 post  (fun (x2_1 : Int32) (σ_1 : Sto) => post x2_1 σ_1) n41 (σ.1 1 1) ((0 : Int32)) (wI σ 1 1 x1)
set_option maxRecDepth 100000 in
set_option maxHeartbeats 4000000 in
theorem vX10_asOf_23 (E : Ev) (post : Int32 → Sto → Prop)     (x1 : Int32) (σ : Sto) (h : wX10_asOf_23 post   x1 σ) : V E 5 mX10_asOf (pI post) 23 [(0, .ref 0), (1, .int x1)] [] σ := by
  unfold wX10_asOf_23 at h
  refine V_aload_n (pc := 23) 0 dX10_asOf_23 rfl ?_
  refine V_getR (pc := 24) dX10_asOf_24 fl_X10_12 sh_0 rfl ?_
  refine V_getI (pc := 27) dX10_asOf_27 fl_X10_146 sh_1 rfl ?_
  refine V_istore_n (pc := 30) dX10_asOf_30 (by decide) ?_
  refine V_aload_n (pc := 31) 1 dX10_asOf_31 rfl ?_
  refine V_getR (pc := 32) dX10_asOf_32 fl_X10_12 sh_0 rfl ?_
  refine V_iload_n (pc := 35) 2 dX10_asOf_35 rfl ?_
  refine V_putI (pc := 36) dX10_asOf_36 fl_X10_146 po_X1_1 sh_1 rfl rfl rfl ?_
  refine V_iconst (pc := 39) (v := 0) dX10_asOf_39 (by decide) ?_
  refine V_istore_n (pc := 40) dX10_asOf_40 (by decide) ?_
  obtain ⟨n41, h⟩ := h
  refine V_loc [2, 1, 0] rfl (vX10_asOf_41 E post   _ (fun x2_1 σ_1 h => ?_) n41 (σ.1 1 1) ((0 : Int32)) (wI σ 1 1 x1)  h)
  · refine V_iload_n (pc := 60) 0 dX10_asOf_60 rfl ?_
    exact V_iret dX10_asOf_61 rfl h
def wX10_asOf  (x1 : Int32) (σ : Sto) (post : Int32 → Sto → Prop) : Prop := ((x1 = ((-1 : Int32))) → (wX10_asOf_23 post   x1 σ)) ∧ ((¬ (x1 = ((-1 : Int32)))) → (((x1 < 0) → (post ((-2 : Int32)) σ)) ∧ ((¬ (x1 < 0)) → (((x1 ≤ (σ.1 1 0)) → (wX10_asOf_23 post   x1 σ)) ∧ ((¬ (x1 ≤ (σ.1 1 0))) → (post ((-2 : Int32)) σ))))))
set_option maxRecDepth 100000 in
set_option maxHeartbeats 4000000 in
theorem vX10_asOf (E : Ev)  (x1 : Int32) (σ : Sto) (post : Int32 → Sto → Prop)  (h : wX10_asOf  x1 σ post) : V E 5 mX10_asOf (pI post) 0 [(0, .ref 0), (1, .int x1)] [] σ := by
  unfold wX10_asOf at h
  refine V_iload_n (pc := 0) 1 dX10_asOf_0 rfl ?_
  refine V_iconst (pc := 1) (v := -1) dX10_asOf_1 (by decide) ?_
  refine V_icmp_eq (pc := 2) (tgt := 23) dX10_asOf_2 (by decide) (fun hc => ?_) (fun hc => ?_)
  · replace h := h.1 hc
    refine V_loc [0, 1] rfl (vX10_asOf_23 E post     x1 σ  h)
  · replace h := h.2 hc
    refine V_iload_n (pc := 5) 1 dX10_asOf_5 rfl ?_
    refine V_if_lt (pc := 6) (tgt := 20) dX10_asOf_6 (by decide) (fun hc => ?_) (fun hc => ?_)
    · replace h := h.1 hc
      refine V_bipush (pc := 20) (v := -2) dX10_asOf_20 (by decide) ?_
      exact V_iret dX10_asOf_22 rfl h
    · replace h := h.2 hc
      refine V_iload_n (pc := 9) 1 dX10_asOf_9 rfl ?_
      refine V_aload_n (pc := 10) 0 dX10_asOf_10 rfl ?_
      refine V_getR (pc := 11) dX10_asOf_11 fl_X10_12 sh_0 rfl ?_
      refine V_getI (pc := 14) dX10_asOf_14 fl_X10_78 sh_1 rfl ?_
      refine V_icmp_le (pc := 17) (tgt := 23) dX10_asOf_17 (by decide) (fun hc => ?_) (fun hc => ?_)
      · replace h := h.1 hc
        refine V_loc [0, 1] rfl (vX10_asOf_23 E post     x1 σ  h)
      · replace h := h.2 hc
        refine V_bipush (pc := 20) (v := -2) dX10_asOf_20 (by decide) ?_
        exact V_iret dX10_asOf_22 rfl h
theorem dX10_factor_0 : decode cX10_factor 0 = .ok (.iload_n 1, 1) := by decide +kernel
theorem dX10_factor_1 : decode cX10_factor 1 = .ok (.iconst 1, 1) := by decide +kernel
theorem dX10_factor_2 : decode cX10_factor 2 = .ok (.if_icmp .lt 8, 3) := by decide +kernel
theorem dX10_factor_5 : decode cX10_factor 5 = .ok (.iload_n 1, 1) := by decide +kernel
theorem dX10_factor_6 : decode cX10_factor 6 = .ok (.iconst 5, 1) := by decide +kernel
theorem dX10_factor_7 : decode cX10_factor 7 = .ok (.if_icmp .le 6, 3) := by decide +kernel
theorem dX10_factor_10 : decode cX10_factor 10 = .ok (.bipush (-2), 2) := by decide +kernel
theorem dX10_factor_12 : decode cX10_factor 12 = .ok (.ireturn, 1) := by decide +kernel
theorem dX10_factor_13 : decode cX10_factor 13 = .ok (.aload_n 0, 1) := by decide +kernel
theorem dX10_factor_14 : decode cX10_factor 14 = .ok (.getfield 32, 3) := by decide +kernel
theorem dX10_factor_17 : decode cX10_factor 17 = .ok (.iload_n 1, 1) := by decide +kernel
theorem dX10_factor_18 : decode cX10_factor 18 = .ok (.invokevirtual 149, 3) := by decide +kernel
theorem dX10_factor_21 : decode cX10_factor 21 = .ok (.ireturn, 1) := by decide +kernel
def wX10_factor  (x1 : Int32) (σ : Sto) (post : Int32 → Sto → Prop) : Prop := ((x1 < ((1 : Int32))) → (post ((-2 : Int32)) σ)) ∧ ((¬ (x1 < ((1 : Int32)))) → (((x1 ≤ ((5 : Int32))) → (wX0_changeFactor  x1 σ (fun (r18 : Int32) (s18 : Sto) => post r18 s18))) ∧ ((¬ (x1 ≤ ((5 : Int32)))) → (post ((-2 : Int32)) σ))))
set_option maxRecDepth 100000 in
set_option maxHeartbeats 4000000 in
theorem vX10_factor (E : Ev)  (x1 : Int32) (σ : Sto) (post : Int32 → Sto → Prop)  (h : wX10_factor  x1 σ post) : V E 1 mX10_factor (pI post) 0 [(0, .ref 0), (1, .int x1)] [] σ := by
  unfold wX10_factor at h
  refine V_iload_n (pc := 0) 1 dX10_factor_0 rfl ?_
  refine V_iconst (pc := 1) (v := 1) dX10_factor_1 (by decide) ?_
  refine V_icmp_lt (pc := 2) (tgt := 10) dX10_factor_2 (by decide) (fun hc => ?_) (fun hc => ?_)
  · replace h := h.1 hc
    refine V_bipush (pc := 10) (v := -2) dX10_factor_10 (by decide) ?_
    exact V_iret dX10_factor_12 rfl h
  · replace h := h.2 hc
    refine V_iload_n (pc := 5) 1 dX10_factor_5 rfl ?_
    refine V_iconst (pc := 6) (v := 5) dX10_factor_6 (by decide) ?_
    refine V_icmp_le (pc := 7) (tgt := 13) dX10_factor_7 (by decide) (fun hc => ?_) (fun hc => ?_)
    · replace h := h.1 hc
      refine V_aload_n (pc := 13) 0 dX10_factor_13 rfl ?_
      refine V_getR (pc := 14) dX10_factor_14 fl_X10_32 sh_0 rfl ?_
      refine V_iload_n (pc := 17) 1 dX10_factor_17 rfl ?_
      refine V_callV (pc := 18) (M' := mX0_changeFactor) dX10_factor_18 ml_X10_149 kv_X0_changeFactor ko_X0_changeFactor sh_3 (by decide) (by decide) rfl rfl (Nat.le_of_ble_eq_true rfl) (Nat.le_of_ble_eq_true rfl) (vX0_changeFactor E  x1 σ _  h) (kI (fun r18 s18 h => ?_))
      exact V_iret dX10_factor_21 rfl h
    · replace h := h.2 hc
      refine V_bipush (pc := 10) (v := -2) dX10_factor_10 (by decide) ?_
      exact V_iret dX10_factor_12 rfl h
theorem dX10_drift_0 : decode cX10_drift 0 = .ok (.iload_n 1, 1) := by decide +kernel
theorem dX10_drift_1 : decode cX10_drift 1 = .ok (.invokestatic 152, 3) := by decide +kernel
theorem dX10_drift_4 : decode cX10_drift 4 = .ok (.ifCond .ne 14, 3) := by decide +kernel
theorem dX10_drift_7 : decode cX10_drift 7 = .ok (.iload_n 2, 1) := by decide +kernel
theorem dX10_drift_8 : decode cX10_drift 8 = .ok (.ifCond .lt 10, 3) := by decide +kernel
theorem dX10_drift_11 : decode cX10_drift 11 = .ok (.iload_n 2, 1) := by decide +kernel
theorem dX10_drift_12 : decode cX10_drift 12 = .ok (.sipush 399, 3) := by decide +kernel
theorem dX10_drift_15 : decode cX10_drift 15 = .ok (.if_icmp .le 6, 3) := by decide +kernel
theorem dX10_drift_18 : decode cX10_drift 18 = .ok (.ldc 155, 2) := by decide +kernel
theorem dX10_drift_20 : decode cX10_drift 20 = .ok (.ireturn, 1) := by decide +kernel
theorem dX10_drift_21 : decode cX10_drift 21 = .ok (.aload_n 0, 1) := by decide +kernel
theorem dX10_drift_22 : decode cX10_drift 22 = .ok (.getfield 23, 3) := by decide +kernel
theorem dX10_drift_25 : decode cX10_drift 25 = .ok (.iload_n 1, 1) := by decide +kernel
theorem dX10_drift_26 : decode cX10_drift 26 = .ok (.iload_n 2, 1) := by decide +kernel
theorem dX10_drift_27 : decode cX10_drift 27 = .ok (.invokevirtual 156, 3) := by decide +kernel
theorem dX10_drift_30 : decode cX10_drift 30 = .ok (.ireturn, 1) := by decide +kernel
def wX10_drift  (x1 : Int32) (x2 : Int32) (σ : Sto) (post : Int32 → Sto → Prop) : Prop := wX10_noPiece  x1 σ (fun (r1 : Bool) (s1 : Sto) => ((r1 = true) → (post ((-2147483648 : Int32)) s1)) ∧ ((r1 = false) → (((x2 < 0) → (post ((-2147483648 : Int32)) s1)) ∧ ((¬ (x2 < 0)) → (((x2 ≤ ((399 : Int32))) → (wX7_driftOn  x1 x2 s1 (fun (r27 : Int32) (s27 : Sto) => post r27 s27))) ∧ ((¬ (x2 ≤ ((399 : Int32)))) → (post ((-2147483648 : Int32)) s1)))))))
set_option maxRecDepth 100000 in
set_option maxHeartbeats 4000000 in
theorem vX10_drift (E : Ev)  (x1 : Int32) (x2 : Int32) (σ : Sto) (post : Int32 → Sto → Prop)  (h : wX10_drift  x1 x2 σ post) : V E 4 mX10_drift (pI post) 0 [(0, .ref 0), (1, .int x1), (2, .int x2)] [] σ := by
  unfold wX10_drift at h
  refine V_iload_n (pc := 0) 1 dX10_drift_0 rfl ?_
  refine V_callS (pc := 1) (M' := mX10_noPiece) dX10_drift_1 ml_X10_152 ks_X10_noPiece ko_X10_noPiece (by decide) rfl (Nat.le_of_ble_eq_true rfl) (Nat.le_of_ble_eq_true rfl) (vX10_noPiece E  x1 σ _  h) (kB (fun r1 s1 h => ?_))
  refine V_ifnz (pc := 4) (tgt := 18) dX10_drift_4 (by decide) (fun hc => ?_) (fun hc => ?_)
  · replace h := h.1 hc
    refine V_ldc (pc := 18) dX10_drift_18 ci_X10_155 ?_
    exact V_iret dX10_drift_20 rfl h
  · replace h := h.2 hc
    refine V_iload_n (pc := 7) 2 dX10_drift_7 rfl ?_
    refine V_if_lt (pc := 8) (tgt := 18) dX10_drift_8 (by decide) (fun hc => ?_) (fun hc => ?_)
    · replace h := h.1 hc
      refine V_ldc (pc := 18) dX10_drift_18 ci_X10_155 ?_
      exact V_iret dX10_drift_20 rfl h
    · replace h := h.2 hc
      refine V_iload_n (pc := 11) 2 dX10_drift_11 rfl ?_
      refine V_sipush (pc := 12) (v := 399) dX10_drift_12 (by decide) ?_
      refine V_icmp_le (pc := 15) (tgt := 21) dX10_drift_15 (by decide) (fun hc => ?_) (fun hc => ?_)
      · replace h := h.1 hc
        refine V_aload_n (pc := 21) 0 dX10_drift_21 rfl ?_
        refine V_getR (pc := 22) dX10_drift_22 fl_X10_23 sh_0 rfl ?_
        refine V_iload_n (pc := 25) 1 dX10_drift_25 rfl ?_
        refine V_iload_n (pc := 26) 2 dX10_drift_26 rfl ?_
        refine V_callV (pc := 27) (M' := mX7_driftOn) dX10_drift_27 ml_X10_156 kv_X7_driftOn ko_X7_driftOn sh_2 (by decide) (by decide) rfl rfl (Nat.le_of_ble_eq_true rfl) (Nat.le_of_ble_eq_true rfl) (vX7_driftOn E  x1 x2 s1 _  h) (kI (fun r27 s27 h => ?_))
        exact V_iret dX10_drift_30 rfl h
      · replace h := h.2 hc
        refine V_ldc (pc := 18) dX10_drift_18 ci_X10_155 ?_
        exact V_iret dX10_drift_20 rfl h
theorem dX10_many_0 : decode cX10_many 0 = .ok (.aload_n 0, 1) := by decide +kernel
theorem dX10_many_1 : decode cX10_many 1 = .ok (.iload_n 1, 1) := by decide +kernel
theorem dX10_many_2 : decode cX10_many 2 = .ok (.invokevirtual 89, 3) := by decide +kernel
theorem dX10_many_5 : decode cX10_many 5 = .ok (.ifCond .ne 10, 3) := by decide +kernel
theorem dX10_many_8 : decode cX10_many 8 = .ok (.iload_n 2, 1) := by decide +kernel
theorem dX10_many_9 : decode cX10_many 9 = .ok (.invokestatic 152, 3) := by decide +kernel
theorem dX10_many_12 : decode cX10_many 12 = .ok (.ifCond .eq 6, 3) := by decide +kernel
theorem dX10_many_15 : decode cX10_many 15 = .ok (.bipush (-2), 2) := by decide +kernel
theorem dX10_many_17 : decode cX10_many 17 = .ok (.ireturn, 1) := by decide +kernel
theorem dX10_many_18 : decode cX10_many 18 = .ok (.aload_n 0, 1) := by decide +kernel
theorem dX10_many_19 : decode cX10_many 19 = .ok (.getfield 23, 3) := by decide +kernel
theorem dX10_many_22 : decode cX10_many 22 = .ok (.getfield 159, 3) := by decide +kernel
theorem dX10_many_25 : decode cX10_many 25 = .ok (.iload_n 2, 1) := by decide +kernel
theorem dX10_many_26 : decode cX10_many 26 = .ok (.aaload, 1) := by decide +kernel
theorem dX10_many_27 : decode cX10_many 27 = .ok (.iload_n 1, 1) := by decide +kernel
theorem dX10_many_28 : decode cX10_many 28 = .ok (.iaload, 1) := by decide +kernel
theorem dX10_many_29 : decode cX10_many 29 = .ok (.ireturn, 1) := by decide +kernel
def wX10_many  (x1 : Int32) (x2 : Int32) (σ : Sto) (post : Int32 → Sto → Prop) : Prop := wX10_noHouse  x1 σ (fun (r2 : Bool) (s2 : Sto) => ((r2 = true) → (post ((-2 : Int32)) s2)) ∧ ((r2 = false) → (wX10_noPiece  x2 s2 (fun (r9 : Bool) (s9 : Sto) => ((r9 = false) → (vp_in x2 4 ∧ (vp_in x1 14 ∧ (post (s9.1 (40 + x2.toNatClampNeg) x1.toNatClampNeg) s9)))) ∧ ((r9 = true) → (post ((-2 : Int32)) s9))))))
set_option maxRecDepth 100000 in
set_option maxHeartbeats 4000000 in
theorem vX10_many (E : Ev)  (x1 : Int32) (x2 : Int32) (σ : Sto) (post : Int32 → Sto → Prop)  (h : wX10_many  x1 x2 σ post) : V E 1 mX10_many (pI post) 0 [(0, .ref 0), (1, .int x1), (2, .int x2)] [] σ := by
  unfold wX10_many at h
  refine V_aload_n (pc := 0) 0 dX10_many_0 rfl ?_
  refine V_iload_n (pc := 1) 1 dX10_many_1 rfl ?_
  refine V_callV (pc := 2) (M' := mX10_noHouse) dX10_many_2 ml_X10_89 kv_X10_noHouse ko_X10_noHouse sh_0 (by decide) (by decide) rfl rfl (Nat.le_of_ble_eq_true rfl) (Nat.le_of_ble_eq_true rfl) (vX10_noHouse E  x1 σ _  h) (kB (fun r2 s2 h => ?_))
  refine V_ifnz (pc := 5) (tgt := 15) dX10_many_5 (by decide) (fun hc => ?_) (fun hc => ?_)
  · replace h := h.1 hc
    refine V_bipush (pc := 15) (v := -2) dX10_many_15 (by decide) ?_
    exact V_iret dX10_many_17 rfl h
  · replace h := h.2 hc
    refine V_iload_n (pc := 8) 2 dX10_many_8 rfl ?_
    refine V_callS (pc := 9) (M' := mX10_noPiece) dX10_many_9 ml_X10_152 ks_X10_noPiece ko_X10_noPiece (by decide) rfl (Nat.le_of_ble_eq_true rfl) (Nat.le_of_ble_eq_true rfl) (vX10_noPiece E  x2 s2 _  h) (kB (fun r9 s9 h => ?_))
    refine V_ifz (pc := 12) (tgt := 18) dX10_many_12 (by decide) (fun hc => ?_) (fun hc => ?_)
    · replace h := h.1 hc
      refine V_aload_n (pc := 18) 0 dX10_many_18 rfl ?_
      refine V_getR (pc := 19) dX10_many_19 fl_X10_23 sh_0 rfl ?_
      refine V_getR (pc := 22) dX10_many_22 fl_X10_159 sh_2 rfl ?_
      refine V_iload_n (pc := 25) 2 dX10_many_25 rfl ?_
      obtain ⟨i26, h⟩ := h
      refine V_aald (pc := 26) dX10_many_26 sh_39 i26 ?_
      refine V_iload_n (pc := 27) 1 dX10_many_27 rfl ?_
      obtain ⟨i28, h⟩ := h
      refine V_iald (pc := 28) dX10_many_28 (sr_40 (vp_lt i26)) i28 ?_
      exact V_iret dX10_many_29 rfl h
    · replace h := h.2 hc
      refine V_bipush (pc := 15) (v := -2) dX10_many_15 (by decide) ?_
      exact V_iret dX10_many_17 rfl h
theorem dX10_told_0 : decode cX10_told 0 = .ok (.aload_n 0, 1) := by decide +kernel
theorem dX10_told_1 : decode cX10_told 1 = .ok (.iload_n 1, 1) := by decide +kernel
theorem dX10_told_2 : decode cX10_told 2 = .ok (.invokevirtual 89, 3) := by decide +kernel
theorem dX10_told_5 : decode cX10_told 5 = .ok (.ifCond .ne 10, 3) := by decide +kernel
theorem dX10_told_8 : decode cX10_told 8 = .ok (.iload_n 2, 1) := by decide +kernel
theorem dX10_told_9 : decode cX10_told 9 = .ok (.invokestatic 152, 3) := by decide +kernel
theorem dX10_told_12 : decode cX10_told 12 = .ok (.ifCond .eq 6, 3) := by decide +kernel
theorem dX10_told_15 : decode cX10_told 15 = .ok (.ldc 155, 2) := by decide +kernel
theorem dX10_told_17 : decode cX10_told 17 = .ok (.ireturn, 1) := by decide +kernel
theorem dX10_told_18 : decode cX10_told 18 = .ok (.aload_n 0, 1) := by decide +kernel
theorem dX10_told_19 : decode cX10_told 19 = .ok (.getfield 23, 3) := by decide +kernel
theorem dX10_told_22 : decode cX10_told 22 = .ok (.iload_n 1, 1) := by decide +kernel
theorem dX10_told_23 : decode cX10_told 23 = .ok (.iload_n 2, 1) := by decide +kernel
theorem dX10_told_24 : decode cX10_told 24 = .ok (.invokevirtual 162, 3) := by decide +kernel
theorem dX10_told_27 : decode cX10_told 27 = .ok (.ifCond .eq 17, 3) := by decide +kernel
theorem dX10_told_30 : decode cX10_told 30 = .ok (.aload_n 0, 1) := by decide +kernel
theorem dX10_told_31 : decode cX10_told 31 = .ok (.getfield 23, 3) := by decide +kernel
theorem dX10_told_34 : decode cX10_told 34 = .ok (.getfield 166, 3) := by decide +kernel
theorem dX10_told_37 : decode cX10_told 37 = .ok (.iload_n 2, 1) := by decide +kernel
theorem dX10_told_38 : decode cX10_told 38 = .ok (.aaload, 1) := by decide +kernel
theorem dX10_told_39 : decode cX10_told 39 = .ok (.iload_n 1, 1) := by decide +kernel
theorem dX10_told_40 : decode cX10_told 40 = .ok (.iaload, 1) := by decide +kernel
theorem dX10_told_41 : decode cX10_told 41 = .ok (.goto 5, 3) := by decide +kernel
theorem dX10_told_44 : decode cX10_told 44 = .ok (.ldc 169, 2) := by decide +kernel
theorem dX10_told_46 : decode cX10_told 46 = .ok (.ireturn, 1) := by decide +kernel
def wX10_told  (x1 : Int32) (x2 : Int32) (σ : Sto) (post : Int32 → Sto → Prop) : Prop := wX10_noHouse  x1 σ (fun (r2 : Bool) (s2 : Sto) => ((r2 = true) → (post ((-2147483648 : Int32)) s2)) ∧ ((r2 = false) → (wX10_noPiece  x2 s2 (fun (r9 : Bool) (s9 : Sto) => ((r9 = false) → (wX7_takesPart  x1 x2 s9 (fun (r24 : Bool) (s24 : Sto) => ((r24 = false) → (post ((-2147483647 : Int32)) s24)) ∧ ((r24 = true) → (vp_in x2 4 ∧ (vp_in x1 14 ∧ (post (s24.1 (45 + x2.toNatClampNeg) x1.toNatClampNeg) s24))))))) ∧ ((r9 = true) → (post ((-2147483648 : Int32)) s9))))))
set_option maxRecDepth 100000 in
set_option maxHeartbeats 4000000 in
theorem vX10_told (E : Ev)  (x1 : Int32) (x2 : Int32) (σ : Sto) (post : Int32 → Sto → Prop)  (h : wX10_told  x1 x2 σ post) : V E 1 mX10_told (pI post) 0 [(0, .ref 0), (1, .int x1), (2, .int x2)] [] σ := by
  unfold wX10_told at h
  refine V_aload_n (pc := 0) 0 dX10_told_0 rfl ?_
  refine V_iload_n (pc := 1) 1 dX10_told_1 rfl ?_
  refine V_callV (pc := 2) (M' := mX10_noHouse) dX10_told_2 ml_X10_89 kv_X10_noHouse ko_X10_noHouse sh_0 (by decide) (by decide) rfl rfl (Nat.le_of_ble_eq_true rfl) (Nat.le_of_ble_eq_true rfl) (vX10_noHouse E  x1 σ _  h) (kB (fun r2 s2 h => ?_))
  refine V_ifnz (pc := 5) (tgt := 15) dX10_told_5 (by decide) (fun hc => ?_) (fun hc => ?_)
  · replace h := h.1 hc
    refine V_ldc (pc := 15) dX10_told_15 ci_X10_155 ?_
    exact V_iret dX10_told_17 rfl h
  · replace h := h.2 hc
    refine V_iload_n (pc := 8) 2 dX10_told_8 rfl ?_
    refine V_callS (pc := 9) (M' := mX10_noPiece) dX10_told_9 ml_X10_152 ks_X10_noPiece ko_X10_noPiece (by decide) rfl (Nat.le_of_ble_eq_true rfl) (Nat.le_of_ble_eq_true rfl) (vX10_noPiece E  x2 s2 _  h) (kB (fun r9 s9 h => ?_))
    refine V_ifz (pc := 12) (tgt := 18) dX10_told_12 (by decide) (fun hc => ?_) (fun hc => ?_)
    · replace h := h.1 hc
      refine V_aload_n (pc := 18) 0 dX10_told_18 rfl ?_
      refine V_getR (pc := 19) dX10_told_19 fl_X10_23 sh_0 rfl ?_
      refine V_iload_n (pc := 22) 1 dX10_told_22 rfl ?_
      refine V_iload_n (pc := 23) 2 dX10_told_23 rfl ?_
      refine V_callV (pc := 24) (M' := mX7_takesPart) dX10_told_24 ml_X10_162 kv_X7_takesPart ko_X7_takesPart sh_2 (by decide) (by decide) rfl rfl (Nat.le_of_ble_eq_true rfl) (Nat.le_of_ble_eq_true rfl) (vX7_takesPart E  x1 x2 s9 _  h) (kB (fun r24 s24 h => ?_))
      refine V_ifz (pc := 27) (tgt := 44) dX10_told_27 (by decide) (fun hc => ?_) (fun hc => ?_)
      · replace h := h.1 hc
        refine V_ldc (pc := 44) dX10_told_44 ci_X10_169 ?_
        exact V_iret dX10_told_46 rfl h
      · replace h := h.2 hc
        refine V_aload_n (pc := 30) 0 dX10_told_30 rfl ?_
        refine V_getR (pc := 31) dX10_told_31 fl_X10_23 sh_0 rfl ?_
        refine V_getR (pc := 34) dX10_told_34 fl_X10_166 sh_2 rfl ?_
        refine V_iload_n (pc := 37) 2 dX10_told_37 rfl ?_
        obtain ⟨i38, h⟩ := h
        refine V_aald (pc := 38) dX10_told_38 sh_44 i38 ?_
        refine V_iload_n (pc := 39) 1 dX10_told_39 rfl ?_
        obtain ⟨i40, h⟩ := h
        refine V_iald (pc := 40) dX10_told_40 (sr_45 (vp_lt i38)) i40 ?_
        refine V_goto (pc := 41) (tgt := 46) dX10_told_41 (by decide) ?_
        exact V_iret dX10_told_46 rfl h
    · replace h := h.2 hc
      refine V_ldc (pc := 15) dX10_told_15 ci_X10_155 ?_
      exact V_iret dX10_told_17 rfl h
theorem dX10_agree_0 : decode cX10_agree 0 = .ok (.aload_n 0, 1) := by decide +kernel
theorem dX10_agree_1 : decode cX10_agree 1 = .ok (.iload_n 1, 1) := by decide +kernel
theorem dX10_agree_2 : decode cX10_agree 2 = .ok (.invokevirtual 89, 3) := by decide +kernel
theorem dX10_agree_5 : decode cX10_agree 5 = .ok (.ifCond .ne 23, 3) := by decide +kernel
theorem dX10_agree_8 : decode cX10_agree 8 = .ok (.aload_n 0, 1) := by decide +kernel
theorem dX10_agree_9 : decode cX10_agree 9 = .ok (.iload_n 2, 1) := by decide +kernel
theorem dX10_agree_10 : decode cX10_agree 10 = .ok (.invokevirtual 89, 3) := by decide +kernel
theorem dX10_agree_13 : decode cX10_agree 13 = .ok (.ifCond .ne 15, 3) := by decide +kernel
theorem dX10_agree_16 : decode cX10_agree 16 = .ok (.iload_n 1, 1) := by decide +kernel
theorem dX10_agree_17 : decode cX10_agree 17 = .ok (.iload_n 2, 1) := by decide +kernel
theorem dX10_agree_18 : decode cX10_agree 18 = .ok (.if_icmp .eq 10, 3) := by decide +kernel
theorem dX10_agree_21 : decode cX10_agree 21 = .ok (.iload_n 3, 1) := by decide +kernel
theorem dX10_agree_22 : decode cX10_agree 22 = .ok (.invokestatic 152, 3) := by decide +kernel
theorem dX10_agree_25 : decode cX10_agree 25 = .ok (.ifCond .eq 6, 3) := by decide +kernel
theorem dX10_agree_28 : decode cX10_agree 28 = .ok (.bipush (-2), 2) := by decide +kernel
theorem dX10_agree_30 : decode cX10_agree 30 = .ok (.ireturn, 1) := by decide +kernel
theorem dX10_agree_31 : decode cX10_agree 31 = .ok (.aload_n 0, 1) := by decide +kernel
theorem dX10_agree_32 : decode cX10_agree 32 = .ok (.getfield 23, 3) := by decide +kernel
theorem dX10_agree_35 : decode cX10_agree 35 = .ok (.iload_n 1, 1) := by decide +kernel
theorem dX10_agree_36 : decode cX10_agree 36 = .ok (.iload_n 3, 1) := by decide +kernel
theorem dX10_agree_37 : decode cX10_agree 37 = .ok (.invokevirtual 162, 3) := by decide +kernel
theorem dX10_agree_40 : decode cX10_agree 40 = .ok (.ifCond .eq 15, 3) := by decide +kernel
theorem dX10_agree_43 : decode cX10_agree 43 = .ok (.aload_n 0, 1) := by decide +kernel
theorem dX10_agree_44 : decode cX10_agree 44 = .ok (.getfield 23, 3) := by decide +kernel
theorem dX10_agree_47 : decode cX10_agree 47 = .ok (.iload_n 2, 1) := by decide +kernel
theorem dX10_agree_48 : decode cX10_agree 48 = .ok (.iload_n 3, 1) := by decide +kernel
theorem dX10_agree_49 : decode cX10_agree 49 = .ok (.invokevirtual 162, 3) := by decide +kernel
theorem dX10_agree_52 : decode cX10_agree 52 = .ok (.ifCond .ne 6, 3) := by decide +kernel
theorem dX10_agree_55 : decode cX10_agree 55 = .ok (.bipush (-3), 2) := by decide +kernel
theorem dX10_agree_57 : decode cX10_agree 57 = .ok (.ireturn, 1) := by decide +kernel
theorem dX10_agree_58 : decode cX10_agree 58 = .ok (.aload_n 0, 1) := by decide +kernel
theorem dX10_agree_59 : decode cX10_agree 59 = .ok (.getfield 32, 3) := by decide +kernel
theorem dX10_agree_62 : decode cX10_agree 62 = .ok (.iload_n 1, 1) := by decide +kernel
theorem dX10_agree_63 : decode cX10_agree 63 = .ok (.iload_n 2, 1) := by decide +kernel
theorem dX10_agree_64 : decode cX10_agree 64 = .ok (.iload_n 3, 1) := by decide +kernel
theorem dX10_agree_65 : decode cX10_agree 65 = .ok (.invokevirtual 170, 3) := by decide +kernel
theorem dX10_agree_68 : decode cX10_agree 68 = .ok (.ifCond .eq 7, 3) := by decide +kernel
theorem dX10_agree_71 : decode cX10_agree 71 = .ok (.iconst 1, 1) := by decide +kernel
theorem dX10_agree_72 : decode cX10_agree 72 = .ok (.goto 4, 3) := by decide +kernel
theorem dX10_agree_75 : decode cX10_agree 75 = .ok (.iconst 0, 1) := by decide +kernel
theorem dX10_agree_76 : decode cX10_agree 76 = .ok (.ireturn, 1) := by decide +kernel
def wX10_agree  (x1 : Int32) (x2 : Int32) (x3 : Int32) (σ : Sto) (post : Int32 → Sto → Prop) : Prop := wX10_noHouse  x1 σ (fun (r2 : Bool) (s2 : Sto) => ((r2 = true) → (post ((-2 : Int32)) s2)) ∧ ((r2 = false) → (wX10_noHouse  x2 s2 (fun (r10 : Bool) (s10 : Sto) => ((r10 = true) → (post ((-2 : Int32)) s10)) ∧ ((r10 = false) → (((x1 = x2) → (post ((-2 : Int32)) s10)) ∧ ((¬ (x1 = x2)) → (wX10_noPiece  x3 s10 (fun (r22 : Bool) (s22 : Sto) => ((r22 = false) → (wX7_takesPart  x1 x3 s22 (fun (r37 : Bool) (s37 : Sto) => ((r37 = false) → (post ((-3 : Int32)) s37)) ∧ ((r37 = true) → (wX7_takesPart  x2 x3 s37 (fun (r49 : Bool) (s49 : Sto) => ((r49 = true) → (wX0_holds  x1 x2 x3 s49 (fun (r65 : Bool) (s65 : Sto) => ((r65 = false) → (post ((0 : Int32)) s65)) ∧ ((r65 = true) → (post ((1 : Int32)) s65))))) ∧ ((r49 = false) → (post ((-3 : Int32)) s49)))))))) ∧ ((r22 = true) → (post ((-2 : Int32)) s22)))))))))))
set_option maxRecDepth 100000 in
set_option maxHeartbeats 4000000 in
theorem vX10_agree (E : Ev)  (x1 : Int32) (x2 : Int32) (x3 : Int32) (σ : Sto) (post : Int32 → Sto → Prop)  (h : wX10_agree  x1 x2 x3 σ post) : V E 2 mX10_agree (pI post) 0 [(0, .ref 0), (1, .int x1), (2, .int x2), (3, .int x3)] [] σ := by
  unfold wX10_agree at h
  refine V_aload_n (pc := 0) 0 dX10_agree_0 rfl ?_
  refine V_iload_n (pc := 1) 1 dX10_agree_1 rfl ?_
  refine V_callV (pc := 2) (M' := mX10_noHouse) dX10_agree_2 ml_X10_89 kv_X10_noHouse ko_X10_noHouse sh_0 (by decide) (by decide) rfl rfl (Nat.le_of_ble_eq_true rfl) (Nat.le_of_ble_eq_true rfl) (vX10_noHouse E  x1 σ _  h) (kB (fun r2 s2 h => ?_))
  refine V_ifnz (pc := 5) (tgt := 28) dX10_agree_5 (by decide) (fun hc => ?_) (fun hc => ?_)
  · replace h := h.1 hc
    refine V_bipush (pc := 28) (v := -2) dX10_agree_28 (by decide) ?_
    exact V_iret dX10_agree_30 rfl h
  · replace h := h.2 hc
    refine V_aload_n (pc := 8) 0 dX10_agree_8 rfl ?_
    refine V_iload_n (pc := 9) 2 dX10_agree_9 rfl ?_
    refine V_callV (pc := 10) (M' := mX10_noHouse) dX10_agree_10 ml_X10_89 kv_X10_noHouse ko_X10_noHouse sh_0 (by decide) (by decide) rfl rfl (Nat.le_of_ble_eq_true rfl) (Nat.le_of_ble_eq_true rfl) (vX10_noHouse E  x2 s2 _  h) (kB (fun r10 s10 h => ?_))
    refine V_ifnz (pc := 13) (tgt := 28) dX10_agree_13 (by decide) (fun hc => ?_) (fun hc => ?_)
    · replace h := h.1 hc
      refine V_bipush (pc := 28) (v := -2) dX10_agree_28 (by decide) ?_
      exact V_iret dX10_agree_30 rfl h
    · replace h := h.2 hc
      refine V_iload_n (pc := 16) 1 dX10_agree_16 rfl ?_
      refine V_iload_n (pc := 17) 2 dX10_agree_17 rfl ?_
      refine V_icmp_eq (pc := 18) (tgt := 28) dX10_agree_18 (by decide) (fun hc => ?_) (fun hc => ?_)
      · replace h := h.1 hc
        refine V_bipush (pc := 28) (v := -2) dX10_agree_28 (by decide) ?_
        exact V_iret dX10_agree_30 rfl h
      · replace h := h.2 hc
        refine V_iload_n (pc := 21) 3 dX10_agree_21 rfl ?_
        refine V_callS (pc := 22) (M' := mX10_noPiece) dX10_agree_22 ml_X10_152 ks_X10_noPiece ko_X10_noPiece (by decide) rfl (Nat.le_of_ble_eq_true rfl) (Nat.le_of_ble_eq_true rfl) (vX10_noPiece E  x3 s10 _  h) (kB (fun r22 s22 h => ?_))
        refine V_ifz (pc := 25) (tgt := 31) dX10_agree_25 (by decide) (fun hc => ?_) (fun hc => ?_)
        · replace h := h.1 hc
          refine V_aload_n (pc := 31) 0 dX10_agree_31 rfl ?_
          refine V_getR (pc := 32) dX10_agree_32 fl_X10_23 sh_0 rfl ?_
          refine V_iload_n (pc := 35) 1 dX10_agree_35 rfl ?_
          refine V_iload_n (pc := 36) 3 dX10_agree_36 rfl ?_
          refine V_callV (pc := 37) (M' := mX7_takesPart) dX10_agree_37 ml_X10_162 kv_X7_takesPart ko_X7_takesPart sh_2 (by decide) (by decide) rfl rfl (Nat.le_of_ble_eq_true rfl) (Nat.le_of_ble_eq_true rfl) (vX7_takesPart E  x1 x3 s22 _  h) (kB (fun r37 s37 h => ?_))
          refine V_ifz (pc := 40) (tgt := 55) dX10_agree_40 (by decide) (fun hc => ?_) (fun hc => ?_)
          · replace h := h.1 hc
            refine V_bipush (pc := 55) (v := -3) dX10_agree_55 (by decide) ?_
            exact V_iret dX10_agree_57 rfl h
          · replace h := h.2 hc
            refine V_aload_n (pc := 43) 0 dX10_agree_43 rfl ?_
            refine V_getR (pc := 44) dX10_agree_44 fl_X10_23 sh_0 rfl ?_
            refine V_iload_n (pc := 47) 2 dX10_agree_47 rfl ?_
            refine V_iload_n (pc := 48) 3 dX10_agree_48 rfl ?_
            refine V_callV (pc := 49) (M' := mX7_takesPart) dX10_agree_49 ml_X10_162 kv_X7_takesPart ko_X7_takesPart sh_2 (by decide) (by decide) rfl rfl (Nat.le_of_ble_eq_true rfl) (Nat.le_of_ble_eq_true rfl) (vX7_takesPart E  x2 x3 s37 _  h) (kB (fun r49 s49 h => ?_))
            refine V_ifnz (pc := 52) (tgt := 58) dX10_agree_52 (by decide) (fun hc => ?_) (fun hc => ?_)
            · replace h := h.1 hc
              refine V_aload_n (pc := 58) 0 dX10_agree_58 rfl ?_
              refine V_getR (pc := 59) dX10_agree_59 fl_X10_32 sh_0 rfl ?_
              refine V_iload_n (pc := 62) 1 dX10_agree_62 rfl ?_
              refine V_iload_n (pc := 63) 2 dX10_agree_63 rfl ?_
              refine V_iload_n (pc := 64) 3 dX10_agree_64 rfl ?_
              refine V_callV (pc := 65) (M' := mX0_holds) dX10_agree_65 ml_X10_170 kv_X0_holds ko_X0_holds sh_3 (by decide) (by decide) rfl rfl (Nat.le_of_ble_eq_true rfl) (Nat.le_of_ble_eq_true rfl) (vX0_holds E  x1 x2 x3 s49 _  h) (kB (fun r65 s65 h => ?_))
              refine V_ifz (pc := 68) (tgt := 75) dX10_agree_68 (by decide) (fun hc => ?_) (fun hc => ?_)
              · replace h := h.1 hc
                refine V_iconst (pc := 75) (v := 0) dX10_agree_75 (by decide) ?_
                exact V_iret dX10_agree_76 rfl h
              · replace h := h.2 hc
                refine V_iconst (pc := 71) (v := 1) dX10_agree_71 (by decide) ?_
                refine V_goto (pc := 72) (tgt := 76) dX10_agree_72 (by decide) ?_
                exact V_iret dX10_agree_76 rfl h
            · replace h := h.2 hc
              refine V_bipush (pc := 55) (v := -3) dX10_agree_55 (by decide) ?_
              exact V_iret dX10_agree_57 rfl h
        · replace h := h.2 hc
          refine V_bipush (pc := 28) (v := -2) dX10_agree_28 (by decide) ?_
          exact V_iret dX10_agree_30 rfl h
theorem dX10_agreeing_0 : decode cX10_agreeing 0 = .ok (.iload_n 1, 1) := by decide +kernel
theorem dX10_agreeing_1 : decode cX10_agreeing 1 = .ok (.invokestatic 152, 3) := by decide +kernel
theorem dX10_agreeing_4 : decode cX10_agreeing 4 = .ok (.ifCond .eq 6, 3) := by decide +kernel
theorem dX10_agreeing_7 : decode cX10_agreeing 7 = .ok (.bipush (-2), 2) := by decide +kernel
theorem dX10_agreeing_9 : decode cX10_agreeing 9 = .ok (.ireturn, 1) := by decide +kernel
theorem dX10_agreeing_10 : decode cX10_agreeing 10 = .ok (.aload_n 0, 1) := by decide +kernel
theorem dX10_agreeing_11 : decode cX10_agreeing 11 = .ok (.getfield 32, 3) := by decide +kernel
theorem dX10_agreeing_14 : decode cX10_agreeing 14 = .ok (.iload_n 1, 1) := by decide +kernel
theorem dX10_agreeing_15 : decode cX10_agreeing 15 = .ok (.invokevirtual 174, 3) := by decide +kernel
theorem dX10_agreeing_18 : decode cX10_agreeing 18 = .ok (.ireturn, 1) := by decide +kernel
def wX10_agreeing  (x1 : Int32) (σ : Sto) (post : Int32 → Sto → Prop) : Prop := wX10_noPiece  x1 σ (fun (r1 : Bool) (s1 : Sto) => ((r1 = false) → (wX0_mostOf  x1 s1 (fun (r15 : Int32) (s15 : Sto) => post r15 s15))) ∧ ((r1 = true) → (post ((-2 : Int32)) s1)))
set_option maxRecDepth 100000 in
set_option maxHeartbeats 4000000 in
theorem vX10_agreeing (E : Ev)  (x1 : Int32) (σ : Sto) (post : Int32 → Sto → Prop)  (h : wX10_agreeing  x1 σ post) : V E 31 mX10_agreeing (pI post) 0 [(0, .ref 0), (1, .int x1)] [] σ := by
  unfold wX10_agreeing at h
  refine V_iload_n (pc := 0) 1 dX10_agreeing_0 rfl ?_
  refine V_callS (pc := 1) (M' := mX10_noPiece) dX10_agreeing_1 ml_X10_152 ks_X10_noPiece ko_X10_noPiece (by decide) rfl (Nat.le_of_ble_eq_true rfl) (Nat.le_of_ble_eq_true rfl) (vX10_noPiece E  x1 σ _  h) (kB (fun r1 s1 h => ?_))
  refine V_ifz (pc := 4) (tgt := 10) dX10_agreeing_4 (by decide) (fun hc => ?_) (fun hc => ?_)
  · replace h := h.1 hc
    refine V_aload_n (pc := 10) 0 dX10_agreeing_10 rfl ?_
    refine V_getR (pc := 11) dX10_agreeing_11 fl_X10_32 sh_0 rfl ?_
    refine V_iload_n (pc := 14) 1 dX10_agreeing_14 rfl ?_
    refine V_callV (pc := 15) (M' := mX0_mostOf) dX10_agreeing_15 ml_X10_174 kv_X0_mostOf ko_X0_mostOf sh_3 (by decide) (by decide) rfl rfl (Nat.le_of_ble_eq_true rfl) (Nat.le_of_ble_eq_true rfl) (vX0_mostOf E  x1 s1 _  h) (kI (fun r15 s15 h => ?_))
    exact V_iret dX10_agreeing_18 rfl h
  · replace h := h.2 hc
    refine V_bipush (pc := 7) (v := -2) dX10_agreeing_7 (by decide) ?_
    exact V_iret dX10_agreeing_9 rfl h
theorem dX10_common_0 : decode cX10_common 0 = .ok (.iload_n 1, 1) := by decide +kernel
theorem dX10_common_1 : decode cX10_common 1 = .ok (.invokestatic 152, 3) := by decide +kernel
theorem dX10_common_4 : decode cX10_common 4 = .ok (.ifCond .ne 12, 3) := by decide +kernel
theorem dX10_common_7 : decode cX10_common 7 = .ok (.iload_n 2, 1) := by decide +kernel
theorem dX10_common_8 : decode cX10_common 8 = .ok (.ifCond .lt 8, 3) := by decide +kernel
theorem dX10_common_11 : decode cX10_common 11 = .ok (.iload_n 2, 1) := by decide +kernel
theorem dX10_common_12 : decode cX10_common 12 = .ok (.iconst 1, 1) := by decide +kernel
theorem dX10_common_13 : decode cX10_common 13 = .ok (.if_icmp .le 6, 3) := by decide +kernel
theorem dX10_common_16 : decode cX10_common 16 = .ok (.ldc 155, 2) := by decide +kernel
theorem dX10_common_18 : decode cX10_common 18 = .ok (.ireturn, 1) := by decide +kernel
theorem dX10_common_19 : decode cX10_common 19 = .ok (.aload_n 0, 1) := by decide +kernel
theorem dX10_common_20 : decode cX10_common 20 = .ok (.getfield 32, 3) := by decide +kernel
theorem dX10_common_23 : decode cX10_common 23 = .ok (.iload_n 1, 1) := by decide +kernel
theorem dX10_common_24 : decode cX10_common 24 = .ok (.invokevirtual 177, 3) := by decide +kernel
theorem dX10_common_27 : decode cX10_common 27 = .ok (.iload_n 2, 1) := by decide +kernel
theorem dX10_common_28 : decode cX10_common 28 = .ok (.ifCond .ne 11, 3) := by decide +kernel
theorem dX10_common_31 : decode cX10_common 31 = .ok (.aload_n 0, 1) := by decide +kernel
theorem dX10_common_32 : decode cX10_common 32 = .ok (.getfield 32, 3) := by decide +kernel
theorem dX10_common_35 : decode cX10_common 35 = .ok (.getfield 180, 3) := by decide +kernel
theorem dX10_common_38 : decode cX10_common 38 = .ok (.ireturn, 1) := by decide +kernel
theorem dX10_common_39 : decode cX10_common 39 = .ok (.aload_n 0, 1) := by decide +kernel
theorem dX10_common_40 : decode cX10_common 40 = .ok (.getfield 32, 3) := by decide +kernel
theorem dX10_common_43 : decode cX10_common 43 = .ok (.getfield 180, 3) := by decide +kernel
theorem dX10_common_46 : decode cX10_common 46 = .ok (.ifCond .ne 8, 3) := by decide +kernel
theorem dX10_common_49 : decode cX10_common 49 = .ok (.ldc 169, 2) := by decide +kernel
theorem dX10_common_51 : decode cX10_common 51 = .ok (.goto 10, 3) := by decide +kernel
theorem dX10_common_54 : decode cX10_common 54 = .ok (.aload_n 0, 1) := by decide +kernel
theorem dX10_common_55 : decode cX10_common 55 = .ok (.getfield 32, 3) := by decide +kernel
theorem dX10_common_58 : decode cX10_common 58 = .ok (.getfield 183, 3) := by decide +kernel
theorem dX10_common_61 : decode cX10_common 61 = .ok (.ireturn, 1) := by decide +kernel
def wX10_common  (x1 : Int32) (x2 : Int32) (σ : Sto) (post : Int32 → Sto → Prop) : Prop := wX10_noPiece  x1 σ (fun (r1 : Bool) (s1 : Sto) => ((r1 = true) → (post ((-2147483648 : Int32)) s1)) ∧ ((r1 = false) → (((x2 < 0) → (post ((-2147483648 : Int32)) s1)) ∧ ((¬ (x2 < 0)) → (((x2 ≤ ((1 : Int32))) → (wX0_meet  x1 s1 (fun (s24 : Sto) => ((¬ x2 = 0) → (((¬ (s24.1 3 4) = 0) → (post (s24.1 3 5) s24)) ∧ (((s24.1 3 4) = 0) → (post ((-2147483647 : Int32)) s24)))) ∧ ((x2 = 0) → (post (s24.1 3 4) s24))))) ∧ ((¬ (x2 ≤ ((1 : Int32)))) → (post ((-2147483648 : Int32)) s1)))))))
set_option maxRecDepth 100000 in
set_option maxHeartbeats 4000000 in
theorem vX10_common (E : Ev)  (x1 : Int32) (x2 : Int32) (σ : Sto) (post : Int32 → Sto → Prop)  (h : wX10_common  x1 x2 σ post) : V E 3 mX10_common (pI post) 0 [(0, .ref 0), (1, .int x1), (2, .int x2)] [] σ := by
  unfold wX10_common at h
  refine V_iload_n (pc := 0) 1 dX10_common_0 rfl ?_
  refine V_callS (pc := 1) (M' := mX10_noPiece) dX10_common_1 ml_X10_152 ks_X10_noPiece ko_X10_noPiece (by decide) rfl (Nat.le_of_ble_eq_true rfl) (Nat.le_of_ble_eq_true rfl) (vX10_noPiece E  x1 σ _  h) (kB (fun r1 s1 h => ?_))
  refine V_ifnz (pc := 4) (tgt := 16) dX10_common_4 (by decide) (fun hc => ?_) (fun hc => ?_)
  · replace h := h.1 hc
    refine V_ldc (pc := 16) dX10_common_16 ci_X10_155 ?_
    exact V_iret dX10_common_18 rfl h
  · replace h := h.2 hc
    refine V_iload_n (pc := 7) 2 dX10_common_7 rfl ?_
    refine V_if_lt (pc := 8) (tgt := 16) dX10_common_8 (by decide) (fun hc => ?_) (fun hc => ?_)
    · replace h := h.1 hc
      refine V_ldc (pc := 16) dX10_common_16 ci_X10_155 ?_
      exact V_iret dX10_common_18 rfl h
    · replace h := h.2 hc
      refine V_iload_n (pc := 11) 2 dX10_common_11 rfl ?_
      refine V_iconst (pc := 12) (v := 1) dX10_common_12 (by decide) ?_
      refine V_icmp_le (pc := 13) (tgt := 19) dX10_common_13 (by decide) (fun hc => ?_) (fun hc => ?_)
      · replace h := h.1 hc
        refine V_aload_n (pc := 19) 0 dX10_common_19 rfl ?_
        refine V_getR (pc := 20) dX10_common_20 fl_X10_32 sh_0 rfl ?_
        refine V_iload_n (pc := 23) 1 dX10_common_23 rfl ?_
        refine V_callV (pc := 24) (M' := mX0_meet) dX10_common_24 ml_X10_177 kv_X0_meet ko_X0_meet sh_3 (by decide) (by decide) rfl rfl (Nat.le_of_ble_eq_true rfl) (Nat.le_of_ble_eq_true rfl) (vX0_meet E  x1 s1 _  h) (kV (fun s24 h => ?_))
        refine V_iload_n (pc := 27) 2 dX10_common_27 rfl ?_
        refine V_if_ne (pc := 28) (tgt := 39) dX10_common_28 (by decide) (fun hc => ?_) (fun hc => ?_)
        · replace h := h.1 hc
          refine V_aload_n (pc := 39) 0 dX10_common_39 rfl ?_
          refine V_getR (pc := 40) dX10_common_40 fl_X10_32 sh_0 rfl ?_
          refine V_getI (pc := 43) dX10_common_43 fl_X10_180 sh_3 rfl ?_
          refine V_if_ne (pc := 46) (tgt := 54) dX10_common_46 (by decide) (fun hc => ?_) (fun hc => ?_)
          · replace h := h.1 hc
            refine V_aload_n (pc := 54) 0 dX10_common_54 rfl ?_
            refine V_getR (pc := 55) dX10_common_55 fl_X10_32 sh_0 rfl ?_
            refine V_getI (pc := 58) dX10_common_58 fl_X10_183 sh_3 rfl ?_
            exact V_iret dX10_common_61 rfl h
          · replace h := h.2 hc
            refine V_ldc (pc := 49) dX10_common_49 ci_X10_169 ?_
            refine V_goto (pc := 51) (tgt := 61) dX10_common_51 (by decide) ?_
            exact V_iret dX10_common_61 rfl h
        · replace h := h.2 hc
          refine V_aload_n (pc := 31) 0 dX10_common_31 rfl ?_
          refine V_getR (pc := 32) dX10_common_32 fl_X10_32 sh_0 rfl ?_
          refine V_getI (pc := 35) dX10_common_35 fl_X10_180 sh_3 rfl ?_
          exact V_iret dX10_common_38 rfl h
      · replace h := h.2 hc
        refine V_ldc (pc := 16) dX10_common_16 ci_X10_155 ?_
        exact V_iret dX10_common_18 rfl h
theorem dX10_chain_0 : decode cX10_chain 0 = .ok (.aload_n 0, 1) := by decide +kernel
theorem dX10_chain_1 : decode cX10_chain 1 = .ok (.iload_n 1, 1) := by decide +kernel
theorem dX10_chain_2 : decode cX10_chain 2 = .ok (.invokevirtual 89, 3) := by decide +kernel
theorem dX10_chain_5 : decode cX10_chain 5 = .ok (.ifCond .ne 16, 3) := by decide +kernel
theorem dX10_chain_8 : decode cX10_chain 8 = .ok (.aload_n 0, 1) := by decide +kernel
theorem dX10_chain_9 : decode cX10_chain 9 = .ok (.iload_n 2, 1) := by decide +kernel
theorem dX10_chain_10 : decode cX10_chain 10 = .ok (.invokevirtual 89, 3) := by decide +kernel
theorem dX10_chain_13 : decode cX10_chain 13 = .ok (.ifCond .ne 8, 3) := by decide +kernel
theorem dX10_chain_16 : decode cX10_chain 16 = .ok (.iload_n 1, 1) := by decide +kernel
theorem dX10_chain_17 : decode cX10_chain 17 = .ok (.iload_n 2, 1) := by decide +kernel
theorem dX10_chain_18 : decode cX10_chain 18 = .ok (.if_icmp .ne 6, 3) := by decide +kernel
theorem dX10_chain_21 : decode cX10_chain 21 = .ok (.bipush (-2), 2) := by decide +kernel
theorem dX10_chain_23 : decode cX10_chain 23 = .ok (.ireturn, 1) := by decide +kernel
theorem dX10_chain_24 : decode cX10_chain 24 = .ok (.aload_n 0, 1) := by decide +kernel
theorem dX10_chain_25 : decode cX10_chain 25 = .ok (.getfield 39, 3) := by decide +kernel
theorem dX10_chain_28 : decode cX10_chain 28 = .ok (.iload_n 2, 1) := by decide +kernel
theorem dX10_chain_29 : decode cX10_chain 29 = .ok (.invokevirtual 186, 3) := by decide +kernel
theorem dX10_chain_32 : decode cX10_chain 32 = .ok (.aload_n 0, 1) := by decide +kernel
theorem dX10_chain_33 : decode cX10_chain 33 = .ok (.getfield 39, 3) := by decide +kernel
theorem dX10_chain_36 : decode cX10_chain 36 = .ok (.getfield 189, 3) := by decide +kernel
theorem dX10_chain_39 : decode cX10_chain 39 = .ok (.iload_n 1, 1) := by decide +kernel
theorem dX10_chain_40 : decode cX10_chain 40 = .ok (.iaload, 1) := by decide +kernel
theorem dX10_chain_41 : decode cX10_chain 41 = .ok (.ireturn, 1) := by decide +kernel
def wX10_chain  (x1 : Int32) (x2 : Int32) (σ : Sto) (post : Int32 → Sto → Prop) : Prop := wX10_noHouse  x1 σ (fun (r2 : Bool) (s2 : Sto) => ((r2 = true) → (post ((-2 : Int32)) s2)) ∧ ((r2 = false) → (wX10_noHouse  x2 s2 (fun (r10 : Bool) (s10 : Sto) => ((r10 = true) → (post ((-2 : Int32)) s10)) ∧ ((r10 = false) → (((¬ x1 = x2) → (wX2_reckonTo  x2 s10 (fun (s29 : Sto) => vp_in x1 14 ∧ (post (s29.1 51 x1.toNatClampNeg) s29)))) ∧ ((x1 = x2) → (post ((-2 : Int32)) s10))))))))
set_option maxRecDepth 100000 in
set_option maxHeartbeats 4000000 in
theorem vX10_chain (E : Ev)  (x1 : Int32) (x2 : Int32) (σ : Sto) (post : Int32 → Sto → Prop)  (h : wX10_chain  x1 x2 σ post) : V E 4 mX10_chain (pI post) 0 [(0, .ref 0), (1, .int x1), (2, .int x2)] [] σ := by
  unfold wX10_chain at h
  refine V_aload_n (pc := 0) 0 dX10_chain_0 rfl ?_
  refine V_iload_n (pc := 1) 1 dX10_chain_1 rfl ?_
  refine V_callV (pc := 2) (M' := mX10_noHouse) dX10_chain_2 ml_X10_89 kv_X10_noHouse ko_X10_noHouse sh_0 (by decide) (by decide) rfl rfl (Nat.le_of_ble_eq_true rfl) (Nat.le_of_ble_eq_true rfl) (vX10_noHouse E  x1 σ _  h) (kB (fun r2 s2 h => ?_))
  refine V_ifnz (pc := 5) (tgt := 21) dX10_chain_5 (by decide) (fun hc => ?_) (fun hc => ?_)
  · replace h := h.1 hc
    refine V_bipush (pc := 21) (v := -2) dX10_chain_21 (by decide) ?_
    exact V_iret dX10_chain_23 rfl h
  · replace h := h.2 hc
    refine V_aload_n (pc := 8) 0 dX10_chain_8 rfl ?_
    refine V_iload_n (pc := 9) 2 dX10_chain_9 rfl ?_
    refine V_callV (pc := 10) (M' := mX10_noHouse) dX10_chain_10 ml_X10_89 kv_X10_noHouse ko_X10_noHouse sh_0 (by decide) (by decide) rfl rfl (Nat.le_of_ble_eq_true rfl) (Nat.le_of_ble_eq_true rfl) (vX10_noHouse E  x2 s2 _  h) (kB (fun r10 s10 h => ?_))
    refine V_ifnz (pc := 13) (tgt := 21) dX10_chain_13 (by decide) (fun hc => ?_) (fun hc => ?_)
    · replace h := h.1 hc
      refine V_bipush (pc := 21) (v := -2) dX10_chain_21 (by decide) ?_
      exact V_iret dX10_chain_23 rfl h
    · replace h := h.2 hc
      refine V_iload_n (pc := 16) 1 dX10_chain_16 rfl ?_
      refine V_iload_n (pc := 17) 2 dX10_chain_17 rfl ?_
      refine V_icmp_ne (pc := 18) (tgt := 24) dX10_chain_18 (by decide) (fun hc => ?_) (fun hc => ?_)
      · replace h := h.1 hc
        refine V_aload_n (pc := 24) 0 dX10_chain_24 rfl ?_
        refine V_getR (pc := 25) dX10_chain_25 fl_X10_39 sh_0 rfl ?_
        refine V_iload_n (pc := 28) 2 dX10_chain_28 rfl ?_
        refine V_callV (pc := 29) (M' := mX2_reckonTo) dX10_chain_29 ml_X10_186 kv_X2_reckonTo ko_X2_reckonTo sh_4 (by decide) (by decide) rfl rfl (Nat.le_of_ble_eq_true rfl) (Nat.le_of_ble_eq_true rfl) (vX2_reckonTo E  x2 s10 _  h) (kV (fun s29 h => ?_))
        refine V_aload_n (pc := 32) 0 dX10_chain_32 rfl ?_
        refine V_getR (pc := 33) dX10_chain_33 fl_X10_39 sh_0 rfl ?_
        refine V_getR (pc := 36) dX10_chain_36 fl_X10_189 sh_4 rfl ?_
        refine V_iload_n (pc := 39) 1 dX10_chain_39 rfl ?_
        obtain ⟨i40, h⟩ := h
        refine V_iald (pc := 40) dX10_chain_40 sh_51 i40 ?_
        exact V_iret dX10_chain_41 rfl h
      · replace h := h.2 hc
        refine V_bipush (pc := 21) (v := -2) dX10_chain_21 (by decide) ?_
        exact V_iret dX10_chain_23 rfl h
theorem dX10_via_0 : decode cX10_via 0 = .ok (.aload_n 0, 1) := by decide +kernel
theorem dX10_via_1 : decode cX10_via 1 = .ok (.iload_n 1, 1) := by decide +kernel
theorem dX10_via_2 : decode cX10_via 2 = .ok (.invokevirtual 89, 3) := by decide +kernel
theorem dX10_via_5 : decode cX10_via 5 = .ok (.ifCond .ne 16, 3) := by decide +kernel
theorem dX10_via_8 : decode cX10_via 8 = .ok (.aload_n 0, 1) := by decide +kernel
theorem dX10_via_9 : decode cX10_via 9 = .ok (.iload_n 2, 1) := by decide +kernel
theorem dX10_via_10 : decode cX10_via 10 = .ok (.invokevirtual 89, 3) := by decide +kernel
theorem dX10_via_13 : decode cX10_via 13 = .ok (.ifCond .ne 8, 3) := by decide +kernel
theorem dX10_via_16 : decode cX10_via 16 = .ok (.iload_n 1, 1) := by decide +kernel
theorem dX10_via_17 : decode cX10_via 17 = .ok (.iload_n 2, 1) := by decide +kernel
theorem dX10_via_18 : decode cX10_via 18 = .ok (.if_icmp .ne 6, 3) := by decide +kernel
theorem dX10_via_21 : decode cX10_via 21 = .ok (.bipush (-2), 2) := by decide +kernel
theorem dX10_via_23 : decode cX10_via 23 = .ok (.ireturn, 1) := by decide +kernel
theorem dX10_via_24 : decode cX10_via 24 = .ok (.aload_n 0, 1) := by decide +kernel
theorem dX10_via_25 : decode cX10_via 25 = .ok (.getfield 39, 3) := by decide +kernel
theorem dX10_via_28 : decode cX10_via 28 = .ok (.iload_n 2, 1) := by decide +kernel
theorem dX10_via_29 : decode cX10_via 29 = .ok (.invokevirtual 186, 3) := by decide +kernel
theorem dX10_via_32 : decode cX10_via 32 = .ok (.aload_n 0, 1) := by decide +kernel
theorem dX10_via_33 : decode cX10_via 33 = .ok (.getfield 39, 3) := by decide +kernel
theorem dX10_via_36 : decode cX10_via 36 = .ok (.iload_n 1, 1) := by decide +kernel
theorem dX10_via_37 : decode cX10_via 37 = .ok (.invokevirtual 192, 3) := by decide +kernel
theorem dX10_via_40 : decode cX10_via 40 = .ok (.ireturn, 1) := by decide +kernel
def wX10_via  (x1 : Int32) (x2 : Int32) (σ : Sto) (post : Int32 → Sto → Prop) : Prop := wX10_noHouse  x1 σ (fun (r2 : Bool) (s2 : Sto) => ((r2 = true) → (post ((-2 : Int32)) s2)) ∧ ((r2 = false) → (wX10_noHouse  x2 s2 (fun (r10 : Bool) (s10 : Sto) => ((r10 = true) → (post ((-2 : Int32)) s10)) ∧ ((r10 = false) → (((¬ x1 = x2) → (wX2_reckonTo  x2 s10 (fun (s29 : Sto) => wX2_nextFrom  x1 s29 (fun (r37 : Int32) (s37 : Sto) => post r37 s37)))) ∧ ((x1 = x2) → (post ((-2 : Int32)) s10))))))))
set_option maxRecDepth 100000 in
set_option maxHeartbeats 4000000 in
theorem vX10_via (E : Ev)  (x1 : Int32) (x2 : Int32) (σ : Sto) (post : Int32 → Sto → Prop)  (h : wX10_via  x1 x2 σ post) : V E 4 mX10_via (pI post) 0 [(0, .ref 0), (1, .int x1), (2, .int x2)] [] σ := by
  unfold wX10_via at h
  refine V_aload_n (pc := 0) 0 dX10_via_0 rfl ?_
  refine V_iload_n (pc := 1) 1 dX10_via_1 rfl ?_
  refine V_callV (pc := 2) (M' := mX10_noHouse) dX10_via_2 ml_X10_89 kv_X10_noHouse ko_X10_noHouse sh_0 (by decide) (by decide) rfl rfl (Nat.le_of_ble_eq_true rfl) (Nat.le_of_ble_eq_true rfl) (vX10_noHouse E  x1 σ _  h) (kB (fun r2 s2 h => ?_))
  refine V_ifnz (pc := 5) (tgt := 21) dX10_via_5 (by decide) (fun hc => ?_) (fun hc => ?_)
  · replace h := h.1 hc
    refine V_bipush (pc := 21) (v := -2) dX10_via_21 (by decide) ?_
    exact V_iret dX10_via_23 rfl h
  · replace h := h.2 hc
    refine V_aload_n (pc := 8) 0 dX10_via_8 rfl ?_
    refine V_iload_n (pc := 9) 2 dX10_via_9 rfl ?_
    refine V_callV (pc := 10) (M' := mX10_noHouse) dX10_via_10 ml_X10_89 kv_X10_noHouse ko_X10_noHouse sh_0 (by decide) (by decide) rfl rfl (Nat.le_of_ble_eq_true rfl) (Nat.le_of_ble_eq_true rfl) (vX10_noHouse E  x2 s2 _  h) (kB (fun r10 s10 h => ?_))
    refine V_ifnz (pc := 13) (tgt := 21) dX10_via_13 (by decide) (fun hc => ?_) (fun hc => ?_)
    · replace h := h.1 hc
      refine V_bipush (pc := 21) (v := -2) dX10_via_21 (by decide) ?_
      exact V_iret dX10_via_23 rfl h
    · replace h := h.2 hc
      refine V_iload_n (pc := 16) 1 dX10_via_16 rfl ?_
      refine V_iload_n (pc := 17) 2 dX10_via_17 rfl ?_
      refine V_icmp_ne (pc := 18) (tgt := 24) dX10_via_18 (by decide) (fun hc => ?_) (fun hc => ?_)
      · replace h := h.1 hc
        refine V_aload_n (pc := 24) 0 dX10_via_24 rfl ?_
        refine V_getR (pc := 25) dX10_via_25 fl_X10_39 sh_0 rfl ?_
        refine V_iload_n (pc := 28) 2 dX10_via_28 rfl ?_
        refine V_callV (pc := 29) (M' := mX2_reckonTo) dX10_via_29 ml_X10_186 kv_X2_reckonTo ko_X2_reckonTo sh_4 (by decide) (by decide) rfl rfl (Nat.le_of_ble_eq_true rfl) (Nat.le_of_ble_eq_true rfl) (vX2_reckonTo E  x2 s10 _  h) (kV (fun s29 h => ?_))
        refine V_aload_n (pc := 32) 0 dX10_via_32 rfl ?_
        refine V_getR (pc := 33) dX10_via_33 fl_X10_39 sh_0 rfl ?_
        refine V_iload_n (pc := 36) 1 dX10_via_36 rfl ?_
        refine V_callV (pc := 37) (M' := mX2_nextFrom) dX10_via_37 ml_X10_192 kv_X2_nextFrom ko_X2_nextFrom sh_4 (by decide) (by decide) rfl rfl (Nat.le_of_ble_eq_true rfl) (Nat.le_of_ble_eq_true rfl) (vX2_nextFrom E  x1 s29 _  h) (kI (fun r37 s37 h => ?_))
        exact V_iret dX10_via_40 rfl h
      · replace h := h.2 hc
        refine V_bipush (pc := 21) (v := -2) dX10_via_21 (by decide) ?_
        exact V_iret dX10_via_23 rfl h
theorem dX10_number_0 : decode cX10_number 0 = .ok (.iload_n 1, 1) := by decide +kernel
theorem dX10_number_1 : decode cX10_number 1 = .ok (.invokestatic 152, 3) := by decide +kernel
theorem dX10_number_4 : decode cX10_number 4 = .ok (.ifCond .ne 21, 3) := by decide +kernel
theorem dX10_number_7 : decode cX10_number 7 = .ok (.iload_n 2, 1) := by decide +kernel
theorem dX10_number_8 : decode cX10_number 8 = .ok (.ifCond .lt 17, 3) := by decide +kernel
theorem dX10_number_11 : decode cX10_number 11 = .ok (.iload_n 2, 1) := by decide +kernel
theorem dX10_number_12 : decode cX10_number 12 = .ok (.iconst 4, 1) := by decide +kernel
theorem dX10_number_13 : decode cX10_number 13 = .ok (.if_icmp .ge 12, 3) := by decide +kernel
theorem dX10_number_16 : decode cX10_number 16 = .ok (.iload_n 3, 1) := by decide +kernel
theorem dX10_number_17 : decode cX10_number 17 = .ok (.ifCond .lt 8, 3) := by decide +kernel
theorem dX10_number_20 : decode cX10_number 20 = .ok (.iload_n 3, 1) := by decide +kernel
theorem dX10_number_21 : decode cX10_number 21 = .ok (.iconst 1, 1) := by decide +kernel
theorem dX10_number_22 : decode cX10_number 22 = .ok (.if_icmp .le 9, 3) := by decide +kernel
theorem dX10_number_25 : decode cX10_number 25 = .ok (.bipush (-2), 2) := by decide +kernel
theorem dX10_number_27 : decode cX10_number 27 = .ok (.invokestatic 195, 3) := by decide +kernel
theorem dX10_number_30 : decode cX10_number 30 = .ok (.lreturn, 1) := by decide +kernel
theorem dX10_number_31 : decode cX10_number 31 = .ok (.aload_n 0, 1) := by decide +kernel
theorem dX10_number_32 : decode cX10_number 32 = .ok (.getfield 46, 3) := by decide +kernel
theorem dX10_number_35 : decode cX10_number 35 = .ok (.iload_n 2, 1) := by decide +kernel
theorem dX10_number_36 : decode cX10_number 36 = .ok (.iload_n 1, 1) := by decide +kernel
theorem dX10_number_37 : decode cX10_number 37 = .ok (.invokevirtual 199, 3) := by decide +kernel
theorem dX10_number_40 : decode cX10_number 40 = .ok (.ifCond .ne 9, 3) := by decide +kernel
theorem dX10_number_43 : decode cX10_number 43 = .ok (.bipush (-3), 2) := by decide +kernel
theorem dX10_number_45 : decode cX10_number 45 = .ok (.invokestatic 195, 3) := by decide +kernel
theorem dX10_number_48 : decode cX10_number 48 = .ok (.lreturn, 1) := by decide +kernel
theorem dX10_number_49 : decode cX10_number 49 = .ok (.aload_n 0, 1) := by decide +kernel
theorem dX10_number_50 : decode cX10_number 50 = .ok (.getfield 46, 3) := by decide +kernel
theorem dX10_number_53 : decode cX10_number 53 = .ok (.getfield 202, 3) := by decide +kernel
theorem dX10_number_56 : decode cX10_number 56 = .ok (.iload_n 3, 1) := by decide +kernel
theorem dX10_number_57 : decode cX10_number 57 = .ok (.invokevirtual 206, 3) := by decide +kernel
theorem dX10_number_60 : decode cX10_number 60 = .ok (.lreturn, 1) := by decide +kernel
def wX10_number  (x1 : Int32) (x2 : Int32) (x3 : Int32) (σ : Sto) (post : Int64 → Sto → Prop) : Prop := wX10_noPiece  x1 σ (fun (r1 : Bool) (s1 : Sto) => ((r1 = true) → (wX10_refusal  ((-2 : Int32)) s1 (fun (r27 : Int64) (s27 : Sto) => post r27 s27))) ∧ ((r1 = false) → (((x2 < 0) → (wX10_refusal  ((-2 : Int32)) s1 (fun (r27 : Int64) (s27 : Sto) => post r27 s27))) ∧ ((¬ (x2 < 0)) → (((((4 : Int32)) ≤ x2) → (wX10_refusal  ((-2 : Int32)) s1 (fun (r27 : Int64) (s27 : Sto) => post r27 s27))) ∧ ((¬ (((4 : Int32)) ≤ x2)) → (((x3 < 0) → (wX10_refusal  ((-2 : Int32)) s1 (fun (r27 : Int64) (s27 : Sto) => post r27 s27))) ∧ ((¬ (x3 < 0)) → (((x3 ≤ ((1 : Int32))) → (wX6_reckonBy  x2 x1 s1 (fun (r37 : Bool) (s37 : Sto) => ((r37 = true) → (wX5_side 10 x3 s37 (fun (r57 : Int64) (s57 : Sto) => post r57 s57))) ∧ ((r37 = false) → (wX10_refusal  ((-3 : Int32)) s37 (fun (r45 : Int64) (s45 : Sto) => post r45 s45)))))) ∧ ((¬ (x3 ≤ ((1 : Int32)))) → (wX10_refusal  ((-2 : Int32)) s1 (fun (r27 : Int64) (s27 : Sto) => post r27 s27))))))))))))
set_option maxRecDepth 100000 in
set_option maxHeartbeats 4000000 in
theorem vX10_number (E : Ev)  (x1 : Int32) (x2 : Int32) (x3 : Int32) (σ : Sto) (post : Int64 → Sto → Prop)  (h : wX10_number  x1 x2 x3 σ post) : V E 4 mX10_number (pL post) 0 [(0, .ref 0), (1, .int x1), (2, .int x2), (3, .int x3)] [] σ := by
  unfold wX10_number at h
  refine V_iload_n (pc := 0) 1 dX10_number_0 rfl ?_
  refine V_callS (pc := 1) (M' := mX10_noPiece) dX10_number_1 ml_X10_152 ks_X10_noPiece ko_X10_noPiece (by decide) rfl (Nat.le_of_ble_eq_true rfl) (Nat.le_of_ble_eq_true rfl) (vX10_noPiece E  x1 σ _  h) (kB (fun r1 s1 h => ?_))
  refine V_ifnz (pc := 4) (tgt := 25) dX10_number_4 (by decide) (fun hc => ?_) (fun hc => ?_)
  · replace h := h.1 hc
    refine V_bipush (pc := 25) (v := -2) dX10_number_25 (by decide) ?_
    refine V_callS (pc := 27) (M' := mX10_refusal) dX10_number_27 ml_X10_195 ks_X10_refusal ko_X10_refusal (by decide) rfl (Nat.le_of_ble_eq_true rfl) (Nat.le_of_ble_eq_true rfl) (vX10_refusal E  ((-2 : Int32)) s1 _  h) (kL (fun r27 s27 h => ?_))
    exact V_lret dX10_number_30 rfl h
  · replace h := h.2 hc
    refine V_iload_n (pc := 7) 2 dX10_number_7 rfl ?_
    refine V_if_lt (pc := 8) (tgt := 25) dX10_number_8 (by decide) (fun hc => ?_) (fun hc => ?_)
    · replace h := h.1 hc
      refine V_bipush (pc := 25) (v := -2) dX10_number_25 (by decide) ?_
      refine V_callS (pc := 27) (M' := mX10_refusal) dX10_number_27 ml_X10_195 ks_X10_refusal ko_X10_refusal (by decide) rfl (Nat.le_of_ble_eq_true rfl) (Nat.le_of_ble_eq_true rfl) (vX10_refusal E  ((-2 : Int32)) s1 _  h) (kL (fun r27 s27 h => ?_))
      exact V_lret dX10_number_30 rfl h
    · replace h := h.2 hc
      refine V_iload_n (pc := 11) 2 dX10_number_11 rfl ?_
      refine V_iconst (pc := 12) (v := 4) dX10_number_12 (by decide) ?_
      refine V_icmp_ge (pc := 13) (tgt := 25) dX10_number_13 (by decide) (fun hc => ?_) (fun hc => ?_)
      · replace h := h.1 hc
        refine V_bipush (pc := 25) (v := -2) dX10_number_25 (by decide) ?_
        refine V_callS (pc := 27) (M' := mX10_refusal) dX10_number_27 ml_X10_195 ks_X10_refusal ko_X10_refusal (by decide) rfl (Nat.le_of_ble_eq_true rfl) (Nat.le_of_ble_eq_true rfl) (vX10_refusal E  ((-2 : Int32)) s1 _  h) (kL (fun r27 s27 h => ?_))
        exact V_lret dX10_number_30 rfl h
      · replace h := h.2 hc
        refine V_iload_n (pc := 16) 3 dX10_number_16 rfl ?_
        refine V_if_lt (pc := 17) (tgt := 25) dX10_number_17 (by decide) (fun hc => ?_) (fun hc => ?_)
        · replace h := h.1 hc
          refine V_bipush (pc := 25) (v := -2) dX10_number_25 (by decide) ?_
          refine V_callS (pc := 27) (M' := mX10_refusal) dX10_number_27 ml_X10_195 ks_X10_refusal ko_X10_refusal (by decide) rfl (Nat.le_of_ble_eq_true rfl) (Nat.le_of_ble_eq_true rfl) (vX10_refusal E  ((-2 : Int32)) s1 _  h) (kL (fun r27 s27 h => ?_))
          exact V_lret dX10_number_30 rfl h
        · replace h := h.2 hc
          refine V_iload_n (pc := 20) 3 dX10_number_20 rfl ?_
          refine V_iconst (pc := 21) (v := 1) dX10_number_21 (by decide) ?_
          refine V_icmp_le (pc := 22) (tgt := 31) dX10_number_22 (by decide) (fun hc => ?_) (fun hc => ?_)
          · replace h := h.1 hc
            refine V_aload_n (pc := 31) 0 dX10_number_31 rfl ?_
            refine V_getR (pc := 32) dX10_number_32 fl_X10_46 sh_0 rfl ?_
            refine V_iload_n (pc := 35) 2 dX10_number_35 rfl ?_
            refine V_iload_n (pc := 36) 1 dX10_number_36 rfl ?_
            refine V_callV (pc := 37) (M' := mX6_reckonBy) dX10_number_37 ml_X10_199 kv_X6_reckonBy ko_X6_reckonBy sh_5 (by decide) (by decide) rfl rfl (Nat.le_of_ble_eq_true rfl) (Nat.le_of_ble_eq_true rfl) (vX6_reckonBy E  x2 x1 s1 _  h) (kB (fun r37 s37 h => ?_))
            refine V_ifnz (pc := 40) (tgt := 49) dX10_number_40 (by decide) (fun hc => ?_) (fun hc => ?_)
            · replace h := h.1 hc
              refine V_aload_n (pc := 49) 0 dX10_number_49 rfl ?_
              refine V_getR (pc := 50) dX10_number_50 fl_X10_46 sh_0 rfl ?_
              refine V_getR (pc := 53) dX10_number_53 fl_X10_202 sh_5 rfl ?_
              refine V_iload_n (pc := 56) 3 dX10_number_56 rfl ?_
              refine V_callV (pc := 57) (M' := mX5_side) dX10_number_57 ml_X10_206 kv_X5_side ko_X5_side sh_10 (by decide) (by decide) rfl rfl (Nat.le_of_ble_eq_true rfl) (Nat.le_of_ble_eq_true rfl) (vX5_side E 10 x3 s37 _ sh_10 h) (kL (fun r57 s57 h => ?_))
              exact V_lret dX10_number_60 rfl h
            · replace h := h.2 hc
              refine V_bipush (pc := 43) (v := -3) dX10_number_43 (by decide) ?_
              refine V_callS (pc := 45) (M' := mX10_refusal) dX10_number_45 ml_X10_195 ks_X10_refusal ko_X10_refusal (by decide) rfl (Nat.le_of_ble_eq_true rfl) (Nat.le_of_ble_eq_true rfl) (vX10_refusal E  ((-3 : Int32)) s37 _  h) (kL (fun r45 s45 h => ?_))
              exact V_lret dX10_number_48 rfl h
          · replace h := h.2 hc
            refine V_bipush (pc := 25) (v := -2) dX10_number_25 (by decide) ?_
            refine V_callS (pc := 27) (M' := mX10_refusal) dX10_number_27 ml_X10_195 ks_X10_refusal ko_X10_refusal (by decide) rfl (Nat.le_of_ble_eq_true rfl) (Nat.le_of_ble_eq_true rfl) (vX10_refusal E  ((-2 : Int32)) s1 _  h) (kL (fun r27 s27 h => ?_))
            exact V_lret dX10_number_30 rfl h
theorem dX10_mark_0 : decode cX10_mark 0 = .ok (.aload_n 0, 1) := by decide +kernel
theorem dX10_mark_1 : decode cX10_mark 1 = .ok (.iload_n 1, 1) := by decide +kernel
theorem dX10_mark_2 : decode cX10_mark 2 = .ok (.invokevirtual 89, 3) := by decide +kernel
theorem dX10_mark_5 : decode cX10_mark 5 = .ok (.ifCond .ne 10, 3) := by decide +kernel
theorem dX10_mark_8 : decode cX10_mark 8 = .ok (.iload_n 2, 1) := by decide +kernel
theorem dX10_mark_9 : decode cX10_mark 9 = .ok (.invokestatic 152, 3) := by decide +kernel
theorem dX10_mark_12 : decode cX10_mark 12 = .ok (.ifCond .eq 6, 3) := by decide +kernel
theorem dX10_mark_15 : decode cX10_mark 15 = .ok (.ldc 155, 2) := by decide +kernel
theorem dX10_mark_17 : decode cX10_mark 17 = .ok (.ireturn, 1) := by decide +kernel
theorem dX10_mark_18 : decode cX10_mark 18 = .ok (.aload_n 0, 1) := by decide +kernel
theorem dX10_mark_19 : decode cX10_mark 19 = .ok (.getfield 23, 3) := by decide +kernel
theorem dX10_mark_22 : decode cX10_mark 22 = .ok (.iload_n 1, 1) := by decide +kernel
theorem dX10_mark_23 : decode cX10_mark 23 = .ok (.iload_n 2, 1) := by decide +kernel
theorem dX10_mark_24 : decode cX10_mark 24 = .ok (.invokevirtual 162, 3) := by decide +kernel
theorem dX10_mark_27 : decode cX10_mark 27 = .ok (.ifCond .eq 15, 3) := by decide +kernel
theorem dX10_mark_30 : decode cX10_mark 30 = .ok (.aload_n 0, 1) := by decide +kernel
theorem dX10_mark_31 : decode cX10_mark 31 = .ok (.getfield 46, 3) := by decide +kernel
theorem dX10_mark_34 : decode cX10_mark 34 = .ok (.iload_n 1, 1) := by decide +kernel
theorem dX10_mark_35 : decode cX10_mark 35 = .ok (.iload_n 2, 1) := by decide +kernel
theorem dX10_mark_36 : decode cX10_mark 36 = .ok (.invokevirtual 211, 3) := by decide +kernel
theorem dX10_mark_39 : decode cX10_mark 39 = .ok (.goto 5, 3) := by decide +kernel
theorem dX10_mark_42 : decode cX10_mark 42 = .ok (.ldc 169, 2) := by decide +kernel
theorem dX10_mark_44 : decode cX10_mark 44 = .ok (.ireturn, 1) := by decide +kernel
def wX10_mark  (x1 : Int32) (x2 : Int32) (σ : Sto) (post : Int32 → Sto → Prop) : Prop := wX10_noHouse  x1 σ (fun (r2 : Bool) (s2 : Sto) => ((r2 = true) → (post ((-2147483648 : Int32)) s2)) ∧ ((r2 = false) → (wX10_noPiece  x2 s2 (fun (r9 : Bool) (s9 : Sto) => ((r9 = false) → (wX7_takesPart  x1 x2 s9 (fun (r24 : Bool) (s24 : Sto) => ((r24 = false) → (post ((-2147483647 : Int32)) s24)) ∧ ((r24 = true) → (wX6_markOf  x1 x2 s24 (fun (r36 : Int32) (s36 : Sto) => post r36 s36)))))) ∧ ((r9 = true) → (post ((-2147483648 : Int32)) s9))))))
set_option maxRecDepth 100000 in
set_option maxHeartbeats 4000000 in
theorem vX10_mark (E : Ev)  (x1 : Int32) (x2 : Int32) (σ : Sto) (post : Int32 → Sto → Prop)  (h : wX10_mark  x1 x2 σ post) : V E 4 mX10_mark (pI post) 0 [(0, .ref 0), (1, .int x1), (2, .int x2)] [] σ := by
  unfold wX10_mark at h
  refine V_aload_n (pc := 0) 0 dX10_mark_0 rfl ?_
  refine V_iload_n (pc := 1) 1 dX10_mark_1 rfl ?_
  refine V_callV (pc := 2) (M' := mX10_noHouse) dX10_mark_2 ml_X10_89 kv_X10_noHouse ko_X10_noHouse sh_0 (by decide) (by decide) rfl rfl (Nat.le_of_ble_eq_true rfl) (Nat.le_of_ble_eq_true rfl) (vX10_noHouse E  x1 σ _  h) (kB (fun r2 s2 h => ?_))
  refine V_ifnz (pc := 5) (tgt := 15) dX10_mark_5 (by decide) (fun hc => ?_) (fun hc => ?_)
  · replace h := h.1 hc
    refine V_ldc (pc := 15) dX10_mark_15 ci_X10_155 ?_
    exact V_iret dX10_mark_17 rfl h
  · replace h := h.2 hc
    refine V_iload_n (pc := 8) 2 dX10_mark_8 rfl ?_
    refine V_callS (pc := 9) (M' := mX10_noPiece) dX10_mark_9 ml_X10_152 ks_X10_noPiece ko_X10_noPiece (by decide) rfl (Nat.le_of_ble_eq_true rfl) (Nat.le_of_ble_eq_true rfl) (vX10_noPiece E  x2 s2 _  h) (kB (fun r9 s9 h => ?_))
    refine V_ifz (pc := 12) (tgt := 18) dX10_mark_12 (by decide) (fun hc => ?_) (fun hc => ?_)
    · replace h := h.1 hc
      refine V_aload_n (pc := 18) 0 dX10_mark_18 rfl ?_
      refine V_getR (pc := 19) dX10_mark_19 fl_X10_23 sh_0 rfl ?_
      refine V_iload_n (pc := 22) 1 dX10_mark_22 rfl ?_
      refine V_iload_n (pc := 23) 2 dX10_mark_23 rfl ?_
      refine V_callV (pc := 24) (M' := mX7_takesPart) dX10_mark_24 ml_X10_162 kv_X7_takesPart ko_X7_takesPart sh_2 (by decide) (by decide) rfl rfl (Nat.le_of_ble_eq_true rfl) (Nat.le_of_ble_eq_true rfl) (vX7_takesPart E  x1 x2 s9 _  h) (kB (fun r24 s24 h => ?_))
      refine V_ifz (pc := 27) (tgt := 42) dX10_mark_27 (by decide) (fun hc => ?_) (fun hc => ?_)
      · replace h := h.1 hc
        refine V_ldc (pc := 42) dX10_mark_42 ci_X10_169 ?_
        exact V_iret dX10_mark_44 rfl h
      · replace h := h.2 hc
        refine V_aload_n (pc := 30) 0 dX10_mark_30 rfl ?_
        refine V_getR (pc := 31) dX10_mark_31 fl_X10_46 sh_0 rfl ?_
        refine V_iload_n (pc := 34) 1 dX10_mark_34 rfl ?_
        refine V_iload_n (pc := 35) 2 dX10_mark_35 rfl ?_
        refine V_callV (pc := 36) (M' := mX6_markOf) dX10_mark_36 ml_X10_211 kv_X6_markOf ko_X6_markOf sh_5 (by decide) (by decide) rfl rfl (Nat.le_of_ble_eq_true rfl) (Nat.le_of_ble_eq_true rfl) (vX6_markOf E  x1 x2 s24 _  h) (kI (fun r36 s36 h => ?_))
        refine V_goto (pc := 39) (tgt := 44) dX10_mark_39 (by decide) ?_
        exact V_iret dX10_mark_44 rfl h
    · replace h := h.2 hc
      refine V_ldc (pc := 15) dX10_mark_15 ci_X10_155 ?_
      exact V_iret dX10_mark_17 rfl h

theorem dX10_judged_0 : decode cX10_judged 0 = .ok (.aload_n 0, 1) := by decide +kernel
theorem dX10_judged_1 : decode cX10_judged 1 = .ok (.iload_n 1, 1) := by decide +kernel
theorem dX10_judged_2 : decode cX10_judged 2 = .ok (.invokevirtual 89, 3) := by decide +kernel
theorem dX10_judged_5 : decode cX10_judged 5 = .ok (.ifCond .ne 10, 3) := by decide +kernel
theorem dX10_judged_8 : decode cX10_judged 8 = .ok (.iload_n 2, 1) := by decide +kernel
theorem dX10_judged_9 : decode cX10_judged 9 = .ok (.invokestatic 152, 3) := by decide +kernel
theorem dX10_judged_12 : decode cX10_judged 12 = .ok (.ifCond .eq 6, 3) := by decide +kernel
theorem dX10_judged_15 : decode cX10_judged 15 = .ok (.bipush (-2), 2) := by decide +kernel
theorem dX10_judged_17 : decode cX10_judged 17 = .ok (.ireturn, 1) := by decide +kernel
theorem dX10_judged_18 : decode cX10_judged 18 = .ok (.aload_n 0, 1) := by decide +kernel
theorem dX10_judged_19 : decode cX10_judged 19 = .ok (.getfield 23, 3) := by decide +kernel
theorem dX10_judged_22 : decode cX10_judged 22 = .ok (.iload_n 1, 1) := by decide +kernel
theorem dX10_judged_23 : decode cX10_judged 23 = .ok (.iload_n 2, 1) := by decide +kernel
theorem dX10_judged_24 : decode cX10_judged 24 = .ok (.invokevirtual 162, 3) := by decide +kernel
theorem dX10_judged_27 : decode cX10_judged 27 = .ok (.ifCond .ne 6, 3) := by decide +kernel
theorem dX10_judged_30 : decode cX10_judged 30 = .ok (.bipush (-3), 2) := by decide +kernel
theorem dX10_judged_32 : decode cX10_judged 32 = .ok (.ireturn, 1) := by decide +kernel
theorem dX10_judged_33 : decode cX10_judged 33 = .ok (.aload_n 0, 1) := by decide +kernel
theorem dX10_judged_34 : decode cX10_judged 34 = .ok (.getfield 46, 3) := by decide +kernel
theorem dX10_judged_37 : decode cX10_judged 37 = .ok (.iload_n 1, 1) := by decide +kernel
theorem dX10_judged_38 : decode cX10_judged 38 = .ok (.iload_n 2, 1) := by decide +kernel
theorem dX10_judged_39 : decode cX10_judged 39 = .ok (.invokevirtual 211, 3) := by decide +kernel
theorem dX10_judged_42 : decode cX10_judged 42 = .ok (.invokestatic 214, 3) := by decide +kernel
theorem dX10_judged_45 : decode cX10_judged 45 = .ok (.istore_n 3, 1) := by decide +kernel
theorem dX10_judged_46 : decode cX10_judged 46 = .ok (.iload_n 3, 1) := by decide +kernel
theorem dX10_judged_47 : decode cX10_judged 47 = .ok (.sipush 200, 3) := by decide +kernel
theorem dX10_judged_50 : decode cX10_judged 50 = .ok (.if_icmp .gt 5, 3) := by decide +kernel
theorem dX10_judged_53 : decode cX10_judged 53 = .ok (.iconst 0, 1) := by decide +kernel
theorem dX10_judged_54 : decode cX10_judged 54 = .ok (.ireturn, 1) := by decide +kernel
theorem dX10_judged_55 : decode cX10_judged 55 = .ok (.iload_n 3, 1) := by decide +kernel
theorem dX10_judged_56 : decode cX10_judged 56 = .ok (.sipush 300, 3) := by decide +kernel
theorem dX10_judged_59 : decode cX10_judged 59 = .ok (.if_icmp .le 7, 3) := by decide +kernel
theorem dX10_judged_62 : decode cX10_judged 62 = .ok (.iconst 2, 1) := by decide +kernel
theorem dX10_judged_63 : decode cX10_judged 63 = .ok (.goto 4, 3) := by decide +kernel
theorem dX10_judged_66 : decode cX10_judged 66 = .ok (.iconst 1, 1) := by decide +kernel
theorem dX10_judged_67 : decode cX10_judged 67 = .ok (.ireturn, 1) := by decide +kernel
def wX10_judged  (x1 : Int32) (x2 : Int32) (σ : Sto) (post : Int32 → Sto → Prop) : Prop := wX10_noHouse  x1 σ (fun (r2 : Bool) (s2 : Sto) => ((r2 = true) → (post ((-2 : Int32)) s2)) ∧ ((r2 = false) → (wX10_noPiece  x2 s2 (fun (r9 : Bool) (s9 : Sto) => ((r9 = false) → (wX7_takesPart  x1 x2 s9 (fun (r24 : Bool) (s24 : Sto) => ((r24 = true) → (wX6_markOf  x1 x2 s24 (fun (r39 : Int32) (s39 : Sto) => wJ9_abs_0f7a4  r39 s39 (fun (r42 : Int32) (s42 : Sto) => ((((200 : Int32)) < r42) → (((r42 ≤ ((300 : Int32))) → (post ((1 : Int32)) s42)) ∧ ((¬ (r42 ≤ ((300 : Int32)))) → (post ((2 : Int32)) s42)))) ∧ ((¬ (((200 : Int32)) < r42)) → (post ((0 : Int32)) s42)))))) ∧ ((r24 = false) → (post ((-3 : Int32)) s24))))) ∧ ((r9 = true) → (post ((-2 : Int32)) s9))))))
set_option maxRecDepth 100000 in
set_option maxHeartbeats 4000000 in
theorem vX10_judged (E : Ev)  (x1 : Int32) (x2 : Int32) (σ : Sto) (post : Int32 → Sto → Prop)  (h : wX10_judged  x1 x2 σ post) : V E 4 mX10_judged (pI post) 0 [(0, .ref 0), (1, .int x1), (2, .int x2)] [] σ := by
  unfold wX10_judged at h
  refine V_aload_n (pc := 0) 0 dX10_judged_0 rfl ?_
  refine V_iload_n (pc := 1) 1 dX10_judged_1 rfl ?_
  refine V_callV (pc := 2) (M' := mX10_noHouse) dX10_judged_2 ml_X10_89 kv_X10_noHouse ko_X10_noHouse sh_0 (by decide) (by decide) rfl rfl (Nat.le_of_ble_eq_true rfl) (Nat.le_of_ble_eq_true rfl) (vX10_noHouse E  x1 σ _  h) (kB (fun r2 s2 h => ?_))
  refine V_ifnz (pc := 5) (tgt := 15) dX10_judged_5 (by decide) (fun hc => ?_) (fun hc => ?_)
  · replace h := h.1 hc
    refine V_bipush (pc := 15) (v := -2) dX10_judged_15 (by decide) ?_
    exact V_iret dX10_judged_17 rfl h
  · replace h := h.2 hc
    refine V_iload_n (pc := 8) 2 dX10_judged_8 rfl ?_
    refine V_callS (pc := 9) (M' := mX10_noPiece) dX10_judged_9 ml_X10_152 ks_X10_noPiece ko_X10_noPiece (by decide) rfl (Nat.le_of_ble_eq_true rfl) (Nat.le_of_ble_eq_true rfl) (vX10_noPiece E  x2 s2 _  h) (kB (fun r9 s9 h => ?_))
    refine V_ifz (pc := 12) (tgt := 18) dX10_judged_12 (by decide) (fun hc => ?_) (fun hc => ?_)
    · replace h := h.1 hc
      refine V_aload_n (pc := 18) 0 dX10_judged_18 rfl ?_
      refine V_getR (pc := 19) dX10_judged_19 fl_X10_23 sh_0 rfl ?_
      refine V_iload_n (pc := 22) 1 dX10_judged_22 rfl ?_
      refine V_iload_n (pc := 23) 2 dX10_judged_23 rfl ?_
      refine V_callV (pc := 24) (M' := mX7_takesPart) dX10_judged_24 ml_X10_162 kv_X7_takesPart ko_X7_takesPart sh_2 (by decide) (by decide) rfl rfl (Nat.le_of_ble_eq_true rfl) (Nat.le_of_ble_eq_true rfl) (vX7_takesPart E  x1 x2 s9 _  h) (kB (fun r24 s24 h => ?_))
      refine V_ifnz (pc := 27) (tgt := 33) dX10_judged_27 (by decide) (fun hc => ?_) (fun hc => ?_)
      · replace h := h.1 hc
        refine V_aload_n (pc := 33) 0 dX10_judged_33 rfl ?_
        refine V_getR (pc := 34) dX10_judged_34 fl_X10_46 sh_0 rfl ?_
        refine V_iload_n (pc := 37) 1 dX10_judged_37 rfl ?_
        refine V_iload_n (pc := 38) 2 dX10_judged_38 rfl ?_
        refine V_callV (pc := 39) (M' := mX6_markOf) dX10_judged_39 ml_X10_211 kv_X6_markOf ko_X6_markOf sh_5 (by decide) (by decide) rfl rfl (Nat.le_of_ble_eq_true rfl) (Nat.le_of_ble_eq_true rfl) (vX6_markOf E  x1 x2 s24 _  h) (kI (fun r39 s39 h => ?_))
        refine V_callS (pc := 42) (M' := mJ9_abs_0f7a4) dX10_judged_42 ml_X10_214 ks_J9_abs_0f7a4 ko_J9_abs_0f7a4 (by decide) rfl (Nat.le_of_ble_eq_true rfl) (Nat.le_of_ble_eq_true rfl) (vJ9_abs_0f7a4 E  r39 s39 _  h) (kI (fun r42 s42 h => ?_))
        refine V_istore_n (pc := 45) dX10_judged_45 (by decide) ?_
        refine V_iload_n (pc := 46) 0 dX10_judged_46 rfl ?_
        refine V_sipush (pc := 47) (v := 200) dX10_judged_47 (by decide) ?_
        refine V_icmp_gt (pc := 50) (tgt := 55) dX10_judged_50 (by decide) (fun hc => ?_) (fun hc => ?_)
        · replace h := h.1 hc
          refine V_iload_n (pc := 55) 0 dX10_judged_55 rfl ?_
          refine V_sipush (pc := 56) (v := 300) dX10_judged_56 (by decide) ?_
          refine V_icmp_le (pc := 59) (tgt := 66) dX10_judged_59 (by decide) (fun hc => ?_) (fun hc => ?_)
          · replace h := h.1 hc
            refine V_iconst (pc := 66) (v := 1) dX10_judged_66 (by decide) ?_
            exact V_iret dX10_judged_67 rfl h
          · replace h := h.2 hc
            refine V_iconst (pc := 62) (v := 2) dX10_judged_62 (by decide) ?_
            refine V_goto (pc := 63) (tgt := 67) dX10_judged_63 (by decide) ?_
            exact V_iret dX10_judged_67 rfl h
        · replace h := h.2 hc
          refine V_iconst (pc := 53) (v := 0) dX10_judged_53 (by decide) ?_
          exact V_iret dX10_judged_54 rfl h
      · replace h := h.2 hc
        refine V_bipush (pc := 30) (v := -3) dX10_judged_30 (by decide) ?_
        exact V_iret dX10_judged_32 rfl h
    · replace h := h.2 hc
      refine V_bipush (pc := 15) (v := -2) dX10_judged_15 (by decide) ?_
      exact V_iret dX10_judged_17 rfl h
theorem dX10_run_0 : decode cX10_run 0 = .ok (.aload_n 0, 1) := by decide +kernel
theorem dX10_run_1 : decode cX10_run 1 = .ok (.iload_n 1, 1) := by decide +kernel
theorem dX10_run_2 : decode cX10_run 2 = .ok (.invokevirtual 89, 3) := by decide +kernel
theorem dX10_run_5 : decode cX10_run 5 = .ok (.ifCond .eq 6, 3) := by decide +kernel
theorem dX10_run_8 : decode cX10_run 8 = .ok (.bipush (-2), 2) := by decide +kernel
theorem dX10_run_10 : decode cX10_run 10 = .ok (.ireturn, 1) := by decide +kernel
theorem dX10_run_11 : decode cX10_run 11 = .ok (.aload_n 0, 1) := by decide +kernel
theorem dX10_run_12 : decode cX10_run 12 = .ok (.getfield 46, 3) := by decide +kernel
theorem dX10_run_15 : decode cX10_run 15 = .ok (.iload_n 1, 1) := by decide +kernel
theorem dX10_run_16 : decode cX10_run 16 = .ok (.invokevirtual 219, 3) := by decide +kernel
theorem dX10_run_19 : decode cX10_run 19 = .ok (.ireturn, 1) := by decide +kernel
def wX10_run  (x1 : Int32) (σ : Sto) (post : Int32 → Sto → Prop) : Prop := wX10_noHouse  x1 σ (fun (r2 : Bool) (s2 : Sto) => ((r2 = false) → (wX6_longestRun  x1 s2 (fun (r16 : Int32) (s16 : Sto) => post r16 s16))) ∧ ((r2 = true) → (post ((-2 : Int32)) s2)))
set_option maxRecDepth 100000 in
set_option maxHeartbeats 4000000 in
theorem vX10_run (E : Ev)  (x1 : Int32) (σ : Sto) (post : Int32 → Sto → Prop)  (h : wX10_run  x1 σ post) : V E 5 mX10_run (pI post) 0 [(0, .ref 0), (1, .int x1)] [] σ := by
  unfold wX10_run at h
  refine V_aload_n (pc := 0) 0 dX10_run_0 rfl ?_
  refine V_iload_n (pc := 1) 1 dX10_run_1 rfl ?_
  refine V_callV (pc := 2) (M' := mX10_noHouse) dX10_run_2 ml_X10_89 kv_X10_noHouse ko_X10_noHouse sh_0 (by decide) (by decide) rfl rfl (Nat.le_of_ble_eq_true rfl) (Nat.le_of_ble_eq_true rfl) (vX10_noHouse E  x1 σ _  h) (kB (fun r2 s2 h => ?_))
  refine V_ifz (pc := 5) (tgt := 11) dX10_run_5 (by decide) (fun hc => ?_) (fun hc => ?_)
  · replace h := h.1 hc
    refine V_aload_n (pc := 11) 0 dX10_run_11 rfl ?_
    refine V_getR (pc := 12) dX10_run_12 fl_X10_46 sh_0 rfl ?_
    refine V_iload_n (pc := 15) 1 dX10_run_15 rfl ?_
    refine V_callV (pc := 16) (M' := mX6_longestRun) dX10_run_16 ml_X10_219 kv_X6_longestRun ko_X6_longestRun sh_5 (by decide) (by decide) rfl rfl (Nat.le_of_ble_eq_true rfl) (Nat.le_of_ble_eq_true rfl) (vX6_longestRun E  x1 s2 _  h) (kI (fun r16 s16 h => ?_))
    exact V_iret dX10_run_19 rfl h
  · replace h := h.2 hc
    refine V_bipush (pc := 8) (v := -2) dX10_run_8 (by decide) ?_
    exact V_iret dX10_run_10 rfl h
theorem dX10_within_0 : decode cX10_within 0 = .ok (.aload_n 0, 1) := by decide +kernel
theorem dX10_within_1 : decode cX10_within 1 = .ok (.iload_n 1, 1) := by decide +kernel
theorem dX10_within_2 : decode cX10_within 2 = .ok (.invokevirtual 89, 3) := by decide +kernel
theorem dX10_within_5 : decode cX10_within 5 = .ok (.ifCond .ne 19, 3) := by decide +kernel
theorem dX10_within_8 : decode cX10_within 8 = .ok (.iload_n 2, 1) := by decide +kernel
theorem dX10_within_9 : decode cX10_within 9 = .ok (.invokestatic 152, 3) := by decide +kernel
theorem dX10_within_12 : decode cX10_within 12 = .ok (.ifCond .ne 12, 3) := by decide +kernel
theorem dX10_within_15 : decode cX10_within 15 = .ok (.iload_n 3, 1) := by decide +kernel
theorem dX10_within_16 : decode cX10_within 16 = .ok (.ifCond .lt 8, 3) := by decide +kernel
theorem dX10_within_19 : decode cX10_within 19 = .ok (.iload_n 3, 1) := by decide +kernel
theorem dX10_within_20 : decode cX10_within 20 = .ok (.iconst 1, 1) := by decide +kernel
theorem dX10_within_21 : decode cX10_within 21 = .ok (.if_icmp .le 9, 3) := by decide +kernel
theorem dX10_within_24 : decode cX10_within 24 = .ok (.bipush (-2), 2) := by decide +kernel
theorem dX10_within_26 : decode cX10_within 26 = .ok (.invokestatic 195, 3) := by decide +kernel
theorem dX10_within_29 : decode cX10_within 29 = .ok (.lreturn, 1) := by decide +kernel
theorem dX10_within_30 : decode cX10_within 30 = .ok (.aload_n 0, 1) := by decide +kernel
theorem dX10_within_31 : decode cX10_within 31 = .ok (.getfield 53, 3) := by decide +kernel
theorem dX10_within_34 : decode cX10_within 34 = .ok (.iload_n 1, 1) := by decide +kernel
theorem dX10_within_35 : decode cX10_within 35 = .ok (.iload_n 2, 1) := by decide +kernel
theorem dX10_within_36 : decode cX10_within 36 = .ok (.invokevirtual 222, 3) := by decide +kernel
theorem dX10_within_39 : decode cX10_within 39 = .ok (.ifCond .ne 9, 3) := by decide +kernel
theorem dX10_within_42 : decode cX10_within 42 = .ok (.bipush (-3), 2) := by decide +kernel
theorem dX10_within_44 : decode cX10_within 44 = .ok (.invokestatic 195, 3) := by decide +kernel
theorem dX10_within_47 : decode cX10_within 47 = .ok (.lreturn, 1) := by decide +kernel
theorem dX10_within_48 : decode cX10_within 48 = .ok (.aload_n 0, 1) := by decide +kernel
theorem dX10_within_49 : decode cX10_within 49 = .ok (.getfield 53, 3) := by decide +kernel
theorem dX10_within_52 : decode cX10_within 52 = .ok (.getfield 225, 3) := by decide +kernel
theorem dX10_within_55 : decode cX10_within 55 = .ok (.iload_n 3, 1) := by decide +kernel
theorem dX10_within_56 : decode cX10_within 56 = .ok (.invokevirtual 206, 3) := by decide +kernel
theorem dX10_within_59 : decode cX10_within 59 = .ok (.lreturn, 1) := by decide +kernel
def wX10_within  (x1 : Int32) (x2 : Int32) (x3 : Int32) (σ : Sto) (post : Int64 → Sto → Prop) : Prop := wX10_noHouse  x1 σ (fun (r2 : Bool) (s2 : Sto) => ((r2 = true) → (wX10_refusal  ((-2 : Int32)) s2 (fun (r26 : Int64) (s26 : Sto) => post r26 s26))) ∧ ((r2 = false) → (wX10_noPiece  x2 s2 (fun (r9 : Bool) (s9 : Sto) => ((r9 = true) → (wX10_refusal  ((-2 : Int32)) s9 (fun (r26 : Int64) (s26 : Sto) => post r26 s26))) ∧ ((r9 = false) → (((x3 < 0) → (wX10_refusal  ((-2 : Int32)) s9 (fun (r26 : Int64) (s26 : Sto) => post r26 s26))) ∧ ((¬ (x3 < 0)) → (((x3 ≤ ((1 : Int32))) → (wX8_reckonWithin  x1 x2 s9 (fun (r36 : Bool) (s36 : Sto) => ((r36 = true) → (wX5_side 11 x3 s36 (fun (r56 : Int64) (s56 : Sto) => post r56 s56))) ∧ ((r36 = false) → (wX10_refusal  ((-3 : Int32)) s36 (fun (r44 : Int64) (s44 : Sto) => post r44 s44)))))) ∧ ((¬ (x3 ≤ ((1 : Int32)))) → (wX10_refusal  ((-2 : Int32)) s9 (fun (r26 : Int64) (s26 : Sto) => post r26 s26)))))))))))
set_option maxRecDepth 100000 in
set_option maxHeartbeats 4000000 in
theorem vX10_within (E : Ev)  (x1 : Int32) (x2 : Int32) (x3 : Int32) (σ : Sto) (post : Int64 → Sto → Prop)  (h : wX10_within  x1 x2 x3 σ post) : V E 4 mX10_within (pL post) 0 [(0, .ref 0), (1, .int x1), (2, .int x2), (3, .int x3)] [] σ := by
  unfold wX10_within at h
  refine V_aload_n (pc := 0) 0 dX10_within_0 rfl ?_
  refine V_iload_n (pc := 1) 1 dX10_within_1 rfl ?_
  refine V_callV (pc := 2) (M' := mX10_noHouse) dX10_within_2 ml_X10_89 kv_X10_noHouse ko_X10_noHouse sh_0 (by decide) (by decide) rfl rfl (Nat.le_of_ble_eq_true rfl) (Nat.le_of_ble_eq_true rfl) (vX10_noHouse E  x1 σ _  h) (kB (fun r2 s2 h => ?_))
  refine V_ifnz (pc := 5) (tgt := 24) dX10_within_5 (by decide) (fun hc => ?_) (fun hc => ?_)
  · replace h := h.1 hc
    refine V_bipush (pc := 24) (v := -2) dX10_within_24 (by decide) ?_
    refine V_callS (pc := 26) (M' := mX10_refusal) dX10_within_26 ml_X10_195 ks_X10_refusal ko_X10_refusal (by decide) rfl (Nat.le_of_ble_eq_true rfl) (Nat.le_of_ble_eq_true rfl) (vX10_refusal E  ((-2 : Int32)) s2 _  h) (kL (fun r26 s26 h => ?_))
    exact V_lret dX10_within_29 rfl h
  · replace h := h.2 hc
    refine V_iload_n (pc := 8) 2 dX10_within_8 rfl ?_
    refine V_callS (pc := 9) (M' := mX10_noPiece) dX10_within_9 ml_X10_152 ks_X10_noPiece ko_X10_noPiece (by decide) rfl (Nat.le_of_ble_eq_true rfl) (Nat.le_of_ble_eq_true rfl) (vX10_noPiece E  x2 s2 _  h) (kB (fun r9 s9 h => ?_))
    refine V_ifnz (pc := 12) (tgt := 24) dX10_within_12 (by decide) (fun hc => ?_) (fun hc => ?_)
    · replace h := h.1 hc
      refine V_bipush (pc := 24) (v := -2) dX10_within_24 (by decide) ?_
      refine V_callS (pc := 26) (M' := mX10_refusal) dX10_within_26 ml_X10_195 ks_X10_refusal ko_X10_refusal (by decide) rfl (Nat.le_of_ble_eq_true rfl) (Nat.le_of_ble_eq_true rfl) (vX10_refusal E  ((-2 : Int32)) s9 _  h) (kL (fun r26 s26 h => ?_))
      exact V_lret dX10_within_29 rfl h
    · replace h := h.2 hc
      refine V_iload_n (pc := 15) 3 dX10_within_15 rfl ?_
      refine V_if_lt (pc := 16) (tgt := 24) dX10_within_16 (by decide) (fun hc => ?_) (fun hc => ?_)
      · replace h := h.1 hc
        refine V_bipush (pc := 24) (v := -2) dX10_within_24 (by decide) ?_
        refine V_callS (pc := 26) (M' := mX10_refusal) dX10_within_26 ml_X10_195 ks_X10_refusal ko_X10_refusal (by decide) rfl (Nat.le_of_ble_eq_true rfl) (Nat.le_of_ble_eq_true rfl) (vX10_refusal E  ((-2 : Int32)) s9 _  h) (kL (fun r26 s26 h => ?_))
        exact V_lret dX10_within_29 rfl h
      · replace h := h.2 hc
        refine V_iload_n (pc := 19) 3 dX10_within_19 rfl ?_
        refine V_iconst (pc := 20) (v := 1) dX10_within_20 (by decide) ?_
        refine V_icmp_le (pc := 21) (tgt := 30) dX10_within_21 (by decide) (fun hc => ?_) (fun hc => ?_)
        · replace h := h.1 hc
          refine V_aload_n (pc := 30) 0 dX10_within_30 rfl ?_
          refine V_getR (pc := 31) dX10_within_31 fl_X10_53 sh_0 rfl ?_
          refine V_iload_n (pc := 34) 1 dX10_within_34 rfl ?_
          refine V_iload_n (pc := 35) 2 dX10_within_35 rfl ?_
          refine V_callV (pc := 36) (M' := mX8_reckonWithin) dX10_within_36 ml_X10_222 kv_X8_reckonWithin ko_X8_reckonWithin sh_6 (by decide) (by decide) rfl rfl (Nat.le_of_ble_eq_true rfl) (Nat.le_of_ble_eq_true rfl) (vX8_reckonWithin E  x1 x2 s9 _  h) (kB (fun r36 s36 h => ?_))
          refine V_ifnz (pc := 39) (tgt := 48) dX10_within_39 (by decide) (fun hc => ?_) (fun hc => ?_)
          · replace h := h.1 hc
            refine V_aload_n (pc := 48) 0 dX10_within_48 rfl ?_
            refine V_getR (pc := 49) dX10_within_49 fl_X10_53 sh_0 rfl ?_
            refine V_getR (pc := 52) dX10_within_52 fl_X10_225 sh_6 rfl ?_
            refine V_iload_n (pc := 55) 3 dX10_within_55 rfl ?_
            refine V_callV (pc := 56) (M' := mX5_side) dX10_within_56 ml_X10_206 kv_X5_side ko_X5_side sh_11 (by decide) (by decide) rfl rfl (Nat.le_of_ble_eq_true rfl) (Nat.le_of_ble_eq_true rfl) (vX5_side E 11 x3 s36 _ sh_11 h) (kL (fun r56 s56 h => ?_))
            exact V_lret dX10_within_59 rfl h
          · replace h := h.2 hc
            refine V_bipush (pc := 42) (v := -3) dX10_within_42 (by decide) ?_
            refine V_callS (pc := 44) (M' := mX10_refusal) dX10_within_44 ml_X10_195 ks_X10_refusal ko_X10_refusal (by decide) rfl (Nat.le_of_ble_eq_true rfl) (Nat.le_of_ble_eq_true rfl) (vX10_refusal E  ((-3 : Int32)) s36 _  h) (kL (fun r44 s44 h => ?_))
            exact V_lret dX10_within_47 rfl h
        · replace h := h.2 hc
          refine V_bipush (pc := 24) (v := -2) dX10_within_24 (by decide) ?_
          refine V_callS (pc := 26) (M' := mX10_refusal) dX10_within_26 ml_X10_195 ks_X10_refusal ko_X10_refusal (by decide) rfl (Nat.le_of_ble_eq_true rfl) (Nat.le_of_ble_eq_true rfl) (vX10_refusal E  ((-2 : Int32)) s9 _  h) (kL (fun r26 s26 h => ?_))
          exact V_lret dX10_within_29 rfl h
theorem dX10_widest_0 : decode cX10_widest 0 = .ok (.iload_n 1, 1) := by decide +kernel
theorem dX10_widest_1 : decode cX10_widest 1 = .ok (.invokestatic 152, 3) := by decide +kernel
theorem dX10_widest_4 : decode cX10_widest 4 = .ok (.ifCond .eq 6, 3) := by decide +kernel
theorem dX10_widest_7 : decode cX10_widest 7 = .ok (.bipush (-2), 2) := by decide +kernel
theorem dX10_widest_9 : decode cX10_widest 9 = .ok (.ireturn, 1) := by decide +kernel
theorem dX10_widest_10 : decode cX10_widest 10 = .ok (.aload_n 0, 1) := by decide +kernel
theorem dX10_widest_11 : decode cX10_widest 11 = .ok (.getfield 53, 3) := by decide +kernel
theorem dX10_widest_14 : decode cX10_widest 14 = .ok (.iload_n 1, 1) := by decide +kernel
theorem dX10_widest_15 : decode cX10_widest 15 = .ok (.invokevirtual 226, 3) := by decide +kernel
theorem dX10_widest_18 : decode cX10_widest 18 = .ok (.aload_n 0, 1) := by decide +kernel
theorem dX10_widest_19 : decode cX10_widest 19 = .ok (.getfield 53, 3) := by decide +kernel
theorem dX10_widest_22 : decode cX10_widest 22 = .ok (.iload_n 1, 1) := by decide +kernel
theorem dX10_widest_23 : decode cX10_widest 23 = .ok (.invokevirtual 229, 3) := by decide +kernel
theorem dX10_widest_26 : decode cX10_widest 26 = .ok (.ireturn, 1) := by decide +kernel
def wX10_widest  (x1 : Int32) (σ : Sto) (post : Int32 → Sto → Prop) : Prop := wX10_noPiece  x1 σ (fun (r1 : Bool) (s1 : Sto) => ((r1 = false) → (wX8_gather  x1 s1 (fun (s15 : Sto) => wX8_widestOf  x1 s15 (fun (r23 : Int32) (s23 : Sto) => post r23 s23)))) ∧ ((r1 = true) → (post ((-2 : Int32)) s1)))
set_option maxRecDepth 100000 in
set_option maxHeartbeats 4000000 in
theorem vX10_widest (E : Ev)  (x1 : Int32) (σ : Sto) (post : Int32 → Sto → Prop)  (h : wX10_widest  x1 σ post) : V E 3 mX10_widest (pI post) 0 [(0, .ref 0), (1, .int x1)] [] σ := by
  unfold wX10_widest at h
  refine V_iload_n (pc := 0) 1 dX10_widest_0 rfl ?_
  refine V_callS (pc := 1) (M' := mX10_noPiece) dX10_widest_1 ml_X10_152 ks_X10_noPiece ko_X10_noPiece (by decide) rfl (Nat.le_of_ble_eq_true rfl) (Nat.le_of_ble_eq_true rfl) (vX10_noPiece E  x1 σ _  h) (kB (fun r1 s1 h => ?_))
  refine V_ifz (pc := 4) (tgt := 10) dX10_widest_4 (by decide) (fun hc => ?_) (fun hc => ?_)
  · replace h := h.1 hc
    refine V_aload_n (pc := 10) 0 dX10_widest_10 rfl ?_
    refine V_getR (pc := 11) dX10_widest_11 fl_X10_53 sh_0 rfl ?_
    refine V_iload_n (pc := 14) 1 dX10_widest_14 rfl ?_
    refine V_callV (pc := 15) (M' := mX8_gather) dX10_widest_15 ml_X10_226 kv_X8_gather ko_X8_gather sh_6 (by decide) (by decide) rfl rfl (Nat.le_of_ble_eq_true rfl) (Nat.le_of_ble_eq_true rfl) (vX8_gather E  x1 s1 _  h) (kV (fun s15 h => ?_))
    refine V_aload_n (pc := 18) 0 dX10_widest_18 rfl ?_
    refine V_getR (pc := 19) dX10_widest_19 fl_X10_53 sh_0 rfl ?_
    refine V_iload_n (pc := 22) 1 dX10_widest_22 rfl ?_
    refine V_callV (pc := 23) (M' := mX8_widestOf) dX10_widest_23 ml_X10_229 kv_X8_widestOf ko_X8_widestOf sh_6 (by decide) (by decide) rfl rfl (Nat.le_of_ble_eq_true rfl) (Nat.le_of_ble_eq_true rfl) (vX8_widestOf E  x1 s15 _  h) (kI (fun r23 s23 h => ?_))
    exact V_iret dX10_widest_26 rfl h
  · replace h := h.2 hc
    refine V_bipush (pc := 7) (v := -2) dX10_widest_7 (by decide) ?_
    exact V_iret dX10_widest_9 rfl h
theorem dX10_share_0 : decode cX10_share 0 = .ok (.iload_n 1, 1) := by decide +kernel
theorem dX10_share_1 : decode cX10_share 1 = .ok (.invokestatic 152, 3) := by decide +kernel
theorem dX10_share_4 : decode cX10_share 4 = .ok (.ifCond .ne 12, 3) := by decide +kernel
theorem dX10_share_7 : decode cX10_share 7 = .ok (.iload_n 2, 1) := by decide +kernel
theorem dX10_share_8 : decode cX10_share 8 = .ok (.ifCond .lt 8, 3) := by decide +kernel
theorem dX10_share_11 : decode cX10_share 11 = .ok (.iload_n 2, 1) := by decide +kernel
theorem dX10_share_12 : decode cX10_share 12 = .ok (.iconst 1, 1) := by decide +kernel
theorem dX10_share_13 : decode cX10_share 13 = .ok (.if_icmp .le 9, 3) := by decide +kernel
theorem dX10_share_16 : decode cX10_share 16 = .ok (.bipush (-2), 2) := by decide +kernel
theorem dX10_share_18 : decode cX10_share 18 = .ok (.invokestatic 195, 3) := by decide +kernel
theorem dX10_share_21 : decode cX10_share 21 = .ok (.lreturn, 1) := by decide +kernel
theorem dX10_share_22 : decode cX10_share 22 = .ok (.aload_n 0, 1) := by decide +kernel
theorem dX10_share_23 : decode cX10_share 23 = .ok (.getfield 53, 3) := by decide +kernel
theorem dX10_share_26 : decode cX10_share 26 = .ok (.iload_n 1, 1) := by decide +kernel
theorem dX10_share_27 : decode cX10_share 27 = .ok (.invokevirtual 232, 3) := by decide +kernel
theorem dX10_share_30 : decode cX10_share 30 = .ok (.ifCond .ne 9, 3) := by decide +kernel
theorem dX10_share_33 : decode cX10_share 33 = .ok (.bipush (-3), 2) := by decide +kernel
theorem dX10_share_35 : decode cX10_share 35 = .ok (.invokestatic 195, 3) := by decide +kernel
theorem dX10_share_38 : decode cX10_share 38 = .ok (.lreturn, 1) := by decide +kernel
theorem dX10_share_39 : decode cX10_share 39 = .ok (.aload_n 0, 1) := by decide +kernel
theorem dX10_share_40 : decode cX10_share 40 = .ok (.getfield 53, 3) := by decide +kernel
theorem dX10_share_43 : decode cX10_share 43 = .ok (.getfield 225, 3) := by decide +kernel
theorem dX10_share_46 : decode cX10_share 46 = .ok (.iload_n 2, 1) := by decide +kernel
theorem dX10_share_47 : decode cX10_share 47 = .ok (.invokevirtual 206, 3) := by decide +kernel
theorem dX10_share_50 : decode cX10_share 50 = .ok (.lreturn, 1) := by decide +kernel
def wX10_share  (x1 : Int32) (x2 : Int32) (σ : Sto) (post : Int64 → Sto → Prop) : Prop := wX10_noPiece  x1 σ (fun (r1 : Bool) (s1 : Sto) => ((r1 = true) → (wX10_refusal  ((-2 : Int32)) s1 (fun (r18 : Int64) (s18 : Sto) => post r18 s18))) ∧ ((r1 = false) → (((x2 < 0) → (wX10_refusal  ((-2 : Int32)) s1 (fun (r18 : Int64) (s18 : Sto) => post r18 s18))) ∧ ((¬ (x2 < 0)) → (((x2 ≤ ((1 : Int32))) → (wX8_reckonShare  x1 s1 (fun (r27 : Bool) (s27 : Sto) => ((r27 = true) → (wX5_side 11 x2 s27 (fun (r47 : Int64) (s47 : Sto) => post r47 s47))) ∧ ((r27 = false) → (wX10_refusal  ((-3 : Int32)) s27 (fun (r35 : Int64) (s35 : Sto) => post r35 s35)))))) ∧ ((¬ (x2 ≤ ((1 : Int32)))) → (wX10_refusal  ((-2 : Int32)) s1 (fun (r18 : Int64) (s18 : Sto) => post r18 s18))))))))
set_option maxRecDepth 100000 in
set_option maxHeartbeats 4000000 in
theorem vX10_share (E : Ev)  (x1 : Int32) (x2 : Int32) (σ : Sto) (post : Int64 → Sto → Prop)  (h : wX10_share  x1 x2 σ post) : V E 4 mX10_share (pL post) 0 [(0, .ref 0), (1, .int x1), (2, .int x2)] [] σ := by
  unfold wX10_share at h
  refine V_iload_n (pc := 0) 1 dX10_share_0 rfl ?_
  refine V_callS (pc := 1) (M' := mX10_noPiece) dX10_share_1 ml_X10_152 ks_X10_noPiece ko_X10_noPiece (by decide) rfl (Nat.le_of_ble_eq_true rfl) (Nat.le_of_ble_eq_true rfl) (vX10_noPiece E  x1 σ _  h) (kB (fun r1 s1 h => ?_))
  refine V_ifnz (pc := 4) (tgt := 16) dX10_share_4 (by decide) (fun hc => ?_) (fun hc => ?_)
  · replace h := h.1 hc
    refine V_bipush (pc := 16) (v := -2) dX10_share_16 (by decide) ?_
    refine V_callS (pc := 18) (M' := mX10_refusal) dX10_share_18 ml_X10_195 ks_X10_refusal ko_X10_refusal (by decide) rfl (Nat.le_of_ble_eq_true rfl) (Nat.le_of_ble_eq_true rfl) (vX10_refusal E  ((-2 : Int32)) s1 _  h) (kL (fun r18 s18 h => ?_))
    exact V_lret dX10_share_21 rfl h
  · replace h := h.2 hc
    refine V_iload_n (pc := 7) 2 dX10_share_7 rfl ?_
    refine V_if_lt (pc := 8) (tgt := 16) dX10_share_8 (by decide) (fun hc => ?_) (fun hc => ?_)
    · replace h := h.1 hc
      refine V_bipush (pc := 16) (v := -2) dX10_share_16 (by decide) ?_
      refine V_callS (pc := 18) (M' := mX10_refusal) dX10_share_18 ml_X10_195 ks_X10_refusal ko_X10_refusal (by decide) rfl (Nat.le_of_ble_eq_true rfl) (Nat.le_of_ble_eq_true rfl) (vX10_refusal E  ((-2 : Int32)) s1 _  h) (kL (fun r18 s18 h => ?_))
      exact V_lret dX10_share_21 rfl h
    · replace h := h.2 hc
      refine V_iload_n (pc := 11) 2 dX10_share_11 rfl ?_
      refine V_iconst (pc := 12) (v := 1) dX10_share_12 (by decide) ?_
      refine V_icmp_le (pc := 13) (tgt := 22) dX10_share_13 (by decide) (fun hc => ?_) (fun hc => ?_)
      · replace h := h.1 hc
        refine V_aload_n (pc := 22) 0 dX10_share_22 rfl ?_
        refine V_getR (pc := 23) dX10_share_23 fl_X10_53 sh_0 rfl ?_
        refine V_iload_n (pc := 26) 1 dX10_share_26 rfl ?_
        refine V_callV (pc := 27) (M' := mX8_reckonShare) dX10_share_27 ml_X10_232 kv_X8_reckonShare ko_X8_reckonShare sh_6 (by decide) (by decide) rfl rfl (Nat.le_of_ble_eq_true rfl) (Nat.le_of_ble_eq_true rfl) (vX8_reckonShare E  x1 s1 _  h) (kB (fun r27 s27 h => ?_))
        refine V_ifnz (pc := 30) (tgt := 39) dX10_share_30 (by decide) (fun hc => ?_) (fun hc => ?_)
        · replace h := h.1 hc
          refine V_aload_n (pc := 39) 0 dX10_share_39 rfl ?_
          refine V_getR (pc := 40) dX10_share_40 fl_X10_53 sh_0 rfl ?_
          refine V_getR (pc := 43) dX10_share_43 fl_X10_225 sh_6 rfl ?_
          refine V_iload_n (pc := 46) 2 dX10_share_46 rfl ?_
          refine V_callV (pc := 47) (M' := mX5_side) dX10_share_47 ml_X10_206 kv_X5_side ko_X5_side sh_11 (by decide) (by decide) rfl rfl (Nat.le_of_ble_eq_true rfl) (Nat.le_of_ble_eq_true rfl) (vX5_side E 11 x2 s27 _ sh_11 h) (kL (fun r47 s47 h => ?_))
          exact V_lret dX10_share_50 rfl h
        · replace h := h.2 hc
          refine V_bipush (pc := 33) (v := -3) dX10_share_33 (by decide) ?_
          refine V_callS (pc := 35) (M' := mX10_refusal) dX10_share_35 ml_X10_195 ks_X10_refusal ko_X10_refusal (by decide) rfl (Nat.le_of_ble_eq_true rfl) (Nat.le_of_ble_eq_true rfl) (vX10_refusal E  ((-3 : Int32)) s27 _  h) (kL (fun r35 s35 h => ?_))
          exact V_lret dX10_share_38 rfl h
      · replace h := h.2 hc
        refine V_bipush (pc := 16) (v := -2) dX10_share_16 (by decide) ?_
        refine V_callS (pc := 18) (M' := mX10_refusal) dX10_share_18 ml_X10_195 ks_X10_refusal ko_X10_refusal (by decide) rfl (Nat.le_of_ble_eq_true rfl) (Nat.le_of_ble_eq_true rfl) (vX10_refusal E  ((-2 : Int32)) s1 _  h) (kL (fun r18 s18 h => ?_))
        exact V_lret dX10_share_21 rfl h
theorem dX10_parts_0 : decode cX10_parts 0 = .ok (.iload_n 1, 1) := by decide +kernel
theorem dX10_parts_1 : decode cX10_parts 1 = .ok (.invokestatic 152, 3) := by decide +kernel
theorem dX10_parts_4 : decode cX10_parts 4 = .ok (.ifCond .ne 21, 3) := by decide +kernel
theorem dX10_parts_7 : decode cX10_parts 7 = .ok (.iload_n 2, 1) := by decide +kernel
theorem dX10_parts_8 : decode cX10_parts 8 = .ok (.ifCond .lt 17, 3) := by decide +kernel
theorem dX10_parts_11 : decode cX10_parts 11 = .ok (.iload_n 2, 1) := by decide +kernel
theorem dX10_parts_12 : decode cX10_parts 12 = .ok (.iconst 1, 1) := by decide +kernel
theorem dX10_parts_13 : decode cX10_parts 13 = .ok (.if_icmp .gt 12, 3) := by decide +kernel
theorem dX10_parts_16 : decode cX10_parts 16 = .ok (.iload_n 3, 1) := by decide +kernel
theorem dX10_parts_17 : decode cX10_parts 17 = .ok (.ifCond .lt 8, 3) := by decide +kernel
theorem dX10_parts_20 : decode cX10_parts 20 = .ok (.iload_n 3, 1) := by decide +kernel
theorem dX10_parts_21 : decode cX10_parts 21 = .ok (.iconst 1, 1) := by decide +kernel
theorem dX10_parts_22 : decode cX10_parts 22 = .ok (.if_icmp .le 9, 3) := by decide +kernel
theorem dX10_parts_25 : decode cX10_parts 25 = .ok (.bipush (-2), 2) := by decide +kernel
theorem dX10_parts_27 : decode cX10_parts 27 = .ok (.invokestatic 195, 3) := by decide +kernel
theorem dX10_parts_30 : decode cX10_parts 30 = .ok (.lreturn, 1) := by decide +kernel
theorem dX10_parts_31 : decode cX10_parts 31 = .ok (.aload_n 0, 1) := by decide +kernel
theorem dX10_parts_32 : decode cX10_parts 32 = .ok (.getfield 53, 3) := by decide +kernel
theorem dX10_parts_35 : decode cX10_parts 35 = .ok (.iload_n 1, 1) := by decide +kernel
theorem dX10_parts_36 : decode cX10_parts 36 = .ok (.iload_n 2, 1) := by decide +kernel
theorem dX10_parts_37 : decode cX10_parts 37 = .ok (.invokevirtual 235, 3) := by decide +kernel
theorem dX10_parts_40 : decode cX10_parts 40 = .ok (.ifCond .ne 9, 3) := by decide +kernel
theorem dX10_parts_43 : decode cX10_parts 43 = .ok (.bipush (-3), 2) := by decide +kernel
theorem dX10_parts_45 : decode cX10_parts 45 = .ok (.invokestatic 195, 3) := by decide +kernel
theorem dX10_parts_48 : decode cX10_parts 48 = .ok (.lreturn, 1) := by decide +kernel
theorem dX10_parts_49 : decode cX10_parts 49 = .ok (.aload_n 0, 1) := by decide +kernel
theorem dX10_parts_50 : decode cX10_parts 50 = .ok (.getfield 53, 3) := by decide +kernel
theorem dX10_parts_53 : decode cX10_parts 53 = .ok (.getfield 225, 3) := by decide +kernel
theorem dX10_parts_56 : decode cX10_parts 56 = .ok (.iload_n 3, 1) := by decide +kernel
theorem dX10_parts_57 : decode cX10_parts 57 = .ok (.invokevirtual 206, 3) := by decide +kernel
theorem dX10_parts_60 : decode cX10_parts 60 = .ok (.lreturn, 1) := by decide +kernel
def wX10_parts  (x1 : Int32) (x2 : Int32) (x3 : Int32) (σ : Sto) (post : Int64 → Sto → Prop) : Prop := wX10_noPiece  x1 σ (fun (r1 : Bool) (s1 : Sto) => ((r1 = true) → (wX10_refusal  ((-2 : Int32)) s1 (fun (r27 : Int64) (s27 : Sto) => post r27 s27))) ∧ ((r1 = false) → (((x2 < 0) → (wX10_refusal  ((-2 : Int32)) s1 (fun (r27 : Int64) (s27 : Sto) => post r27 s27))) ∧ ((¬ (x2 < 0)) → (((((1 : Int32)) < x2) → (wX10_refusal  ((-2 : Int32)) s1 (fun (r27 : Int64) (s27 : Sto) => post r27 s27))) ∧ ((¬ (((1 : Int32)) < x2)) → (((x3 < 0) → (wX10_refusal  ((-2 : Int32)) s1 (fun (r27 : Int64) (s27 : Sto) => post r27 s27))) ∧ ((¬ (x3 < 0)) → (((x3 ≤ ((1 : Int32))) → (wX8_reckonPart  x1 x2 s1 (fun (r37 : Bool) (s37 : Sto) => ((r37 = true) → (wX5_side 11 x3 s37 (fun (r57 : Int64) (s57 : Sto) => post r57 s57))) ∧ ((r37 = false) → (wX10_refusal  ((-3 : Int32)) s37 (fun (r45 : Int64) (s45 : Sto) => post r45 s45)))))) ∧ ((¬ (x3 ≤ ((1 : Int32)))) → (wX10_refusal  ((-2 : Int32)) s1 (fun (r27 : Int64) (s27 : Sto) => post r27 s27))))))))))))
set_option maxRecDepth 100000 in
set_option maxHeartbeats 4000000 in
theorem vX10_parts (E : Ev)  (x1 : Int32) (x2 : Int32) (x3 : Int32) (σ : Sto) (post : Int64 → Sto → Prop)  (h : wX10_parts  x1 x2 x3 σ post) : V E 4 mX10_parts (pL post) 0 [(0, .ref 0), (1, .int x1), (2, .int x2), (3, .int x3)] [] σ := by
  unfold wX10_parts at h
  refine V_iload_n (pc := 0) 1 dX10_parts_0 rfl ?_
  refine V_callS (pc := 1) (M' := mX10_noPiece) dX10_parts_1 ml_X10_152 ks_X10_noPiece ko_X10_noPiece (by decide) rfl (Nat.le_of_ble_eq_true rfl) (Nat.le_of_ble_eq_true rfl) (vX10_noPiece E  x1 σ _  h) (kB (fun r1 s1 h => ?_))
  refine V_ifnz (pc := 4) (tgt := 25) dX10_parts_4 (by decide) (fun hc => ?_) (fun hc => ?_)
  · replace h := h.1 hc
    refine V_bipush (pc := 25) (v := -2) dX10_parts_25 (by decide) ?_
    refine V_callS (pc := 27) (M' := mX10_refusal) dX10_parts_27 ml_X10_195 ks_X10_refusal ko_X10_refusal (by decide) rfl (Nat.le_of_ble_eq_true rfl) (Nat.le_of_ble_eq_true rfl) (vX10_refusal E  ((-2 : Int32)) s1 _  h) (kL (fun r27 s27 h => ?_))
    exact V_lret dX10_parts_30 rfl h
  · replace h := h.2 hc
    refine V_iload_n (pc := 7) 2 dX10_parts_7 rfl ?_
    refine V_if_lt (pc := 8) (tgt := 25) dX10_parts_8 (by decide) (fun hc => ?_) (fun hc => ?_)
    · replace h := h.1 hc
      refine V_bipush (pc := 25) (v := -2) dX10_parts_25 (by decide) ?_
      refine V_callS (pc := 27) (M' := mX10_refusal) dX10_parts_27 ml_X10_195 ks_X10_refusal ko_X10_refusal (by decide) rfl (Nat.le_of_ble_eq_true rfl) (Nat.le_of_ble_eq_true rfl) (vX10_refusal E  ((-2 : Int32)) s1 _  h) (kL (fun r27 s27 h => ?_))
      exact V_lret dX10_parts_30 rfl h
    · replace h := h.2 hc
      refine V_iload_n (pc := 11) 2 dX10_parts_11 rfl ?_
      refine V_iconst (pc := 12) (v := 1) dX10_parts_12 (by decide) ?_
      refine V_icmp_gt (pc := 13) (tgt := 25) dX10_parts_13 (by decide) (fun hc => ?_) (fun hc => ?_)
      · replace h := h.1 hc
        refine V_bipush (pc := 25) (v := -2) dX10_parts_25 (by decide) ?_
        refine V_callS (pc := 27) (M' := mX10_refusal) dX10_parts_27 ml_X10_195 ks_X10_refusal ko_X10_refusal (by decide) rfl (Nat.le_of_ble_eq_true rfl) (Nat.le_of_ble_eq_true rfl) (vX10_refusal E  ((-2 : Int32)) s1 _  h) (kL (fun r27 s27 h => ?_))
        exact V_lret dX10_parts_30 rfl h
      · replace h := h.2 hc
        refine V_iload_n (pc := 16) 3 dX10_parts_16 rfl ?_
        refine V_if_lt (pc := 17) (tgt := 25) dX10_parts_17 (by decide) (fun hc => ?_) (fun hc => ?_)
        · replace h := h.1 hc
          refine V_bipush (pc := 25) (v := -2) dX10_parts_25 (by decide) ?_
          refine V_callS (pc := 27) (M' := mX10_refusal) dX10_parts_27 ml_X10_195 ks_X10_refusal ko_X10_refusal (by decide) rfl (Nat.le_of_ble_eq_true rfl) (Nat.le_of_ble_eq_true rfl) (vX10_refusal E  ((-2 : Int32)) s1 _  h) (kL (fun r27 s27 h => ?_))
          exact V_lret dX10_parts_30 rfl h
        · replace h := h.2 hc
          refine V_iload_n (pc := 20) 3 dX10_parts_20 rfl ?_
          refine V_iconst (pc := 21) (v := 1) dX10_parts_21 (by decide) ?_
          refine V_icmp_le (pc := 22) (tgt := 31) dX10_parts_22 (by decide) (fun hc => ?_) (fun hc => ?_)
          · replace h := h.1 hc
            refine V_aload_n (pc := 31) 0 dX10_parts_31 rfl ?_
            refine V_getR (pc := 32) dX10_parts_32 fl_X10_53 sh_0 rfl ?_
            refine V_iload_n (pc := 35) 1 dX10_parts_35 rfl ?_
            refine V_iload_n (pc := 36) 2 dX10_parts_36 rfl ?_
            refine V_callV (pc := 37) (M' := mX8_reckonPart) dX10_parts_37 ml_X10_235 kv_X8_reckonPart ko_X8_reckonPart sh_6 (by decide) (by decide) rfl rfl (Nat.le_of_ble_eq_true rfl) (Nat.le_of_ble_eq_true rfl) (vX8_reckonPart E  x1 x2 s1 _  h) (kB (fun r37 s37 h => ?_))
            refine V_ifnz (pc := 40) (tgt := 49) dX10_parts_40 (by decide) (fun hc => ?_) (fun hc => ?_)
            · replace h := h.1 hc
              refine V_aload_n (pc := 49) 0 dX10_parts_49 rfl ?_
              refine V_getR (pc := 50) dX10_parts_50 fl_X10_53 sh_0 rfl ?_
              refine V_getR (pc := 53) dX10_parts_53 fl_X10_225 sh_6 rfl ?_
              refine V_iload_n (pc := 56) 3 dX10_parts_56 rfl ?_
              refine V_callV (pc := 57) (M' := mX5_side) dX10_parts_57 ml_X10_206 kv_X5_side ko_X5_side sh_11 (by decide) (by decide) rfl rfl (Nat.le_of_ble_eq_true rfl) (Nat.le_of_ble_eq_true rfl) (vX5_side E 11 x3 s37 _ sh_11 h) (kL (fun r57 s57 h => ?_))
              exact V_lret dX10_parts_60 rfl h
            · replace h := h.2 hc
              refine V_bipush (pc := 43) (v := -3) dX10_parts_43 (by decide) ?_
              refine V_callS (pc := 45) (M' := mX10_refusal) dX10_parts_45 ml_X10_195 ks_X10_refusal ko_X10_refusal (by decide) rfl (Nat.le_of_ble_eq_true rfl) (Nat.le_of_ble_eq_true rfl) (vX10_refusal E  ((-3 : Int32)) s37 _  h) (kL (fun r45 s45 h => ?_))
              exact V_lret dX10_parts_48 rfl h
          · replace h := h.2 hc
            refine V_bipush (pc := 25) (v := -2) dX10_parts_25 (by decide) ?_
            refine V_callS (pc := 27) (M' := mX10_refusal) dX10_parts_27 ml_X10_195 ks_X10_refusal ko_X10_refusal (by decide) rfl (Nat.le_of_ble_eq_true rfl) (Nat.le_of_ble_eq_true rfl) (vX10_refusal E  ((-2 : Int32)) s1 _  h) (kL (fun r27 s27 h => ?_))
            exact V_lret dX10_parts_30 rfl h
theorem dX10_ways_0 : decode cX10_ways 0 = .ok (.iload_n 1, 1) := by decide +kernel
theorem dX10_ways_1 : decode cX10_ways 1 = .ok (.invokestatic 152, 3) := by decide +kernel
theorem dX10_ways_4 : decode cX10_ways 4 = .ok (.ifCond .ne 12, 3) := by decide +kernel
theorem dX10_ways_7 : decode cX10_ways 7 = .ok (.iload_n 2, 1) := by decide +kernel
theorem dX10_ways_8 : decode cX10_ways 8 = .ok (.ifCond .lt 8, 3) := by decide +kernel
theorem dX10_ways_11 : decode cX10_ways 11 = .ok (.iload_n 2, 1) := by decide +kernel
theorem dX10_ways_12 : decode cX10_ways 12 = .ok (.iconst 2, 1) := by decide +kernel
theorem dX10_ways_13 : decode cX10_ways 13 = .ok (.if_icmp .le 6, 3) := by decide +kernel
theorem dX10_ways_16 : decode cX10_ways 16 = .ok (.bipush (-2), 2) := by decide +kernel
theorem dX10_ways_18 : decode cX10_ways 18 = .ok (.ireturn, 1) := by decide +kernel
theorem dX10_ways_19 : decode cX10_ways 19 = .ok (.aload_n 0, 1) := by decide +kernel
theorem dX10_ways_20 : decode cX10_ways 20 = .ok (.getfield 60, 3) := by decide +kernel
theorem dX10_ways_23 : decode cX10_ways 23 = .ok (.iload_n 1, 1) := by decide +kernel
theorem dX10_ways_24 : decode cX10_ways 24 = .ok (.invokevirtual 238, 3) := by decide +kernel
theorem dX10_ways_27 : decode cX10_ways 27 = .ok (.iload_n 2, 1) := by decide +kernel
theorem dX10_ways_28 : decode cX10_ways 28 = .ok (.iconst 2, 1) := by decide +kernel
theorem dX10_ways_29 : decode cX10_ways 29 = .ok (.if_icmp .ge 13, 3) := by decide +kernel
theorem dX10_ways_32 : decode cX10_ways 32 = .ok (.aload_n 0, 1) := by decide +kernel
theorem dX10_ways_33 : decode cX10_ways 33 = .ok (.getfield 60, 3) := by decide +kernel
theorem dX10_ways_36 : decode cX10_ways 36 = .ok (.getfield 239, 3) := by decide +kernel
theorem dX10_ways_39 : decode cX10_ways 39 = .ok (.iload_n 2, 1) := by decide +kernel
theorem dX10_ways_40 : decode cX10_ways 40 = .ok (.iaload, 1) := by decide +kernel
theorem dX10_ways_41 : decode cX10_ways 41 = .ok (.ireturn, 1) := by decide +kernel
theorem dX10_ways_42 : decode cX10_ways 42 = .ok (.aload_n 0, 1) := by decide +kernel
theorem dX10_ways_43 : decode cX10_ways 43 = .ok (.getfield 60, 3) := by decide +kernel
theorem dX10_ways_46 : decode cX10_ways 46 = .ok (.getfield 239, 3) := by decide +kernel
theorem dX10_ways_49 : decode cX10_ways 49 = .ok (.iconst 0, 1) := by decide +kernel
theorem dX10_ways_50 : decode cX10_ways 50 = .ok (.iaload, 1) := by decide +kernel
theorem dX10_ways_51 : decode cX10_ways 51 = .ok (.ifCond .eq 15, 3) := by decide +kernel
theorem dX10_ways_54 : decode cX10_ways 54 = .ok (.aload_n 0, 1) := by decide +kernel
theorem dX10_ways_55 : decode cX10_ways 55 = .ok (.getfield 60, 3) := by decide +kernel
theorem dX10_ways_58 : decode cX10_ways 58 = .ok (.getfield 239, 3) := by decide +kernel
theorem dX10_ways_61 : decode cX10_ways 61 = .ok (.iconst 1, 1) := by decide +kernel
theorem dX10_ways_62 : decode cX10_ways 62 = .ok (.iaload, 1) := by decide +kernel
theorem dX10_ways_63 : decode cX10_ways 63 = .ok (.ifCond .ne 6, 3) := by decide +kernel
theorem dX10_ways_66 : decode cX10_ways 66 = .ok (.bipush (-3), 2) := by decide +kernel
theorem dX10_ways_68 : decode cX10_ways 68 = .ok (.ireturn, 1) := by decide +kernel
theorem dX10_ways_69 : decode cX10_ways 69 = .ok (.aload_n 0, 1) := by decide +kernel
theorem dX10_ways_70 : decode cX10_ways 70 = .ok (.getfield 60, 3) := by decide +kernel
theorem dX10_ways_73 : decode cX10_ways 73 = .ok (.getfield 242, 3) := by decide +kernel
theorem dX10_ways_76 : decode cX10_ways 76 = .ok (.bipush 13, 2) := by decide +kernel
theorem dX10_ways_78 : decode cX10_ways 78 = .ok (.if_icmp .le 8, 3) := by decide +kernel
theorem dX10_ways_81 : decode cX10_ways 81 = .ok (.bipush (-4), 2) := by decide +kernel
theorem dX10_ways_83 : decode cX10_ways 83 = .ok (.goto 10, 3) := by decide +kernel
theorem dX10_ways_86 : decode cX10_ways 86 = .ok (.aload_n 0, 1) := by decide +kernel
theorem dX10_ways_87 : decode cX10_ways 87 = .ok (.getfield 60, 3) := by decide +kernel
theorem dX10_ways_90 : decode cX10_ways 90 = .ok (.invokevirtual 243, 3) := by decide +kernel
theorem dX10_ways_93 : decode cX10_ways 93 = .ok (.ireturn, 1) := by decide +kernel
def wX10_ways  (x1 : Int32) (x2 : Int32) (σ : Sto) (post : Int32 → Sto → Prop) : Prop := wX10_noPiece  x1 σ (fun (r1 : Bool) (s1 : Sto) => ((r1 = true) → (post ((-2 : Int32)) s1)) ∧ ((r1 = false) → (((x2 < 0) → (post ((-2 : Int32)) s1)) ∧ ((¬ (x2 < 0)) → (((x2 ≤ ((2 : Int32))) → (wX3_gather  x1 s1 (fun (s24 : Sto) => ((((2 : Int32)) ≤ x2) → (vp_in ((0 : Int32)) 2 ∧ ((((s24.1 58 ((0 : Int32)).toNatClampNeg) = 0) → (post ((-3 : Int32)) s24)) ∧ ((¬ ((s24.1 58 ((0 : Int32)).toNatClampNeg) = 0)) → (vp_in ((1 : Int32)) 2 ∧ (((¬ (s24.1 58 ((1 : Int32)).toNatClampNeg) = 0) → ((((s24.1 7 4) ≤ ((13 : Int32))) → (wX3_chance   s24 (fun (r90 : Int32) (s90 : Sto) => post r90 s90))) ∧ ((¬ ((s24.1 7 4) ≤ ((13 : Int32)))) → (post ((-4 : Int32)) s24)))) ∧ (((s24.1 58 ((1 : Int32)).toNatClampNeg) = 0) → (post ((-3 : Int32)) s24)))))))) ∧ ((¬ (((2 : Int32)) ≤ x2)) → (vp_in x2 2 ∧ (post (s24.1 58 x2.toNatClampNeg) s24)))))) ∧ ((¬ (x2 ≤ ((2 : Int32)))) → (post ((-2 : Int32)) s1)))))))
set_option maxRecDepth 100000 in
set_option maxHeartbeats 4000000 in
theorem vX10_ways (E : Ev)  (x1 : Int32) (x2 : Int32) (σ : Sto) (post : Int32 → Sto → Prop)  (h : wX10_ways  x1 x2 σ post) : V E 31 mX10_ways (pI post) 0 [(0, .ref 0), (1, .int x1), (2, .int x2)] [] σ := by
  unfold wX10_ways at h
  refine V_iload_n (pc := 0) 1 dX10_ways_0 rfl ?_
  refine V_callS (pc := 1) (M' := mX10_noPiece) dX10_ways_1 ml_X10_152 ks_X10_noPiece ko_X10_noPiece (by decide) rfl (Nat.le_of_ble_eq_true rfl) (Nat.le_of_ble_eq_true rfl) (vX10_noPiece E  x1 σ _  h) (kB (fun r1 s1 h => ?_))
  refine V_ifnz (pc := 4) (tgt := 16) dX10_ways_4 (by decide) (fun hc => ?_) (fun hc => ?_)
  · replace h := h.1 hc
    refine V_bipush (pc := 16) (v := -2) dX10_ways_16 (by decide) ?_
    exact V_iret dX10_ways_18 rfl h
  · replace h := h.2 hc
    refine V_iload_n (pc := 7) 2 dX10_ways_7 rfl ?_
    refine V_if_lt (pc := 8) (tgt := 16) dX10_ways_8 (by decide) (fun hc => ?_) (fun hc => ?_)
    · replace h := h.1 hc
      refine V_bipush (pc := 16) (v := -2) dX10_ways_16 (by decide) ?_
      exact V_iret dX10_ways_18 rfl h
    · replace h := h.2 hc
      refine V_iload_n (pc := 11) 2 dX10_ways_11 rfl ?_
      refine V_iconst (pc := 12) (v := 2) dX10_ways_12 (by decide) ?_
      refine V_icmp_le (pc := 13) (tgt := 19) dX10_ways_13 (by decide) (fun hc => ?_) (fun hc => ?_)
      · replace h := h.1 hc
        refine V_aload_n (pc := 19) 0 dX10_ways_19 rfl ?_
        refine V_getR (pc := 20) dX10_ways_20 fl_X10_60 sh_0 rfl ?_
        refine V_iload_n (pc := 23) 1 dX10_ways_23 rfl ?_
        refine V_callV (pc := 24) (M' := mX3_gather) dX10_ways_24 ml_X10_238 kv_X3_gather ko_X3_gather sh_7 (by decide) (by decide) rfl rfl (Nat.le_of_ble_eq_true rfl) (Nat.le_of_ble_eq_true rfl) (vX3_gather E  x1 s1 _  h) (kV (fun s24 h => ?_))
        refine V_iload_n (pc := 27) 2 dX10_ways_27 rfl ?_
        refine V_iconst (pc := 28) (v := 2) dX10_ways_28 (by decide) ?_
        refine V_icmp_ge (pc := 29) (tgt := 42) dX10_ways_29 (by decide) (fun hc => ?_) (fun hc => ?_)
        · replace h := h.1 hc
          refine V_aload_n (pc := 42) 0 dX10_ways_42 rfl ?_
          refine V_getR (pc := 43) dX10_ways_43 fl_X10_60 sh_0 rfl ?_
          refine V_getR (pc := 46) dX10_ways_46 fl_X10_239 sh_7 rfl ?_
          refine V_iconst (pc := 49) (v := 0) dX10_ways_49 (by decide) ?_
          obtain ⟨i50, h⟩ := h
          refine V_iald (pc := 50) dX10_ways_50 sh_58 i50 ?_
          refine V_if_eq (pc := 51) (tgt := 66) dX10_ways_51 (by decide) (fun hc => ?_) (fun hc => ?_)
          · replace h := h.1 hc
            refine V_bipush (pc := 66) (v := -3) dX10_ways_66 (by decide) ?_
            exact V_iret dX10_ways_68 rfl h
          · replace h := h.2 hc
            refine V_aload_n (pc := 54) 0 dX10_ways_54 rfl ?_
            refine V_getR (pc := 55) dX10_ways_55 fl_X10_60 sh_0 rfl ?_
            refine V_getR (pc := 58) dX10_ways_58 fl_X10_239 sh_7 rfl ?_
            refine V_iconst (pc := 61) (v := 1) dX10_ways_61 (by decide) ?_
            obtain ⟨i62, h⟩ := h
            refine V_iald (pc := 62) dX10_ways_62 sh_58 i62 ?_
            refine V_if_ne (pc := 63) (tgt := 69) dX10_ways_63 (by decide) (fun hc => ?_) (fun hc => ?_)
            · replace h := h.1 hc
              refine V_aload_n (pc := 69) 0 dX10_ways_69 rfl ?_
              refine V_getR (pc := 70) dX10_ways_70 fl_X10_60 sh_0 rfl ?_
              refine V_getI (pc := 73) dX10_ways_73 fl_X10_242 sh_7 rfl ?_
              refine V_bipush (pc := 76) (v := 13) dX10_ways_76 (by decide) ?_
              refine V_icmp_le (pc := 78) (tgt := 86) dX10_ways_78 (by decide) (fun hc => ?_) (fun hc => ?_)
              · replace h := h.1 hc
                refine V_aload_n (pc := 86) 0 dX10_ways_86 rfl ?_
                refine V_getR (pc := 87) dX10_ways_87 fl_X10_60 sh_0 rfl ?_
                refine V_callV (pc := 90) (M' := mX3_chance) dX10_ways_90 ml_X10_243 kv_X3_chance ko_X3_chance sh_7 (by decide) (by decide) rfl rfl (Nat.le_of_ble_eq_true rfl) (Nat.le_of_ble_eq_true rfl) (vX3_chance E   s24 _  h) (kI (fun r90 s90 h => ?_))
                exact V_iret dX10_ways_93 rfl h
              · replace h := h.2 hc
                refine V_bipush (pc := 81) (v := -4) dX10_ways_81 (by decide) ?_
                refine V_goto (pc := 83) (tgt := 93) dX10_ways_83 (by decide) ?_
                exact V_iret dX10_ways_93 rfl h
            · replace h := h.2 hc
              refine V_bipush (pc := 66) (v := -3) dX10_ways_66 (by decide) ?_
              exact V_iret dX10_ways_68 rfl h
        · replace h := h.2 hc
          refine V_aload_n (pc := 32) 0 dX10_ways_32 rfl ?_
          refine V_getR (pc := 33) dX10_ways_33 fl_X10_60 sh_0 rfl ?_
          refine V_getR (pc := 36) dX10_ways_36 fl_X10_239 sh_7 rfl ?_
          refine V_iload_n (pc := 39) 2 dX10_ways_39 rfl ?_
          obtain ⟨i40, h⟩ := h
          refine V_iald (pc := 40) dX10_ways_40 sh_58 i40 ?_
          exact V_iret dX10_ways_41 rfl h
      · replace h := h.2 hc
        refine V_bipush (pc := 16) (v := -2) dX10_ways_16 (by decide) ?_
        exact V_iret dX10_ways_18 rfl h
theorem dX10_score_0 : decode cX10_score 0 = .ok (.iload_n 1, 1) := by decide +kernel
theorem dX10_score_1 : decode cX10_score 1 = .ok (.invokestatic 152, 3) := by decide +kernel
theorem dX10_score_4 : decode cX10_score 4 = .ok (.ifCond .eq 7, 3) := by decide +kernel
theorem dX10_score_7 : decode cX10_score 7 = .ok (.ldc2_w 249, 3) := by decide +kernel
theorem dX10_score_10 : decode cX10_score 10 = .ok (.lreturn, 1) := by decide +kernel
theorem dX10_score_11 : decode cX10_score 11 = .ok (.aload_n 0, 1) := by decide +kernel
theorem dX10_score_12 : decode cX10_score 12 = .ok (.getfield 60, 3) := by decide +kernel
theorem dX10_score_15 : decode cX10_score 15 = .ok (.iload_n 1, 1) := by decide +kernel
theorem dX10_score_16 : decode cX10_score 16 = .ok (.invokevirtual 238, 3) := by decide +kernel
theorem dX10_score_19 : decode cX10_score 19 = .ok (.aload_n 0, 1) := by decide +kernel
theorem dX10_score_20 : decode cX10_score 20 = .ok (.getfield 60, 3) := by decide +kernel
theorem dX10_score_23 : decode cX10_score 23 = .ok (.getfield 251, 3) := by decide +kernel
theorem dX10_score_26 : decode cX10_score 26 = .ok (.lreturn, 1) := by decide +kernel
def wX10_score  (x1 : Int32) (σ : Sto) (post : Int64 → Sto → Prop) : Prop := wX10_noPiece  x1 σ (fun (r1 : Bool) (s1 : Sto) => ((r1 = false) → (wX3_gather  x1 s1 (fun (s16 : Sto) => post (s16.2 7 5) s16))) ∧ ((r1 = true) → (post ((-9223372036854775808 : Int64)) s1)))
set_option maxRecDepth 100000 in
set_option maxHeartbeats 4000000 in
theorem vX10_score (E : Ev)  (x1 : Int32) (σ : Sto) (post : Int64 → Sto → Prop)  (h : wX10_score  x1 σ post) : V E 2 mX10_score (pL post) 0 [(0, .ref 0), (1, .int x1)] [] σ := by
  unfold wX10_score at h
  refine V_iload_n (pc := 0) 1 dX10_score_0 rfl ?_
  refine V_callS (pc := 1) (M' := mX10_noPiece) dX10_score_1 ml_X10_152 ks_X10_noPiece ko_X10_noPiece (by decide) rfl (Nat.le_of_ble_eq_true rfl) (Nat.le_of_ble_eq_true rfl) (vX10_noPiece E  x1 σ _  h) (kB (fun r1 s1 h => ?_))
  refine V_ifz (pc := 4) (tgt := 11) dX10_score_4 (by decide) (fun hc => ?_) (fun hc => ?_)
  · replace h := h.1 hc
    refine V_aload_n (pc := 11) 0 dX10_score_11 rfl ?_
    refine V_getR (pc := 12) dX10_score_12 fl_X10_60 sh_0 rfl ?_
    refine V_iload_n (pc := 15) 1 dX10_score_15 rfl ?_
    refine V_callV (pc := 16) (M' := mX3_gather) dX10_score_16 ml_X10_238 kv_X3_gather ko_X3_gather sh_7 (by decide) (by decide) rfl rfl (Nat.le_of_ble_eq_true rfl) (Nat.le_of_ble_eq_true rfl) (vX3_gather E  x1 s1 _  h) (kV (fun s16 h => ?_))
    refine V_aload_n (pc := 19) 0 dX10_score_19 rfl ?_
    refine V_getR (pc := 20) dX10_score_20 fl_X10_60 sh_0 rfl ?_
    refine V_getL (pc := 23) dX10_score_23 fl_X10_251 sh_7 rfl ?_
    exact V_lret dX10_score_26 rfl h
  · replace h := h.2 hc
    refine V_ldc2 (pc := 7) dX10_score_7 cl_X10_249 ?_
    exact V_lret dX10_score_10 rfl h
theorem dX10_type_0 : decode cX10_type 0 = .ok (.iload_n 1, 1) := by decide +kernel
theorem dX10_type_1 : decode cX10_type 1 = .ok (.ifCond .lt 10, 3) := by decide +kernel
theorem dX10_type_4 : decode cX10_type 4 = .ok (.iload_n 1, 1) := by decide +kernel
theorem dX10_type_5 : decode cX10_type 5 = .ok (.sipush 255, 3) := by decide +kernel
theorem dX10_type_8 : decode cX10_type 8 = .ok (.if_icmp .le 6, 3) := by decide +kernel
theorem dX10_type_11 : decode cX10_type 11 = .ok (.bipush (-2), 2) := by decide +kernel
theorem dX10_type_13 : decode cX10_type 13 = .ok (.ireturn, 1) := by decide +kernel
theorem dX10_type_14 : decode cX10_type 14 = .ok (.aload_n 0, 1) := by decide +kernel
theorem dX10_type_15 : decode cX10_type 15 = .ok (.getfield 67, 3) := by decide +kernel
theorem dX10_type_18 : decode cX10_type 18 = .ok (.getfield 255, 3) := by decide +kernel
theorem dX10_type_21 : decode cX10_type 21 = .ok (.bipush 60, 2) := by decide +kernel
theorem dX10_type_23 : decode cX10_type 23 = .ok (.if_icmp .lt 6, 3) := by decide +kernel
theorem dX10_type_26 : decode cX10_type 26 = .ok (.bipush (-4), 2) := by decide +kernel
theorem dX10_type_28 : decode cX10_type 28 = .ok (.ireturn, 1) := by decide +kernel
theorem dX10_type_29 : decode cX10_type 29 = .ok (.aload_n 0, 1) := by decide +kernel
theorem dX10_type_30 : decode cX10_type 30 = .ok (.getfield 67, 3) := by decide +kernel
theorem dX10_type_33 : decode cX10_type 33 = .ok (.iload_n 1, 1) := by decide +kernel
theorem dX10_type_34 : decode cX10_type 34 = .ok (.invokevirtual 258, 3) := by decide +kernel
theorem dX10_type_37 : decode cX10_type 37 = .ok (.ireturn, 1) := by decide +kernel
def wX10_type  (x1 : Int32) (σ : Sto) (post : Int32 → Sto → Prop) : Prop := ((x1 < 0) → (post ((-2 : Int32)) σ)) ∧ ((¬ (x1 < 0)) → (((x1 ≤ ((255 : Int32))) → ((((σ.1 8 4) < ((60 : Int32))) → (wX4_append  x1 σ (fun (r34 : Int32) (s34 : Sto) => post r34 s34))) ∧ ((¬ ((σ.1 8 4) < ((60 : Int32)))) → (post ((-4 : Int32)) σ)))) ∧ ((¬ (x1 ≤ ((255 : Int32)))) → (post ((-2 : Int32)) σ))))
set_option maxRecDepth 100000 in
set_option maxHeartbeats 4000000 in
theorem vX10_type (E : Ev)  (x1 : Int32) (σ : Sto) (post : Int32 → Sto → Prop)  (h : wX10_type  x1 σ post) : V E 1 mX10_type (pI post) 0 [(0, .ref 0), (1, .int x1)] [] σ := by
  unfold wX10_type at h
  refine V_iload_n (pc := 0) 1 dX10_type_0 rfl ?_
  refine V_if_lt (pc := 1) (tgt := 11) dX10_type_1 (by decide) (fun hc => ?_) (fun hc => ?_)
  · replace h := h.1 hc
    refine V_bipush (pc := 11) (v := -2) dX10_type_11 (by decide) ?_
    exact V_iret dX10_type_13 rfl h
  · replace h := h.2 hc
    refine V_iload_n (pc := 4) 1 dX10_type_4 rfl ?_
    refine V_sipush (pc := 5) (v := 255) dX10_type_5 (by decide) ?_
    refine V_icmp_le (pc := 8) (tgt := 14) dX10_type_8 (by decide) (fun hc => ?_) (fun hc => ?_)
    · replace h := h.1 hc
      refine V_aload_n (pc := 14) 0 dX10_type_14 rfl ?_
      refine V_getR (pc := 15) dX10_type_15 fl_X10_67 sh_0 rfl ?_
      refine V_getI (pc := 18) dX10_type_18 fl_X10_255 sh_8 rfl ?_
      refine V_bipush (pc := 21) (v := 60) dX10_type_21 (by decide) ?_
      refine V_icmp_lt (pc := 23) (tgt := 29) dX10_type_23 (by decide) (fun hc => ?_) (fun hc => ?_)
      · replace h := h.1 hc
        refine V_aload_n (pc := 29) 0 dX10_type_29 rfl ?_
        refine V_getR (pc := 30) dX10_type_30 fl_X10_67 sh_0 rfl ?_
        refine V_iload_n (pc := 33) 1 dX10_type_33 rfl ?_
        refine V_callV (pc := 34) (M' := mX4_append) dX10_type_34 ml_X10_258 kv_X4_append ko_X4_append sh_8 (by decide) (by decide) rfl rfl (Nat.le_of_ble_eq_true rfl) (Nat.le_of_ble_eq_true rfl) (vX4_append E  x1 σ _  h) (kI (fun r34 s34 h => ?_))
        exact V_iret dX10_type_37 rfl h
      · replace h := h.2 hc
        refine V_bipush (pc := 26) (v := -4) dX10_type_26 (by decide) ?_
        exact V_iret dX10_type_28 rfl h
    · replace h := h.2 hc
      refine V_bipush (pc := 11) (v := -2) dX10_type_11 (by decide) ?_
      exact V_iret dX10_type_13 rfl h
theorem dX10_wipe_0 : decode cX10_wipe 0 = .ok (.aload_n 0, 1) := by decide +kernel
theorem dX10_wipe_1 : decode cX10_wipe 1 = .ok (.getfield 67, 3) := by decide +kernel
theorem dX10_wipe_4 : decode cX10_wipe 4 = .ok (.getfield 255, 3) := by decide +kernel
theorem dX10_wipe_7 : decode cX10_wipe 7 = .ok (.istore_n 1, 1) := by decide +kernel
theorem dX10_wipe_8 : decode cX10_wipe 8 = .ok (.aload_n 0, 1) := by decide +kernel
theorem dX10_wipe_9 : decode cX10_wipe 9 = .ok (.getfield 67, 3) := by decide +kernel
theorem dX10_wipe_12 : decode cX10_wipe 12 = .ok (.iconst 0, 1) := by decide +kernel
theorem dX10_wipe_13 : decode cX10_wipe 13 = .ok (.putfield 255, 3) := by decide +kernel
theorem dX10_wipe_16 : decode cX10_wipe 16 = .ok (.iload_n 1, 1) := by decide +kernel
theorem dX10_wipe_17 : decode cX10_wipe 17 = .ok (.ireturn, 1) := by decide +kernel
def wX10_wipe   (σ : Sto) (post : Int32 → Sto → Prop) : Prop := post (σ.1 8 4) (wI σ 8 4 ((0 : Int32)))
set_option maxRecDepth 100000 in
set_option maxHeartbeats 4000000 in
theorem vX10_wipe (E : Ev)   (σ : Sto) (post : Int32 → Sto → Prop)  (h : wX10_wipe   σ post) : V E 0 mX10_wipe (pI post) 0 [(0, .ref 0)] [] σ := by
  unfold wX10_wipe at h
  refine V_aload_n (pc := 0) 0 dX10_wipe_0 rfl ?_
  refine V_getR (pc := 1) dX10_wipe_1 fl_X10_67 sh_0 rfl ?_
  refine V_getI (pc := 4) dX10_wipe_4 fl_X10_255 sh_8 rfl ?_
  refine V_istore_n (pc := 7) dX10_wipe_7 (by decide) ?_
  refine V_aload_n (pc := 8) 1 dX10_wipe_8 rfl ?_
  refine V_getR (pc := 9) dX10_wipe_9 fl_X10_67 sh_0 rfl ?_
  refine V_iconst (pc := 12) (v := 0) dX10_wipe_12 (by decide) ?_
  refine V_putI (pc := 13) dX10_wipe_13 fl_X10_255 po_X4_4 sh_8 rfl rfl rfl ?_
  refine V_iload_n (pc := 16) 0 dX10_wipe_16 rfl ?_
  exact V_iret dX10_wipe_17 rfl h
theorem dX10_fault_0 : decode cX10_fault 0 = .ok (.aload_n 0, 1) := by decide +kernel
theorem dX10_fault_1 : decode cX10_fault 1 = .ok (.getfield 67, 3) := by decide +kernel
theorem dX10_fault_4 : decode cX10_fault 4 = .ok (.invokevirtual 261, 3) := by decide +kernel
theorem dX10_fault_7 : decode cX10_fault 7 = .ok (.ireturn, 1) := by decide +kernel
def wX10_fault   (σ : Sto) (post : Int32 → Sto → Prop) : Prop := wX4_firstFault   σ (fun (r4 : Int32) (s4 : Sto) => post r4 s4)
set_option maxRecDepth 100000 in
set_option maxHeartbeats 4000000 in
theorem vX10_fault (E : Ev)   (σ : Sto) (post : Int32 → Sto → Prop)  (h : wX10_fault   σ post) : V E 4 mX10_fault (pI post) 0 [(0, .ref 0)] [] σ := by
  unfold wX10_fault at h
  refine V_aload_n (pc := 0) 0 dX10_fault_0 rfl ?_
  refine V_getR (pc := 1) dX10_fault_1 fl_X10_67 sh_0 rfl ?_
  refine V_callV (pc := 4) (M' := mX4_firstFault) dX10_fault_4 ml_X10_261 kv_X4_firstFault ko_X4_firstFault sh_8 (by decide) (by decide) rfl rfl (Nat.le_of_ble_eq_true rfl) (Nat.le_of_ble_eq_true rfl) (vX4_firstFault E   σ _  h) (kI (fun r4 s4 h => ?_))
  exact V_iret dX10_fault_7 rfl h
theorem dX10_reckon_0 : decode cX10_reckon 0 = .ok (.aload_n 0, 1) := by decide +kernel
theorem dX10_reckon_1 : decode cX10_reckon 1 = .ok (.getfield 67, 3) := by decide +kernel
theorem dX10_reckon_4 : decode cX10_reckon 4 = .ok (.invokevirtual 261, 3) := by decide +kernel
theorem dX10_reckon_7 : decode cX10_reckon 7 = .ok (.iconst (-1), 1) := by decide +kernel
theorem dX10_reckon_8 : decode cX10_reckon 8 = .ok (.if_icmp .ne 13, 3) := by decide +kernel
theorem dX10_reckon_11 : decode cX10_reckon 11 = .ok (.aload_n 0, 1) := by decide +kernel
theorem dX10_reckon_12 : decode cX10_reckon 12 = .ok (.getfield 67, 3) := by decide +kernel
theorem dX10_reckon_15 : decode cX10_reckon 15 = .ok (.invokevirtual 264, 3) := by decide +kernel
theorem dX10_reckon_18 : decode cX10_reckon 18 = .ok (.goto 5, 3) := by decide +kernel
theorem dX10_reckon_21 : decode cX10_reckon 21 = .ok (.bipush (-3), 2) := by decide +kernel
theorem dX10_reckon_23 : decode cX10_reckon 23 = .ok (.ireturn, 1) := by decide +kernel
def wX10_reckon   (σ : Sto) (post : Int32 → Sto → Prop) : Prop := wX4_firstFault   σ (fun (r4 : Int32) (s4 : Sto) => ((¬ r4 = ((-1 : Int32))) → (post ((-3 : Int32)) s4)) ∧ ((r4 = ((-1 : Int32))) → (wX4_doubtOfSquare   s4 (fun (r15 : Int32) (s15 : Sto) => post r15 s15))))
set_option maxRecDepth 100000 in
set_option maxHeartbeats 4000000 in
theorem vX10_reckon (E : Ev)   (σ : Sto) (post : Int32 → Sto → Prop)  (h : wX10_reckon   σ post) : V E 4 mX10_reckon (pI post) 0 [(0, .ref 0)] [] σ := by
  unfold wX10_reckon at h
  refine V_aload_n (pc := 0) 0 dX10_reckon_0 rfl ?_
  refine V_getR (pc := 1) dX10_reckon_1 fl_X10_67 sh_0 rfl ?_
  refine V_callV (pc := 4) (M' := mX4_firstFault) dX10_reckon_4 ml_X10_261 kv_X4_firstFault ko_X4_firstFault sh_8 (by decide) (by decide) rfl rfl (Nat.le_of_ble_eq_true rfl) (Nat.le_of_ble_eq_true rfl) (vX4_firstFault E   σ _  h) (kI (fun r4 s4 h => ?_))
  refine V_iconst (pc := 7) (v := -1) dX10_reckon_7 (by decide) ?_
  refine V_icmp_ne (pc := 8) (tgt := 21) dX10_reckon_8 (by decide) (fun hc => ?_) (fun hc => ?_)
  · replace h := h.1 hc
    refine V_bipush (pc := 21) (v := -3) dX10_reckon_21 (by decide) ?_
    exact V_iret dX10_reckon_23 rfl h
  · replace h := h.2 hc
    refine V_aload_n (pc := 11) 0 dX10_reckon_11 rfl ?_
    refine V_getR (pc := 12) dX10_reckon_12 fl_X10_67 sh_0 rfl ?_
    refine V_callV (pc := 15) (M' := mX4_doubtOfSquare) dX10_reckon_15 ml_X10_264 kv_X4_doubtOfSquare ko_X4_doubtOfSquare sh_8 (by decide) (by decide) rfl rfl (Nat.le_of_ble_eq_true rfl) (Nat.le_of_ble_eq_true rfl) (vX4_doubtOfSquare E   s4 _  h) (kI (fun r15 s15 h => ?_))
    refine V_goto (pc := 18) (tgt := 23) dX10_reckon_18 (by decide) ?_
    exact V_iret dX10_reckon_23 rfl h
theorem dX10_claim_0 : decode cX10_claim 0 = .ok (.aload_n 0, 1) := by decide +kernel
theorem dX10_claim_1 : decode cX10_claim 1 = .ok (.iload_n 1, 1) := by decide +kernel
theorem dX10_claim_2 : decode cX10_claim 2 = .ok (.invokevirtual 89, 3) := by decide +kernel
theorem dX10_claim_5 : decode cX10_claim 5 = .ok (.ifCond .eq 6, 3) := by decide +kernel
theorem dX10_claim_8 : decode cX10_claim 8 = .ok (.bipush (-2), 2) := by decide +kernel
theorem dX10_claim_10 : decode cX10_claim 10 = .ok (.ireturn, 1) := by decide +kernel
theorem dX10_claim_11 : decode cX10_claim 11 = .ok (.aload_n 0, 1) := by decide +kernel
theorem dX10_claim_12 : decode cX10_claim 12 = .ok (.getfield 67, 3) := by decide +kernel
theorem dX10_claim_15 : decode cX10_claim 15 = .ok (.invokevirtual 261, 3) := by decide +kernel
theorem dX10_claim_18 : decode cX10_claim 18 = .ok (.iconst (-1), 1) := by decide +kernel
theorem dX10_claim_19 : decode cX10_claim 19 = .ok (.if_icmp .eq 6, 3) := by decide +kernel
theorem dX10_claim_22 : decode cX10_claim 22 = .ok (.bipush (-3), 2) := by decide +kernel
theorem dX10_claim_24 : decode cX10_claim 24 = .ok (.ireturn, 1) := by decide +kernel
theorem dX10_claim_25 : decode cX10_claim 25 = .ok (.aload_n 0, 1) := by decide +kernel
theorem dX10_claim_26 : decode cX10_claim 26 = .ok (.getfield 12, 3) := by decide +kernel
theorem dX10_claim_29 : decode cX10_claim 29 = .ok (.iload_n 1, 1) := by decide +kernel
theorem dX10_claim_30 : decode cX10_claim 30 = .ok (.aload_n 0, 1) := by decide +kernel
theorem dX10_claim_31 : decode cX10_claim 31 = .ok (.getfield 67, 3) := by decide +kernel
theorem dX10_claim_34 : decode cX10_claim 34 = .ok (.invokevirtual 264, 3) := by decide +kernel
theorem dX10_claim_37 : decode cX10_claim 37 = .ok (.invokevirtual 93, 3) := by decide +kernel
theorem dX10_claim_40 : decode cX10_claim 40 = .ok (.ireturn, 1) := by decide +kernel
def wX10_claim  (x1 : Int32) (σ : Sto) (post : Int32 → Sto → Prop) : Prop := wX10_noHouse  x1 σ (fun (r2 : Bool) (s2 : Sto) => ((r2 = false) → (wX4_firstFault   s2 (fun (r15 : Int32) (s15 : Sto) => ((r15 = ((-1 : Int32))) → (wX4_doubtOfSquare   s15 (fun (r34 : Int32) (s34 : Sto) => wX1_changeDoubt  x1 r34 s34 (fun (r37 : Int32) (s37 : Sto) => post r37 s37)))) ∧ ((¬ (r15 = ((-1 : Int32)))) → (post ((-3 : Int32)) s15))))) ∧ ((r2 = true) → (post ((-2 : Int32)) s2)))
set_option maxRecDepth 100000 in
set_option maxHeartbeats 4000000 in
theorem vX10_claim (E : Ev)  (x1 : Int32) (σ : Sto) (post : Int32 → Sto → Prop)  (h : wX10_claim  x1 σ post) : V E 4 mX10_claim (pI post) 0 [(0, .ref 0), (1, .int x1)] [] σ := by
  unfold wX10_claim at h
  refine V_aload_n (pc := 0) 0 dX10_claim_0 rfl ?_
  refine V_iload_n (pc := 1) 1 dX10_claim_1 rfl ?_
  refine V_callV (pc := 2) (M' := mX10_noHouse) dX10_claim_2 ml_X10_89 kv_X10_noHouse ko_X10_noHouse sh_0 (by decide) (by decide) rfl rfl (Nat.le_of_ble_eq_true rfl) (Nat.le_of_ble_eq_true rfl) (vX10_noHouse E  x1 σ _  h) (kB (fun r2 s2 h => ?_))
  refine V_ifz (pc := 5) (tgt := 11) dX10_claim_5 (by decide) (fun hc => ?_) (fun hc => ?_)
  · replace h := h.1 hc
    refine V_aload_n (pc := 11) 0 dX10_claim_11 rfl ?_
    refine V_getR (pc := 12) dX10_claim_12 fl_X10_67 sh_0 rfl ?_
    refine V_callV (pc := 15) (M' := mX4_firstFault) dX10_claim_15 ml_X10_261 kv_X4_firstFault ko_X4_firstFault sh_8 (by decide) (by decide) rfl rfl (Nat.le_of_ble_eq_true rfl) (Nat.le_of_ble_eq_true rfl) (vX4_firstFault E   s2 _  h) (kI (fun r15 s15 h => ?_))
    refine V_iconst (pc := 18) (v := -1) dX10_claim_18 (by decide) ?_
    refine V_icmp_eq (pc := 19) (tgt := 25) dX10_claim_19 (by decide) (fun hc => ?_) (fun hc => ?_)
    · replace h := h.1 hc
      refine V_aload_n (pc := 25) 0 dX10_claim_25 rfl ?_
      refine V_getR (pc := 26) dX10_claim_26 fl_X10_12 sh_0 rfl ?_
      refine V_iload_n (pc := 29) 1 dX10_claim_29 rfl ?_
      refine V_aload_n (pc := 30) 0 dX10_claim_30 rfl ?_
      refine V_getR (pc := 31) dX10_claim_31 fl_X10_67 sh_0 rfl ?_
      refine V_callV (pc := 34) (M' := mX4_doubtOfSquare) dX10_claim_34 ml_X10_264 kv_X4_doubtOfSquare ko_X4_doubtOfSquare sh_8 (by decide) (by decide) rfl rfl (Nat.le_of_ble_eq_true rfl) (Nat.le_of_ble_eq_true rfl) (vX4_doubtOfSquare E   s15 _  h) (kI (fun r34 s34 h => ?_))
      refine V_callV (pc := 37) (M' := mX1_changeDoubt) dX10_claim_37 ml_X10_93 kv_X1_changeDoubt ko_X1_changeDoubt sh_1 (by decide) (by decide) rfl rfl (Nat.le_of_ble_eq_true rfl) (Nat.le_of_ble_eq_true rfl) (vX1_changeDoubt E  x1 r34 s34 _  h) (kI (fun r37 s37 h => ?_))
      exact V_iret dX10_claim_40 rfl h
    · replace h := h.2 hc
      refine V_bipush (pc := 22) (v := -3) dX10_claim_22 (by decide) ?_
      exact V_iret dX10_claim_24 rfl h
  · replace h := h.2 hc
    refine V_bipush (pc := 8) (v := -2) dX10_claim_8 (by decide) ?_
    exact V_iret dX10_claim_10 rfl h
theorem dX10_sheet_0 : decode cX10_sheet 0 = .ok (.iload_n 1, 1) := by decide +kernel
theorem dX10_sheet_1 : decode cX10_sheet 1 = .ok (.invokestatic 101, 3) := by decide +kernel
theorem dX10_sheet_4 : decode cX10_sheet 4 = .ok (.ifCond .ne 16, 3) := by decide +kernel
theorem dX10_sheet_7 : decode cX10_sheet 7 = .ok (.iload_n 2, 1) := by decide +kernel
theorem dX10_sheet_8 : decode cX10_sheet 8 = .ok (.invokestatic 267, 3) := by decide +kernel
theorem dX10_sheet_11 : decode cX10_sheet 11 = .ok (.ifCond .ne 9, 3) := by decide +kernel
theorem dX10_sheet_14 : decode cX10_sheet 14 = .ok (.iload_n 3, 1) := by decide +kernel
theorem dX10_sheet_15 : decode cX10_sheet 15 = .ok (.bipush 60, 2) := by decide +kernel
theorem dX10_sheet_17 : decode cX10_sheet 17 = .ok (.if_icmp .le 6, 3) := by decide +kernel
theorem dX10_sheet_20 : decode cX10_sheet 20 = .ok (.bipush (-2), 2) := by decide +kernel
theorem dX10_sheet_22 : decode cX10_sheet 22 = .ok (.ireturn, 1) := by decide +kernel
theorem dX10_sheet_23 : decode cX10_sheet 23 = .ok (.iload_n 3, 1) := by decide +kernel
theorem dX10_sheet_24 : decode cX10_sheet 24 = .ok (.ifCond .ge 12, 3) := by decide +kernel
theorem dX10_sheet_27 : decode cX10_sheet 27 = .ok (.aload_n 0, 1) := by decide +kernel
theorem dX10_sheet_28 : decode cX10_sheet 28 = .ok (.getfield 74, 3) := by decide +kernel
theorem dX10_sheet_31 : decode cX10_sheet 31 = .ok (.iconst 5, 1) := by decide +kernel
theorem dX10_sheet_32 : decode cX10_sheet 32 = .ok (.invokevirtual 107, 3) := by decide +kernel
theorem dX10_sheet_35 : decode cX10_sheet 35 = .ok (.ireturn, 1) := by decide +kernel
theorem dX10_sheet_36 : decode cX10_sheet 36 = .ok (.aload_n 0, 1) := by decide +kernel
theorem dX10_sheet_37 : decode cX10_sheet 37 = .ok (.getfield 74, 3) := by decide +kernel
theorem dX10_sheet_40 : decode cX10_sheet 40 = .ok (.iload_n 1, 1) := by decide +kernel
theorem dX10_sheet_41 : decode cX10_sheet 41 = .ok (.iload_n 2, 1) := by decide +kernel
theorem dX10_sheet_42 : decode cX10_sheet 42 = .ok (.iload_n 3, 1) := by decide +kernel
theorem dX10_sheet_43 : decode cX10_sheet 43 = .ok (.invokevirtual 270, 3) := by decide +kernel
theorem dX10_sheet_46 : decode cX10_sheet 46 = .ok (.ireturn, 1) := by decide +kernel
def wX10_sheet  (x1 : Int32) (x2 : Int32) (x3 : Int32) (σ : Sto) (post : Int32 → Sto → Prop) : Prop := wX10_noSheet  x1 σ (fun (r1 : Bool) (s1 : Sto) => ((r1 = true) → (post ((-2 : Int32)) s1)) ∧ ((r1 = false) → (wX10_noType  x2 s1 (fun (r8 : Bool) (s8 : Sto) => ((r8 = true) → (post ((-2 : Int32)) s8)) ∧ ((r8 = false) → (((x3 ≤ ((60 : Int32))) → (((0 ≤ x3) → (wX9_make  x1 x2 x3 s8 (fun (r43 : Int32) (s43 : Sto) => post r43 s43))) ∧ ((¬ (0 ≤ x3)) → (wX9_find  ((5 : Int32)) s8 (fun (r32 : Int32) (s32 : Sto) => post r32 s32))))) ∧ ((¬ (x3 ≤ ((60 : Int32)))) → (post ((-2 : Int32)) s8))))))))
set_option maxRecDepth 100000 in
set_option maxHeartbeats 4000000 in
theorem vX10_sheet (E : Ev)  (x1 : Int32) (x2 : Int32) (x3 : Int32) (σ : Sto) (post : Int32 → Sto → Prop)  (h : wX10_sheet  x1 x2 x3 σ post) : V E 2 mX10_sheet (pI post) 0 [(0, .ref 0), (1, .int x1), (2, .int x2), (3, .int x3)] [] σ := by
  unfold wX10_sheet at h
  refine V_iload_n (pc := 0) 1 dX10_sheet_0 rfl ?_
  refine V_callS (pc := 1) (M' := mX10_noSheet) dX10_sheet_1 ml_X10_101 ks_X10_noSheet ko_X10_noSheet (by decide) rfl (Nat.le_of_ble_eq_true rfl) (Nat.le_of_ble_eq_true rfl) (vX10_noSheet E  x1 σ _  h) (kB (fun r1 s1 h => ?_))
  refine V_ifnz (pc := 4) (tgt := 20) dX10_sheet_4 (by decide) (fun hc => ?_) (fun hc => ?_)
  · replace h := h.1 hc
    refine V_bipush (pc := 20) (v := -2) dX10_sheet_20 (by decide) ?_
    exact V_iret dX10_sheet_22 rfl h
  · replace h := h.2 hc
    refine V_iload_n (pc := 7) 2 dX10_sheet_7 rfl ?_
    refine V_callS (pc := 8) (M' := mX10_noType) dX10_sheet_8 ml_X10_267 ks_X10_noType ko_X10_noType (by decide) rfl (Nat.le_of_ble_eq_true rfl) (Nat.le_of_ble_eq_true rfl) (vX10_noType E  x2 s1 _  h) (kB (fun r8 s8 h => ?_))
    refine V_ifnz (pc := 11) (tgt := 20) dX10_sheet_11 (by decide) (fun hc => ?_) (fun hc => ?_)
    · replace h := h.1 hc
      refine V_bipush (pc := 20) (v := -2) dX10_sheet_20 (by decide) ?_
      exact V_iret dX10_sheet_22 rfl h
    · replace h := h.2 hc
      refine V_iload_n (pc := 14) 3 dX10_sheet_14 rfl ?_
      refine V_bipush (pc := 15) (v := 60) dX10_sheet_15 (by decide) ?_
      refine V_icmp_le (pc := 17) (tgt := 23) dX10_sheet_17 (by decide) (fun hc => ?_) (fun hc => ?_)
      · replace h := h.1 hc
        refine V_iload_n (pc := 23) 3 dX10_sheet_23 rfl ?_
        refine V_if_ge (pc := 24) (tgt := 36) dX10_sheet_24 (by decide) (fun hc => ?_) (fun hc => ?_)
        · replace h := h.1 hc
          refine V_aload_n (pc := 36) 0 dX10_sheet_36 rfl ?_
          refine V_getR (pc := 37) dX10_sheet_37 fl_X10_74 sh_0 rfl ?_
          refine V_iload_n (pc := 40) 1 dX10_sheet_40 rfl ?_
          refine V_iload_n (pc := 41) 2 dX10_sheet_41 rfl ?_
          refine V_iload_n (pc := 42) 3 dX10_sheet_42 rfl ?_
          refine V_callV (pc := 43) (M' := mX9_make) dX10_sheet_43 ml_X10_270 kv_X9_make ko_X9_make sh_9 (by decide) (by decide) rfl rfl (Nat.le_of_ble_eq_true rfl) (Nat.le_of_ble_eq_true rfl) (vX9_make E  x1 x2 x3 s8 _  h) (kI (fun r43 s43 h => ?_))
          exact V_iret dX10_sheet_46 rfl h
        · replace h := h.2 hc
          refine V_aload_n (pc := 27) 0 dX10_sheet_27 rfl ?_
          refine V_getR (pc := 28) dX10_sheet_28 fl_X10_74 sh_0 rfl ?_
          refine V_iconst (pc := 31) (v := 5) dX10_sheet_31 (by decide) ?_
          refine V_callV (pc := 32) (M' := mX9_find) dX10_sheet_32 ml_X10_107 kv_X9_find ko_X9_find sh_9 (by decide) (by decide) rfl rfl (Nat.le_of_ble_eq_true rfl) (Nat.le_of_ble_eq_true rfl) (vX9_find E  ((5 : Int32)) s8 _  h) (kI (fun r32 s32 h => ?_))
          exact V_iret dX10_sheet_35 rfl h
      · replace h := h.2 hc
        refine V_bipush (pc := 20) (v := -2) dX10_sheet_20 (by decide) ?_
        exact V_iret dX10_sheet_22 rfl h
theorem dX10_lose_0 : decode cX10_lose 0 = .ok (.iload_n 1, 1) := by decide +kernel
theorem dX10_lose_1 : decode cX10_lose 1 = .ok (.invokestatic 101, 3) := by decide +kernel
theorem dX10_lose_4 : decode cX10_lose 4 = .ok (.ifCond .eq 6, 3) := by decide +kernel
theorem dX10_lose_7 : decode cX10_lose 7 = .ok (.bipush (-2), 2) := by decide +kernel
theorem dX10_lose_9 : decode cX10_lose 9 = .ok (.ireturn, 1) := by decide +kernel
theorem dX10_lose_10 : decode cX10_lose 10 = .ok (.aload_n 0, 1) := by decide +kernel
theorem dX10_lose_11 : decode cX10_lose 11 = .ok (.getfield 74, 3) := by decide +kernel
theorem dX10_lose_14 : decode cX10_lose 14 = .ok (.iload_n 1, 1) := by decide +kernel
theorem dX10_lose_15 : decode cX10_lose 15 = .ok (.invokevirtual 104, 3) := by decide +kernel
theorem dX10_lose_18 : decode cX10_lose 18 = .ok (.ifCond .eq 12, 3) := by decide +kernel
theorem dX10_lose_21 : decode cX10_lose 21 = .ok (.aload_n 0, 1) := by decide +kernel
theorem dX10_lose_22 : decode cX10_lose 22 = .ok (.getfield 74, 3) := by decide +kernel
theorem dX10_lose_25 : decode cX10_lose 25 = .ok (.iconst 1, 1) := by decide +kernel
theorem dX10_lose_26 : decode cX10_lose 26 = .ok (.invokevirtual 107, 3) := by decide +kernel
theorem dX10_lose_29 : decode cX10_lose 29 = .ok (.ireturn, 1) := by decide +kernel
theorem dX10_lose_30 : decode cX10_lose 30 = .ok (.aload_n 0, 1) := by decide +kernel
theorem dX10_lose_31 : decode cX10_lose 31 = .ok (.getfield 74, 3) := by decide +kernel
theorem dX10_lose_34 : decode cX10_lose 34 = .ok (.getfield 274, 3) := by decide +kernel
theorem dX10_lose_37 : decode cX10_lose 37 = .ok (.iload_n 1, 1) := by decide +kernel
theorem dX10_lose_38 : decode cX10_lose 38 = .ok (.iconst (-1), 1) := by decide +kernel
theorem dX10_lose_39 : decode cX10_lose 39 = .ok (.iastore, 1) := by decide +kernel
theorem dX10_lose_40 : decode cX10_lose 40 = .ok (.aload_n 0, 1) := by decide +kernel
theorem dX10_lose_41 : decode cX10_lose 41 = .ok (.getfield 74, 3) := by decide +kernel
theorem dX10_lose_44 : decode cX10_lose 44 = .ok (.getfield 114, 3) := by decide +kernel
theorem dX10_lose_47 : decode cX10_lose 47 = .ok (.iload_n 1, 1) := by decide +kernel
theorem dX10_lose_48 : decode cX10_lose 48 = .ok (.iaload, 1) := by decide +kernel
theorem dX10_lose_49 : decode cX10_lose 49 = .ok (.ireturn, 1) := by decide +kernel
def wX10_lose  (x1 : Int32) (σ : Sto) (post : Int32 → Sto → Prop) : Prop := wX10_noSheet  x1 σ (fun (r1 : Bool) (s1 : Sto) => ((r1 = false) → (wX9_isLost  x1 s1 (fun (r15 : Bool) (s15 : Sto) => ((r15 = false) → (vp_in x1 4 ∧ (vp_in x1 4 ∧ (post (s15.1 66 x1.toNatClampNeg) (wI s15 65 x1.toNatClampNeg ((-1 : Int32))))))) ∧ ((r15 = true) → (wX9_find  ((1 : Int32)) s15 (fun (r26 : Int32) (s26 : Sto) => post r26 s26)))))) ∧ ((r1 = true) → (post ((-2 : Int32)) s1)))
set_option maxRecDepth 100000 in
set_option maxHeartbeats 4000000 in
theorem vX10_lose (E : Ev)  (x1 : Int32) (σ : Sto) (post : Int32 → Sto → Prop)  (h : wX10_lose  x1 σ post) : V E 1 mX10_lose (pI post) 0 [(0, .ref 0), (1, .int x1)] [] σ := by
  unfold wX10_lose at h
  refine V_iload_n (pc := 0) 1 dX10_lose_0 rfl ?_
  refine V_callS (pc := 1) (M' := mX10_noSheet) dX10_lose_1 ml_X10_101 ks_X10_noSheet ko_X10_noSheet (by decide) rfl (Nat.le_of_ble_eq_true rfl) (Nat.le_of_ble_eq_true rfl) (vX10_noSheet E  x1 σ _  h) (kB (fun r1 s1 h => ?_))
  refine V_ifz (pc := 4) (tgt := 10) dX10_lose_4 (by decide) (fun hc => ?_) (fun hc => ?_)
  · replace h := h.1 hc
    refine V_aload_n (pc := 10) 0 dX10_lose_10 rfl ?_
    refine V_getR (pc := 11) dX10_lose_11 fl_X10_74 sh_0 rfl ?_
    refine V_iload_n (pc := 14) 1 dX10_lose_14 rfl ?_
    refine V_callV (pc := 15) (M' := mX9_isLost) dX10_lose_15 ml_X10_104 kv_X9_isLost ko_X9_isLost sh_9 (by decide) (by decide) rfl rfl (Nat.le_of_ble_eq_true rfl) (Nat.le_of_ble_eq_true rfl) (vX9_isLost E  x1 s1 _  h) (kB (fun r15 s15 h => ?_))
    refine V_ifz (pc := 18) (tgt := 30) dX10_lose_18 (by decide) (fun hc => ?_) (fun hc => ?_)
    · replace h := h.1 hc
      refine V_aload_n (pc := 30) 0 dX10_lose_30 rfl ?_
      refine V_getR (pc := 31) dX10_lose_31 fl_X10_74 sh_0 rfl ?_
      refine V_getR (pc := 34) dX10_lose_34 fl_X10_274 sh_9 rfl ?_
      refine V_iload_n (pc := 37) 1 dX10_lose_37 rfl ?_
      refine V_iconst (pc := 38) (v := -1) dX10_lose_38 (by decide) ?_
      obtain ⟨i39, h⟩ := h
      refine V_iast (pc := 39) dX10_lose_39 sh_65 i39 ?_
      refine V_aload_n (pc := 40) 0 dX10_lose_40 rfl ?_
      refine V_getR (pc := 41) dX10_lose_41 fl_X10_74 sh_0 rfl ?_
      refine V_getR (pc := 44) dX10_lose_44 fl_X10_114 sh_9 rfl ?_
      refine V_iload_n (pc := 47) 1 dX10_lose_47 rfl ?_
      obtain ⟨i48, h⟩ := h
      refine V_iald (pc := 48) dX10_lose_48 sh_66 i48 ?_
      exact V_iret dX10_lose_49 rfl h
    · replace h := h.2 hc
      refine V_aload_n (pc := 21) 0 dX10_lose_21 rfl ?_
      refine V_getR (pc := 22) dX10_lose_22 fl_X10_74 sh_0 rfl ?_
      refine V_iconst (pc := 25) (v := 1) dX10_lose_25 (by decide) ?_
      refine V_callV (pc := 26) (M' := mX9_find) dX10_lose_26 ml_X10_107 kv_X9_find ko_X9_find sh_9 (by decide) (by decide) rfl rfl (Nat.le_of_ble_eq_true rfl) (Nat.le_of_ble_eq_true rfl) (vX9_find E  ((1 : Int32)) s15 _  h) (kI (fun r26 s26 h => ?_))
      exact V_iret dX10_lose_29 rfl h
  · replace h := h.2 hc
    refine V_bipush (pc := 7) (v := -2) dX10_lose_7 (by decide) ?_
    exact V_iret dX10_lose_9 rfl h
theorem dX10_put_0 : decode cX10_put 0 = .ok (.iload_n 1, 1) := by decide +kernel
theorem dX10_put_1 : decode cX10_put 1 = .ok (.invokestatic 101, 3) := by decide +kernel
theorem dX10_put_4 : decode cX10_put 4 = .ok (.ifCond .ne 10, 3) := by decide +kernel
theorem dX10_put_7 : decode cX10_put 7 = .ok (.iload_n 2, 1) := by decide +kernel
theorem dX10_put_8 : decode cX10_put 8 = .ok (.invokestatic 267, 3) := by decide +kernel
theorem dX10_put_11 : decode cX10_put 11 = .ok (.ifCond .eq 6, 3) := by decide +kernel
theorem dX10_put_14 : decode cX10_put 14 = .ok (.bipush (-2), 2) := by decide +kernel
theorem dX10_put_16 : decode cX10_put 16 = .ok (.ireturn, 1) := by decide +kernel
theorem dX10_put_17 : decode cX10_put 17 = .ok (.aload_n 0, 1) := by decide +kernel
theorem dX10_put_18 : decode cX10_put 18 = .ok (.getfield 74, 3) := by decide +kernel
theorem dX10_put_21 : decode cX10_put 21 = .ok (.iload_n 1, 1) := by decide +kernel
theorem dX10_put_22 : decode cX10_put 22 = .ok (.iload_n 2, 1) := by decide +kernel
theorem dX10_put_23 : decode cX10_put 23 = .ok (.iload_n 3, 1) := by decide +kernel
theorem dX10_put_24 : decode cX10_put 24 = .ok (.invokevirtual 277, 3) := by decide +kernel
theorem dX10_put_27 : decode cX10_put 27 = .ok (.istore 5, 2) := by decide +kernel
theorem dX10_put_29 : decode cX10_put 29 = .ok (.iload 5, 2) := by decide +kernel
theorem dX10_put_31 : decode cX10_put 31 = .ok (.ifCond .eq 13, 3) := by decide +kernel
theorem dX10_put_34 : decode cX10_put 34 = .ok (.aload_n 0, 1) := by decide +kernel
theorem dX10_put_35 : decode cX10_put 35 = .ok (.getfield 74, 3) := by decide +kernel
theorem dX10_put_38 : decode cX10_put 38 = .ok (.iload 5, 2) := by decide +kernel
theorem dX10_put_40 : decode cX10_put 40 = .ok (.invokevirtual 107, 3) := by decide +kernel
theorem dX10_put_43 : decode cX10_put 43 = .ok (.ireturn, 1) := by decide +kernel
theorem dX10_put_44 : decode cX10_put 44 = .ok (.aload_n 0, 1) := by decide +kernel
theorem dX10_put_45 : decode cX10_put 45 = .ok (.getfield 74, 3) := by decide +kernel
theorem dX10_put_48 : decode cX10_put 48 = .ok (.iload_n 1, 1) := by decide +kernel
theorem dX10_put_49 : decode cX10_put 49 = .ok (.iload_n 3, 1) := by decide +kernel
theorem dX10_put_50 : decode cX10_put 50 = .ok (.iload 4, 2) := by decide +kernel
theorem dX10_put_52 : decode cX10_put 52 = .ok (.invokevirtual 280, 3) := by decide +kernel
theorem dX10_put_55 : decode cX10_put 55 = .ok (.iconst 1, 1) := by decide +kernel
theorem dX10_put_56 : decode cX10_put 56 = .ok (.ireturn, 1) := by decide +kernel
def wX10_put  (x1 : Int32) (x2 : Int32) (x3 : Int32) (x4 : Int32) (σ : Sto) (post : Int32 → Sto → Prop) : Prop := wX10_noSheet  x1 σ (fun (r1 : Bool) (s1 : Sto) => ((r1 = true) → (post ((-2 : Int32)) s1)) ∧ ((r1 = false) → (wX10_noType  x2 s1 (fun (r8 : Bool) (s8 : Sto) => ((r8 = false) → (wX9_against  x1 x2 x3 s8 (fun (r24 : Int32) (s24 : Sto) => ((r24 = 0) → (wX9_store  x1 x3 x4 s24 (fun (s52 : Sto) => post ((1 : Int32)) s52))) ∧ ((¬ (r24 = 0)) → (wX9_find  r24 s24 (fun (r40 : Int32) (s40 : Sto) => post r40 s40)))))) ∧ ((r8 = true) → (post ((-2 : Int32)) s8))))))
set_option maxRecDepth 100000 in
set_option maxHeartbeats 4000000 in
theorem vX10_put (E : Ev)  (x1 : Int32) (x2 : Int32) (x3 : Int32) (x4 : Int32) (σ : Sto) (post : Int32 → Sto → Prop)  (h : wX10_put  x1 x2 x3 x4 σ post) : V E 2 mX10_put (pI post) 0 [(0, .ref 0), (1, .int x1), (2, .int x2), (3, .int x3), (4, .int x4)] [] σ := by
  unfold wX10_put at h
  refine V_iload_n (pc := 0) 1 dX10_put_0 rfl ?_
  refine V_callS (pc := 1) (M' := mX10_noSheet) dX10_put_1 ml_X10_101 ks_X10_noSheet ko_X10_noSheet (by decide) rfl (Nat.le_of_ble_eq_true rfl) (Nat.le_of_ble_eq_true rfl) (vX10_noSheet E  x1 σ _  h) (kB (fun r1 s1 h => ?_))
  refine V_ifnz (pc := 4) (tgt := 14) dX10_put_4 (by decide) (fun hc => ?_) (fun hc => ?_)
  · replace h := h.1 hc
    refine V_bipush (pc := 14) (v := -2) dX10_put_14 (by decide) ?_
    exact V_iret dX10_put_16 rfl h
  · replace h := h.2 hc
    refine V_iload_n (pc := 7) 2 dX10_put_7 rfl ?_
    refine V_callS (pc := 8) (M' := mX10_noType) dX10_put_8 ml_X10_267 ks_X10_noType ko_X10_noType (by decide) rfl (Nat.le_of_ble_eq_true rfl) (Nat.le_of_ble_eq_true rfl) (vX10_noType E  x2 s1 _  h) (kB (fun r8 s8 h => ?_))
    refine V_ifz (pc := 11) (tgt := 17) dX10_put_11 (by decide) (fun hc => ?_) (fun hc => ?_)
    · replace h := h.1 hc
      refine V_aload_n (pc := 17) 0 dX10_put_17 rfl ?_
      refine V_getR (pc := 18) dX10_put_18 fl_X10_74 sh_0 rfl ?_
      refine V_iload_n (pc := 21) 1 dX10_put_21 rfl ?_
      refine V_iload_n (pc := 22) 2 dX10_put_22 rfl ?_
      refine V_iload_n (pc := 23) 3 dX10_put_23 rfl ?_
      refine V_callV (pc := 24) (M' := mX9_against) dX10_put_24 ml_X10_277 kv_X9_against ko_X9_against sh_9 (by decide) (by decide) rfl rfl (Nat.le_of_ble_eq_true rfl) (Nat.le_of_ble_eq_true rfl) (vX9_against E  x1 x2 x3 s8 _  h) (kI (fun r24 s24 h => ?_))
      refine V_istore (pc := 27) dX10_put_27 (by decide) ?_
      refine V_iload (pc := 29) 0 dX10_put_29 rfl ?_
      refine V_if_eq (pc := 31) (tgt := 44) dX10_put_31 (by decide) (fun hc => ?_) (fun hc => ?_)
      · replace h := h.1 hc
        refine V_aload_n (pc := 44) 1 dX10_put_44 rfl ?_
        refine V_getR (pc := 45) dX10_put_45 fl_X10_74 sh_0 rfl ?_
        refine V_iload_n (pc := 48) 2 dX10_put_48 rfl ?_
        refine V_iload_n (pc := 49) 4 dX10_put_49 rfl ?_
        refine V_iload (pc := 50) 5 dX10_put_50 rfl ?_
        refine V_callV (pc := 52) (M' := mX9_store) dX10_put_52 ml_X10_280 kv_X9_store ko_X9_store sh_9 (by decide) (by decide) rfl rfl (Nat.le_of_ble_eq_true rfl) (Nat.le_of_ble_eq_true rfl) (vX9_store E  x1 x3 x4 s24 _  h) (kV (fun s52 h => ?_))
        refine V_iconst (pc := 55) (v := 1) dX10_put_55 (by decide) ?_
        exact V_iret dX10_put_56 rfl h
      · replace h := h.2 hc
        refine V_aload_n (pc := 34) 1 dX10_put_34 rfl ?_
        refine V_getR (pc := 35) dX10_put_35 fl_X10_74 sh_0 rfl ?_
        refine V_iload (pc := 38) 0 dX10_put_38 rfl ?_
        refine V_callV (pc := 40) (M' := mX9_find) dX10_put_40 ml_X10_107 kv_X9_find ko_X9_find sh_9 (by decide) (by decide) rfl rfl (Nat.le_of_ble_eq_true rfl) (Nat.le_of_ble_eq_true rfl) (vX9_find E  r24 s24 _  h) (kI (fun r40 s40 h => ?_))
        exact V_iret dX10_put_43 rfl h
    · replace h := h.2 hc
      refine V_bipush (pc := 14) (v := -2) dX10_put_14 (by decide) ?_
      exact V_iret dX10_put_16 rfl h
theorem dX10_get_0 : decode cX10_get 0 = .ok (.iload_n 1, 1) := by decide +kernel
theorem dX10_get_1 : decode cX10_get 1 = .ok (.invokestatic 101, 3) := by decide +kernel
theorem dX10_get_4 : decode cX10_get 4 = .ok (.ifCond .ne 10, 3) := by decide +kernel
theorem dX10_get_7 : decode cX10_get 7 = .ok (.iload_n 2, 1) := by decide +kernel
theorem dX10_get_8 : decode cX10_get 8 = .ok (.invokestatic 267, 3) := by decide +kernel
theorem dX10_get_11 : decode cX10_get 11 = .ok (.ifCond .eq 6, 3) := by decide +kernel
theorem dX10_get_14 : decode cX10_get 14 = .ok (.ldc 155, 2) := by decide +kernel
theorem dX10_get_16 : decode cX10_get 16 = .ok (.ireturn, 1) := by decide +kernel
theorem dX10_get_17 : decode cX10_get 17 = .ok (.aload_n 0, 1) := by decide +kernel
theorem dX10_get_18 : decode cX10_get 18 = .ok (.getfield 74, 3) := by decide +kernel
theorem dX10_get_21 : decode cX10_get 21 = .ok (.iload_n 1, 1) := by decide +kernel
theorem dX10_get_22 : decode cX10_get 22 = .ok (.iload_n 2, 1) := by decide +kernel
theorem dX10_get_23 : decode cX10_get 23 = .ok (.iload_n 3, 1) := by decide +kernel
theorem dX10_get_24 : decode cX10_get 24 = .ok (.invokevirtual 277, 3) := by decide +kernel
theorem dX10_get_27 : decode cX10_get 27 = .ok (.istore 4, 2) := by decide +kernel
theorem dX10_get_29 : decode cX10_get 29 = .ok (.iload 4, 2) := by decide +kernel
theorem dX10_get_31 : decode cX10_get 31 = .ok (.ifCond .eq 16, 3) := by decide +kernel
theorem dX10_get_34 : decode cX10_get 34 = .ok (.aload_n 0, 1) := by decide +kernel
theorem dX10_get_35 : decode cX10_get 35 = .ok (.getfield 74, 3) := by decide +kernel
theorem dX10_get_38 : decode cX10_get 38 = .ok (.iload 4, 2) := by decide +kernel
theorem dX10_get_40 : decode cX10_get 40 = .ok (.invokevirtual 107, 3) := by decide +kernel
theorem dX10_get_43 : decode cX10_get 43 = .ok (.pop, 1) := by decide +kernel
theorem dX10_get_44 : decode cX10_get 44 = .ok (.ldc 155, 2) := by decide +kernel
theorem dX10_get_46 : decode cX10_get 46 = .ok (.ireturn, 1) := by decide +kernel
theorem dX10_get_47 : decode cX10_get 47 = .ok (.aload_n 0, 1) := by decide +kernel
theorem dX10_get_48 : decode cX10_get 48 = .ok (.getfield 74, 3) := by decide +kernel
theorem dX10_get_51 : decode cX10_get 51 = .ok (.getfield 110, 3) := by decide +kernel
theorem dX10_get_54 : decode cX10_get 54 = .ok (.iload_n 1, 1) := by decide +kernel
theorem dX10_get_55 : decode cX10_get 55 = .ok (.aaload, 1) := by decide +kernel
theorem dX10_get_56 : decode cX10_get 56 = .ok (.iload_n 3, 1) := by decide +kernel
theorem dX10_get_57 : decode cX10_get 57 = .ok (.iaload, 1) := by decide +kernel
theorem dX10_get_58 : decode cX10_get 58 = .ok (.ireturn, 1) := by decide +kernel
def wX10_get  (x1 : Int32) (x2 : Int32) (x3 : Int32) (σ : Sto) (post : Int32 → Sto → Prop) : Prop := wX10_noSheet  x1 σ (fun (r1 : Bool) (s1 : Sto) => ((r1 = true) → (post ((-2147483648 : Int32)) s1)) ∧ ((r1 = false) → (wX10_noType  x2 s1 (fun (r8 : Bool) (s8 : Sto) => ((r8 = false) → (wX9_against  x1 x2 x3 s8 (fun (r24 : Int32) (s24 : Sto) => ((r24 = 0) → (vp_in x1 4 ∧ (vp_in x3 60 ∧ (post (s24.1 (61 + x1.toNatClampNeg) x3.toNatClampNeg) s24)))) ∧ ((¬ (r24 = 0)) → (wX9_find  r24 s24 (fun (r40 : Int32) (s40 : Sto) => post ((-2147483648 : Int32)) s40)))))) ∧ ((r8 = true) → (post ((-2147483648 : Int32)) s8))))))
set_option maxRecDepth 100000 in
set_option maxHeartbeats 4000000 in
theorem vX10_get (E : Ev)  (x1 : Int32) (x2 : Int32) (x3 : Int32) (σ : Sto) (post : Int32 → Sto → Prop)  (h : wX10_get  x1 x2 x3 σ post) : V E 2 mX10_get (pI post) 0 [(0, .ref 0), (1, .int x1), (2, .int x2), (3, .int x3)] [] σ := by
  unfold wX10_get at h
  refine V_iload_n (pc := 0) 1 dX10_get_0 rfl ?_
  refine V_callS (pc := 1) (M' := mX10_noSheet) dX10_get_1 ml_X10_101 ks_X10_noSheet ko_X10_noSheet (by decide) rfl (Nat.le_of_ble_eq_true rfl) (Nat.le_of_ble_eq_true rfl) (vX10_noSheet E  x1 σ _  h) (kB (fun r1 s1 h => ?_))
  refine V_ifnz (pc := 4) (tgt := 14) dX10_get_4 (by decide) (fun hc => ?_) (fun hc => ?_)
  · replace h := h.1 hc
    refine V_ldc (pc := 14) dX10_get_14 ci_X10_155 ?_
    exact V_iret dX10_get_16 rfl h
  · replace h := h.2 hc
    refine V_iload_n (pc := 7) 2 dX10_get_7 rfl ?_
    refine V_callS (pc := 8) (M' := mX10_noType) dX10_get_8 ml_X10_267 ks_X10_noType ko_X10_noType (by decide) rfl (Nat.le_of_ble_eq_true rfl) (Nat.le_of_ble_eq_true rfl) (vX10_noType E  x2 s1 _  h) (kB (fun r8 s8 h => ?_))
    refine V_ifz (pc := 11) (tgt := 17) dX10_get_11 (by decide) (fun hc => ?_) (fun hc => ?_)
    · replace h := h.1 hc
      refine V_aload_n (pc := 17) 0 dX10_get_17 rfl ?_
      refine V_getR (pc := 18) dX10_get_18 fl_X10_74 sh_0 rfl ?_
      refine V_iload_n (pc := 21) 1 dX10_get_21 rfl ?_
      refine V_iload_n (pc := 22) 2 dX10_get_22 rfl ?_
      refine V_iload_n (pc := 23) 3 dX10_get_23 rfl ?_
      refine V_callV (pc := 24) (M' := mX9_against) dX10_get_24 ml_X10_277 kv_X9_against ko_X9_against sh_9 (by decide) (by decide) rfl rfl (Nat.le_of_ble_eq_true rfl) (Nat.le_of_ble_eq_true rfl) (vX9_against E  x1 x2 x3 s8 _  h) (kI (fun r24 s24 h => ?_))
      refine V_istore (pc := 27) dX10_get_27 (by decide) ?_
      refine V_iload (pc := 29) 0 dX10_get_29 rfl ?_
      refine V_if_eq (pc := 31) (tgt := 47) dX10_get_31 (by decide) (fun hc => ?_) (fun hc => ?_)
      · replace h := h.1 hc
        refine V_aload_n (pc := 47) 1 dX10_get_47 rfl ?_
        refine V_getR (pc := 48) dX10_get_48 fl_X10_74 sh_0 rfl ?_
        refine V_getR (pc := 51) dX10_get_51 fl_X10_110 sh_9 rfl ?_
        refine V_iload_n (pc := 54) 2 dX10_get_54 rfl ?_
        obtain ⟨i55, h⟩ := h
        refine V_aald (pc := 55) dX10_get_55 sh_60 i55 ?_
        refine V_iload_n (pc := 56) 4 dX10_get_56 rfl ?_
        obtain ⟨i57, h⟩ := h
        refine V_iald (pc := 57) dX10_get_57 (sr_61 (vp_lt i55)) i57 ?_
        exact V_iret dX10_get_58 rfl h
      · replace h := h.2 hc
        refine V_aload_n (pc := 34) 1 dX10_get_34 rfl ?_
        refine V_getR (pc := 35) dX10_get_35 fl_X10_74 sh_0 rfl ?_
        refine V_iload (pc := 38) 0 dX10_get_38 rfl ?_
        refine V_callV (pc := 40) (M' := mX9_find) dX10_get_40 ml_X10_107 kv_X9_find ko_X9_find sh_9 (by decide) (by decide) rfl rfl (Nat.le_of_ble_eq_true rfl) (Nat.le_of_ble_eq_true rfl) (vX9_find E  r24 s24 _  h) (kI (fun r40 s40 h => ?_))
        refine V_pop (pc := 43) dX10_get_43 rfl ?_
        refine V_ldc (pc := 44) dX10_get_44 ci_X10_155 ?_
        exact V_iret dX10_get_46 rfl h
    · replace h := h.2 hc
      refine V_ldc (pc := 14) dX10_get_14 ci_X10_155 ?_
      exact V_iret dX10_get_16 rfl h
theorem dX10_copy_0 : decode cX10_copy 0 = .ok (.iload_n 1, 1) := by decide +kernel
theorem dX10_copy_1 : decode cX10_copy 1 = .ok (.invokestatic 101, 3) := by decide +kernel
theorem dX10_copy_4 : decode cX10_copy 4 = .ok (.ifCond .ne 10, 3) := by decide +kernel
theorem dX10_copy_7 : decode cX10_copy 7 = .ok (.iload_n 3, 1) := by decide +kernel
theorem dX10_copy_8 : decode cX10_copy 8 = .ok (.invokestatic 101, 3) := by decide +kernel
theorem dX10_copy_11 : decode cX10_copy 11 = .ok (.ifCond .eq 6, 3) := by decide +kernel
theorem dX10_copy_14 : decode cX10_copy 14 = .ok (.bipush (-2), 2) := by decide +kernel
theorem dX10_copy_16 : decode cX10_copy 16 = .ok (.ireturn, 1) := by decide +kernel
theorem dX10_copy_17 : decode cX10_copy 17 = .ok (.aload_n 0, 1) := by decide +kernel
theorem dX10_copy_18 : decode cX10_copy 18 = .ok (.getfield 74, 3) := by decide +kernel
theorem dX10_copy_21 : decode cX10_copy 21 = .ok (.iload_n 1, 1) := by decide +kernel
theorem dX10_copy_22 : decode cX10_copy 22 = .ok (.invokevirtual 104, 3) := by decide +kernel
theorem dX10_copy_25 : decode cX10_copy 25 = .ok (.ifCond .ne 14, 3) := by decide +kernel
theorem dX10_copy_28 : decode cX10_copy 28 = .ok (.aload_n 0, 1) := by decide +kernel
theorem dX10_copy_29 : decode cX10_copy 29 = .ok (.getfield 74, 3) := by decide +kernel
theorem dX10_copy_32 : decode cX10_copy 32 = .ok (.iload_n 3, 1) := by decide +kernel
theorem dX10_copy_33 : decode cX10_copy 33 = .ok (.invokevirtual 104, 3) := by decide +kernel
theorem dX10_copy_36 : decode cX10_copy 36 = .ok (.ifCond .eq 12, 3) := by decide +kernel
theorem dX10_copy_39 : decode cX10_copy 39 = .ok (.aload_n 0, 1) := by decide +kernel
theorem dX10_copy_40 : decode cX10_copy 40 = .ok (.getfield 74, 3) := by decide +kernel
theorem dX10_copy_43 : decode cX10_copy 43 = .ok (.iconst 1, 1) := by decide +kernel
theorem dX10_copy_44 : decode cX10_copy 44 = .ok (.invokevirtual 107, 3) := by decide +kernel
theorem dX10_copy_47 : decode cX10_copy 47 = .ok (.ireturn, 1) := by decide +kernel
theorem dX10_copy_48 : decode cX10_copy 48 = .ok (.aload_n 0, 1) := by decide +kernel
theorem dX10_copy_49 : decode cX10_copy 49 = .ok (.getfield 74, 3) := by decide +kernel
theorem dX10_copy_52 : decode cX10_copy 52 = .ok (.getfield 274, 3) := by decide +kernel
theorem dX10_copy_55 : decode cX10_copy 55 = .ok (.iload_n 1, 1) := by decide +kernel
theorem dX10_copy_56 : decode cX10_copy 56 = .ok (.iaload, 1) := by decide +kernel
theorem dX10_copy_57 : decode cX10_copy 57 = .ok (.aload_n 0, 1) := by decide +kernel
theorem dX10_copy_58 : decode cX10_copy 58 = .ok (.getfield 74, 3) := by decide +kernel
theorem dX10_copy_61 : decode cX10_copy 61 = .ok (.getfield 274, 3) := by decide +kernel
theorem dX10_copy_64 : decode cX10_copy 64 = .ok (.iload_n 3, 1) := by decide +kernel
theorem dX10_copy_65 : decode cX10_copy 65 = .ok (.iaload, 1) := by decide +kernel
theorem dX10_copy_66 : decode cX10_copy 66 = .ok (.if_icmp .eq 12, 3) := by decide +kernel
theorem dX10_copy_69 : decode cX10_copy 69 = .ok (.aload_n 0, 1) := by decide +kernel
theorem dX10_copy_70 : decode cX10_copy 70 = .ok (.getfield 74, 3) := by decide +kernel
theorem dX10_copy_73 : decode cX10_copy 73 = .ok (.iconst 4, 1) := by decide +kernel
theorem dX10_copy_74 : decode cX10_copy 74 = .ok (.invokevirtual 107, 3) := by decide +kernel
theorem dX10_copy_77 : decode cX10_copy 77 = .ok (.ireturn, 1) := by decide +kernel
theorem dX10_copy_78 : decode cX10_copy 78 = .ok (.aload_n 0, 1) := by decide +kernel
theorem dX10_copy_79 : decode cX10_copy 79 = .ok (.getfield 74, 3) := by decide +kernel
theorem dX10_copy_82 : decode cX10_copy 82 = .ok (.iload_n 1, 1) := by decide +kernel
theorem dX10_copy_83 : decode cX10_copy 83 = .ok (.iload_n 2, 1) := by decide +kernel
theorem dX10_copy_84 : decode cX10_copy 84 = .ok (.iload 5, 2) := by decide +kernel
theorem dX10_copy_86 : decode cX10_copy 86 = .ok (.invokevirtual 284, 3) := by decide +kernel
theorem dX10_copy_89 : decode cX10_copy 89 = .ok (.ifCond .eq 18, 3) := by decide +kernel
theorem dX10_copy_92 : decode cX10_copy 92 = .ok (.aload_n 0, 1) := by decide +kernel
theorem dX10_copy_93 : decode cX10_copy 93 = .ok (.getfield 74, 3) := by decide +kernel
theorem dX10_copy_96 : decode cX10_copy 96 = .ok (.iload_n 3, 1) := by decide +kernel
theorem dX10_copy_97 : decode cX10_copy 97 = .ok (.iload 4, 2) := by decide +kernel
theorem dX10_copy_99 : decode cX10_copy 99 = .ok (.iload 5, 2) := by decide +kernel
theorem dX10_copy_101 : decode cX10_copy 101 = .ok (.invokevirtual 284, 3) := by decide +kernel
theorem dX10_copy_104 : decode cX10_copy 104 = .ok (.ifCond .ne 12, 3) := by decide +kernel
theorem dX10_copy_107 : decode cX10_copy 107 = .ok (.aload_n 0, 1) := by decide +kernel
theorem dX10_copy_108 : decode cX10_copy 108 = .ok (.getfield 74, 3) := by decide +kernel
theorem dX10_copy_111 : decode cX10_copy 111 = .ok (.iconst 2, 1) := by decide +kernel
theorem dX10_copy_112 : decode cX10_copy 112 = .ok (.invokevirtual 107, 3) := by decide +kernel
theorem dX10_copy_115 : decode cX10_copy 115 = .ok (.ireturn, 1) := by decide +kernel
theorem dX10_copy_116 : decode cX10_copy 116 = .ok (.aload_n 0, 1) := by decide +kernel
theorem dX10_copy_117 : decode cX10_copy 117 = .ok (.getfield 74, 3) := by decide +kernel
theorem dX10_copy_120 : decode cX10_copy 120 = .ok (.getfield 110, 3) := by decide +kernel
theorem dX10_copy_123 : decode cX10_copy 123 = .ok (.iload_n 1, 1) := by decide +kernel
theorem dX10_copy_124 : decode cX10_copy 124 = .ok (.aaload, 1) := by decide +kernel
theorem dX10_copy_125 : decode cX10_copy 125 = .ok (.iload_n 2, 1) := by decide +kernel
theorem dX10_copy_126 : decode cX10_copy 126 = .ok (.aload_n 0, 1) := by decide +kernel
theorem dX10_copy_127 : decode cX10_copy 127 = .ok (.getfield 74, 3) := by decide +kernel
theorem dX10_copy_130 : decode cX10_copy 130 = .ok (.getfield 110, 3) := by decide +kernel
theorem dX10_copy_133 : decode cX10_copy 133 = .ok (.iload_n 3, 1) := by decide +kernel
theorem dX10_copy_134 : decode cX10_copy 134 = .ok (.aaload, 1) := by decide +kernel
theorem dX10_copy_135 : decode cX10_copy 135 = .ok (.iload 4, 2) := by decide +kernel
theorem dX10_copy_137 : decode cX10_copy 137 = .ok (.iload 5, 2) := by decide +kernel
theorem dX10_copy_139 : decode cX10_copy 139 = .ok (.invokestatic 285, 3) := by decide +kernel
theorem dX10_copy_142 : decode cX10_copy 142 = .ok (.iconst 1, 1) := by decide +kernel
theorem dX10_copy_143 : decode cX10_copy 143 = .ok (.ireturn, 1) := by decide +kernel
def wX10_copy_39 (post : Int32 → Sto → Prop)    (σ : Sto) : Prop := wX9_find  ((1 : Int32)) σ (fun (r44 : Int32) (s44 : Sto) => post r44 s44)
set_option maxRecDepth 100000 in
set_option maxHeartbeats 4000000 in
theorem vX10_copy_39 (E : Ev) (post : Int32 → Sto → Prop)      (σ : Sto) (h : wX10_copy_39 post    σ) : V E 1 mX10_copy (pI post) 39 [(0, .ref 0)] [] σ := by
  unfold wX10_copy_39 at h
  refine V_aload_n (pc := 39) 0 dX10_copy_39 rfl ?_
  refine V_getR (pc := 40) dX10_copy_40 fl_X10_74 sh_0 rfl ?_
  refine V_iconst (pc := 43) (v := 1) dX10_copy_43 (by decide) ?_
  refine V_callV (pc := 44) (M' := mX9_find) dX10_copy_44 ml_X10_107 kv_X9_find ko_X9_find sh_9 (by decide) (by decide) rfl rfl (Nat.le_of_ble_eq_true rfl) (Nat.le_of_ble_eq_true rfl) (vX9_find E  ((1 : Int32)) σ _  h) (kI (fun r44 s44 h => ?_))
  exact V_iret dX10_copy_47 rfl h
def wX10_copy_107 (post : Int32 → Sto → Prop)    (σ : Sto) : Prop := wX9_find  ((2 : Int32)) σ (fun (r112 : Int32) (s112 : Sto) => post r112 s112)
set_option maxRecDepth 100000 in
set_option maxHeartbeats 4000000 in
theorem vX10_copy_107 (E : Ev) (post : Int32 → Sto → Prop)      (σ : Sto) (h : wX10_copy_107 post    σ) : V E 1 mX10_copy (pI post) 107 [(0, .ref 0)] [] σ := by
  unfold wX10_copy_107 at h
  refine V_aload_n (pc := 107) 0 dX10_copy_107 rfl ?_
  refine V_getR (pc := 108) dX10_copy_108 fl_X10_74 sh_0 rfl ?_
  refine V_iconst (pc := 111) (v := 2) dX10_copy_111 (by decide) ?_
  refine V_callV (pc := 112) (M' := mX9_find) dX10_copy_112 ml_X10_107 kv_X9_find ko_X9_find sh_9 (by decide) (by decide) rfl rfl (Nat.le_of_ble_eq_true rfl) (Nat.le_of_ble_eq_true rfl) (vX9_find E  ((2 : Int32)) σ _  h) (kI (fun r112 s112 h => ?_))
  exact V_iret dX10_copy_115 rfl h
def wX10_copy  (x1 : Int32) (x2 : Int32) (x3 : Int32) (x4 : Int32) (x5 : Int32) (σ : Sto) (post : Int32 → Sto → Prop) : Prop := wX10_noSheet  x1 σ (fun (r1 : Bool) (s1 : Sto) => ((r1 = true) → (post ((-2 : Int32)) s1)) ∧ ((r1 = false) → (wX10_noSheet  x3 s1 (fun (r8 : Bool) (s8 : Sto) => ((r8 = false) → (wX9_isLost  x1 s8 (fun (r22 : Bool) (s22 : Sto) => ((r22 = true) → (wX10_copy_39 post    s22)) ∧ ((r22 = false) → (wX9_isLost  x3 s22 (fun (r33 : Bool) (s33 : Sto) => ((r33 = false) → (vp_in x1 4 ∧ (vp_in x3 4 ∧ ((((s33.1 65 x1.toNatClampNeg) = (s33.1 65 x3.toNatClampNeg)) → (wX9_holds  x1 x2 x5 s33 (fun (r86 : Bool) (s86 : Sto) => ((r86 = false) → (wX10_copy_107 post    s86)) ∧ ((r86 = true) → (wX9_holds  x3 x4 x5 s86 (fun (r101 : Bool) (s101 : Sto) => ((r101 = true) → (vp_in x1 4 ∧ (vp_in x3 4 ∧ (((¬ x2 < 0 ∧ ¬ x4 < 0 ∧ ¬ x5 < 0) ∧ x2.toNatClampNeg + x5.toNatClampNeg ≤ 60 ∧ x4.toNatClampNeg + x5.toNatClampNeg ≤ 60) ∧ (post ((1 : Int32)) (wA s101 (61 + x3.toNatClampNeg) (va_cpy (s101.1 (61 + x1.toNatClampNeg)) (s101.1 (61 + x3.toNatClampNeg)) x2.toNatClampNeg x4.toNatClampNeg x5.toNatClampNeg))))))) ∧ ((r101 = false) → (wX10_copy_107 post    s101)))))))) ∧ ((¬ ((s33.1 65 x1.toNatClampNeg) = (s33.1 65 x3.toNatClampNeg))) → (wX9_find  ((4 : Int32)) s33 (fun (r74 : Int32) (s74 : Sto) => post r74 s74))))))) ∧ ((r33 = true) → (wX10_copy_39 post    s33)))))))) ∧ ((r8 = true) → (post ((-2 : Int32)) s8))))))
set_option maxRecDepth 100000 in
set_option maxHeartbeats 4000000 in
theorem vX10_copy (E : Ev)  (x1 : Int32) (x2 : Int32) (x3 : Int32) (x4 : Int32) (x5 : Int32) (σ : Sto) (post : Int32 → Sto → Prop)  (h : wX10_copy  x1 x2 x3 x4 x5 σ post) : V E 1 mX10_copy (pI post) 0 [(0, .ref 0), (1, .int x1), (2, .int x2), (3, .int x3), (4, .int x4), (5, .int x5)] [] σ := by
  unfold wX10_copy at h
  refine V_iload_n (pc := 0) 1 dX10_copy_0 rfl ?_
  refine V_callS (pc := 1) (M' := mX10_noSheet) dX10_copy_1 ml_X10_101 ks_X10_noSheet ko_X10_noSheet (by decide) rfl (Nat.le_of_ble_eq_true rfl) (Nat.le_of_ble_eq_true rfl) (vX10_noSheet E  x1 σ _  h) (kB (fun r1 s1 h => ?_))
  refine V_ifnz (pc := 4) (tgt := 14) dX10_copy_4 (by decide) (fun hc => ?_) (fun hc => ?_)
  · replace h := h.1 hc
    refine V_bipush (pc := 14) (v := -2) dX10_copy_14 (by decide) ?_
    exact V_iret dX10_copy_16 rfl h
  · replace h := h.2 hc
    refine V_iload_n (pc := 7) 3 dX10_copy_7 rfl ?_
    refine V_callS (pc := 8) (M' := mX10_noSheet) dX10_copy_8 ml_X10_101 ks_X10_noSheet ko_X10_noSheet (by decide) rfl (Nat.le_of_ble_eq_true rfl) (Nat.le_of_ble_eq_true rfl) (vX10_noSheet E  x3 s1 _  h) (kB (fun r8 s8 h => ?_))
    refine V_ifz (pc := 11) (tgt := 17) dX10_copy_11 (by decide) (fun hc => ?_) (fun hc => ?_)
    · replace h := h.1 hc
      refine V_aload_n (pc := 17) 0 dX10_copy_17 rfl ?_
      refine V_getR (pc := 18) dX10_copy_18 fl_X10_74 sh_0 rfl ?_
      refine V_iload_n (pc := 21) 1 dX10_copy_21 rfl ?_
      refine V_callV (pc := 22) (M' := mX9_isLost) dX10_copy_22 ml_X10_104 kv_X9_isLost ko_X9_isLost sh_9 (by decide) (by decide) rfl rfl (Nat.le_of_ble_eq_true rfl) (Nat.le_of_ble_eq_true rfl) (vX9_isLost E  x1 s8 _  h) (kB (fun r22 s22 h => ?_))
      refine V_ifnz (pc := 25) (tgt := 39) dX10_copy_25 (by decide) (fun hc => ?_) (fun hc => ?_)
      · replace h := h.1 hc
        refine V_loc [0] rfl (vX10_copy_39 E post      s22  h)
      · replace h := h.2 hc
        refine V_aload_n (pc := 28) 0 dX10_copy_28 rfl ?_
        refine V_getR (pc := 29) dX10_copy_29 fl_X10_74 sh_0 rfl ?_
        refine V_iload_n (pc := 32) 3 dX10_copy_32 rfl ?_
        refine V_callV (pc := 33) (M' := mX9_isLost) dX10_copy_33 ml_X10_104 kv_X9_isLost ko_X9_isLost sh_9 (by decide) (by decide) rfl rfl (Nat.le_of_ble_eq_true rfl) (Nat.le_of_ble_eq_true rfl) (vX9_isLost E  x3 s22 _  h) (kB (fun r33 s33 h => ?_))
        refine V_ifz (pc := 36) (tgt := 48) dX10_copy_36 (by decide) (fun hc => ?_) (fun hc => ?_)
        · replace h := h.1 hc
          refine V_aload_n (pc := 48) 0 dX10_copy_48 rfl ?_
          refine V_getR (pc := 49) dX10_copy_49 fl_X10_74 sh_0 rfl ?_
          refine V_getR (pc := 52) dX10_copy_52 fl_X10_274 sh_9 rfl ?_
          refine V_iload_n (pc := 55) 1 dX10_copy_55 rfl ?_
          obtain ⟨i56, h⟩ := h
          refine V_iald (pc := 56) dX10_copy_56 sh_65 i56 ?_
          refine V_aload_n (pc := 57) 0 dX10_copy_57 rfl ?_
          refine V_getR (pc := 58) dX10_copy_58 fl_X10_74 sh_0 rfl ?_
          refine V_getR (pc := 61) dX10_copy_61 fl_X10_274 sh_9 rfl ?_
          refine V_iload_n (pc := 64) 3 dX10_copy_64 rfl ?_
          obtain ⟨i65, h⟩ := h
          refine V_iald (pc := 65) dX10_copy_65 sh_65 i65 ?_
          refine V_icmp_eq (pc := 66) (tgt := 78) dX10_copy_66 (by decide) (fun hc => ?_) (fun hc => ?_)
          · replace h := h.1 hc
            refine V_aload_n (pc := 78) 0 dX10_copy_78 rfl ?_
            refine V_getR (pc := 79) dX10_copy_79 fl_X10_74 sh_0 rfl ?_
            refine V_iload_n (pc := 82) 1 dX10_copy_82 rfl ?_
            refine V_iload_n (pc := 83) 2 dX10_copy_83 rfl ?_
            refine V_iload (pc := 84) 5 dX10_copy_84 rfl ?_
            refine V_callV (pc := 86) (M' := mX9_holds) dX10_copy_86 ml_X10_284 kv_X9_holds ko_X9_holds sh_9 (by decide) (by decide) rfl rfl (Nat.le_of_ble_eq_true rfl) (Nat.le_of_ble_eq_true rfl) (vX9_holds E  x1 x2 x5 s33 _  h) (kB (fun r86 s86 h => ?_))
            refine V_ifz (pc := 89) (tgt := 107) dX10_copy_89 (by decide) (fun hc => ?_) (fun hc => ?_)
            · replace h := h.1 hc
              refine V_loc [0] rfl (vX10_copy_107 E post      s86  h)
            · replace h := h.2 hc
              refine V_aload_n (pc := 92) 0 dX10_copy_92 rfl ?_
              refine V_getR (pc := 93) dX10_copy_93 fl_X10_74 sh_0 rfl ?_
              refine V_iload_n (pc := 96) 3 dX10_copy_96 rfl ?_
              refine V_iload (pc := 97) 4 dX10_copy_97 rfl ?_
              refine V_iload (pc := 99) 5 dX10_copy_99 rfl ?_
              refine V_callV (pc := 101) (M' := mX9_holds) dX10_copy_101 ml_X10_284 kv_X9_holds ko_X9_holds sh_9 (by decide) (by decide) rfl rfl (Nat.le_of_ble_eq_true rfl) (Nat.le_of_ble_eq_true rfl) (vX9_holds E  x3 x4 x5 s86 _  h) (kB (fun r101 s101 h => ?_))
              refine V_ifnz (pc := 104) (tgt := 116) dX10_copy_104 (by decide) (fun hc => ?_) (fun hc => ?_)
              · replace h := h.1 hc
                refine V_aload_n (pc := 116) 0 dX10_copy_116 rfl ?_
                refine V_getR (pc := 117) dX10_copy_117 fl_X10_74 sh_0 rfl ?_
                refine V_getR (pc := 120) dX10_copy_120 fl_X10_110 sh_9 rfl ?_
                refine V_iload_n (pc := 123) 1 dX10_copy_123 rfl ?_
                obtain ⟨i124, h⟩ := h
                refine V_aald (pc := 124) dX10_copy_124 sh_60 i124 ?_
                refine V_iload_n (pc := 125) 2 dX10_copy_125 rfl ?_
                refine V_aload_n (pc := 126) 0 dX10_copy_126 rfl ?_
                refine V_getR (pc := 127) dX10_copy_127 fl_X10_74 sh_0 rfl ?_
                refine V_getR (pc := 130) dX10_copy_130 fl_X10_110 sh_9 rfl ?_
                refine V_iload_n (pc := 133) 3 dX10_copy_133 rfl ?_
                obtain ⟨i134, h⟩ := h
                refine V_aald (pc := 134) dX10_copy_134 sh_60 i134 ?_
                refine V_iload (pc := 135) 4 dX10_copy_135 rfl ?_
                refine V_iload (pc := 137) 5 dX10_copy_137 rfl ?_
                obtain ⟨z139, h⟩ := h
                refine V_copy (pc := 139) dX10_copy_139 ac_l ac_n ac_s ac_i (sr_61 (vp_lt i124)) (sr_61 (vp_lt i134)) z139 (Nat.le_of_ble_eq_true rfl) ?_
                refine V_iconst (pc := 142) (v := 1) dX10_copy_142 (by decide) ?_
                exact V_iret dX10_copy_143 rfl h
              · replace h := h.2 hc
                refine V_loc [0] rfl (vX10_copy_107 E post      s101  h)
          · replace h := h.2 hc
            refine V_aload_n (pc := 69) 0 dX10_copy_69 rfl ?_
            refine V_getR (pc := 70) dX10_copy_70 fl_X10_74 sh_0 rfl ?_
            refine V_iconst (pc := 73) (v := 4) dX10_copy_73 (by decide) ?_
            refine V_callV (pc := 74) (M' := mX9_find) dX10_copy_74 ml_X10_107 kv_X9_find ko_X9_find sh_9 (by decide) (by decide) rfl rfl (Nat.le_of_ble_eq_true rfl) (Nat.le_of_ble_eq_true rfl) (vX9_find E  ((4 : Int32)) s33 _  h) (kI (fun r74 s74 h => ?_))
            exact V_iret dX10_copy_77 rfl h
        · replace h := h.2 hc
          refine V_loc [0] rfl (vX10_copy_39 E post      s33  h)
    · replace h := h.2 hc
      refine V_bipush (pc := 14) (v := -2) dX10_copy_14 (by decide) ?_
      exact V_iret dX10_copy_16 rfl h
theorem dX10_write_0 : decode cX10_write 0 = .ok (.iload_n 1, 1) := by decide +kernel
theorem dX10_write_1 : decode cX10_write 1 = .ok (.invokestatic 152, 3) := by decide +kernel
theorem dX10_write_4 : decode cX10_write 4 = .ok (.ifCond .ne 10, 3) := by decide +kernel
theorem dX10_write_7 : decode cX10_write 7 = .ok (.iload_n 2, 1) := by decide +kernel
theorem dX10_write_8 : decode cX10_write 8 = .ok (.invokestatic 101, 3) := by decide +kernel
theorem dX10_write_11 : decode cX10_write 11 = .ok (.ifCond .eq 6, 3) := by decide +kernel
theorem dX10_write_14 : decode cX10_write 14 = .ok (.bipush (-2), 2) := by decide +kernel
theorem dX10_write_16 : decode cX10_write 16 = .ok (.ireturn, 1) := by decide +kernel
theorem dX10_write_17 : decode cX10_write 17 = .ok (.aload_n 0, 1) := by decide +kernel
theorem dX10_write_18 : decode cX10_write 18 = .ok (.getfield 74, 3) := by decide +kernel
theorem dX10_write_21 : decode cX10_write 21 = .ok (.iload_n 2, 1) := by decide +kernel
theorem dX10_write_22 : decode cX10_write 22 = .ok (.invokevirtual 104, 3) := by decide +kernel
theorem dX10_write_25 : decode cX10_write 25 = .ok (.ifCond .eq 12, 3) := by decide +kernel
theorem dX10_write_28 : decode cX10_write 28 = .ok (.aload_n 0, 1) := by decide +kernel
theorem dX10_write_29 : decode cX10_write 29 = .ok (.getfield 74, 3) := by decide +kernel
theorem dX10_write_32 : decode cX10_write 32 = .ok (.iconst 1, 1) := by decide +kernel
theorem dX10_write_33 : decode cX10_write 33 = .ok (.invokevirtual 107, 3) := by decide +kernel
theorem dX10_write_36 : decode cX10_write 36 = .ok (.ireturn, 1) := by decide +kernel
theorem dX10_write_37 : decode cX10_write 37 = .ok (.aload_n 0, 1) := by decide +kernel
theorem dX10_write_38 : decode cX10_write 38 = .ok (.getfield 12, 3) := by decide +kernel
theorem dX10_write_41 : decode cX10_write 41 = .ok (.getfield 82, 3) := by decide +kernel
theorem dX10_write_44 : decode cX10_write 44 = .ok (.aload_n 0, 1) := by decide +kernel
theorem dX10_write_45 : decode cX10_write 45 = .ok (.getfield 74, 3) := by decide +kernel
theorem dX10_write_48 : decode cX10_write 48 = .ok (.getfield 114, 3) := by decide +kernel
theorem dX10_write_51 : decode cX10_write 51 = .ok (.iload_n 2, 1) := by decide +kernel
theorem dX10_write_52 : decode cX10_write 52 = .ok (.iaload, 1) := by decide +kernel
theorem dX10_write_53 : decode cX10_write 53 = .ok (.invokestatic 291, 3) := by decide +kernel
theorem dX10_write_56 : decode cX10_write 56 = .ok (.istore_n 3, 1) := by decide +kernel
theorem dX10_write_57 : decode cX10_write 57 = .ok (.iconst 0, 1) := by decide +kernel
theorem dX10_write_58 : decode cX10_write 58 = .ok (.istore 4, 2) := by decide +kernel
theorem dX10_write_60 : decode cX10_write 60 = .ok (.iload 4, 2) := by decide +kernel
theorem dX10_write_62 : decode cX10_write 62 = .ok (.iload_n 3, 1) := by decide +kernel
theorem dX10_write_63 : decode cX10_write 63 = .ok (.if_icmp .ge 31, 3) := by decide +kernel
theorem dX10_write_66 : decode cX10_write 66 = .ok (.aload_n 0, 1) := by decide +kernel
theorem dX10_write_67 : decode cX10_write 67 = .ok (.getfield 74, 3) := by decide +kernel
theorem dX10_write_70 : decode cX10_write 70 = .ok (.iload_n 2, 1) := by decide +kernel
theorem dX10_write_71 : decode cX10_write 71 = .ok (.iload 4, 2) := by decide +kernel
theorem dX10_write_73 : decode cX10_write 73 = .ok (.aload_n 0, 1) := by decide +kernel
theorem dX10_write_74 : decode cX10_write 74 = .ok (.getfield 23, 3) := by decide +kernel
theorem dX10_write_77 : decode cX10_write 77 = .ok (.getfield 166, 3) := by decide +kernel
theorem dX10_write_80 : decode cX10_write 80 = .ok (.iload_n 1, 1) := by decide +kernel
theorem dX10_write_81 : decode cX10_write 81 = .ok (.aaload, 1) := by decide +kernel
theorem dX10_write_82 : decode cX10_write 82 = .ok (.iload 4, 2) := by decide +kernel
theorem dX10_write_84 : decode cX10_write 84 = .ok (.iaload, 1) := by decide +kernel
theorem dX10_write_85 : decode cX10_write 85 = .ok (.invokevirtual 280, 3) := by decide +kernel
theorem dX10_write_88 : decode cX10_write 88 = .ok (.iinc 4 1, 3) := by decide +kernel
theorem dX10_write_91 : decode cX10_write 91 = .ok (.goto (-31), 3) := by decide +kernel
theorem dX10_write_94 : decode cX10_write 94 = .ok (.iload_n 3, 1) := by decide +kernel
theorem dX10_write_95 : decode cX10_write 95 = .ok (.ireturn, 1) := by decide +kernel
def wX10_write_60 (post : Int32 → Sto → Prop)  (K94 : Int32 → Sto → Prop) : Nat → Int32 → Int32 → Int32 → Int32 → Sto → Prop
  | 0, _, _, _, _, _ => False
  | n + 1, x1, x2, x3, x4, σ => ((x3 ≤ x4) → (K94 x3 σ)) ∧ ((¬ (x3 ≤ x4)) → (vp_in x1 4 ∧ (vp_in x4 14 ∧ (wX9_store  x2 x4 (σ.1 (45 + x1.toNatClampNeg) x4.toNatClampNeg) σ (fun (s85 : Sto) => wX10_write_60 post  K94 n x1 x2 x3 (x4 + (1 : Int32)) s85)))))
set_option maxRecDepth 100000 in
set_option maxHeartbeats 4000000 in
theorem vX10_write_60 (E : Ev) (post : Int32 → Sto → Prop)   (K94 : Int32 → Sto → Prop) (HK94 : ∀ (x3 : Int32) (σ : Sto), K94 x3 σ → V E 1 mX10_write (pI post) 94 [(3, .int x3)] [] σ) : ∀ (n : Nat) (x1 : Int32) (x2 : Int32) (x3 : Int32) (x4 : Int32) (σ : Sto), wX10_write_60 post  K94 n x1 x2 x3 x4 σ → V E 1 mX10_write (pI post) 60 [(0, .ref 0), (1, .int x1), (2, .int x2), (3, .int x3), (4, .int x4)] [] σ := by
  intro n
  induction n with
  | zero => intro x1 x2 x3 x4 σ h; exact h.elim
  | succ n ih =>
    intro x1 x2 x3 x4 σ h
    unfold wX10_write_60 at h
    refine V_iload (pc := 60) 4 dX10_write_60 rfl ?_
    refine V_iload_n (pc := 62) 3 dX10_write_62 rfl ?_
    refine V_icmp_ge (pc := 63) (tgt := 94) dX10_write_63 (by decide) (fun hc => ?_) (fun hc => ?_)
    · replace h := h.1 hc
      exact V_loc [3] rfl (HK94 x3 σ  h)
    · replace h := h.2 hc
      refine V_aload_n (pc := 66) 0 dX10_write_66 rfl ?_
      refine V_getR (pc := 67) dX10_write_67 fl_X10_74 sh_0 rfl ?_
      refine V_iload_n (pc := 70) 2 dX10_write_70 rfl ?_
      refine V_iload (pc := 71) 4 dX10_write_71 rfl ?_
      refine V_aload_n (pc := 73) 0 dX10_write_73 rfl ?_
      refine V_getR (pc := 74) dX10_write_74 fl_X10_23 sh_0 rfl ?_
      refine V_getR (pc := 77) dX10_write_77 fl_X10_166 sh_2 rfl ?_
      refine V_iload_n (pc := 80) 1 dX10_write_80 rfl ?_
      obtain ⟨i81, h⟩ := h
      refine V_aald (pc := 81) dX10_write_81 sh_44 i81 ?_
      refine V_iload (pc := 82) 4 dX10_write_82 rfl ?_
      obtain ⟨i84, h⟩ := h
      refine V_iald (pc := 84) dX10_write_84 (sr_45 (vp_lt i81)) i84 ?_
      refine V_callV (pc := 85) (M' := mX9_store) dX10_write_85 ml_X10_280 kv_X9_store ko_X9_store sh_9 (by decide) (by decide) rfl rfl (Nat.le_of_ble_eq_true rfl) (Nat.le_of_ble_eq_true rfl) (vX9_store E  x2 x4 (σ.1 (45 + x1.toNatClampNeg) x4.toNatClampNeg) σ _  h) (kV (fun s85 h => ?_))
      refine V_iinc (pc := 88) 4 (v := 1) dX10_write_88 rfl (by decide) (by decide) ?_
      refine V_goto (pc := 91) (tgt := 60) dX10_write_91 (by decide) ?_
      exact V_loc [1, 2, 3, 4, 0] rfl (ih x1 x2 x3 (x4 + (1 : Int32)) s85  h)
def wX10_write  (x1 : Int32) (x2 : Int32) (σ : Sto) (post : Int32 → Sto → Prop) : Prop := wX10_noPiece  x1 σ (fun (r1 : Bool) (s1 : Sto) => ((r1 = true) → (post ((-2 : Int32)) s1)) ∧ ((r1 = false) → (wX10_noSheet  x2 s1 (fun (r8 : Bool) (s8 : Sto) => ((r8 = false) → (wX9_isLost  x2 s8 (fun (r22 : Bool) (s22 : Sto) => ((r22 = false) → (vp_in x2 4 ∧ (wJ9_min_7cf53  (s22.1 1 2) (s22.1 66 x2.toNatClampNeg) s22 (fun (r53 : Int32) (s53 : Sto) => ∃ n60, wX10_write_60 post  (fun (x3_1 : Int32) (σ_1 : Sto) => post x3_1 σ_1) n60 x1 x2 r53 ((0 : Int32)) s53)))) ∧ ((r22 = true) → (wX9_find  ((1 : Int32)) s22 (fun (r33 : Int32) (s33 : Sto) => post r33 s33)))))) ∧ ((r8 = true) → (post ((-2 : Int32)) s8))))))
set_option maxRecDepth 100000 in
set_option maxHeartbeats 4000000 in
theorem vX10_write (E : Ev)  (x1 : Int32) (x2 : Int32) (σ : Sto) (post : Int32 → Sto → Prop)  (h : wX10_write  x1 x2 σ post) : V E 1 mX10_write (pI post) 0 [(0, .ref 0), (1, .int x1), (2, .int x2)] [] σ := by
  unfold wX10_write at h
  refine V_iload_n (pc := 0) 1 dX10_write_0 rfl ?_
  refine V_callS (pc := 1) (M' := mX10_noPiece) dX10_write_1 ml_X10_152 ks_X10_noPiece ko_X10_noPiece (by decide) rfl (Nat.le_of_ble_eq_true rfl) (Nat.le_of_ble_eq_true rfl) (vX10_noPiece E  x1 σ _  h) (kB (fun r1 s1 h => ?_))
  refine V_ifnz (pc := 4) (tgt := 14) dX10_write_4 (by decide) (fun hc => ?_) (fun hc => ?_)
  · replace h := h.1 hc
    refine V_bipush (pc := 14) (v := -2) dX10_write_14 (by decide) ?_
    exact V_iret dX10_write_16 rfl h
  · replace h := h.2 hc
    refine V_iload_n (pc := 7) 2 dX10_write_7 rfl ?_
    refine V_callS (pc := 8) (M' := mX10_noSheet) dX10_write_8 ml_X10_101 ks_X10_noSheet ko_X10_noSheet (by decide) rfl (Nat.le_of_ble_eq_true rfl) (Nat.le_of_ble_eq_true rfl) (vX10_noSheet E  x2 s1 _  h) (kB (fun r8 s8 h => ?_))
    refine V_ifz (pc := 11) (tgt := 17) dX10_write_11 (by decide) (fun hc => ?_) (fun hc => ?_)
    · replace h := h.1 hc
      refine V_aload_n (pc := 17) 0 dX10_write_17 rfl ?_
      refine V_getR (pc := 18) dX10_write_18 fl_X10_74 sh_0 rfl ?_
      refine V_iload_n (pc := 21) 2 dX10_write_21 rfl ?_
      refine V_callV (pc := 22) (M' := mX9_isLost) dX10_write_22 ml_X10_104 kv_X9_isLost ko_X9_isLost sh_9 (by decide) (by decide) rfl rfl (Nat.le_of_ble_eq_true rfl) (Nat.le_of_ble_eq_true rfl) (vX9_isLost E  x2 s8 _  h) (kB (fun r22 s22 h => ?_))
      refine V_ifz (pc := 25) (tgt := 37) dX10_write_25 (by decide) (fun hc => ?_) (fun hc => ?_)
      · replace h := h.1 hc
        refine V_aload_n (pc := 37) 0 dX10_write_37 rfl ?_
        refine V_getR (pc := 38) dX10_write_38 fl_X10_12 sh_0 rfl ?_
        refine V_getI (pc := 41) dX10_write_41 fl_X10_82 sh_1 rfl ?_
        refine V_aload_n (pc := 44) 0 dX10_write_44 rfl ?_
        refine V_getR (pc := 45) dX10_write_45 fl_X10_74 sh_0 rfl ?_
        refine V_getR (pc := 48) dX10_write_48 fl_X10_114 sh_9 rfl ?_
        refine V_iload_n (pc := 51) 2 dX10_write_51 rfl ?_
        obtain ⟨i52, h⟩ := h
        refine V_iald (pc := 52) dX10_write_52 sh_66 i52 ?_
        refine V_callS (pc := 53) (M' := mJ9_min_7cf53) dX10_write_53 ml_X10_291 ks_J9_min_7cf53 ko_J9_min_7cf53 (by decide) rfl (Nat.le_of_ble_eq_true rfl) (Nat.le_of_ble_eq_true rfl) (vJ9_min_7cf53 E  (s22.1 1 2) (s22.1 66 x2.toNatClampNeg) s22 _  h) (kI (fun r53 s53 h => ?_))
        refine V_istore_n (pc := 56) dX10_write_56 (by decide) ?_
        refine V_iconst (pc := 57) (v := 0) dX10_write_57 (by decide) ?_
        refine V_istore (pc := 58) dX10_write_58 (by decide) ?_
        obtain ⟨n60, h⟩ := h
        refine V_loc [2, 3, 4, 1, 0] rfl (vX10_write_60 E post   _ (fun x3_1 σ_1 h => ?_) n60 x1 x2 r53 ((0 : Int32)) s53  h)
        · refine V_iload_n (pc := 94) 0 dX10_write_94 rfl ?_
          exact V_iret dX10_write_95 rfl h
      · replace h := h.2 hc
        refine V_aload_n (pc := 28) 0 dX10_write_28 rfl ?_
        refine V_getR (pc := 29) dX10_write_29 fl_X10_74 sh_0 rfl ?_
        refine V_iconst (pc := 32) (v := 1) dX10_write_32 (by decide) ?_
        refine V_callV (pc := 33) (M' := mX9_find) dX10_write_33 ml_X10_107 kv_X9_find ko_X9_find sh_9 (by decide) (by decide) rfl rfl (Nat.le_of_ble_eq_true rfl) (Nat.le_of_ble_eq_true rfl) (vX9_find E  ((1 : Int32)) s22 _  h) (kI (fun r33 s33 h => ?_))
        exact V_iret dX10_write_36 rfl h
    · replace h := h.2 hc
      refine V_bipush (pc := 14) (v := -2) dX10_write_14 (by decide) ?_
      exact V_iret dX10_write_16 rfl h
theorem dX10_count_0 : decode cX10_count 0 = .ok (.iload_n 1, 1) := by decide +kernel
theorem dX10_count_1 : decode cX10_count 1 = .ok (.tableswitch 129 0 10 #[59, 67, 75, 83, 91, 91, 91, 91, 105, 113, 121], 59) := by decide +kernel
theorem dX10_count_60 : decode cX10_count 60 = .ok (.aload_n 0, 1) := by decide +kernel
theorem dX10_count_61 : decode cX10_count 61 = .ok (.getfield 12, 3) := by decide +kernel
theorem dX10_count_64 : decode cX10_count 64 = .ok (.getfield 78, 3) := by decide +kernel
theorem dX10_count_67 : decode cX10_count 67 = .ok (.ireturn, 1) := by decide +kernel
theorem dX10_count_68 : decode cX10_count 68 = .ok (.aload_n 0, 1) := by decide +kernel
theorem dX10_count_69 : decode cX10_count 69 = .ok (.getfield 12, 3) := by decide +kernel
theorem dX10_count_72 : decode cX10_count 72 = .ok (.getfield 82, 3) := by decide +kernel
theorem dX10_count_75 : decode cX10_count 75 = .ok (.ireturn, 1) := by decide +kernel
theorem dX10_count_76 : decode cX10_count 76 = .ok (.aload_n 0, 1) := by decide +kernel
theorem dX10_count_77 : decode cX10_count 77 = .ok (.getfield 12, 3) := by decide +kernel
theorem dX10_count_80 : decode cX10_count 80 = .ok (.getfield 294, 3) := by decide +kernel
theorem dX10_count_83 : decode cX10_count 83 = .ok (.ireturn, 1) := by decide +kernel
theorem dX10_count_84 : decode cX10_count 84 = .ok (.aload_n 0, 1) := by decide +kernel
theorem dX10_count_85 : decode cX10_count 85 = .ok (.getfield 12, 3) := by decide +kernel
theorem dX10_count_88 : decode cX10_count 88 = .ok (.invokevirtual 297, 3) := by decide +kernel
theorem dX10_count_91 : decode cX10_count 91 = .ok (.ireturn, 1) := by decide +kernel
theorem dX10_count_92 : decode cX10_count 92 = .ok (.aload_n 0, 1) := by decide +kernel
theorem dX10_count_93 : decode cX10_count 93 = .ok (.getfield 23, 3) := by decide +kernel
theorem dX10_count_96 : decode cX10_count 96 = .ok (.iload_n 1, 1) := by decide +kernel
theorem dX10_count_97 : decode cX10_count 97 = .ok (.iconst 4, 1) := by decide +kernel
theorem dX10_count_98 : decode cX10_count 98 = .ok (.isub, 1) := by decide +kernel
theorem dX10_count_99 : decode cX10_count 99 = .ok (.invokevirtual 300, 3) := by decide +kernel
theorem dX10_count_102 : decode cX10_count 102 = .ok (.invokestatic 303, 3) := by decide +kernel
theorem dX10_count_105 : decode cX10_count 105 = .ok (.ireturn, 1) := by decide +kernel
theorem dX10_count_106 : decode cX10_count 106 = .ok (.aload_n 0, 1) := by decide +kernel
theorem dX10_count_107 : decode cX10_count 107 = .ok (.getfield 74, 3) := by decide +kernel
theorem dX10_count_110 : decode cX10_count 110 = .ok (.getfield 306, 3) := by decide +kernel
theorem dX10_count_113 : decode cX10_count 113 = .ok (.ireturn, 1) := by decide +kernel
theorem dX10_count_114 : decode cX10_count 114 = .ok (.aload_n 0, 1) := by decide +kernel
theorem dX10_count_115 : decode cX10_count 115 = .ok (.getfield 67, 3) := by decide +kernel
theorem dX10_count_118 : decode cX10_count 118 = .ok (.getfield 255, 3) := by decide +kernel
theorem dX10_count_121 : decode cX10_count 121 = .ok (.ireturn, 1) := by decide +kernel
theorem dX10_count_122 : decode cX10_count 122 = .ok (.aload_n 0, 1) := by decide +kernel
theorem dX10_count_123 : decode cX10_count 123 = .ok (.getfield 32, 3) := by decide +kernel
theorem dX10_count_126 : decode cX10_count 126 = .ok (.getfield 309, 3) := by decide +kernel
theorem dX10_count_129 : decode cX10_count 129 = .ok (.ireturn, 1) := by decide +kernel
theorem dX10_count_130 : decode cX10_count 130 = .ok (.bipush (-2), 2) := by decide +kernel
theorem dX10_count_132 : decode cX10_count 132 = .ok (.ireturn, 1) := by decide +kernel
def wX10_count  (x1 : Int32) (σ : Sto) (post : Int32 → Sto → Prop) : Prop := ((x1 = 0) → (post (σ.1 1 0) σ)) ∧ ((¬ x1 = 0) → (((x1 = 1) → (post (σ.1 1 2) σ)) ∧ ((¬ x1 = 1) → (((x1 = 2) → (post (σ.1 1 5) σ)) ∧ ((¬ x1 = 2) → (((x1 = 3) → (wX1_knownReadings   σ (fun (r88 : Int32) (s88 : Sto) => post r88 s88))) ∧ ((¬ x1 = 3) → (((x1 = 4) → (wX7_takingPart  (x1 - ((4 : Int32))) σ (fun (r99 : Int32) (s99 : Sto) => wJ6_bitCount_0f7a4  r99 s99 (fun (r102 : Int32) (s102 : Sto) => post r102 s102)))) ∧ ((¬ x1 = 4) → (((x1 = 5) → (wX7_takingPart  (x1 - ((4 : Int32))) σ (fun (r99 : Int32) (s99 : Sto) => wJ6_bitCount_0f7a4  r99 s99 (fun (r102 : Int32) (s102 : Sto) => post r102 s102)))) ∧ ((¬ x1 = 5) → (((x1 = 6) → (wX7_takingPart  (x1 - ((4 : Int32))) σ (fun (r99 : Int32) (s99 : Sto) => wJ6_bitCount_0f7a4  r99 s99 (fun (r102 : Int32) (s102 : Sto) => post r102 s102)))) ∧ ((¬ x1 = 6) → (((x1 = 7) → (wX7_takingPart  (x1 - ((4 : Int32))) σ (fun (r99 : Int32) (s99 : Sto) => wJ6_bitCount_0f7a4  r99 s99 (fun (r102 : Int32) (s102 : Sto) => post r102 s102)))) ∧ ((¬ x1 = 7) → (((x1 = 8) → (post (σ.1 9 3) σ)) ∧ ((¬ x1 = 8) → (((x1 = 9) → (post (σ.1 8 4) σ)) ∧ ((¬ x1 = 9) → (((x1 = 10) → (post (σ.1 3 3) σ)) ∧ ((¬ x1 = 10) → (post ((-2 : Int32)) σ))))))))))))))))))))))
set_option maxRecDepth 100000 in
set_option maxHeartbeats 4000000 in
theorem vX10_count (E : Ev)  (x1 : Int32) (σ : Sto) (post : Int32 → Sto → Prop)  (h : wX10_count  x1 σ post) : V E 2 mX10_count (pI post) 0 [(0, .ref 0), (1, .int x1)] [] σ := by
  unfold wX10_count at h
  refine V_iload_n (pc := 0) 1 dX10_count_0 rfl ?_
  by_cases e0 : x1 = 0
  · replace h := h.1 e0
    refine V_tabIn (pc := 1) (tgt := 60) (off := 59) dX10_count_1 (by rw [e0]; decide) (by rw [e0]; decide) (by rw [e0]; rfl) (by decide) ?_
    refine V_aload_n (pc := 60) 0 dX10_count_60 rfl ?_
    refine V_getR (pc := 61) dX10_count_61 fl_X10_12 sh_0 rfl ?_
    refine V_getI (pc := 64) dX10_count_64 fl_X10_78 sh_1 rfl ?_
    exact V_iret dX10_count_67 rfl h
  · replace h := h.2 e0
    by_cases e1 : x1 = 1
    · replace h := h.1 e1
      refine V_tabIn (pc := 1) (tgt := 68) (off := 67) dX10_count_1 (by rw [e1]; decide) (by rw [e1]; decide) (by rw [e1]; rfl) (by decide) ?_
      refine V_aload_n (pc := 68) 0 dX10_count_68 rfl ?_
      refine V_getR (pc := 69) dX10_count_69 fl_X10_12 sh_0 rfl ?_
      refine V_getI (pc := 72) dX10_count_72 fl_X10_82 sh_1 rfl ?_
      exact V_iret dX10_count_75 rfl h
    · replace h := h.2 e1
      by_cases e2 : x1 = 2
      · replace h := h.1 e2
        refine V_tabIn (pc := 1) (tgt := 76) (off := 75) dX10_count_1 (by rw [e2]; decide) (by rw [e2]; decide) (by rw [e2]; rfl) (by decide) ?_
        refine V_aload_n (pc := 76) 0 dX10_count_76 rfl ?_
        refine V_getR (pc := 77) dX10_count_77 fl_X10_12 sh_0 rfl ?_
        refine V_getI (pc := 80) dX10_count_80 fl_X10_294 sh_1 rfl ?_
        exact V_iret dX10_count_83 rfl h
      · replace h := h.2 e2
        by_cases e3 : x1 = 3
        · replace h := h.1 e3
          refine V_tabIn (pc := 1) (tgt := 84) (off := 83) dX10_count_1 (by rw [e3]; decide) (by rw [e3]; decide) (by rw [e3]; rfl) (by decide) ?_
          refine V_aload_n (pc := 84) 0 dX10_count_84 rfl ?_
          refine V_getR (pc := 85) dX10_count_85 fl_X10_12 sh_0 rfl ?_
          refine V_callV (pc := 88) (M' := mX1_knownReadings) dX10_count_88 ml_X10_297 kv_X1_knownReadings ko_X1_knownReadings sh_1 (by decide) (by decide) rfl rfl (Nat.le_of_ble_eq_true rfl) (Nat.le_of_ble_eq_true rfl) (vX1_knownReadings E   σ _  h) (kI (fun r88 s88 h => ?_))
          exact V_iret dX10_count_91 rfl h
        · replace h := h.2 e3
          by_cases e4 : x1 = 4
          · replace h := h.1 e4
            refine V_tabIn (pc := 1) (tgt := 92) (off := 91) dX10_count_1 (by rw [e4]; decide) (by rw [e4]; decide) (by rw [e4]; rfl) (by decide) ?_
            refine V_aload_n (pc := 92) 0 dX10_count_92 rfl ?_
            refine V_getR (pc := 93) dX10_count_93 fl_X10_23 sh_0 rfl ?_
            refine V_iload_n (pc := 96) 1 dX10_count_96 rfl ?_
            refine V_iconst (pc := 97) (v := 4) dX10_count_97 (by decide) ?_
            refine V_isub (pc := 98) dX10_count_98 ?_
            refine V_callV (pc := 99) (M' := mX7_takingPart) dX10_count_99 ml_X10_300 kv_X7_takingPart ko_X7_takingPart sh_2 (by decide) (by decide) rfl rfl (Nat.le_of_ble_eq_true rfl) (Nat.le_of_ble_eq_true rfl) (vX7_takingPart E  (x1 - ((4 : Int32))) σ _  h) (kI (fun r99 s99 h => ?_))
            refine V_callS (pc := 102) (M' := mJ6_bitCount_0f7a4) dX10_count_102 ml_X10_303 ks_J6_bitCount_0f7a4 ko_J6_bitCount_0f7a4 (by decide) rfl (Nat.le_of_ble_eq_true rfl) (Nat.le_of_ble_eq_true rfl) (vJ6_bitCount_0f7a4 E  r99 s99 _  h) (kI (fun r102 s102 h => ?_))
            exact V_iret dX10_count_105 rfl h
          · replace h := h.2 e4
            by_cases e5 : x1 = 5
            · replace h := h.1 e5
              refine V_tabIn (pc := 1) (tgt := 92) (off := 91) dX10_count_1 (by rw [e5]; decide) (by rw [e5]; decide) (by rw [e5]; rfl) (by decide) ?_
              refine V_aload_n (pc := 92) 0 dX10_count_92 rfl ?_
              refine V_getR (pc := 93) dX10_count_93 fl_X10_23 sh_0 rfl ?_
              refine V_iload_n (pc := 96) 1 dX10_count_96 rfl ?_
              refine V_iconst (pc := 97) (v := 4) dX10_count_97 (by decide) ?_
              refine V_isub (pc := 98) dX10_count_98 ?_
              refine V_callV (pc := 99) (M' := mX7_takingPart) dX10_count_99 ml_X10_300 kv_X7_takingPart ko_X7_takingPart sh_2 (by decide) (by decide) rfl rfl (Nat.le_of_ble_eq_true rfl) (Nat.le_of_ble_eq_true rfl) (vX7_takingPart E  (x1 - ((4 : Int32))) σ _  h) (kI (fun r99 s99 h => ?_))
              refine V_callS (pc := 102) (M' := mJ6_bitCount_0f7a4) dX10_count_102 ml_X10_303 ks_J6_bitCount_0f7a4 ko_J6_bitCount_0f7a4 (by decide) rfl (Nat.le_of_ble_eq_true rfl) (Nat.le_of_ble_eq_true rfl) (vJ6_bitCount_0f7a4 E  r99 s99 _  h) (kI (fun r102 s102 h => ?_))
              exact V_iret dX10_count_105 rfl h
            · replace h := h.2 e5
              by_cases e6 : x1 = 6
              · replace h := h.1 e6
                refine V_tabIn (pc := 1) (tgt := 92) (off := 91) dX10_count_1 (by rw [e6]; decide) (by rw [e6]; decide) (by rw [e6]; rfl) (by decide) ?_
                refine V_aload_n (pc := 92) 0 dX10_count_92 rfl ?_
                refine V_getR (pc := 93) dX10_count_93 fl_X10_23 sh_0 rfl ?_
                refine V_iload_n (pc := 96) 1 dX10_count_96 rfl ?_
                refine V_iconst (pc := 97) (v := 4) dX10_count_97 (by decide) ?_
                refine V_isub (pc := 98) dX10_count_98 ?_
                refine V_callV (pc := 99) (M' := mX7_takingPart) dX10_count_99 ml_X10_300 kv_X7_takingPart ko_X7_takingPart sh_2 (by decide) (by decide) rfl rfl (Nat.le_of_ble_eq_true rfl) (Nat.le_of_ble_eq_true rfl) (vX7_takingPart E  (x1 - ((4 : Int32))) σ _  h) (kI (fun r99 s99 h => ?_))
                refine V_callS (pc := 102) (M' := mJ6_bitCount_0f7a4) dX10_count_102 ml_X10_303 ks_J6_bitCount_0f7a4 ko_J6_bitCount_0f7a4 (by decide) rfl (Nat.le_of_ble_eq_true rfl) (Nat.le_of_ble_eq_true rfl) (vJ6_bitCount_0f7a4 E  r99 s99 _  h) (kI (fun r102 s102 h => ?_))
                exact V_iret dX10_count_105 rfl h
              · replace h := h.2 e6
                by_cases e7 : x1 = 7
                · replace h := h.1 e7
                  refine V_tabIn (pc := 1) (tgt := 92) (off := 91) dX10_count_1 (by rw [e7]; decide) (by rw [e7]; decide) (by rw [e7]; rfl) (by decide) ?_
                  refine V_aload_n (pc := 92) 0 dX10_count_92 rfl ?_
                  refine V_getR (pc := 93) dX10_count_93 fl_X10_23 sh_0 rfl ?_
                  refine V_iload_n (pc := 96) 1 dX10_count_96 rfl ?_
                  refine V_iconst (pc := 97) (v := 4) dX10_count_97 (by decide) ?_
                  refine V_isub (pc := 98) dX10_count_98 ?_
                  refine V_callV (pc := 99) (M' := mX7_takingPart) dX10_count_99 ml_X10_300 kv_X7_takingPart ko_X7_takingPart sh_2 (by decide) (by decide) rfl rfl (Nat.le_of_ble_eq_true rfl) (Nat.le_of_ble_eq_true rfl) (vX7_takingPart E  (x1 - ((4 : Int32))) σ _  h) (kI (fun r99 s99 h => ?_))
                  refine V_callS (pc := 102) (M' := mJ6_bitCount_0f7a4) dX10_count_102 ml_X10_303 ks_J6_bitCount_0f7a4 ko_J6_bitCount_0f7a4 (by decide) rfl (Nat.le_of_ble_eq_true rfl) (Nat.le_of_ble_eq_true rfl) (vJ6_bitCount_0f7a4 E  r99 s99 _  h) (kI (fun r102 s102 h => ?_))
                  exact V_iret dX10_count_105 rfl h
                · replace h := h.2 e7
                  by_cases e8 : x1 = 8
                  · replace h := h.1 e8
                    refine V_tabIn (pc := 1) (tgt := 106) (off := 105) dX10_count_1 (by rw [e8]; decide) (by rw [e8]; decide) (by rw [e8]; rfl) (by decide) ?_
                    refine V_aload_n (pc := 106) 0 dX10_count_106 rfl ?_
                    refine V_getR (pc := 107) dX10_count_107 fl_X10_74 sh_0 rfl ?_
                    refine V_getI (pc := 110) dX10_count_110 fl_X10_306 sh_9 rfl ?_
                    exact V_iret dX10_count_113 rfl h
                  · replace h := h.2 e8
                    by_cases e9 : x1 = 9
                    · replace h := h.1 e9
                      refine V_tabIn (pc := 1) (tgt := 114) (off := 113) dX10_count_1 (by rw [e9]; decide) (by rw [e9]; decide) (by rw [e9]; rfl) (by decide) ?_
                      refine V_aload_n (pc := 114) 0 dX10_count_114 rfl ?_
                      refine V_getR (pc := 115) dX10_count_115 fl_X10_67 sh_0 rfl ?_
                      refine V_getI (pc := 118) dX10_count_118 fl_X10_255 sh_8 rfl ?_
                      exact V_iret dX10_count_121 rfl h
                    · replace h := h.2 e9
                      by_cases e10 : x1 = 10
                      · replace h := h.1 e10
                        refine V_tabIn (pc := 1) (tgt := 122) (off := 121) dX10_count_1 (by rw [e10]; decide) (by rw [e10]; decide) (by rw [e10]; rfl) (by decide) ?_
                        refine V_aload_n (pc := 122) 0 dX10_count_122 rfl ?_
                        refine V_getR (pc := 123) dX10_count_123 fl_X10_32 sh_0 rfl ?_
                        refine V_getI (pc := 126) dX10_count_126 fl_X10_309 sh_3 rfl ?_
                        exact V_iret dX10_count_129 rfl h
                      · replace h := h.2 e10
                        refine V_tabOut (pc := 1) (tgt := 130) dX10_count_1 ?_ (by decide) ?_
                        · have z0 := lv_neT (a := 0) e0 (by decide); have z1 := lv_neT (a := 1) e1 (by decide); have z2 := lv_neT (a := 2) e2 (by decide); have z3 := lv_neT (a := 3) e3 (by decide); have z4 := lv_neT (a := 4) e4 (by decide); have z5 := lv_neT (a := 5) e5 (by decide); have z6 := lv_neT (a := 6) e6 (by decide); have z7 := lv_neT (a := 7) e7 (by decide); have z8 := lv_neT (a := 8) e8 (by decide); have z9 := lv_neT (a := 9) e9 (by decide); have z10 := lv_neT (a := 10) e10 (by decide); omega
                        refine V_bipush (pc := 130) (v := -2) dX10_count_130 (by decide) ?_
                        exact V_iret dX10_count_132 rfl h
theorem dX10_digestPiece_0 : decode cX10_digestPiece 0 = .ok (.ldc2_w 314, 3) := by decide +kernel
theorem dX10_digestPiece_3 : decode cX10_digestPiece 3 = .ok (.lload_n 1, 1) := by decide +kernel
theorem dX10_digestPiece_4 : decode cX10_digestPiece 4 = .ok (.lmul, 1) := by decide +kernel
theorem dX10_digestPiece_5 : decode cX10_digestPiece 5 = .ok (.aload_n 0, 1) := by decide +kernel
theorem dX10_digestPiece_6 : decode cX10_digestPiece 6 = .ok (.iload_n 3, 1) := by decide +kernel
theorem dX10_digestPiece_7 : decode cX10_digestPiece 7 = .ok (.invokevirtual 332, 3) := by decide +kernel
theorem dX10_digestPiece_10 : decode cX10_digestPiece 10 = .ok (.i2l, 1) := by decide +kernel
theorem dX10_digestPiece_11 : decode cX10_digestPiece 11 = .ok (.ladd, 1) := by decide +kernel
theorem dX10_digestPiece_12 : decode cX10_digestPiece 12 = .ok (.lstore 4, 2) := by decide +kernel
theorem dX10_digestPiece_14 : decode cX10_digestPiece 14 = .ok (.ldc2_w 314, 3) := by decide +kernel
theorem dX10_digestPiece_17 : decode cX10_digestPiece 17 = .ok (.lload 4, 2) := by decide +kernel
theorem dX10_digestPiece_19 : decode cX10_digestPiece 19 = .ok (.lmul, 1) := by decide +kernel
theorem dX10_digestPiece_20 : decode cX10_digestPiece 20 = .ok (.aload_n 0, 1) := by decide +kernel
theorem dX10_digestPiece_21 : decode cX10_digestPiece 21 = .ok (.iload_n 3, 1) := by decide +kernel
theorem dX10_digestPiece_22 : decode cX10_digestPiece 22 = .ok (.iconst 0, 1) := by decide +kernel
theorem dX10_digestPiece_23 : decode cX10_digestPiece 23 = .ok (.invokevirtual 335, 3) := by decide +kernel
theorem dX10_digestPiece_26 : decode cX10_digestPiece 26 = .ok (.i2l, 1) := by decide +kernel
theorem dX10_digestPiece_27 : decode cX10_digestPiece 27 = .ok (.ladd, 1) := by decide +kernel
theorem dX10_digestPiece_28 : decode cX10_digestPiece 28 = .ok (.lstore 4, 2) := by decide +kernel
theorem dX10_digestPiece_30 : decode cX10_digestPiece 30 = .ok (.iconst 0, 1) := by decide +kernel
theorem dX10_digestPiece_31 : decode cX10_digestPiece 31 = .ok (.istore 6, 2) := by decide +kernel
theorem dX10_digestPiece_33 : decode cX10_digestPiece 33 = .ok (.iload 6, 2) := by decide +kernel
theorem dX10_digestPiece_35 : decode cX10_digestPiece 35 = .ok (.iconst 4, 1) := by decide +kernel
theorem dX10_digestPiece_36 : decode cX10_digestPiece 36 = .ok (.if_icmp .ge 81, 3) := by decide +kernel
theorem dX10_digestPiece_39 : decode cX10_digestPiece 39 = .ok (.aload_n 0, 1) := by decide +kernel
theorem dX10_digestPiece_40 : decode cX10_digestPiece 40 = .ok (.getfield 46, 3) := by decide +kernel
theorem dX10_digestPiece_43 : decode cX10_digestPiece 43 = .ok (.iload 6, 2) := by decide +kernel
theorem dX10_digestPiece_45 : decode cX10_digestPiece 45 = .ok (.iload_n 3, 1) := by decide +kernel
theorem dX10_digestPiece_46 : decode cX10_digestPiece 46 = .ok (.invokevirtual 199, 3) := by decide +kernel
theorem dX10_digestPiece_49 : decode cX10_digestPiece 49 = .ok (.istore 7, 2) := by decide +kernel
theorem dX10_digestPiece_51 : decode cX10_digestPiece 51 = .ok (.ldc2_w 314, 3) := by decide +kernel
theorem dX10_digestPiece_54 : decode cX10_digestPiece 54 = .ok (.lload 4, 2) := by decide +kernel
theorem dX10_digestPiece_56 : decode cX10_digestPiece 56 = .ok (.lmul, 1) := by decide +kernel
theorem dX10_digestPiece_57 : decode cX10_digestPiece 57 = .ok (.iload 7, 2) := by decide +kernel
theorem dX10_digestPiece_59 : decode cX10_digestPiece 59 = .ok (.ifCond .eq 16, 3) := by decide +kernel
theorem dX10_digestPiece_62 : decode cX10_digestPiece 62 = .ok (.aload_n 0, 1) := by decide +kernel
theorem dX10_digestPiece_63 : decode cX10_digestPiece 63 = .ok (.getfield 46, 3) := by decide +kernel
theorem dX10_digestPiece_66 : decode cX10_digestPiece 66 = .ok (.getfield 202, 3) := by decide +kernel
theorem dX10_digestPiece_69 : decode cX10_digestPiece 69 = .ok (.getfield 338, 3) := by decide +kernel
theorem dX10_digestPiece_72 : decode cX10_digestPiece 72 = .ok (.goto 6, 3) := by decide +kernel
theorem dX10_digestPiece_75 : decode cX10_digestPiece 75 = .ok (.ldc2_w 341, 3) := by decide +kernel
theorem dX10_digestPiece_78 : decode cX10_digestPiece 78 = .ok (.ladd, 1) := by decide +kernel
theorem dX10_digestPiece_79 : decode cX10_digestPiece 79 = .ok (.lstore 4, 2) := by decide +kernel
theorem dX10_digestPiece_81 : decode cX10_digestPiece 81 = .ok (.ldc2_w 314, 3) := by decide +kernel
theorem dX10_digestPiece_84 : decode cX10_digestPiece 84 = .ok (.lload 4, 2) := by decide +kernel
theorem dX10_digestPiece_86 : decode cX10_digestPiece 86 = .ok (.lmul, 1) := by decide +kernel
theorem dX10_digestPiece_87 : decode cX10_digestPiece 87 = .ok (.iload 7, 2) := by decide +kernel
theorem dX10_digestPiece_89 : decode cX10_digestPiece 89 = .ok (.ifCond .eq 16, 3) := by decide +kernel
theorem dX10_digestPiece_92 : decode cX10_digestPiece 92 = .ok (.aload_n 0, 1) := by decide +kernel
theorem dX10_digestPiece_93 : decode cX10_digestPiece 93 = .ok (.getfield 46, 3) := by decide +kernel
theorem dX10_digestPiece_96 : decode cX10_digestPiece 96 = .ok (.getfield 202, 3) := by decide +kernel
theorem dX10_digestPiece_99 : decode cX10_digestPiece 99 = .ok (.getfield 343, 3) := by decide +kernel
theorem dX10_digestPiece_102 : decode cX10_digestPiece 102 = .ok (.goto 6, 3) := by decide +kernel
theorem dX10_digestPiece_105 : decode cX10_digestPiece 105 = .ok (.ldc2_w 341, 3) := by decide +kernel
theorem dX10_digestPiece_108 : decode cX10_digestPiece 108 = .ok (.ladd, 1) := by decide +kernel
theorem dX10_digestPiece_109 : decode cX10_digestPiece 109 = .ok (.lstore 4, 2) := by decide +kernel
theorem dX10_digestPiece_111 : decode cX10_digestPiece 111 = .ok (.iinc 6 1, 3) := by decide +kernel
theorem dX10_digestPiece_114 : decode cX10_digestPiece 114 = .ok (.goto (-81), 3) := by decide +kernel
theorem dX10_digestPiece_117 : decode cX10_digestPiece 117 = .ok (.ldc2_w 314, 3) := by decide +kernel
theorem dX10_digestPiece_120 : decode cX10_digestPiece 120 = .ok (.lload 4, 2) := by decide +kernel
theorem dX10_digestPiece_122 : decode cX10_digestPiece 122 = .ok (.lmul, 1) := by decide +kernel
theorem dX10_digestPiece_123 : decode cX10_digestPiece 123 = .ok (.aload_n 0, 1) := by decide +kernel
theorem dX10_digestPiece_124 : decode cX10_digestPiece 124 = .ok (.iload_n 3, 1) := by decide +kernel
theorem dX10_digestPiece_125 : decode cX10_digestPiece 125 = .ok (.invokevirtual 346, 3) := by decide +kernel
theorem dX10_digestPiece_128 : decode cX10_digestPiece 128 = .ok (.i2l, 1) := by decide +kernel
theorem dX10_digestPiece_129 : decode cX10_digestPiece 129 = .ok (.ladd, 1) := by decide +kernel
theorem dX10_digestPiece_130 : decode cX10_digestPiece 130 = .ok (.lreturn, 1) := by decide +kernel
def wX10_digestPiece_108 (post : Int64 → Sto → Prop)  (K33 : Int32 → Int64 → Int32 → Sto → Prop) (x3 : Int32) (x6 : Int32) (y0 : Int64) (y1 : Int64) (σ : Sto) : Prop := K33 x3 (y1 + y0) (x6 + (1 : Int32)) σ
set_option maxRecDepth 100000 in
set_option maxHeartbeats 4000000 in
theorem vX10_digestPiece_108 (E : Ev) (post : Int64 → Sto → Prop)   (K33 : Int32 → Int64 → Int32 → Sto → Prop) (HK33 : ∀ (x3 : Int32) (x4 : Int64) (x6 : Int32) (σ : Sto), K33 x3 x4 x6 σ → V E 32 mX10_digestPiece (pL post) 33 [(0, .ref 0), (3, .int x3), (4, .long x4), (6, .int x6)] [] σ) (x3 : Int32) (x6 : Int32) (y0 : Int64) (y1 : Int64) (σ : Sto) (h : wX10_digestPiece_108 post  K33 x3 x6 y0 y1 σ) : V E 32 mX10_digestPiece (pL post) 108 [(0, .ref 0), (3, .int x3), (6, .int x6)] [.long y0, .long y1] σ := by
  unfold wX10_digestPiece_108 at h
  refine V_ladd (pc := 108) dX10_digestPiece_108 ?_
  refine V_lstore (pc := 109) dX10_digestPiece_109 (by decide) ?_
  refine V_iinc (pc := 111) 3 (v := 1) dX10_digestPiece_111 rfl (by decide) (by decide) ?_
  refine V_goto (pc := 114) (tgt := 33) dX10_digestPiece_114 (by decide) ?_
  exact V_loc [2, 3, 1, 0] rfl (HK33 x3 (y1 + y0) (x6 + (1 : Int32)) σ  h)
def wX10_digestPiece_78 (post : Int64 → Sto → Prop)  (K33 : Int32 → Int64 → Int32 → Sto → Prop) (x3 : Int32) (x6 : Int32) (x7 : Int32) (y0 : Int64) (y1 : Int64) (σ : Sto) : Prop := ((x7 = 0) → (wX10_digestPiece_108 post  K33 x3 x6 ((-3 : Int64)) (((31 : Int64)) * (y1 + y0)) σ)) ∧ ((¬ (x7 = 0)) → (wX10_digestPiece_108 post  K33 x3 x6 (σ.2 10 1) (((31 : Int64)) * (y1 + y0)) σ))
set_option maxRecDepth 100000 in
set_option maxHeartbeats 4000000 in
theorem vX10_digestPiece_78 (E : Ev) (post : Int64 → Sto → Prop)   (K33 : Int32 → Int64 → Int32 → Sto → Prop) (HK33 : ∀ (x3 : Int32) (x4 : Int64) (x6 : Int32) (σ : Sto), K33 x3 x4 x6 σ → V E 32 mX10_digestPiece (pL post) 33 [(0, .ref 0), (3, .int x3), (4, .long x4), (6, .int x6)] [] σ) (x3 : Int32) (x6 : Int32) (x7 : Int32) (y0 : Int64) (y1 : Int64) (σ : Sto) (h : wX10_digestPiece_78 post  K33 x3 x6 x7 y0 y1 σ) : V E 32 mX10_digestPiece (pL post) 78 [(0, .ref 0), (3, .int x3), (6, .int x6), (7, .int x7)] [.long y0, .long y1] σ := by
  unfold wX10_digestPiece_78 at h
  refine V_ladd (pc := 78) dX10_digestPiece_78 ?_
  refine V_lstore (pc := 79) dX10_digestPiece_79 (by decide) ?_
  refine V_ldc2 (pc := 81) dX10_digestPiece_81 cl_X10_314 ?_
  refine V_lload (pc := 84) 0 dX10_digestPiece_84 rfl ?_
  refine V_lmul (pc := 86) dX10_digestPiece_86 ?_
  refine V_iload (pc := 87) 4 dX10_digestPiece_87 rfl ?_
  refine V_if_eq (pc := 89) (tgt := 105) dX10_digestPiece_89 (by decide) (fun hc => ?_) (fun hc => ?_)
  · replace h := h.1 hc
    refine V_ldc2 (pc := 105) dX10_digestPiece_105 cl_X10_341 ?_
    refine V_loc [1, 2, 3] rfl (vX10_digestPiece_108 E post   K33 HK33 x3 x6 ((-3 : Int64)) (((31 : Int64)) * (y1 + y0)) σ  h)
  · replace h := h.2 hc
    refine V_aload_n (pc := 92) 1 dX10_digestPiece_92 rfl ?_
    refine V_getR (pc := 93) dX10_digestPiece_93 fl_X10_46 sh_0 rfl ?_
    refine V_getR (pc := 96) dX10_digestPiece_96 fl_X10_202 sh_5 rfl ?_
    refine V_getL (pc := 99) dX10_digestPiece_99 fl_X10_343 sh_10 rfl ?_
    refine V_goto (pc := 102) (tgt := 108) dX10_digestPiece_102 (by decide) ?_
    refine V_loc [1, 2, 3] rfl (vX10_digestPiece_108 E post   K33 HK33 x3 x6 (σ.2 10 1) (((31 : Int64)) * (y1 + y0)) σ  h)
def wX10_digestPiece_33 (post : Int64 → Sto → Prop)  (K117 : Int32 → Int64 → Sto → Prop) : Nat → Int32 → Int64 → Int32 → Sto → Prop
  | 0, _, _, _, _ => False
  | n + 1, x3, x4, x6, σ => ((((4 : Int32)) ≤ x6) → (K117 x3 x4 σ)) ∧ ((¬ (((4 : Int32)) ≤ x6)) → (wX6_reckonBy  x6 x3 σ (fun (r46 : Bool) (s46 : Sto) => ((r46 = false) → (wX10_digestPiece_78 post  (wX10_digestPiece_33 post  K117 n) x3 x6 (b2i r46) ((-3 : Int64)) (((31 : Int64)) * x4) s46)) ∧ ((r46 = true) → (wX10_digestPiece_78 post  (wX10_digestPiece_33 post  K117 n) x3 x6 (b2i r46) (s46.2 10 0) (((31 : Int64)) * x4) s46)))))
set_option maxRecDepth 100000 in
set_option maxHeartbeats 4000000 in
theorem vX10_digestPiece_33 (E : Ev) (post : Int64 → Sto → Prop)   (K117 : Int32 → Int64 → Sto → Prop) (HK117 : ∀ (x3 : Int32) (x4 : Int64) (σ : Sto), K117 x3 x4 σ → V E 32 mX10_digestPiece (pL post) 117 [(0, .ref 0), (3, .int x3), (4, .long x4)] [] σ) : ∀ (n : Nat) (x3 : Int32) (x4 : Int64) (x6 : Int32) (σ : Sto), wX10_digestPiece_33 post  K117 n x3 x4 x6 σ → V E 32 mX10_digestPiece (pL post) 33 [(0, .ref 0), (3, .int x3), (4, .long x4), (6, .int x6)] [] σ := by
  intro n
  induction n with
  | zero => intro x3 x4 x6 σ h; exact h.elim
  | succ n ih =>
    intro x3 x4 x6 σ h
    unfold wX10_digestPiece_33 at h
    refine V_iload (pc := 33) 3 dX10_digestPiece_33 rfl ?_
    refine V_iconst (pc := 35) (v := 4) dX10_digestPiece_35 (by decide) ?_
    refine V_icmp_ge (pc := 36) (tgt := 117) dX10_digestPiece_36 (by decide) (fun hc => ?_) (fun hc => ?_)
    · replace h := h.1 hc
      exact V_loc [0, 1, 2] rfl (HK117 x3 x4 σ  h)
    · replace h := h.2 hc
      refine V_aload_n (pc := 39) 0 dX10_digestPiece_39 rfl ?_
      refine V_getR (pc := 40) dX10_digestPiece_40 fl_X10_46 sh_0 rfl ?_
      refine V_iload (pc := 43) 3 dX10_digestPiece_43 rfl ?_
      refine V_iload_n (pc := 45) 1 dX10_digestPiece_45 rfl ?_
      refine V_callV (pc := 46) (M' := mX6_reckonBy) dX10_digestPiece_46 ml_X10_199 kv_X6_reckonBy ko_X6_reckonBy sh_5 (by decide) (by decide) rfl rfl (Nat.le_of_ble_eq_true rfl) (Nat.le_of_ble_eq_true rfl) (vX6_reckonBy E  x6 x3 σ _  h) (kB (fun r46 s46 h => ?_))
      refine V_istore (pc := 49) dX10_digestPiece_49 (by decide) ?_
      refine V_ldc2 (pc := 51) dX10_digestPiece_51 cl_X10_314 ?_
      refine V_lload (pc := 54) 3 dX10_digestPiece_54 rfl ?_
      refine V_lmul (pc := 56) dX10_digestPiece_56 ?_
      refine V_iload (pc := 57) 0 dX10_digestPiece_57 rfl ?_
      refine V_ifz (pc := 59) (tgt := 75) dX10_digestPiece_59 (by decide) (fun hc => ?_) (fun hc => ?_)
      · replace h := h.1 hc
        refine V_ldc2 (pc := 75) dX10_digestPiece_75 cl_X10_341 ?_
        refine V_loc [1, 2, 4, 0] rfl (vX10_digestPiece_78 E post   _ ih x3 x6 (b2i r46) ((-3 : Int64)) (((31 : Int64)) * x4) s46  h)
      · replace h := h.2 hc
        refine V_aload_n (pc := 62) 1 dX10_digestPiece_62 rfl ?_
        refine V_getR (pc := 63) dX10_digestPiece_63 fl_X10_46 sh_0 rfl ?_
        refine V_getR (pc := 66) dX10_digestPiece_66 fl_X10_202 sh_5 rfl ?_
        refine V_getL (pc := 69) dX10_digestPiece_69 fl_X10_338 sh_10 rfl ?_
        refine V_goto (pc := 72) (tgt := 78) dX10_digestPiece_72 (by decide) ?_
        refine V_loc [1, 2, 4, 0] rfl (vX10_digestPiece_78 E post   _ ih x3 x6 (b2i r46) (s46.2 10 0) (((31 : Int64)) * x4) s46  h)
def wX10_digestPiece  (x1 : Int64) (x3 : Int32) (σ : Sto) (post : Int64 → Sto → Prop) : Prop := wX10_agreeing  x3 σ (fun (r7 : Int32) (s7 : Sto) => wX10_common  x3 ((0 : Int32)) s7 (fun (r23 : Int32) (s23 : Sto) => ∃ n33, wX10_digestPiece_33 post  (fun (x3_1 : Int32) (x4_1 : Int64) (σ_1 : Sto) => wX10_widest  x3_1 σ_1 (fun (r125 : Int32) (s125 : Sto) => post ((((31 : Int64)) * x4_1) + r125.toInt64) s125)) n33 x3 ((((31 : Int64)) * ((((31 : Int64)) * x1) + r7.toInt64)) + r23.toInt64) ((0 : Int32)) s23))
set_option maxRecDepth 100000 in
set_option maxHeartbeats 4000000 in
theorem vX10_digestPiece (E : Ev)  (x1 : Int64) (x3 : Int32) (σ : Sto) (post : Int64 → Sto → Prop)  (h : wX10_digestPiece  x1 x3 σ post) : V E 32 mX10_digestPiece (pL post) 0 [(0, .ref 0), (1, .long x1), (3, .int x3)] [] σ := by
  unfold wX10_digestPiece at h
  refine V_ldc2 (pc := 0) dX10_digestPiece_0 cl_X10_314 ?_
  refine V_lload_n (pc := 3) 1 dX10_digestPiece_3 rfl ?_
  refine V_lmul (pc := 4) dX10_digestPiece_4 ?_
  refine V_aload_n (pc := 5) 0 dX10_digestPiece_5 rfl ?_
  refine V_iload_n (pc := 6) 2 dX10_digestPiece_6 rfl ?_
  refine V_callV (pc := 7) (M' := mX10_agreeing) dX10_digestPiece_7 ml_X10_332 kv_X10_agreeing ko_X10_agreeing sh_0 (by decide) (by decide) rfl rfl (Nat.le_of_ble_eq_true rfl) (Nat.le_of_ble_eq_true rfl) (vX10_agreeing E  x3 σ _  h) (kI (fun r7 s7 h => ?_))
  refine V_i2l (pc := 10) dX10_digestPiece_10 ?_
  refine V_ladd (pc := 11) dX10_digestPiece_11 ?_
  refine V_lstore (pc := 12) dX10_digestPiece_12 (by decide) ?_
  refine V_ldc2 (pc := 14) dX10_digestPiece_14 cl_X10_314 ?_
  refine V_lload (pc := 17) 0 dX10_digestPiece_17 rfl ?_
  refine V_lmul (pc := 19) dX10_digestPiece_19 ?_
  refine V_aload_n (pc := 20) 1 dX10_digestPiece_20 rfl ?_
  refine V_iload_n (pc := 21) 3 dX10_digestPiece_21 rfl ?_
  refine V_iconst (pc := 22) (v := 0) dX10_digestPiece_22 (by decide) ?_
  refine V_callV (pc := 23) (M' := mX10_common) dX10_digestPiece_23 ml_X10_335 kv_X10_common ko_X10_common sh_0 (by decide) (by decide) rfl rfl (Nat.le_of_ble_eq_true rfl) (Nat.le_of_ble_eq_true rfl) (vX10_common E  x3 ((0 : Int32)) s7 _  h) (kI (fun r23 s23 h => ?_))
  refine V_i2l (pc := 26) dX10_digestPiece_26 ?_
  refine V_ladd (pc := 27) dX10_digestPiece_27 ?_
  refine V_lstore (pc := 28) dX10_digestPiece_28 (by decide) ?_
  refine V_iconst (pc := 30) (v := 0) dX10_digestPiece_30 (by decide) ?_
  refine V_istore (pc := 31) dX10_digestPiece_31 (by decide) ?_
  obtain ⟨n33, h⟩ := h
  refine V_loc [2, 4, 1, 0] rfl (vX10_digestPiece_33 E post   _ (fun x3_1 x4_1 σ_1 h => ?_) n33 x3 ((((31 : Int64)) * ((((31 : Int64)) * x1) + r7.toInt64)) + r23.toInt64) ((0 : Int32)) s23  h)
  · refine V_ldc2 (pc := 117) dX10_digestPiece_117 cl_X10_314 ?_
    refine V_lload (pc := 120) 2 dX10_digestPiece_120 rfl ?_
    refine V_lmul (pc := 122) dX10_digestPiece_122 ?_
    refine V_aload_n (pc := 123) 0 dX10_digestPiece_123 rfl ?_
    refine V_iload_n (pc := 124) 1 dX10_digestPiece_124 rfl ?_
    refine V_callV (pc := 125) (M' := mX10_widest) dX10_digestPiece_125 ml_X10_346 kv_X10_widest ko_X10_widest sh_0 (by decide) (by decide) rfl rfl (Nat.le_of_ble_eq_true rfl) (Nat.le_of_ble_eq_true rfl) (vX10_widest E  x3_1 σ_1 _  h) (kI (fun r125 s125 h => ?_))
    refine V_i2l (pc := 128) dX10_digestPiece_128 ?_
    refine V_ladd (pc := 129) dX10_digestPiece_129 ?_
    exact V_lret dX10_digestPiece_130 rfl h
theorem dX10_digest_0 : decode cX10_digest 0 = .ok (.ldc2_w 312, 3) := by decide +kernel
theorem dX10_digest_3 : decode cX10_digest 3 = .ok (.lstore_n 1, 1) := by decide +kernel
theorem dX10_digest_4 : decode cX10_digest 4 = .ok (.iconst 0, 1) := by decide +kernel
theorem dX10_digest_5 : decode cX10_digest 5 = .ok (.istore_n 3, 1) := by decide +kernel
theorem dX10_digest_6 : decode cX10_digest 6 = .ok (.iload_n 3, 1) := by decide +kernel
theorem dX10_digest_7 : decode cX10_digest 7 = .ok (.bipush 7, 2) := by decide +kernel
theorem dX10_digest_9 : decode cX10_digest 9 = .ok (.if_icmp .gt 22, 3) := by decide +kernel
theorem dX10_digest_12 : decode cX10_digest 12 = .ok (.ldc2_w 314, 3) := by decide +kernel
theorem dX10_digest_15 : decode cX10_digest 15 = .ok (.lload_n 1, 1) := by decide +kernel
theorem dX10_digest_16 : decode cX10_digest 16 = .ok (.lmul, 1) := by decide +kernel
theorem dX10_digest_17 : decode cX10_digest 17 = .ok (.aload_n 0, 1) := by decide +kernel
theorem dX10_digest_18 : decode cX10_digest 18 = .ok (.iload_n 3, 1) := by decide +kernel
theorem dX10_digest_19 : decode cX10_digest 19 = .ok (.invokevirtual 316, 3) := by decide +kernel
theorem dX10_digest_22 : decode cX10_digest 22 = .ok (.i2l, 1) := by decide +kernel
theorem dX10_digest_23 : decode cX10_digest 23 = .ok (.ladd, 1) := by decide +kernel
theorem dX10_digest_24 : decode cX10_digest 24 = .ok (.lstore_n 1, 1) := by decide +kernel
theorem dX10_digest_25 : decode cX10_digest 25 = .ok (.iinc 3 1, 3) := by decide +kernel
theorem dX10_digest_28 : decode cX10_digest 28 = .ok (.goto (-22), 3) := by decide +kernel
theorem dX10_digest_31 : decode cX10_digest 31 = .ok (.ldc2_w 314, 3) := by decide +kernel
theorem dX10_digest_34 : decode cX10_digest 34 = .ok (.lload_n 1, 1) := by decide +kernel
theorem dX10_digest_35 : decode cX10_digest 35 = .ok (.lmul, 1) := by decide +kernel
theorem dX10_digest_36 : decode cX10_digest 36 = .ok (.aload_n 0, 1) := by decide +kernel
theorem dX10_digest_37 : decode cX10_digest 37 = .ok (.bipush 9, 2) := by decide +kernel
theorem dX10_digest_39 : decode cX10_digest 39 = .ok (.invokevirtual 316, 3) := by decide +kernel
theorem dX10_digest_42 : decode cX10_digest 42 = .ok (.i2l, 1) := by decide +kernel
theorem dX10_digest_43 : decode cX10_digest 43 = .ok (.ladd, 1) := by decide +kernel
theorem dX10_digest_44 : decode cX10_digest 44 = .ok (.lstore_n 1, 1) := by decide +kernel
theorem dX10_digest_45 : decode cX10_digest 45 = .ok (.ldc2_w 314, 3) := by decide +kernel
theorem dX10_digest_48 : decode cX10_digest 48 = .ok (.lload_n 1, 1) := by decide +kernel
theorem dX10_digest_49 : decode cX10_digest 49 = .ok (.lmul, 1) := by decide +kernel
theorem dX10_digest_50 : decode cX10_digest 50 = .ok (.aload_n 0, 1) := by decide +kernel
theorem dX10_digest_51 : decode cX10_digest 51 = .ok (.bipush 10, 2) := by decide +kernel
theorem dX10_digest_53 : decode cX10_digest 53 = .ok (.invokevirtual 316, 3) := by decide +kernel
theorem dX10_digest_56 : decode cX10_digest 56 = .ok (.i2l, 1) := by decide +kernel
theorem dX10_digest_57 : decode cX10_digest 57 = .ok (.ladd, 1) := by decide +kernel
theorem dX10_digest_58 : decode cX10_digest 58 = .ok (.lstore_n 1, 1) := by decide +kernel
theorem dX10_digest_59 : decode cX10_digest 59 = .ok (.iconst 0, 1) := by decide +kernel
theorem dX10_digest_60 : decode cX10_digest 60 = .ok (.istore_n 3, 1) := by decide +kernel
theorem dX10_digest_61 : decode cX10_digest 61 = .ok (.iload_n 3, 1) := by decide +kernel
theorem dX10_digest_62 : decode cX10_digest 62 = .ok (.aload_n 0, 1) := by decide +kernel
theorem dX10_digest_63 : decode cX10_digest 63 = .ok (.getfield 12, 3) := by decide +kernel
theorem dX10_digest_66 : decode cX10_digest 66 = .ok (.getfield 82, 3) := by decide +kernel
theorem dX10_digest_69 : decode cX10_digest 69 = .ok (.if_icmp .ge 56, 3) := by decide +kernel
theorem dX10_digest_72 : decode cX10_digest 72 = .ok (.ldc2_w 314, 3) := by decide +kernel
theorem dX10_digest_75 : decode cX10_digest 75 = .ok (.lload_n 1, 1) := by decide +kernel
theorem dX10_digest_76 : decode cX10_digest 76 = .ok (.lmul, 1) := by decide +kernel
theorem dX10_digest_77 : decode cX10_digest 77 = .ok (.aload_n 0, 1) := by decide +kernel
theorem dX10_digest_78 : decode cX10_digest 78 = .ok (.getfield 12, 3) := by decide +kernel
theorem dX10_digest_81 : decode cX10_digest 81 = .ok (.getfield 319, 3) := by decide +kernel
theorem dX10_digest_84 : decode cX10_digest 84 = .ok (.iload_n 3, 1) := by decide +kernel
theorem dX10_digest_85 : decode cX10_digest 85 = .ok (.iaload, 1) := by decide +kernel
theorem dX10_digest_86 : decode cX10_digest 86 = .ok (.i2l, 1) := by decide +kernel
theorem dX10_digest_87 : decode cX10_digest 87 = .ok (.ladd, 1) := by decide +kernel
theorem dX10_digest_88 : decode cX10_digest 88 = .ok (.lstore_n 1, 1) := by decide +kernel
theorem dX10_digest_89 : decode cX10_digest 89 = .ok (.iconst 0, 1) := by decide +kernel
theorem dX10_digest_90 : decode cX10_digest 90 = .ok (.istore 4, 2) := by decide +kernel
theorem dX10_digest_92 : decode cX10_digest 92 = .ok (.iload 4, 2) := by decide +kernel
theorem dX10_digest_94 : decode cX10_digest 94 = .ok (.iconst 4, 1) := by decide +kernel
theorem dX10_digest_95 : decode cX10_digest 95 = .ok (.if_icmp .ge 24, 3) := by decide +kernel
theorem dX10_digest_98 : decode cX10_digest 98 = .ok (.ldc2_w 314, 3) := by decide +kernel
theorem dX10_digest_101 : decode cX10_digest 101 = .ok (.lload_n 1, 1) := by decide +kernel
theorem dX10_digest_102 : decode cX10_digest 102 = .ok (.lmul, 1) := by decide +kernel
theorem dX10_digest_103 : decode cX10_digest 103 = .ok (.aload_n 0, 1) := by decide +kernel
theorem dX10_digest_104 : decode cX10_digest 104 = .ok (.iload_n 3, 1) := by decide +kernel
theorem dX10_digest_105 : decode cX10_digest 105 = .ok (.iload 4, 2) := by decide +kernel
theorem dX10_digest_107 : decode cX10_digest 107 = .ok (.invokevirtual 322, 3) := by decide +kernel
theorem dX10_digest_110 : decode cX10_digest 110 = .ok (.i2l, 1) := by decide +kernel
theorem dX10_digest_111 : decode cX10_digest 111 = .ok (.ladd, 1) := by decide +kernel
theorem dX10_digest_112 : decode cX10_digest 112 = .ok (.lstore_n 1, 1) := by decide +kernel
theorem dX10_digest_113 : decode cX10_digest 113 = .ok (.iinc 4 1, 3) := by decide +kernel
theorem dX10_digest_116 : decode cX10_digest 116 = .ok (.goto (-24), 3) := by decide +kernel
theorem dX10_digest_119 : decode cX10_digest 119 = .ok (.iinc 3 1, 3) := by decide +kernel
theorem dX10_digest_122 : decode cX10_digest 122 = .ok (.goto (-61), 3) := by decide +kernel
theorem dX10_digest_125 : decode cX10_digest 125 = .ok (.iconst 0, 1) := by decide +kernel
theorem dX10_digest_126 : decode cX10_digest 126 = .ok (.istore_n 3, 1) := by decide +kernel
theorem dX10_digest_127 : decode cX10_digest 127 = .ok (.iload_n 3, 1) := by decide +kernel
theorem dX10_digest_128 : decode cX10_digest 128 = .ok (.iconst 4, 1) := by decide +kernel
theorem dX10_digest_129 : decode cX10_digest 129 = .ok (.if_icmp .ge 16, 3) := by decide +kernel
theorem dX10_digest_132 : decode cX10_digest 132 = .ok (.aload_n 0, 1) := by decide +kernel
theorem dX10_digest_133 : decode cX10_digest 133 = .ok (.lload_n 1, 1) := by decide +kernel
theorem dX10_digest_134 : decode cX10_digest 134 = .ok (.iload_n 3, 1) := by decide +kernel
theorem dX10_digest_135 : decode cX10_digest 135 = .ok (.invokevirtual 325, 3) := by decide +kernel
theorem dX10_digest_138 : decode cX10_digest 138 = .ok (.lstore_n 1, 1) := by decide +kernel
theorem dX10_digest_139 : decode cX10_digest 139 = .ok (.iinc 3 1, 3) := by decide +kernel
theorem dX10_digest_142 : decode cX10_digest 142 = .ok (.goto (-15), 3) := by decide +kernel
theorem dX10_digest_145 : decode cX10_digest 145 = .ok (.ldc2_w 314, 3) := by decide +kernel
theorem dX10_digest_148 : decode cX10_digest 148 = .ok (.lload_n 1, 1) := by decide +kernel
theorem dX10_digest_149 : decode cX10_digest 149 = .ok (.lmul, 1) := by decide +kernel
theorem dX10_digest_150 : decode cX10_digest 150 = .ok (.aload_n 0, 1) := by decide +kernel
theorem dX10_digest_151 : decode cX10_digest 151 = .ok (.invokevirtual 329, 3) := by decide +kernel
theorem dX10_digest_154 : decode cX10_digest 154 = .ok (.i2l, 1) := by decide +kernel
theorem dX10_digest_155 : decode cX10_digest 155 = .ok (.ladd, 1) := by decide +kernel
theorem dX10_digest_156 : decode cX10_digest 156 = .ok (.lreturn, 1) := by decide +kernel
def wX10_digest_6 (post : Int64 → Sto → Prop)  (K31 : Int64 → Sto → Prop) : Nat → Int64 → Int32 → Sto → Prop
  | 0, _, _, _ => False
  | n + 1, x1, x3, σ => ((((7 : Int32)) < x3) → (K31 x1 σ)) ∧ ((¬ (((7 : Int32)) < x3)) → (wX10_count  x3 σ (fun (r19 : Int32) (s19 : Sto) => wX10_digest_6 post  K31 n ((((31 : Int64)) * x1) + r19.toInt64) (x3 + (1 : Int32)) s19)))
set_option maxRecDepth 100000 in
set_option maxHeartbeats 4000000 in
theorem vX10_digest_6 (E : Ev) (post : Int64 → Sto → Prop)   (K31 : Int64 → Sto → Prop) (HK31 : ∀ (x1 : Int64) (σ : Sto), K31 x1 σ → V E 33 mX10_digest (pL post) 31 [(0, .ref 0), (1, .long x1)] [] σ) : ∀ (n : Nat) (x1 : Int64) (x3 : Int32) (σ : Sto), wX10_digest_6 post  K31 n x1 x3 σ → V E 33 mX10_digest (pL post) 6 [(0, .ref 0), (1, .long x1), (3, .int x3)] [] σ := by
  intro n
  induction n with
  | zero => intro x1 x3 σ h; exact h.elim
  | succ n ih =>
    intro x1 x3 σ h
    unfold wX10_digest_6 at h
    refine V_iload_n (pc := 6) 2 dX10_digest_6 rfl ?_
    refine V_bipush (pc := 7) (v := 7) dX10_digest_7 (by decide) ?_
    refine V_icmp_gt (pc := 9) (tgt := 31) dX10_digest_9 (by decide) (fun hc => ?_) (fun hc => ?_)
    · replace h := h.1 hc
      exact V_loc [0, 1] rfl (HK31 x1 σ  h)
    · replace h := h.2 hc
      refine V_ldc2 (pc := 12) dX10_digest_12 cl_X10_314 ?_
      refine V_lload_n (pc := 15) 1 dX10_digest_15 rfl ?_
      refine V_lmul (pc := 16) dX10_digest_16 ?_
      refine V_aload_n (pc := 17) 0 dX10_digest_17 rfl ?_
      refine V_iload_n (pc := 18) 2 dX10_digest_18 rfl ?_
      refine V_callV (pc := 19) (M' := mX10_count) dX10_digest_19 ml_X10_316 kv_X10_count ko_X10_count sh_0 (by decide) (by decide) rfl rfl (Nat.le_of_ble_eq_true rfl) (Nat.le_of_ble_eq_true rfl) (vX10_count E  x3 σ _  h) (kI (fun r19 s19 h => ?_))
      refine V_i2l (pc := 22) dX10_digest_22 ?_
      refine V_ladd (pc := 23) dX10_digest_23 ?_
      refine V_lstore_n (pc := 24) dX10_digest_24 (by decide) ?_
      refine V_iinc (pc := 25) 2 (v := 1) dX10_digest_25 rfl (by decide) (by decide) ?_
      refine V_goto (pc := 28) (tgt := 6) dX10_digest_28 (by decide) ?_
      exact V_loc [2, 1, 0] rfl (ih ((((31 : Int64)) * x1) + r19.toInt64) (x3 + (1 : Int32)) s19  h)
def wX10_digest_92 (post : Int64 → Sto → Prop)  (K119 : Int64 → Int32 → Sto → Prop) : Nat → Int64 → Int32 → Int32 → Sto → Prop
  | 0, _, _, _, _ => False
  | n + 1, x1, x3, x4, σ => ((((4 : Int32)) ≤ x4) → (K119 x1 x3 σ)) ∧ ((¬ (((4 : Int32)) ≤ x4)) → (wX10_told  x3 x4 σ (fun (r107 : Int32) (s107 : Sto) => wX10_digest_92 post  K119 n ((((31 : Int64)) * x1) + r107.toInt64) x3 (x4 + (1 : Int32)) s107)))
set_option maxRecDepth 100000 in
set_option maxHeartbeats 4000000 in
theorem vX10_digest_92 (E : Ev) (post : Int64 → Sto → Prop)   (K119 : Int64 → Int32 → Sto → Prop) (HK119 : ∀ (x1 : Int64) (x3 : Int32) (σ : Sto), K119 x1 x3 σ → V E 33 mX10_digest (pL post) 119 [(0, .ref 0), (1, .long x1), (3, .int x3)] [] σ) : ∀ (n : Nat) (x1 : Int64) (x3 : Int32) (x4 : Int32) (σ : Sto), wX10_digest_92 post  K119 n x1 x3 x4 σ → V E 33 mX10_digest (pL post) 92 [(0, .ref 0), (1, .long x1), (3, .int x3), (4, .int x4)] [] σ := by
  intro n
  induction n with
  | zero => intro x1 x3 x4 σ h; exact h.elim
  | succ n ih =>
    intro x1 x3 x4 σ h
    unfold wX10_digest_92 at h
    refine V_iload (pc := 92) 3 dX10_digest_92 rfl ?_
    refine V_iconst (pc := 94) (v := 4) dX10_digest_94 (by decide) ?_
    refine V_icmp_ge (pc := 95) (tgt := 119) dX10_digest_95 (by decide) (fun hc => ?_) (fun hc => ?_)
    · replace h := h.1 hc
      exact V_loc [0, 1, 2] rfl (HK119 x1 x3 σ  h)
    · replace h := h.2 hc
      refine V_ldc2 (pc := 98) dX10_digest_98 cl_X10_314 ?_
      refine V_lload_n (pc := 101) 1 dX10_digest_101 rfl ?_
      refine V_lmul (pc := 102) dX10_digest_102 ?_
      refine V_aload_n (pc := 103) 0 dX10_digest_103 rfl ?_
      refine V_iload_n (pc := 104) 2 dX10_digest_104 rfl ?_
      refine V_iload (pc := 105) 3 dX10_digest_105 rfl ?_
      refine V_callV (pc := 107) (M' := mX10_told) dX10_digest_107 ml_X10_322 kv_X10_told ko_X10_told sh_0 (by decide) (by decide) rfl rfl (Nat.le_of_ble_eq_true rfl) (Nat.le_of_ble_eq_true rfl) (vX10_told E  x3 x4 σ _  h) (kI (fun r107 s107 h => ?_))
      refine V_i2l (pc := 110) dX10_digest_110 ?_
      refine V_ladd (pc := 111) dX10_digest_111 ?_
      refine V_lstore_n (pc := 112) dX10_digest_112 (by decide) ?_
      refine V_iinc (pc := 113) 3 (v := 1) dX10_digest_113 rfl (by decide) (by decide) ?_
      refine V_goto (pc := 116) (tgt := 92) dX10_digest_116 (by decide) ?_
      exact V_loc [2, 1, 3, 0] rfl (ih ((((31 : Int64)) * x1) + r107.toInt64) x3 (x4 + (1 : Int32)) s107  h)
def wX10_digest_61 (post : Int64 → Sto → Prop)  (K125 : Int64 → Sto → Prop) : Nat → Int64 → Int32 → Sto → Prop
  | 0, _, _, _ => False
  | n + 1, x1, x3, σ => (((σ.1 1 2) ≤ x3) → (K125 x1 σ)) ∧ ((¬ ((σ.1 1 2) ≤ x3)) → (vp_in x3 14 ∧ (∃ n92, wX10_digest_92 post  (fun (x1_2 : Int64) (x3_2 : Int32) (σ_2 : Sto) => wX10_digest_61 post  K125 n x1_2 (x3_2 + (1 : Int32)) σ_2) n92 ((((31 : Int64)) * x1) + ((σ.1 14 x3.toNatClampNeg).toInt64)) x3 ((0 : Int32)) σ)))
set_option maxRecDepth 100000 in
set_option maxHeartbeats 4000000 in
theorem vX10_digest_61 (E : Ev) (post : Int64 → Sto → Prop)   (K125 : Int64 → Sto → Prop) (HK125 : ∀ (x1 : Int64) (σ : Sto), K125 x1 σ → V E 33 mX10_digest (pL post) 125 [(0, .ref 0), (1, .long x1)] [] σ) : ∀ (n : Nat) (x1 : Int64) (x3 : Int32) (σ : Sto), wX10_digest_61 post  K125 n x1 x3 σ → V E 33 mX10_digest (pL post) 61 [(0, .ref 0), (1, .long x1), (3, .int x3)] [] σ := by
  intro n
  induction n with
  | zero => intro x1 x3 σ h; exact h.elim
  | succ n ih =>
    intro x1 x3 σ h
    unfold wX10_digest_61 at h
    refine V_iload_n (pc := 61) 2 dX10_digest_61 rfl ?_
    refine V_aload_n (pc := 62) 0 dX10_digest_62 rfl ?_
    refine V_getR (pc := 63) dX10_digest_63 fl_X10_12 sh_0 rfl ?_
    refine V_getI (pc := 66) dX10_digest_66 fl_X10_82 sh_1 rfl ?_
    refine V_icmp_ge (pc := 69) (tgt := 125) dX10_digest_69 (by decide) (fun hc => ?_) (fun hc => ?_)
    · replace h := h.1 hc
      exact V_loc [0, 1] rfl (HK125 x1 σ  h)
    · replace h := h.2 hc
      refine V_ldc2 (pc := 72) dX10_digest_72 cl_X10_314 ?_
      refine V_lload_n (pc := 75) 1 dX10_digest_75 rfl ?_
      refine V_lmul (pc := 76) dX10_digest_76 ?_
      refine V_aload_n (pc := 77) 0 dX10_digest_77 rfl ?_
      refine V_getR (pc := 78) dX10_digest_78 fl_X10_12 sh_0 rfl ?_
      refine V_getR (pc := 81) dX10_digest_81 fl_X10_319 sh_1 rfl ?_
      refine V_iload_n (pc := 84) 2 dX10_digest_84 rfl ?_
      obtain ⟨i85, h⟩ := h
      refine V_iald (pc := 85) dX10_digest_85 sh_14 i85 ?_
      refine V_i2l (pc := 86) dX10_digest_86 ?_
      refine V_ladd (pc := 87) dX10_digest_87 ?_
      refine V_lstore_n (pc := 88) dX10_digest_88 (by decide) ?_
      refine V_iconst (pc := 89) (v := 0) dX10_digest_89 (by decide) ?_
      refine V_istore (pc := 90) dX10_digest_90 (by decide) ?_
      obtain ⟨n92, h⟩ := h
      refine V_loc [2, 1, 3, 0] rfl (vX10_digest_92 E post   _ (fun x1_2 x3_2 σ_2 h => ?_) n92 ((((31 : Int64)) * x1) + ((σ.1 14 x3.toNatClampNeg).toInt64)) x3 ((0 : Int32)) σ  h)
      · refine V_iinc (pc := 119) 2 (v := 1) dX10_digest_119 rfl (by decide) (by decide) ?_
        refine V_goto (pc := 122) (tgt := 61) dX10_digest_122 (by decide) ?_
        exact V_loc [1, 2, 0] rfl (ih x1_2 (x3_2 + (1 : Int32)) σ_2  h)
def wX10_digest_127 (post : Int64 → Sto → Prop)  (K145 : Int64 → Sto → Prop) : Nat → Int64 → Int32 → Sto → Prop
  | 0, _, _, _ => False
  | n + 1, x1, x3, σ => ((((4 : Int32)) ≤ x3) → (K145 x1 σ)) ∧ ((¬ (((4 : Int32)) ≤ x3)) → (wX10_digestPiece  x1 x3 σ (fun (r135 : Int64) (s135 : Sto) => wX10_digest_127 post  K145 n r135 (x3 + (1 : Int32)) s135)))
set_option maxRecDepth 100000 in
set_option maxHeartbeats 4000000 in
theorem vX10_digest_127 (E : Ev) (post : Int64 → Sto → Prop)   (K145 : Int64 → Sto → Prop) (HK145 : ∀ (x1 : Int64) (σ : Sto), K145 x1 σ → V E 33 mX10_digest (pL post) 145 [(0, .ref 0), (1, .long x1)] [] σ) : ∀ (n : Nat) (x1 : Int64) (x3 : Int32) (σ : Sto), wX10_digest_127 post  K145 n x1 x3 σ → V E 33 mX10_digest (pL post) 127 [(0, .ref 0), (1, .long x1), (3, .int x3)] [] σ := by
  intro n
  induction n with
  | zero => intro x1 x3 σ h; exact h.elim
  | succ n ih =>
    intro x1 x3 σ h
    unfold wX10_digest_127 at h
    refine V_iload_n (pc := 127) 2 dX10_digest_127 rfl ?_
    refine V_iconst (pc := 128) (v := 4) dX10_digest_128 (by decide) ?_
    refine V_icmp_ge (pc := 129) (tgt := 145) dX10_digest_129 (by decide) (fun hc => ?_) (fun hc => ?_)
    · replace h := h.1 hc
      exact V_loc [0, 1] rfl (HK145 x1 σ  h)
    · replace h := h.2 hc
      refine V_aload_n (pc := 132) 0 dX10_digest_132 rfl ?_
      refine V_lload_n (pc := 133) 1 dX10_digest_133 rfl ?_
      refine V_iload_n (pc := 134) 2 dX10_digest_134 rfl ?_
      refine V_callV (pc := 135) (M' := mX10_digestPiece) dX10_digest_135 ml_X10_325 kv_X10_digestPiece ko_X10_digestPiece sh_0 (by decide) (by decide) rfl rfl (Nat.le_of_ble_eq_true rfl) (Nat.le_of_ble_eq_true rfl) (vX10_digestPiece E  x1 x3 σ _  h) (kL (fun r135 s135 h => ?_))
      refine V_lstore_n (pc := 138) dX10_digest_138 (by decide) ?_
      refine V_iinc (pc := 139) 2 (v := 1) dX10_digest_139 rfl (by decide) (by decide) ?_
      refine V_goto (pc := 142) (tgt := 127) dX10_digest_142 (by decide) ?_
      exact V_loc [2, 1, 0] rfl (ih r135 (x3 + (1 : Int32)) s135  h)
def wX10_digest   (σ : Sto) (post : Int64 → Sto → Prop) : Prop := ∃ n6, wX10_digest_6 post  (fun (x1_1 : Int64) (σ_1 : Sto) => wX10_count  ((9 : Int32)) σ_1 (fun (r39 : Int32) (s39 : Sto) => wX10_count  ((10 : Int32)) s39 (fun (r53 : Int32) (s53 : Sto) => ∃ n61, wX10_digest_61 post  (fun (x1_3 : Int64) (σ_3 : Sto) => ∃ n127, wX10_digest_127 post  (fun (x1_4 : Int64) (σ_4 : Sto) => wX10_fault   σ_4 (fun (r151 : Int32) (s151 : Sto) => post ((((31 : Int64)) * x1_4) + r151.toInt64) s151)) n127 x1_3 ((0 : Int32)) σ_3) n61 ((((31 : Int64)) * ((((31 : Int64)) * x1_1) + r39.toInt64)) + r53.toInt64) ((0 : Int32)) s53))) n6 ((17 : Int64)) ((0 : Int32)) σ
set_option maxRecDepth 100000 in
set_option maxHeartbeats 4000000 in
theorem vX10_digest (E : Ev)   (σ : Sto) (post : Int64 → Sto → Prop)  (h : wX10_digest   σ post) : V E 33 mX10_digest (pL post) 0 [(0, .ref 0)] [] σ := by
  unfold wX10_digest at h
  refine V_ldc2 (pc := 0) dX10_digest_0 cl_X10_312 ?_
  refine V_lstore_n (pc := 3) dX10_digest_3 (by decide) ?_
  refine V_iconst (pc := 4) (v := 0) dX10_digest_4 (by decide) ?_
  refine V_istore_n (pc := 5) dX10_digest_5 (by decide) ?_
  obtain ⟨n6, h⟩ := h
  refine V_loc [2, 1, 0] rfl (vX10_digest_6 E post   _ (fun x1_1 σ_1 h => ?_) n6 ((17 : Int64)) ((0 : Int32)) σ  h)
  · refine V_ldc2 (pc := 31) dX10_digest_31 cl_X10_314 ?_
    refine V_lload_n (pc := 34) 1 dX10_digest_34 rfl ?_
    refine V_lmul (pc := 35) dX10_digest_35 ?_
    refine V_aload_n (pc := 36) 0 dX10_digest_36 rfl ?_
    refine V_bipush (pc := 37) (v := 9) dX10_digest_37 (by decide) ?_
    refine V_callV (pc := 39) (M' := mX10_count) dX10_digest_39 ml_X10_316 kv_X10_count ko_X10_count sh_0 (by decide) (by decide) rfl rfl (Nat.le_of_ble_eq_true rfl) (Nat.le_of_ble_eq_true rfl) (vX10_count E  ((9 : Int32)) σ_1 _  h) (kI (fun r39 s39 h => ?_))
    refine V_i2l (pc := 42) dX10_digest_42 ?_
    refine V_ladd (pc := 43) dX10_digest_43 ?_
    refine V_lstore_n (pc := 44) dX10_digest_44 (by decide) ?_
    refine V_ldc2 (pc := 45) dX10_digest_45 cl_X10_314 ?_
    refine V_lload_n (pc := 48) 0 dX10_digest_48 rfl ?_
    refine V_lmul (pc := 49) dX10_digest_49 ?_
    refine V_aload_n (pc := 50) 1 dX10_digest_50 rfl ?_
    refine V_bipush (pc := 51) (v := 10) dX10_digest_51 (by decide) ?_
    refine V_callV (pc := 53) (M' := mX10_count) dX10_digest_53 ml_X10_316 kv_X10_count ko_X10_count sh_0 (by decide) (by decide) rfl rfl (Nat.le_of_ble_eq_true rfl) (Nat.le_of_ble_eq_true rfl) (vX10_count E  ((10 : Int32)) s39 _  h) (kI (fun r53 s53 h => ?_))
    refine V_i2l (pc := 56) dX10_digest_56 ?_
    refine V_ladd (pc := 57) dX10_digest_57 ?_
    refine V_lstore_n (pc := 58) dX10_digest_58 (by decide) ?_
    refine V_iconst (pc := 59) (v := 0) dX10_digest_59 (by decide) ?_
    refine V_istore_n (pc := 60) dX10_digest_60 (by decide) ?_
    obtain ⟨n61, h⟩ := h
    refine V_loc [2, 1, 0] rfl (vX10_digest_61 E post   _ (fun x1_3 σ_3 h => ?_) n61 ((((31 : Int64)) * ((((31 : Int64)) * x1_1) + r39.toInt64)) + r53.toInt64) ((0 : Int32)) s53  h)
    · refine V_iconst (pc := 125) (v := 0) dX10_digest_125 (by decide) ?_
      refine V_istore_n (pc := 126) dX10_digest_126 (by decide) ?_
      obtain ⟨n127, h⟩ := h
      refine V_loc [1, 2, 0] rfl (vX10_digest_127 E post   _ (fun x1_4 σ_4 h => ?_) n127 x1_3 ((0 : Int32)) σ_3  h)
      · refine V_ldc2 (pc := 145) dX10_digest_145 cl_X10_314 ?_
        refine V_lload_n (pc := 148) 1 dX10_digest_148 rfl ?_
        refine V_lmul (pc := 149) dX10_digest_149 ?_
        refine V_aload_n (pc := 150) 0 dX10_digest_150 rfl ?_
        refine V_callV (pc := 151) (M' := mX10_fault) dX10_digest_151 ml_X10_329 kv_X10_fault ko_X10_fault sh_0 (by decide) (by decide) rfl rfl (Nat.le_of_ble_eq_true rfl) (Nat.le_of_ble_eq_true rfl) (vX10_fault E   σ_4 _  h) (kI (fun r151 s151 h => ?_))
        refine V_i2l (pc := 154) dX10_digest_154 ?_
        refine V_ladd (pc := 155) dX10_digest_155 ?_
        exact V_lret dX10_digest_156 rfl h

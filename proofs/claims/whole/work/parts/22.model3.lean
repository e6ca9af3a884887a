theorem dX11_finds_0 : decode cX11_finds 0 = .ok (.aload_n 0, 1) := by decide +kernel
theorem dX11_finds_1 : decode cX11_finds 1 = .ok (.iload_n 1, 1) := by decide +kernel
theorem dX11_finds_2 : decode cX11_finds 2 = .ok (.invokevirtual 224, 3) := by decide +kernel
theorem dX11_finds_5 : decode cX11_finds 5 = .ok (.aload_n 0, 1) := by decide +kernel
theorem dX11_finds_6 : decode cX11_finds 6 = .ok (.getfield 204, 3) := by decide +kernel
theorem dX11_finds_9 : decode cX11_finds 9 = .ok (.ifCond .ne 5, 3) := by decide +kernel
theorem dX11_finds_12 : decode cX11_finds 12 = .ok (.iconst 0, 1) := by decide +kernel
theorem dX11_finds_13 : decode cX11_finds 13 = .ok (.ireturn, 1) := by decide +kernel
theorem dX11_finds_14 : decode cX11_finds 14 = .ok (.iload_n 2, 1) := by decide +kernel
theorem dX11_finds_15 : decode cX11_finds 15 = .ok (.ifCond .ne 10, 3) := by decide +kernel
theorem dX11_finds_18 : decode cX11_finds 18 = .ok (.aload_n 0, 1) := by decide +kernel
theorem dX11_finds_19 : decode cX11_finds 19 = .ok (.invokevirtual 217, 3) := by decide +kernel
theorem dX11_finds_22 : decode cX11_finds 22 = .ok (.goto 34, 3) := by decide +kernel
theorem dX11_finds_25 : decode cX11_finds 25 = .ok (.iload_n 2, 1) := by decide +kernel
theorem dX11_finds_26 : decode cX11_finds 26 = .ok (.iconst 1, 1) := by decide +kernel
theorem dX11_finds_27 : decode cX11_finds 27 = .ok (.if_icmp .ne 11, 3) := by decide +kernel
theorem dX11_finds_30 : decode cX11_finds 30 = .ok (.aload_n 0, 1) := by decide +kernel
theorem dX11_finds_31 : decode cX11_finds 31 = .ok (.iload_n 1, 1) := by decide +kernel
theorem dX11_finds_32 : decode cX11_finds 32 = .ok (.invokevirtual 240, 3) := by decide +kernel
theorem dX11_finds_35 : decode cX11_finds 35 = .ok (.goto 21, 3) := by decide +kernel
theorem dX11_finds_38 : decode cX11_finds 38 = .ok (.iload_n 2, 1) := by decide +kernel
theorem dX11_finds_39 : decode cX11_finds 39 = .ok (.iconst 2, 1) := by decide +kernel
theorem dX11_finds_40 : decode cX11_finds 40 = .ok (.if_icmp .ne 11, 3) := by decide +kernel
theorem dX11_finds_43 : decode cX11_finds 43 = .ok (.aload_n 0, 1) := by decide +kernel
theorem dX11_finds_44 : decode cX11_finds 44 = .ok (.iload_n 1, 1) := by decide +kernel
theorem dX11_finds_45 : decode cX11_finds 45 = .ok (.invokevirtual 243, 3) := by decide +kernel
theorem dX11_finds_48 : decode cX11_finds 48 = .ok (.goto 8, 3) := by decide +kernel
theorem dX11_finds_51 : decode cX11_finds 51 = .ok (.aload_n 0, 1) := by decide +kernel
theorem dX11_finds_52 : decode cX11_finds 52 = .ok (.iload_n 1, 1) := by decide +kernel
theorem dX11_finds_53 : decode cX11_finds 53 = .ok (.invokevirtual 246, 3) := by decide +kernel
theorem dX11_finds_56 : decode cX11_finds 56 = .ok (.iconst 1, 1) := by decide +kernel
theorem dX11_finds_57 : decode cX11_finds 57 = .ok (.ireturn, 1) := by decide +kernel
def wX11_finds  (x1 : Int32) (x2 : Int32) (σ : Sto) (post : Bool → Sto → Prop) : Prop := wX11_rowOf  x1 σ (fun (s2 : Sto) => ((¬ (s2.1 67 23) = 0) → (((¬ x2 = 0) → (((¬ x2 = ((1 : Int32))) → (((¬ x2 = ((2 : Int32))) → (wX11_steps  x1 s2 (fun (s53 : Sto) => post true s53))) ∧ ((x2 = ((2 : Int32))) → (wX11_weighted  x1 s2 (fun (s45 : Sto) => post true s45))))) ∧ ((x2 = ((1 : Int32))) → (wX11_pairsOf  x1 s2 (fun (s32 : Sto) => post true s32))))) ∧ ((x2 = 0) → (wX11_middle   s2 (fun (s19 : Sto) => post true s19))))) ∧ (((s2.1 67 23) = 0) → (post false s2)))
set_option maxRecDepth 100000 in
set_option maxHeartbeats 4000000 in
theorem vX11_finds (E : Ev)  (x1 : Int32) (x2 : Int32) (σ : Sto) (post : Bool → Sto → Prop)  (h : wX11_finds  x1 x2 σ post) : V E 8 mX11_finds (pB post) 0 [(0, .ref 67), (1, .int x1), (2, .int x2)] [] σ := by
  unfold wX11_finds at h
  refine V_aload_n (pc := 0) 0 dX11_finds_0 rfl ?_
  refine V_iload_n (pc := 1) 1 dX11_finds_1 rfl ?_
  refine V_callV (pc := 2) (M' := mX11_rowOf) dX11_finds_2 ml_X11_224 kv_X11_rowOf ko_X11_rowOf sh_67 (by decide) (by decide) rfl rfl (Nat.le_of_ble_eq_true rfl) (Nat.le_of_ble_eq_true rfl) (vX11_rowOf E  x1 σ _  h) (kV (fun s2 h => ?_))
  refine V_aload_n (pc := 5) 0 dX11_finds_5 rfl ?_
  refine V_getI (pc := 6) dX11_finds_6 fl_X11_204 sh_67 rfl ?_
  refine V_if_ne (pc := 9) (tgt := 14) dX11_finds_9 (by decide) (fun hc => ?_) (fun hc => ?_)
  · replace h := h.1 hc
    refine V_iload_n (pc := 14) 2 dX11_finds_14 rfl ?_
    refine V_if_ne (pc := 15) (tgt := 25) dX11_finds_15 (by decide) (fun hc => ?_) (fun hc => ?_)
    · replace h := h.1 hc
      refine V_iload_n (pc := 25) 2 dX11_finds_25 rfl ?_
      refine V_iconst (pc := 26) (v := 1) dX11_finds_26 (by decide) ?_
      refine V_icmp_ne (pc := 27) (tgt := 38) dX11_finds_27 (by decide) (fun hc => ?_) (fun hc => ?_)
      · replace h := h.1 hc
        refine V_iload_n (pc := 38) 2 dX11_finds_38 rfl ?_
        refine V_iconst (pc := 39) (v := 2) dX11_finds_39 (by decide) ?_
        refine V_icmp_ne (pc := 40) (tgt := 51) dX11_finds_40 (by decide) (fun hc => ?_) (fun hc => ?_)
        · replace h := h.1 hc
          refine V_aload_n (pc := 51) 0 dX11_finds_51 rfl ?_
          refine V_iload_n (pc := 52) 1 dX11_finds_52 rfl ?_
          refine V_callV (pc := 53) (M' := mX11_steps) dX11_finds_53 ml_X11_246 kv_X11_steps ko_X11_steps sh_67 (by decide) (by decide) rfl rfl (Nat.le_of_ble_eq_true rfl) (Nat.le_of_ble_eq_true rfl) (vX11_steps E  x1 s2 _  h) (kV (fun s53 h => ?_))
          refine V_iconst (pc := 56) (v := 1) dX11_finds_56 (by decide) ?_
          exact V_zret true rfl dX11_finds_57 rfl h
        · replace h := h.2 hc
          refine V_aload_n (pc := 43) 0 dX11_finds_43 rfl ?_
          refine V_iload_n (pc := 44) 1 dX11_finds_44 rfl ?_
          refine V_callV (pc := 45) (M' := mX11_weighted) dX11_finds_45 ml_X11_243 kv_X11_weighted ko_X11_weighted sh_67 (by decide) (by decide) rfl rfl (Nat.le_of_ble_eq_true rfl) (Nat.le_of_ble_eq_true rfl) (vX11_weighted E  x1 s2 _  h) (kV (fun s45 h => ?_))
          refine V_goto (pc := 48) (tgt := 56) dX11_finds_48 (by decide) ?_
          refine V_iconst (pc := 56) (v := 1) dX11_finds_56 (by decide) ?_
          exact V_zret true rfl dX11_finds_57 rfl h
      · replace h := h.2 hc
        refine V_aload_n (pc := 30) 0 dX11_finds_30 rfl ?_
        refine V_iload_n (pc := 31) 1 dX11_finds_31 rfl ?_
        refine V_callV (pc := 32) (M' := mX11_pairsOf) dX11_finds_32 ml_X11_240 kv_X11_pairsOf ko_X11_pairsOf sh_67 (by decide) (by decide) rfl rfl (Nat.le_of_ble_eq_true rfl) (Nat.le_of_ble_eq_true rfl) (vX11_pairsOf E  x1 s2 _  h) (kV (fun s32 h => ?_))
        refine V_goto (pc := 35) (tgt := 56) dX11_finds_35 (by decide) ?_
        refine V_iconst (pc := 56) (v := 1) dX11_finds_56 (by decide) ?_
        exact V_zret true rfl dX11_finds_57 rfl h
    · replace h := h.2 hc
      refine V_aload_n (pc := 18) 0 dX11_finds_18 rfl ?_
      refine V_callV (pc := 19) (M' := mX11_middle) dX11_finds_19 ml_X11_217 kv_X11_middle ko_X11_middle sh_67 (by decide) (by decide) rfl rfl (Nat.le_of_ble_eq_true rfl) (Nat.le_of_ble_eq_true rfl) (vX11_middle E   s2 _  h) (kV (fun s19 h => ?_))
      refine V_goto (pc := 22) (tgt := 56) dX11_finds_22 (by decide) ?_
      refine V_iconst (pc := 56) (v := 1) dX11_finds_56 (by decide) ?_
      exact V_zret true rfl dX11_finds_57 rfl h
  · replace h := h.2 hc
    refine V_iconst (pc := 12) (v := 0) dX11_finds_12 (by decide) ?_
    exact V_zret false rfl dX11_finds_13 rfl h
theorem dX11_number_0 : decode cX11_number 0 = .ok (.iload_n 1, 1) := by decide +kernel
theorem dX11_number_1 : decode cX11_number 1 = .ok (.invokestatic 119, 3) := by decide +kernel
theorem dX11_number_4 : decode cX11_number 4 = .ok (.ifCond .eq 21, 3) := by decide +kernel
theorem dX11_number_7 : decode cX11_number 7 = .ok (.iload_n 2, 1) := by decide +kernel
theorem dX11_number_8 : decode cX11_number 8 = .ok (.iconst 0, 1) := by decide +kernel
theorem dX11_number_9 : decode cX11_number 9 = .ok (.iconst 3, 1) := by decide +kernel
theorem dX11_number_10 : decode cX11_number 10 = .ok (.invokestatic 104, 3) := by decide +kernel
theorem dX11_number_13 : decode cX11_number 13 = .ok (.ifCond .eq 12, 3) := by decide +kernel
theorem dX11_number_16 : decode cX11_number 16 = .ok (.iload_n 3, 1) := by decide +kernel
theorem dX11_number_17 : decode cX11_number 17 = .ok (.iconst 0, 1) := by decide +kernel
theorem dX11_number_18 : decode cX11_number 18 = .ok (.iconst 1, 1) := by decide +kernel
theorem dX11_number_19 : decode cX11_number 19 = .ok (.invokestatic 104, 3) := by decide +kernel
theorem dX11_number_22 : decode cX11_number 22 = .ok (.ifCond .ne 7, 3) := by decide +kernel
theorem dX11_number_25 : decode cX11_number 25 = .ok (.ldc2_w 249, 3) := by decide +kernel
theorem dX11_number_28 : decode cX11_number 28 = .ok (.lreturn, 1) := by decide +kernel
theorem dX11_number_29 : decode cX11_number 29 = .ok (.aload_n 0, 1) := by decide +kernel
theorem dX11_number_30 : decode cX11_number 30 = .ok (.iload_n 1, 1) := by decide +kernel
theorem dX11_number_31 : decode cX11_number 31 = .ok (.iload_n 2, 1) := by decide +kernel
theorem dX11_number_32 : decode cX11_number 32 = .ok (.invokevirtual 251, 3) := by decide +kernel
theorem dX11_number_35 : decode cX11_number 35 = .ok (.ifCond .eq 18, 3) := by decide +kernel
theorem dX11_number_38 : decode cX11_number 38 = .ok (.aload_n 0, 1) := by decide +kernel
theorem dX11_number_39 : decode cX11_number 39 = .ok (.getfield 207, 3) := by decide +kernel
theorem dX11_number_42 : decode cX11_number 42 = .ok (.aload_n 0, 1) := by decide +kernel
theorem dX11_number_43 : decode cX11_number 43 = .ok (.getfield 210, 3) := by decide +kernel
theorem dX11_number_46 : decode cX11_number 46 = .ok (.iload_n 3, 1) := by decide +kernel
theorem dX11_number_47 : decode cX11_number 47 = .ok (.invokestatic 254, 3) := by decide +kernel
theorem dX11_number_50 : decode cX11_number 50 = .ok (.goto 6, 3) := by decide +kernel
theorem dX11_number_53 : decode cX11_number 53 = .ok (.ldc2_w 258, 3) := by decide +kernel
theorem dX11_number_56 : decode cX11_number 56 = .ok (.lreturn, 1) := by decide +kernel
def wX11_number  (x1 : Int32) (x2 : Int32) (x3 : Int32) (σ : Sto) (post : Int64 → Sto → Prop) : Prop := wX11_isPiece  x1 σ (fun (r1 : Bool) (s1 : Sto) => ((r1 = false) → (post ((-9223372036854775806 : Int64)) s1)) ∧ ((r1 = true) → (wX11_in  x2 ((0 : Int32)) ((3 : Int32)) s1 (fun (r10 : Bool) (s10 : Sto) => ((r10 = false) → (post ((-9223372036854775806 : Int64)) s10)) ∧ ((r10 = true) → (wX11_in  x3 ((0 : Int32)) ((1 : Int32)) s10 (fun (r19 : Bool) (s19 : Sto) => ((r19 = true) → (wX11_finds  x1 x2 s19 (fun (r32 : Bool) (s32 : Sto) => ((r32 = false) → (post ((-9223372036854775805 : Int64)) s32)) ∧ ((r32 = true) → (wX11_lowest  (s32.2 67 25) (s32.2 67 26) x3 s32 (fun (r47 : Int64) (s47 : Sto) => post r47 s47)))))) ∧ ((r19 = false) → (post ((-9223372036854775806 : Int64)) s19)))))))))
set_option maxRecDepth 100000 in
set_option maxHeartbeats 4000000 in
theorem vX11_number (E : Ev)  (x1 : Int32) (x2 : Int32) (x3 : Int32) (σ : Sto) (post : Int64 → Sto → Prop)  (h : wX11_number  x1 x2 x3 σ post) : V E 9 mX11_number (pL post) 0 [(0, .ref 67), (1, .int x1), (2, .int x2), (3, .int x3)] [] σ := by
  unfold wX11_number at h
  refine V_iload_n (pc := 0) 1 dX11_number_0 rfl ?_
  refine V_callS (pc := 1) (M' := mX11_isPiece) dX11_number_1 ml_X11_119 ks_X11_isPiece ko_X11_isPiece (by decide) rfl (Nat.le_of_ble_eq_true rfl) (Nat.le_of_ble_eq_true rfl) (vX11_isPiece E  x1 σ _  h) (kB (fun r1 s1 h => ?_))
  refine V_ifz (pc := 4) (tgt := 25) dX11_number_4 (by decide) (fun hc => ?_) (fun hc => ?_)
  · replace h := h.1 hc
    refine V_ldc2 (pc := 25) dX11_number_25 cl_X11_249 ?_
    exact V_lret dX11_number_28 rfl h
  · replace h := h.2 hc
    refine V_iload_n (pc := 7) 2 dX11_number_7 rfl ?_
    refine V_iconst (pc := 8) (v := 0) dX11_number_8 (by decide) ?_
    refine V_iconst (pc := 9) (v := 3) dX11_number_9 (by decide) ?_
    refine V_callS (pc := 10) (M' := mX11_in) dX11_number_10 ml_X11_104 ks_X11_in ko_X11_in (by decide) rfl (Nat.le_of_ble_eq_true rfl) (Nat.le_of_ble_eq_true rfl) (vX11_in E  x2 ((0 : Int32)) ((3 : Int32)) s1 _  h) (kB (fun r10 s10 h => ?_))
    refine V_ifz (pc := 13) (tgt := 25) dX11_number_13 (by decide) (fun hc => ?_) (fun hc => ?_)
    · replace h := h.1 hc
      refine V_ldc2 (pc := 25) dX11_number_25 cl_X11_249 ?_
      exact V_lret dX11_number_28 rfl h
    · replace h := h.2 hc
      refine V_iload_n (pc := 16) 3 dX11_number_16 rfl ?_
      refine V_iconst (pc := 17) (v := 0) dX11_number_17 (by decide) ?_
      refine V_iconst (pc := 18) (v := 1) dX11_number_18 (by decide) ?_
      refine V_callS (pc := 19) (M' := mX11_in) dX11_number_19 ml_X11_104 ks_X11_in ko_X11_in (by decide) rfl (Nat.le_of_ble_eq_true rfl) (Nat.le_of_ble_eq_true rfl) (vX11_in E  x3 ((0 : Int32)) ((1 : Int32)) s10 _  h) (kB (fun r19 s19 h => ?_))
      refine V_ifnz (pc := 22) (tgt := 29) dX11_number_22 (by decide) (fun hc => ?_) (fun hc => ?_)
      · replace h := h.1 hc
        refine V_aload_n (pc := 29) 0 dX11_number_29 rfl ?_
        refine V_iload_n (pc := 30) 1 dX11_number_30 rfl ?_
        refine V_iload_n (pc := 31) 2 dX11_number_31 rfl ?_
        refine V_callV (pc := 32) (M' := mX11_finds) dX11_number_32 ml_X11_251 kv_X11_finds ko_X11_finds sh_67 (by decide) (by decide) rfl rfl (Nat.le_of_ble_eq_true rfl) (Nat.le_of_ble_eq_true rfl) (vX11_finds E  x1 x2 s19 _  h) (kB (fun r32 s32 h => ?_))
        refine V_ifz (pc := 35) (tgt := 53) dX11_number_35 (by decide) (fun hc => ?_) (fun hc => ?_)
        · replace h := h.1 hc
          refine V_ldc2 (pc := 53) dX11_number_53 cl_X11_258 ?_
          exact V_lret dX11_number_56 rfl h
        · replace h := h.2 hc
          refine V_aload_n (pc := 38) 0 dX11_number_38 rfl ?_
          refine V_getL (pc := 39) dX11_number_39 fl_X11_207 sh_67 rfl ?_
          refine V_aload_n (pc := 42) 0 dX11_number_42 rfl ?_
          refine V_getL (pc := 43) dX11_number_43 fl_X11_210 sh_67 rfl ?_
          refine V_iload_n (pc := 46) 3 dX11_number_46 rfl ?_
          refine V_callS (pc := 47) (M' := mX11_lowest) dX11_number_47 ml_X11_254 ks_X11_lowest ko_X11_lowest (by decide) rfl (Nat.le_of_ble_eq_true rfl) (Nat.le_of_ble_eq_true rfl) (vX11_lowest E  (s32.2 67 25) (s32.2 67 26) x3 s32 _  h) (kL (fun r47 s47 h => ?_))
          refine V_goto (pc := 50) (tgt := 56) dX11_number_50 (by decide) ?_
          exact V_lret dX11_number_56 rfl h
      · replace h := h.2 hc
        refine V_ldc2 (pc := 25) dX11_number_25 cl_X11_249 ?_
        exact V_lret dX11_number_28 rfl h
theorem dX11_markOf_0 : decode cX11_markOf 0 = .ok (.aload_n 0, 1) := by decide +kernel
theorem dX11_markOf_1 : decode cX11_markOf 1 = .ok (.iload_n 2, 1) := by decide +kernel
theorem dX11_markOf_2 : decode cX11_markOf 2 = .ok (.invokevirtual 246, 3) := by decide +kernel
theorem dX11_markOf_5 : decode cX11_markOf 5 = .ok (.aload_n 0, 1) := by decide +kernel
theorem dX11_markOf_6 : decode cX11_markOf 6 = .ok (.iload_n 1, 1) := by decide +kernel
theorem dX11_markOf_7 : decode cX11_markOf 7 = .ok (.iload_n 2, 1) := by decide +kernel
theorem dX11_markOf_8 : decode cX11_markOf 8 = .ok (.invokevirtual 164, 3) := by decide +kernel
theorem dX11_markOf_11 : decode cX11_markOf 11 = .ok (.aload_n 0, 1) := by decide +kernel
theorem dX11_markOf_12 : decode cX11_markOf 12 = .ok (.getfield 207, 3) := by decide +kernel
theorem dX11_markOf_15 : decode cX11_markOf 15 = .ok (.lsub, 1) := by decide +kernel
theorem dX11_markOf_16 : decode cX11_markOf 16 = .ok (.ldc2_w 260, 3) := by decide +kernel
theorem dX11_markOf_19 : decode cX11_markOf 19 = .ok (.lmul, 1) := by decide +kernel
theorem dX11_markOf_20 : decode cX11_markOf 20 = .ok (.ldc2_w 139, 3) := by decide +kernel
theorem dX11_markOf_23 : decode cX11_markOf 23 = .ok (.aload_n 0, 1) := by decide +kernel
theorem dX11_markOf_24 : decode cX11_markOf 24 = .ok (.getfield 13, 3) := by decide +kernel
theorem dX11_markOf_27 : decode cX11_markOf 27 = .ok (.iload_n 1, 1) := by decide +kernel
theorem dX11_markOf_28 : decode cX11_markOf 28 = .ok (.iaload, 1) := by decide +kernel
theorem dX11_markOf_29 : decode cX11_markOf 29 = .ok (.i2l, 1) := by decide +kernel
theorem dX11_markOf_30 : decode cX11_markOf 30 = .ok (.lmul, 1) := by decide +kernel
theorem dX11_markOf_31 : decode cX11_markOf 31 = .ok (.ldiv, 1) := by decide +kernel
theorem dX11_markOf_32 : decode cX11_markOf 32 = .ok (.l2i, 1) := by decide +kernel
theorem dX11_markOf_33 : decode cX11_markOf 33 = .ok (.ireturn, 1) := by decide +kernel
def wX11_markOf  (x1 : Int32) (x2 : Int32) (σ : Sto) (post : Int32 → Sto → Prop) : Prop := wX11_steps  x2 σ (fun (s2 : Sto) => wX11_toldOf  x1 x2 s2 (fun (r8 : Int64) (s8 : Sto) => vp_in x1 14 ∧ ((¬ (((1000 : Int64)) * ((s8.1 69 x1.toNatClampNeg).toInt64)) = 0) ∧ (post ((((r8 - (s8.2 67 25)) * ((100 : Int64))) / (((1000 : Int64)) * ((s8.1 69 x1.toNatClampNeg).toInt64))).toInt32) s8))))
set_option maxRecDepth 100000 in
set_option maxHeartbeats 4000000 in
theorem vX11_markOf (E : Ev)  (x1 : Int32) (x2 : Int32) (σ : Sto) (post : Int32 → Sto → Prop)  (h : wX11_markOf  x1 x2 σ post) : V E 8 mX11_markOf (pI post) 0 [(0, .ref 67), (1, .int x1), (2, .int x2)] [] σ := by
  unfold wX11_markOf at h
  refine V_aload_n (pc := 0) 0 dX11_markOf_0 rfl ?_
  refine V_iload_n (pc := 1) 2 dX11_markOf_1 rfl ?_
  refine V_callV (pc := 2) (M' := mX11_steps) dX11_markOf_2 ml_X11_246 kv_X11_steps ko_X11_steps sh_67 (by decide) (by decide) rfl rfl (Nat.le_of_ble_eq_true rfl) (Nat.le_of_ble_eq_true rfl) (vX11_steps E  x2 σ _  h) (kV (fun s2 h => ?_))
  refine V_aload_n (pc := 5) 0 dX11_markOf_5 rfl ?_
  refine V_iload_n (pc := 6) 1 dX11_markOf_6 rfl ?_
  refine V_iload_n (pc := 7) 2 dX11_markOf_7 rfl ?_
  refine V_callV (pc := 8) (M' := mX11_toldOf) dX11_markOf_8 ml_X11_164 kv_X11_toldOf ko_X11_toldOf sh_67 (by decide) (by decide) rfl rfl (Nat.le_of_ble_eq_true rfl) (Nat.le_of_ble_eq_true rfl) (vX11_toldOf E  x1 x2 s2 _  h) (kL (fun r8 s8 h => ?_))
  refine V_aload_n (pc := 11) 0 dX11_markOf_11 rfl ?_
  refine V_getL (pc := 12) dX11_markOf_12 fl_X11_207 sh_67 rfl ?_
  refine V_lsub (pc := 15) dX11_markOf_15 ?_
  refine V_ldc2 (pc := 16) dX11_markOf_16 cl_X11_260 ?_
  refine V_lmul (pc := 19) dX11_markOf_19 ?_
  refine V_ldc2 (pc := 20) dX11_markOf_20 cl_X11_139 ?_
  refine V_aload_n (pc := 23) 0 dX11_markOf_23 rfl ?_
  refine V_getR (pc := 24) dX11_markOf_24 fl_X11_13 sh_67 rfl ?_
  refine V_iload_n (pc := 27) 1 dX11_markOf_27 rfl ?_
  obtain ⟨i28, h⟩ := h
  refine V_iald (pc := 28) dX11_markOf_28 sh_69 i28 ?_
  refine V_i2l (pc := 29) dX11_markOf_29 ?_
  refine V_lmul (pc := 30) dX11_markOf_30 ?_
  obtain ⟨z31, h⟩ := h
  refine V_ldiv (pc := 31) dX11_markOf_31 z31 ?_
  refine V_l2i (pc := 32) dX11_markOf_32 ?_
  exact V_iret dX11_markOf_33 rfl h
theorem dX11_mark_0 : decode cX11_mark 0 = .ok (.aload_n 0, 1) := by decide +kernel
theorem dX11_mark_1 : decode cX11_mark 1 = .ok (.iload_n 1, 1) := by decide +kernel
theorem dX11_mark_2 : decode cX11_mark 2 = .ok (.invokevirtual 115, 3) := by decide +kernel
theorem dX11_mark_5 : decode cX11_mark 5 = .ok (.ifCond .eq 10, 3) := by decide +kernel
theorem dX11_mark_8 : decode cX11_mark 8 = .ok (.iload_n 2, 1) := by decide +kernel
theorem dX11_mark_9 : decode cX11_mark 9 = .ok (.invokestatic 119, 3) := by decide +kernel
theorem dX11_mark_12 : decode cX11_mark 12 = .ok (.ifCond .ne 6, 3) := by decide +kernel
theorem dX11_mark_15 : decode cX11_mark 15 = .ok (.ldc 156, 2) := by decide +kernel
theorem dX11_mark_17 : decode cX11_mark 17 = .ok (.ireturn, 1) := by decide +kernel
theorem dX11_mark_18 : decode cX11_mark 18 = .ok (.aload_n 0, 1) := by decide +kernel
theorem dX11_mark_19 : decode cX11_mark 19 = .ok (.iload_n 1, 1) := by decide +kernel
theorem dX11_mark_20 : decode cX11_mark 20 = .ok (.iload_n 2, 1) := by decide +kernel
theorem dX11_mark_21 : decode cX11_mark 21 = .ok (.invokevirtual 160, 3) := by decide +kernel
theorem dX11_mark_24 : decode cX11_mark 24 = .ok (.ifCond .eq 12, 3) := by decide +kernel
theorem dX11_mark_27 : decode cX11_mark 27 = .ok (.aload_n 0, 1) := by decide +kernel
theorem dX11_mark_28 : decode cX11_mark 28 = .ok (.iload_n 1, 1) := by decide +kernel
theorem dX11_mark_29 : decode cX11_mark 29 = .ok (.iload_n 2, 1) := by decide +kernel
theorem dX11_mark_30 : decode cX11_mark 30 = .ok (.invokevirtual 262, 3) := by decide +kernel
theorem dX11_mark_33 : decode cX11_mark 33 = .ok (.goto 5, 3) := by decide +kernel
theorem dX11_mark_36 : decode cX11_mark 36 = .ok (.ldc 168, 2) := by decide +kernel
theorem dX11_mark_38 : decode cX11_mark 38 = .ok (.ireturn, 1) := by decide +kernel
def wX11_mark  (x1 : Int32) (x2 : Int32) (σ : Sto) (post : Int32 → Sto → Prop) : Prop := wX11_isHouse  x1 σ (fun (r2 : Bool) (s2 : Sto) => ((r2 = false) → (post ((-2147483648 : Int32)) s2)) ∧ ((r2 = true) → (wX11_isPiece  x2 s2 (fun (r9 : Bool) (s9 : Sto) => ((r9 = true) → (wX11_takes  x1 x2 s9 (fun (r21 : Bool) (s21 : Sto) => ((r21 = false) → (post ((-2147483647 : Int32)) s21)) ∧ ((r21 = true) → (wX11_markOf  x1 x2 s21 (fun (r30 : Int32) (s30 : Sto) => post r30 s30)))))) ∧ ((r9 = false) → (post ((-2147483648 : Int32)) s9))))))
set_option maxRecDepth 100000 in
set_option maxHeartbeats 4000000 in
theorem vX11_mark (E : Ev)  (x1 : Int32) (x2 : Int32) (σ : Sto) (post : Int32 → Sto → Prop)  (h : wX11_mark  x1 x2 σ post) : V E 9 mX11_mark (pI post) 0 [(0, .ref 67), (1, .int x1), (2, .int x2)] [] σ := by
  unfold wX11_mark at h
  refine V_aload_n (pc := 0) 0 dX11_mark_0 rfl ?_
  refine V_iload_n (pc := 1) 1 dX11_mark_1 rfl ?_
  refine V_callV (pc := 2) (M' := mX11_isHouse) dX11_mark_2 ml_X11_115 kv_X11_isHouse ko_X11_isHouse sh_67 (by decide) (by decide) rfl rfl (Nat.le_of_ble_eq_true rfl) (Nat.le_of_ble_eq_true rfl) (vX11_isHouse E  x1 σ _  h) (kB (fun r2 s2 h => ?_))
  refine V_ifz (pc := 5) (tgt := 15) dX11_mark_5 (by decide) (fun hc => ?_) (fun hc => ?_)
  · replace h := h.1 hc
    refine V_ldc (pc := 15) dX11_mark_15 ci_X11_156 ?_
    exact V_iret dX11_mark_17 rfl h
  · replace h := h.2 hc
    refine V_iload_n (pc := 8) 2 dX11_mark_8 rfl ?_
    refine V_callS (pc := 9) (M' := mX11_isPiece) dX11_mark_9 ml_X11_119 ks_X11_isPiece ko_X11_isPiece (by decide) rfl (Nat.le_of_ble_eq_true rfl) (Nat.le_of_ble_eq_true rfl) (vX11_isPiece E  x2 s2 _  h) (kB (fun r9 s9 h => ?_))
    refine V_ifnz (pc := 12) (tgt := 18) dX11_mark_12 (by decide) (fun hc => ?_) (fun hc => ?_)
    · replace h := h.1 hc
      refine V_aload_n (pc := 18) 0 dX11_mark_18 rfl ?_
      refine V_iload_n (pc := 19) 1 dX11_mark_19 rfl ?_
      refine V_iload_n (pc := 20) 2 dX11_mark_20 rfl ?_
      refine V_callV (pc := 21) (M' := mX11_takes) dX11_mark_21 ml_X11_160 kv_X11_takes ko_X11_takes sh_67 (by decide) (by decide) rfl rfl (Nat.le_of_ble_eq_true rfl) (Nat.le_of_ble_eq_true rfl) (vX11_takes E  x1 x2 s9 _  h) (kB (fun r21 s21 h => ?_))
      refine V_ifz (pc := 24) (tgt := 36) dX11_mark_24 (by decide) (fun hc => ?_) (fun hc => ?_)
      · replace h := h.1 hc
        refine V_ldc (pc := 36) dX11_mark_36 ci_X11_168 ?_
        exact V_iret dX11_mark_38 rfl h
      · replace h := h.2 hc
        refine V_aload_n (pc := 27) 0 dX11_mark_27 rfl ?_
        refine V_iload_n (pc := 28) 1 dX11_mark_28 rfl ?_
        refine V_iload_n (pc := 29) 2 dX11_mark_29 rfl ?_
        refine V_callV (pc := 30) (M' := mX11_markOf) dX11_mark_30 ml_X11_262 kv_X11_markOf ko_X11_markOf sh_67 (by decide) (by decide) rfl rfl (Nat.le_of_ble_eq_true rfl) (Nat.le_of_ble_eq_true rfl) (vX11_markOf E  x1 x2 s21 _  h) (kI (fun r30 s30 h => ?_))
        refine V_goto (pc := 33) (tgt := 38) dX11_mark_33 (by decide) ?_
        exact V_iret dX11_mark_38 rfl h
    · replace h := h.2 hc
      refine V_ldc (pc := 15) dX11_mark_15 ci_X11_156 ?_
      exact V_iret dX11_mark_17 rfl h
theorem dX11_judged_0 : decode cX11_judged 0 = .ok (.aload_n 0, 1) := by decide +kernel
theorem dX11_judged_1 : decode cX11_judged 1 = .ok (.iload_n 1, 1) := by decide +kernel
theorem dX11_judged_2 : decode cX11_judged 2 = .ok (.invokevirtual 115, 3) := by decide +kernel
theorem dX11_judged_5 : decode cX11_judged 5 = .ok (.ifCond .eq 10, 3) := by decide +kernel
theorem dX11_judged_8 : decode cX11_judged 8 = .ok (.iload_n 2, 1) := by decide +kernel
theorem dX11_judged_9 : decode cX11_judged 9 = .ok (.invokestatic 119, 3) := by decide +kernel
theorem dX11_judged_12 : decode cX11_judged 12 = .ok (.ifCond .ne 6, 3) := by decide +kernel
theorem dX11_judged_15 : decode cX11_judged 15 = .ok (.bipush (-2), 2) := by decide +kernel
theorem dX11_judged_17 : decode cX11_judged 17 = .ok (.ireturn, 1) := by decide +kernel
theorem dX11_judged_18 : decode cX11_judged 18 = .ok (.aload_n 0, 1) := by decide +kernel
theorem dX11_judged_19 : decode cX11_judged 19 = .ok (.iload_n 1, 1) := by decide +kernel
theorem dX11_judged_20 : decode cX11_judged 20 = .ok (.iload_n 2, 1) := by decide +kernel
theorem dX11_judged_21 : decode cX11_judged 21 = .ok (.invokevirtual 160, 3) := by decide +kernel
theorem dX11_judged_24 : decode cX11_judged 24 = .ok (.ifCond .ne 6, 3) := by decide +kernel
theorem dX11_judged_27 : decode cX11_judged 27 = .ok (.bipush (-3), 2) := by decide +kernel
theorem dX11_judged_29 : decode cX11_judged 29 = .ok (.ireturn, 1) := by decide +kernel
theorem dX11_judged_30 : decode cX11_judged 30 = .ok (.aload_n 0, 1) := by decide +kernel
theorem dX11_judged_31 : decode cX11_judged 31 = .ok (.iload_n 1, 1) := by decide +kernel
theorem dX11_judged_32 : decode cX11_judged 32 = .ok (.iload_n 2, 1) := by decide +kernel
theorem dX11_judged_33 : decode cX11_judged 33 = .ok (.invokevirtual 262, 3) := by decide +kernel
theorem dX11_judged_36 : decode cX11_judged 36 = .ok (.i2l, 1) := by decide +kernel
theorem dX11_judged_37 : decode cX11_judged 37 = .ok (.invokestatic 94, 3) := by decide +kernel
theorem dX11_judged_40 : decode cX11_judged 40 = .ok (.lstore_n 3, 1) := by decide +kernel
theorem dX11_judged_41 : decode cX11_judged 41 = .ok (.lload_n 3, 1) := by decide +kernel
theorem dX11_judged_42 : decode cX11_judged 42 = .ok (.ldc2_w 265, 3) := by decide +kernel
theorem dX11_judged_45 : decode cX11_judged 45 = .ok (.lcmp, 1) := by decide +kernel
theorem dX11_judged_46 : decode cX11_judged 46 = .ok (.ifCond .gt 7, 3) := by decide +kernel
theorem dX11_judged_49 : decode cX11_judged 49 = .ok (.iconst 0, 1) := by decide +kernel
theorem dX11_judged_50 : decode cX11_judged 50 = .ok (.goto 16, 3) := by decide +kernel
theorem dX11_judged_53 : decode cX11_judged 53 = .ok (.lload_n 3, 1) := by decide +kernel
theorem dX11_judged_54 : decode cX11_judged 54 = .ok (.ldc2_w 267, 3) := by decide +kernel
theorem dX11_judged_57 : decode cX11_judged 57 = .ok (.lcmp, 1) := by decide +kernel
theorem dX11_judged_58 : decode cX11_judged 58 = .ok (.ifCond .le 7, 3) := by decide +kernel
theorem dX11_judged_61 : decode cX11_judged 61 = .ok (.iconst 2, 1) := by decide +kernel
theorem dX11_judged_62 : decode cX11_judged 62 = .ok (.goto 4, 3) := by decide +kernel
theorem dX11_judged_65 : decode cX11_judged 65 = .ok (.iconst 1, 1) := by decide +kernel
theorem dX11_judged_66 : decode cX11_judged 66 = .ok (.ireturn, 1) := by decide +kernel
def wX11_judged  (x1 : Int32) (x2 : Int32) (σ : Sto) (post : Int32 → Sto → Prop) : Prop := wX11_isHouse  x1 σ (fun (r2 : Bool) (s2 : Sto) => ((r2 = false) → (post ((-2 : Int32)) s2)) ∧ ((r2 = true) → (wX11_isPiece  x2 s2 (fun (r9 : Bool) (s9 : Sto) => ((r9 = true) → (wX11_takes  x1 x2 s9 (fun (r21 : Bool) (s21 : Sto) => ((r21 = true) → (wX11_markOf  x1 x2 s21 (fun (r33 : Int32) (s33 : Sto) => wX11_amount  r33.toInt64 s33 (fun (r37 : Int64) (s37 : Sto) => ((((200 : Int64)) < r37) → (((r37 ≤ ((300 : Int64))) → (post ((1 : Int32)) s37)) ∧ ((¬ (r37 ≤ ((300 : Int64)))) → (post ((2 : Int32)) s37)))) ∧ ((¬ (((200 : Int64)) < r37)) → (post ((0 : Int32)) s37)))))) ∧ ((r21 = false) → (post ((-3 : Int32)) s21))))) ∧ ((r9 = false) → (post ((-2 : Int32)) s9))))))
set_option maxRecDepth 100000 in
set_option maxHeartbeats 4000000 in
theorem vX11_judged (E : Ev)  (x1 : Int32) (x2 : Int32) (σ : Sto) (post : Int32 → Sto → Prop)  (h : wX11_judged  x1 x2 σ post) : V E 9 mX11_judged (pI post) 0 [(0, .ref 67), (1, .int x1), (2, .int x2)] [] σ := by
  unfold wX11_judged at h
  refine V_aload_n (pc := 0) 0 dX11_judged_0 rfl ?_
  refine V_iload_n (pc := 1) 1 dX11_judged_1 rfl ?_
  refine V_callV (pc := 2) (M' := mX11_isHouse) dX11_judged_2 ml_X11_115 kv_X11_isHouse ko_X11_isHouse sh_67 (by decide) (by decide) rfl rfl (Nat.le_of_ble_eq_true rfl) (Nat.le_of_ble_eq_true rfl) (vX11_isHouse E  x1 σ _  h) (kB (fun r2 s2 h => ?_))
  refine V_ifz (pc := 5) (tgt := 15) dX11_judged_5 (by decide) (fun hc => ?_) (fun hc => ?_)
  · replace h := h.1 hc
    refine V_bipush (pc := 15) (v := -2) dX11_judged_15 (by decide) ?_
    exact V_iret dX11_judged_17 rfl h
  · replace h := h.2 hc
    refine V_iload_n (pc := 8) 2 dX11_judged_8 rfl ?_
    refine V_callS (pc := 9) (M' := mX11_isPiece) dX11_judged_9 ml_X11_119 ks_X11_isPiece ko_X11_isPiece (by decide) rfl (Nat.le_of_ble_eq_true rfl) (Nat.le_of_ble_eq_true rfl) (vX11_isPiece E  x2 s2 _  h) (kB (fun r9 s9 h => ?_))
    refine V_ifnz (pc := 12) (tgt := 18) dX11_judged_12 (by decide) (fun hc => ?_) (fun hc => ?_)
    · replace h := h.1 hc
      refine V_aload_n (pc := 18) 0 dX11_judged_18 rfl ?_
      refine V_iload_n (pc := 19) 1 dX11_judged_19 rfl ?_
      refine V_iload_n (pc := 20) 2 dX11_judged_20 rfl ?_
      refine V_callV (pc := 21) (M' := mX11_takes) dX11_judged_21 ml_X11_160 kv_X11_takes ko_X11_takes sh_67 (by decide) (by decide) rfl rfl (Nat.le_of_ble_eq_true rfl) (Nat.le_of_ble_eq_true rfl) (vX11_takes E  x1 x2 s9 _  h) (kB (fun r21 s21 h => ?_))
      refine V_ifnz (pc := 24) (tgt := 30) dX11_judged_24 (by decide) (fun hc => ?_) (fun hc => ?_)
      · replace h := h.1 hc
        refine V_aload_n (pc := 30) 0 dX11_judged_30 rfl ?_
        refine V_iload_n (pc := 31) 1 dX11_judged_31 rfl ?_
        refine V_iload_n (pc := 32) 2 dX11_judged_32 rfl ?_
        refine V_callV (pc := 33) (M' := mX11_markOf) dX11_judged_33 ml_X11_262 kv_X11_markOf ko_X11_markOf sh_67 (by decide) (by decide) rfl rfl (Nat.le_of_ble_eq_true rfl) (Nat.le_of_ble_eq_true rfl) (vX11_markOf E  x1 x2 s21 _  h) (kI (fun r33 s33 h => ?_))
        refine V_i2l (pc := 36) dX11_judged_36 ?_
        refine V_callS (pc := 37) (M' := mX11_amount) dX11_judged_37 ml_X11_94 ks_X11_amount ko_X11_amount (by decide) rfl (Nat.le_of_ble_eq_true rfl) (Nat.le_of_ble_eq_true rfl) (vX11_amount E  r33.toInt64 s33 _  h) (kL (fun r37 s37 h => ?_))
        refine V_lstore_n (pc := 40) dX11_judged_40 (by decide) ?_
        refine V_lload_n (pc := 41) 0 dX11_judged_41 rfl ?_
        refine V_ldc2 (pc := 42) dX11_judged_42 cl_X11_265 ?_
        refine V_lc_gt (pc := 45) (tgt := 53) dX11_judged_45 dX11_judged_46 (by decide) (fun hc => ?_) (fun hc => ?_)
        · replace h := h.1 hc
          refine V_lload_n (pc := 53) 0 dX11_judged_53 rfl ?_
          refine V_ldc2 (pc := 54) dX11_judged_54 cl_X11_267 ?_
          refine V_lc_le (pc := 57) (tgt := 65) dX11_judged_57 dX11_judged_58 (by decide) (fun hc => ?_) (fun hc => ?_)
          · replace h := h.1 hc
            refine V_iconst (pc := 65) (v := 1) dX11_judged_65 (by decide) ?_
            exact V_iret dX11_judged_66 rfl h
          · replace h := h.2 hc
            refine V_iconst (pc := 61) (v := 2) dX11_judged_61 (by decide) ?_
            refine V_goto (pc := 62) (tgt := 66) dX11_judged_62 (by decide) ?_
            exact V_iret dX11_judged_66 rfl h
        · replace h := h.2 hc
          refine V_iconst (pc := 49) (v := 0) dX11_judged_49 (by decide) ?_
          refine V_goto (pc := 50) (tgt := 66) dX11_judged_50 (by decide) ?_
          exact V_iret dX11_judged_66 rfl h
      · replace h := h.2 hc
        refine V_bipush (pc := 27) (v := -3) dX11_judged_27 (by decide) ?_
        exact V_iret dX11_judged_29 rfl h
    · replace h := h.2 hc
      refine V_bipush (pc := 15) (v := -2) dX11_judged_15 (by decide) ?_
      exact V_iret dX11_judged_17 rfl h
theorem dX11_run_0 : decode cX11_run 0 = .ok (.aload_n 0, 1) := by decide +kernel
theorem dX11_run_1 : decode cX11_run 1 = .ok (.iload_n 1, 1) := by decide +kernel
theorem dX11_run_2 : decode cX11_run 2 = .ok (.invokevirtual 115, 3) := by decide +kernel
theorem dX11_run_5 : decode cX11_run 5 = .ok (.ifCond .ne 6, 3) := by decide +kernel
theorem dX11_run_8 : decode cX11_run 8 = .ok (.bipush (-2), 2) := by decide +kernel
theorem dX11_run_10 : decode cX11_run 10 = .ok (.ireturn, 1) := by decide +kernel
theorem dX11_run_11 : decode cX11_run 11 = .ok (.iconst 0, 1) := by decide +kernel
theorem dX11_run_12 : decode cX11_run 12 = .ok (.istore_n 2, 1) := by decide +kernel
theorem dX11_run_13 : decode cX11_run 13 = .ok (.iconst 0, 1) := by decide +kernel
theorem dX11_run_14 : decode cX11_run 14 = .ok (.istore_n 3, 1) := by decide +kernel
theorem dX11_run_15 : decode cX11_run 15 = .ok (.iconst 0, 1) := by decide +kernel
theorem dX11_run_16 : decode cX11_run 16 = .ok (.istore 4, 2) := by decide +kernel
theorem dX11_run_18 : decode cX11_run 18 = .ok (.iconst 0, 1) := by decide +kernel
theorem dX11_run_19 : decode cX11_run 19 = .ok (.istore 5, 2) := by decide +kernel
theorem dX11_run_21 : decode cX11_run 21 = .ok (.iload 5, 2) := by decide +kernel
theorem dX11_run_23 : decode cX11_run 23 = .ok (.iconst 4, 1) := by decide +kernel
theorem dX11_run_24 : decode cX11_run 24 = .ok (.if_icmp .ge 88, 3) := by decide +kernel
theorem dX11_run_27 : decode cX11_run 27 = .ok (.aload_n 0, 1) := by decide +kernel
theorem dX11_run_28 : decode cX11_run 28 = .ok (.iload_n 1, 1) := by decide +kernel
theorem dX11_run_29 : decode cX11_run 29 = .ok (.iload 5, 2) := by decide +kernel
theorem dX11_run_31 : decode cX11_run 31 = .ok (.invokevirtual 160, 3) := by decide +kernel
theorem dX11_run_34 : decode cX11_run 34 = .ok (.ifCond .eq 72, 3) := by decide +kernel
theorem dX11_run_37 : decode cX11_run 37 = .ok (.aload_n 0, 1) := by decide +kernel
theorem dX11_run_38 : decode cX11_run 38 = .ok (.iload_n 1, 1) := by decide +kernel
theorem dX11_run_39 : decode cX11_run 39 = .ok (.iload 5, 2) := by decide +kernel
theorem dX11_run_41 : decode cX11_run 41 = .ok (.invokevirtual 262, 3) := by decide +kernel
theorem dX11_run_44 : decode cX11_run 44 = .ok (.istore 6, 2) := by decide +kernel
theorem dX11_run_46 : decode cX11_run 46 = .ok (.iload 6, 2) := by decide +kernel
theorem dX11_run_48 : decode cX11_run 48 = .ok (.ifCond .le 7, 3) := by decide +kernel
theorem dX11_run_51 : decode cX11_run 51 = .ok (.iconst 1, 1) := by decide +kernel
theorem dX11_run_52 : decode cX11_run 52 = .ok (.goto 13, 3) := by decide +kernel
theorem dX11_run_55 : decode cX11_run 55 = .ok (.iload 6, 2) := by decide +kernel
theorem dX11_run_57 : decode cX11_run 57 = .ok (.ifCond .ge 7, 3) := by decide +kernel
theorem dX11_run_60 : decode cX11_run 60 = .ok (.iconst (-1), 1) := by decide +kernel
theorem dX11_run_61 : decode cX11_run 61 = .ok (.goto 4, 3) := by decide +kernel
theorem dX11_run_64 : decode cX11_run 64 = .ok (.iconst 0, 1) := by decide +kernel
theorem dX11_run_65 : decode cX11_run 65 = .ok (.istore 7, 2) := by decide +kernel
theorem dX11_run_67 : decode cX11_run 67 = .ok (.iload 7, 2) := by decide +kernel
theorem dX11_run_69 : decode cX11_run 69 = .ok (.ifCond .ne 7, 3) := by decide +kernel
theorem dX11_run_72 : decode cX11_run 72 = .ok (.iconst 0, 1) := by decide +kernel
theorem dX11_run_73 : decode cX11_run 73 = .ok (.goto 17, 3) := by decide +kernel
theorem dX11_run_76 : decode cX11_run 76 = .ok (.iload 7, 2) := by decide +kernel
theorem dX11_run_78 : decode cX11_run 78 = .ok (.iload 4, 2) := by decide +kernel
theorem dX11_run_80 : decode cX11_run 80 = .ok (.if_icmp .ne 9, 3) := by decide +kernel
theorem dX11_run_83 : decode cX11_run 83 = .ok (.iload_n 3, 1) := by decide +kernel
theorem dX11_run_84 : decode cX11_run 84 = .ok (.iconst 1, 1) := by decide +kernel
theorem dX11_run_85 : decode cX11_run 85 = .ok (.iadd, 1) := by decide +kernel
theorem dX11_run_86 : decode cX11_run 86 = .ok (.goto 4, 3) := by decide +kernel
theorem dX11_run_89 : decode cX11_run 89 = .ok (.iconst 1, 1) := by decide +kernel
theorem dX11_run_90 : decode cX11_run 90 = .ok (.istore_n 3, 1) := by decide +kernel
theorem dX11_run_91 : decode cX11_run 91 = .ok (.iload 7, 2) := by decide +kernel
theorem dX11_run_93 : decode cX11_run 93 = .ok (.istore 4, 2) := by decide +kernel
theorem dX11_run_95 : decode cX11_run 95 = .ok (.iload_n 3, 1) := by decide +kernel
theorem dX11_run_96 : decode cX11_run 96 = .ok (.iload_n 2, 1) := by decide +kernel
theorem dX11_run_97 : decode cX11_run 97 = .ok (.if_icmp .le 7, 3) := by decide +kernel
theorem dX11_run_100 : decode cX11_run 100 = .ok (.iload_n 3, 1) := by decide +kernel
theorem dX11_run_101 : decode cX11_run 101 = .ok (.goto 4, 3) := by decide +kernel
theorem dX11_run_104 : decode cX11_run 104 = .ok (.iload_n 2, 1) := by decide +kernel
theorem dX11_run_105 : decode cX11_run 105 = .ok (.istore_n 2, 1) := by decide +kernel
theorem dX11_run_106 : decode cX11_run 106 = .ok (.iinc 5 1, 3) := by decide +kernel
theorem dX11_run_109 : decode cX11_run 109 = .ok (.goto (-88), 3) := by decide +kernel
theorem dX11_run_112 : decode cX11_run 112 = .ok (.iload_n 2, 1) := by decide +kernel
theorem dX11_run_113 : decode cX11_run 113 = .ok (.ireturn, 1) := by decide +kernel
def wX11_run_105 (post : Int32 → Sto → Prop)  (K21 : Int32 → Int32 → Int32 → Int32 → Int32 → Sto → Prop) (x1 : Int32) (x3 : Int32) (x4 : Int32) (x5 : Int32) (y0 : Int32) (σ : Sto) : Prop := K21 x1 y0 x3 x4 (x5 + (1 : Int32)) σ
set_option maxRecDepth 100000 in
set_option maxHeartbeats 4000000 in
theorem vX11_run_105 (E : Ev) (post : Int32 → Sto → Prop)   (K21 : Int32 → Int32 → Int32 → Int32 → Int32 → Sto → Prop) (HK21 : ∀ (x1 : Int32) (x2 : Int32) (x3 : Int32) (x4 : Int32) (x5 : Int32) (σ : Sto), K21 x1 x2 x3 x4 x5 σ → V E 9 mX11_run (pI post) 21 [(0, .ref 67), (1, .int x1), (2, .int x2), (3, .int x3), (4, .int x4), (5, .int x5)] [] σ) (x1 : Int32) (x3 : Int32) (x4 : Int32) (x5 : Int32) (y0 : Int32) (σ : Sto) (h : wX11_run_105 post  K21 x1 x3 x4 x5 y0 σ) : V E 9 mX11_run (pI post) 105 [(0, .ref 67), (1, .int x1), (3, .int x3), (4, .int x4), (5, .int x5)] [.int y0] σ := by
  unfold wX11_run_105 at h
  refine V_istore_n (pc := 105) dX11_run_105 (by decide) ?_
  refine V_iinc (pc := 106) 5 (v := 1) dX11_run_106 rfl (by decide) (by decide) ?_
  refine V_goto (pc := 109) (tgt := 21) dX11_run_109 (by decide) ?_
  exact V_loc [2, 3, 1, 4, 5, 0] rfl (HK21 x1 y0 x3 x4 (x5 + (1 : Int32)) σ  h)
def wX11_run_90 (post : Int32 → Sto → Prop)  (K21 : Int32 → Int32 → Int32 → Int32 → Int32 → Sto → Prop) (x1 : Int32) (x2 : Int32) (x5 : Int32) (x7 : Int32) (y0 : Int32) (σ : Sto) : Prop := ((y0 ≤ x2) → (wX11_run_105 post  K21 x1 y0 x7 x5 x2 σ)) ∧ ((¬ (y0 ≤ x2)) → (wX11_run_105 post  K21 x1 y0 x7 x5 y0 σ))
set_option maxRecDepth 100000 in
set_option maxHeartbeats 4000000 in
theorem vX11_run_90 (E : Ev) (post : Int32 → Sto → Prop)   (K21 : Int32 → Int32 → Int32 → Int32 → Int32 → Sto → Prop) (HK21 : ∀ (x1 : Int32) (x2 : Int32) (x3 : Int32) (x4 : Int32) (x5 : Int32) (σ : Sto), K21 x1 x2 x3 x4 x5 σ → V E 9 mX11_run (pI post) 21 [(0, .ref 67), (1, .int x1), (2, .int x2), (3, .int x3), (4, .int x4), (5, .int x5)] [] σ) (x1 : Int32) (x2 : Int32) (x5 : Int32) (x7 : Int32) (y0 : Int32) (σ : Sto) (h : wX11_run_90 post  K21 x1 x2 x5 x7 y0 σ) : V E 9 mX11_run (pI post) 90 [(0, .ref 67), (1, .int x1), (2, .int x2), (5, .int x5), (7, .int x7)] [.int y0] σ := by
  unfold wX11_run_90 at h
  refine V_istore_n (pc := 90) dX11_run_90 (by decide) ?_
  refine V_iload (pc := 91) 5 dX11_run_91 rfl ?_
  refine V_istore (pc := 93) dX11_run_93 (by decide) ?_
  refine V_iload_n (pc := 95) 1 dX11_run_95 rfl ?_
  refine V_iload_n (pc := 96) 4 dX11_run_96 rfl ?_
  refine V_icmp_le (pc := 97) (tgt := 104) dX11_run_97 (by decide) (fun hc => ?_) (fun hc => ?_)
  · replace h := h.1 hc
    refine V_iload_n (pc := 104) 4 dX11_run_104 rfl ?_
    refine V_loc [2, 3, 1, 0, 5] rfl (vX11_run_105 E post   K21 HK21 x1 y0 x7 x5 x2 σ  h)
  · replace h := h.2 hc
    refine V_iload_n (pc := 100) 1 dX11_run_100 rfl ?_
    refine V_goto (pc := 101) (tgt := 105) dX11_run_101 (by decide) ?_
    refine V_loc [2, 3, 1, 0, 5] rfl (vX11_run_105 E post   K21 HK21 x1 y0 x7 x5 y0 σ  h)
def wX11_run_65 (post : Int32 → Sto → Prop)  (K21 : Int32 → Int32 → Int32 → Int32 → Int32 → Sto → Prop) (x1 : Int32) (x2 : Int32) (x3 : Int32) (x4 : Int32) (x5 : Int32) (y0 : Int32) (σ : Sto) : Prop := ((¬ y0 = 0) → (((¬ y0 = x4) → (wX11_run_90 post  K21 x1 x2 x5 y0 ((1 : Int32)) σ)) ∧ ((y0 = x4) → (wX11_run_90 post  K21 x1 x2 x5 y0 (x3 + ((1 : Int32))) σ)))) ∧ ((y0 = 0) → (wX11_run_90 post  K21 x1 x2 x5 y0 ((0 : Int32)) σ))
set_option maxRecDepth 100000 in
set_option maxHeartbeats 4000000 in
theorem vX11_run_65 (E : Ev) (post : Int32 → Sto → Prop)   (K21 : Int32 → Int32 → Int32 → Int32 → Int32 → Sto → Prop) (HK21 : ∀ (x1 : Int32) (x2 : Int32) (x3 : Int32) (x4 : Int32) (x5 : Int32) (σ : Sto), K21 x1 x2 x3 x4 x5 σ → V E 9 mX11_run (pI post) 21 [(0, .ref 67), (1, .int x1), (2, .int x2), (3, .int x3), (4, .int x4), (5, .int x5)] [] σ) (x1 : Int32) (x2 : Int32) (x3 : Int32) (x4 : Int32) (x5 : Int32) (y0 : Int32) (σ : Sto) (h : wX11_run_65 post  K21 x1 x2 x3 x4 x5 y0 σ) : V E 9 mX11_run (pI post) 65 [(0, .ref 67), (1, .int x1), (2, .int x2), (3, .int x3), (4, .int x4), (5, .int x5)] [.int y0] σ := by
  unfold wX11_run_65 at h
  refine V_istore (pc := 65) dX11_run_65 (by decide) ?_
  refine V_iload (pc := 67) 0 dX11_run_67 rfl ?_
  refine V_if_ne (pc := 69) (tgt := 76) dX11_run_69 (by decide) (fun hc => ?_) (fun hc => ?_)
  · replace h := h.1 hc
    refine V_iload (pc := 76) 0 dX11_run_76 rfl ?_
    refine V_iload (pc := 78) 5 dX11_run_78 rfl ?_
    refine V_icmp_ne (pc := 80) (tgt := 89) dX11_run_80 (by decide) (fun hc => ?_) (fun hc => ?_)
    · replace h := h.1 hc
      refine V_iconst (pc := 89) (v := 1) dX11_run_89 (by decide) ?_
      refine V_loc [1, 2, 3, 6, 0] rfl (vX11_run_90 E post   K21 HK21 x1 x2 x5 y0 ((1 : Int32)) σ  h)
    · replace h := h.2 hc
      refine V_iload_n (pc := 83) 4 dX11_run_83 rfl ?_
      refine V_iconst (pc := 84) (v := 1) dX11_run_84 (by decide) ?_
      refine V_iadd (pc := 85) dX11_run_85 ?_
      refine V_goto (pc := 86) (tgt := 90) dX11_run_86 (by decide) ?_
      refine V_loc [1, 2, 3, 6, 0] rfl (vX11_run_90 E post   K21 HK21 x1 x2 x5 y0 (x3 + ((1 : Int32))) σ  h)
  · replace h := h.2 hc
    refine V_iconst (pc := 72) (v := 0) dX11_run_72 (by decide) ?_
    refine V_goto (pc := 73) (tgt := 90) dX11_run_73 (by decide) ?_
    refine V_loc [1, 2, 3, 6, 0] rfl (vX11_run_90 E post   K21 HK21 x1 x2 x5 y0 ((0 : Int32)) σ  h)
def wX11_run_21 (post : Int32 → Sto → Prop)  (K112 : Int32 → Sto → Prop) : Nat → Int32 → Int32 → Int32 → Int32 → Int32 → Sto → Prop
  | 0, _, _, _, _, _, _ => False
  | n + 1, x1, x2, x3, x4, x5, σ => ((((4 : Int32)) ≤ x5) → (K112 x2 σ)) ∧ ((¬ (((4 : Int32)) ≤ x5)) → (wX11_takes  x1 x5 σ (fun (r31 : Bool) (s31 : Sto) => ((r31 = false) → (wX11_run_21 post  K112 n x1 x2 x3 x4 (x5 + (1 : Int32)) s31)) ∧ ((r31 = true) → (wX11_markOf  x1 x5 s31 (fun (r41 : Int32) (s41 : Sto) => ((r41 ≤ 0) → (((0 ≤ r41) → (wX11_run_65 post  (wX11_run_21 post  K112 n) x1 x2 x3 x4 x5 ((0 : Int32)) s41)) ∧ ((¬ (0 ≤ r41)) → (wX11_run_65 post  (wX11_run_21 post  K112 n) x1 x2 x3 x4 x5 ((-1 : Int32)) s41)))) ∧ ((¬ (r41 ≤ 0)) → (wX11_run_65 post  (wX11_run_21 post  K112 n) x1 x2 x3 x4 x5 ((1 : Int32)) s41))))))))
set_option maxRecDepth 100000 in
set_option maxHeartbeats 4000000 in
theorem vX11_run_21 (E : Ev) (post : Int32 → Sto → Prop)   (K112 : Int32 → Sto → Prop) (HK112 : ∀ (x2 : Int32) (σ : Sto), K112 x2 σ → V E 9 mX11_run (pI post) 112 [(2, .int x2)] [] σ) : ∀ (n : Nat) (x1 : Int32) (x2 : Int32) (x3 : Int32) (x4 : Int32) (x5 : Int32) (σ : Sto), wX11_run_21 post  K112 n x1 x2 x3 x4 x5 σ → V E 9 mX11_run (pI post) 21 [(0, .ref 67), (1, .int x1), (2, .int x2), (3, .int x3), (4, .int x4), (5, .int x5)] [] σ := by
  intro n
  induction n with
  | zero => intro x1 x2 x3 x4 x5 σ h; exact h.elim
  | succ n ih =>
    intro x1 x2 x3 x4 x5 σ h
    unfold wX11_run_21 at h
    refine V_iload (pc := 21) 5 dX11_run_21 rfl ?_
    refine V_iconst (pc := 23) (v := 4) dX11_run_23 (by decide) ?_
    refine V_icmp_ge (pc := 24) (tgt := 112) dX11_run_24 (by decide) (fun hc => ?_) (fun hc => ?_)
    · replace h := h.1 hc
      exact V_loc [2] rfl (HK112 x2 σ  h)
    · replace h := h.2 hc
      refine V_aload_n (pc := 27) 0 dX11_run_27 rfl ?_
      refine V_iload_n (pc := 28) 1 dX11_run_28 rfl ?_
      refine V_iload (pc := 29) 5 dX11_run_29 rfl ?_
      refine V_callV (pc := 31) (M' := mX11_takes) dX11_run_31 ml_X11_160 kv_X11_takes ko_X11_takes sh_67 (by decide) (by decide) rfl rfl (Nat.le_of_ble_eq_true rfl) (Nat.le_of_ble_eq_true rfl) (vX11_takes E  x1 x5 σ _  h) (kB (fun r31 s31 h => ?_))
      refine V_ifz (pc := 34) (tgt := 106) dX11_run_34 (by decide) (fun hc => ?_) (fun hc => ?_)
      · replace h := h.1 hc
        refine V_iinc (pc := 106) 5 (v := 1) dX11_run_106 rfl (by decide) (by decide) ?_
        refine V_goto (pc := 109) (tgt := 21) dX11_run_109 (by decide) ?_
        exact V_loc [1, 2, 3, 4, 5, 0] rfl (ih x1 x2 x3 x4 (x5 + (1 : Int32)) s31  h)
      · replace h := h.2 hc
        refine V_aload_n (pc := 37) 0 dX11_run_37 rfl ?_
        refine V_iload_n (pc := 38) 1 dX11_run_38 rfl ?_
        refine V_iload (pc := 39) 5 dX11_run_39 rfl ?_
        refine V_callV (pc := 41) (M' := mX11_markOf) dX11_run_41 ml_X11_262 kv_X11_markOf ko_X11_markOf sh_67 (by decide) (by decide) rfl rfl (Nat.le_of_ble_eq_true rfl) (Nat.le_of_ble_eq_true rfl) (vX11_markOf E  x1 x5 s31 _  h) (kI (fun r41 s41 h => ?_))
        refine V_istore (pc := 44) dX11_run_44 (by decide) ?_
        refine V_iload (pc := 46) 0 dX11_run_46 rfl ?_
        refine V_if_le (pc := 48) (tgt := 55) dX11_run_48 (by decide) (fun hc => ?_) (fun hc => ?_)
        · replace h := h.1 hc
          refine V_iload (pc := 55) 0 dX11_run_55 rfl ?_
          refine V_if_ge (pc := 57) (tgt := 64) dX11_run_57 (by decide) (fun hc => ?_) (fun hc => ?_)
          · replace h := h.1 hc
            refine V_iconst (pc := 64) (v := 0) dX11_run_64 (by decide) ?_
            refine V_loc [1, 2, 3, 4, 5, 6] rfl (vX11_run_65 E post   _ ih x1 x2 x3 x4 x5 ((0 : Int32)) s41  h)
          · replace h := h.2 hc
            refine V_iconst (pc := 60) (v := -1) dX11_run_60 (by decide) ?_
            refine V_goto (pc := 61) (tgt := 65) dX11_run_61 (by decide) ?_
            refine V_loc [1, 2, 3, 4, 5, 6] rfl (vX11_run_65 E post   _ ih x1 x2 x3 x4 x5 ((-1 : Int32)) s41  h)
        · replace h := h.2 hc
          refine V_iconst (pc := 51) (v := 1) dX11_run_51 (by decide) ?_
          refine V_goto (pc := 52) (tgt := 65) dX11_run_52 (by decide) ?_
          refine V_loc [1, 2, 3, 4, 5, 6] rfl (vX11_run_65 E post   _ ih x1 x2 x3 x4 x5 ((1 : Int32)) s41  h)
def wX11_run  (x1 : Int32) (σ : Sto) (post : Int32 → Sto → Prop) : Prop := wX11_isHouse  x1 σ (fun (r2 : Bool) (s2 : Sto) => ((r2 = true) → (∃ n21, wX11_run_21 post  (fun (x2_1 : Int32) (σ_1 : Sto) => post x2_1 σ_1) n21 x1 ((0 : Int32)) ((0 : Int32)) ((0 : Int32)) ((0 : Int32)) s2)) ∧ ((r2 = false) → (post ((-2 : Int32)) s2)))
set_option maxRecDepth 100000 in
set_option maxHeartbeats 4000000 in
theorem vX11_run (E : Ev)  (x1 : Int32) (σ : Sto) (post : Int32 → Sto → Prop)  (h : wX11_run  x1 σ post) : V E 9 mX11_run (pI post) 0 [(0, .ref 67), (1, .int x1)] [] σ := by
  unfold wX11_run at h
  refine V_aload_n (pc := 0) 0 dX11_run_0 rfl ?_
  refine V_iload_n (pc := 1) 1 dX11_run_1 rfl ?_
  refine V_callV (pc := 2) (M' := mX11_isHouse) dX11_run_2 ml_X11_115 kv_X11_isHouse ko_X11_isHouse sh_67 (by decide) (by decide) rfl rfl (Nat.le_of_ble_eq_true rfl) (Nat.le_of_ble_eq_true rfl) (vX11_isHouse E  x1 σ _  h) (kB (fun r2 s2 h => ?_))
  refine V_ifnz (pc := 5) (tgt := 11) dX11_run_5 (by decide) (fun hc => ?_) (fun hc => ?_)
  · replace h := h.1 hc
    refine V_iconst (pc := 11) (v := 0) dX11_run_11 (by decide) ?_
    refine V_istore_n (pc := 12) dX11_run_12 (by decide) ?_
    refine V_iconst (pc := 13) (v := 0) dX11_run_13 (by decide) ?_
    refine V_istore_n (pc := 14) dX11_run_14 (by decide) ?_
    refine V_iconst (pc := 15) (v := 0) dX11_run_15 (by decide) ?_
    refine V_istore (pc := 16) dX11_run_16 (by decide) ?_
    refine V_iconst (pc := 18) (v := 0) dX11_run_18 (by decide) ?_
    refine V_istore (pc := 19) dX11_run_19 (by decide) ?_
    obtain ⟨n21, h⟩ := h
    refine V_loc [4, 5, 3, 2, 1, 0] rfl (vX11_run_21 E post   _ (fun x2_1 σ_1 h => ?_) n21 x1 ((0 : Int32)) ((0 : Int32)) ((0 : Int32)) ((0 : Int32)) s2  h)
    · refine V_iload_n (pc := 112) 0 dX11_run_112 rfl ?_
      exact V_iret dX11_run_113 rfl h
  · replace h := h.2 hc
    refine V_bipush (pc := 8) (v := -2) dX11_run_8 (by decide) ?_
    exact V_iret dX11_run_10 rfl h
theorem dX11_repeats_0 : decode cX11_repeats 0 = .ok (.aload_n 0, 1) := by decide +kernel
theorem dX11_repeats_1 : decode cX11_repeats 1 = .ok (.lconst 0, 1) := by decide +kernel
theorem dX11_repeats_2 : decode cX11_repeats 2 = .ok (.putfield 269, 3) := by decide +kernel
theorem dX11_repeats_5 : decode cX11_repeats 5 = .ok (.aload_n 0, 1) := by decide +kernel
theorem dX11_repeats_6 : decode cX11_repeats 6 = .ok (.lconst 0, 1) := by decide +kernel
theorem dX11_repeats_7 : decode cX11_repeats 7 = .ok (.putfield 272, 3) := by decide +kernel
theorem dX11_repeats_10 : decode cX11_repeats 10 = .ok (.aload_n 0, 1) := by decide +kernel
theorem dX11_repeats_11 : decode cX11_repeats 11 = .ok (.invokevirtual 157, 3) := by decide +kernel
theorem dX11_repeats_14 : decode cX11_repeats 14 = .ok (.iconst 0, 1) := by decide +kernel
theorem dX11_repeats_15 : decode cX11_repeats 15 = .ok (.istore_n 3, 1) := by decide +kernel
theorem dX11_repeats_16 : decode cX11_repeats 16 = .ok (.iload_n 3, 1) := by decide +kernel
theorem dX11_repeats_17 : decode cX11_repeats 17 = .ok (.aload_n 0, 1) := by decide +kernel
theorem dX11_repeats_18 : decode cX11_repeats 18 = .ok (.getfield 122, 3) := by decide +kernel
theorem dX11_repeats_21 : decode cX11_repeats 21 = .ok (.if_icmp .ge 75, 3) := by decide +kernel
theorem dX11_repeats_24 : decode cX11_repeats 24 = .ok (.aload_n 0, 1) := by decide +kernel
theorem dX11_repeats_25 : decode cX11_repeats 25 = .ok (.getfield 16, 3) := by decide +kernel
theorem dX11_repeats_28 : decode cX11_repeats 28 = .ok (.iload_n 3, 1) := by decide +kernel
theorem dX11_repeats_29 : decode cX11_repeats 29 = .ok (.iaload, 1) := by decide +kernel
theorem dX11_repeats_30 : decode cX11_repeats 30 = .ok (.iload_n 1, 1) := by decide +kernel
theorem dX11_repeats_31 : decode cX11_repeats 31 = .ok (.if_icmp .ne 59, 3) := by decide +kernel
theorem dX11_repeats_34 : decode cX11_repeats 34 = .ok (.aload_n 0, 1) := by decide +kernel
theorem dX11_repeats_35 : decode cX11_repeats 35 = .ok (.getfield 19, 3) := by decide +kernel
theorem dX11_repeats_38 : decode cX11_repeats 38 = .ok (.iload_n 3, 1) := by decide +kernel
theorem dX11_repeats_39 : decode cX11_repeats 39 = .ok (.iaload, 1) := by decide +kernel
theorem dX11_repeats_40 : decode cX11_repeats 40 = .ok (.iload_n 2, 1) := by decide +kernel
theorem dX11_repeats_41 : decode cX11_repeats 41 = .ok (.if_icmp .ne 49, 3) := by decide +kernel
theorem dX11_repeats_44 : decode cX11_repeats 44 = .ok (.aload_n 0, 1) := by decide +kernel
theorem dX11_repeats_45 : decode cX11_repeats 45 = .ok (.iload_n 3, 1) := by decide +kernel
theorem dX11_repeats_46 : decode cX11_repeats 46 = .ok (.invokevirtual 136, 3) := by decide +kernel
theorem dX11_repeats_49 : decode cX11_repeats 49 = .ok (.ifCond .eq 41, 3) := by decide +kernel
theorem dX11_repeats_52 : decode cX11_repeats 52 = .ok (.aload_n 0, 1) := by decide +kernel
theorem dX11_repeats_53 : decode cX11_repeats 53 = .ok (.iload_n 3, 1) := by decide +kernel
theorem dX11_repeats_54 : decode cX11_repeats 54 = .ok (.invokevirtual 148, 3) := by decide +kernel
theorem dX11_repeats_57 : decode cX11_repeats 57 = .ok (.ldc2_w 139, 3) := by decide +kernel
theorem dX11_repeats_60 : decode cX11_repeats 60 = .ok (.invokestatic 141, 3) := by decide +kernel
theorem dX11_repeats_63 : decode cX11_repeats 63 = .ok (.lstore 4, 2) := by decide +kernel
theorem dX11_repeats_65 : decode cX11_repeats 65 = .ok (.aload_n 0, 1) := by decide +kernel
theorem dX11_repeats_66 : decode cX11_repeats 66 = .ok (.dup, 1) := by decide +kernel
theorem dX11_repeats_67 : decode cX11_repeats 67 = .ok (.getfield 269, 3) := by decide +kernel
theorem dX11_repeats_70 : decode cX11_repeats 70 = .ok (.lload 4, 2) := by decide +kernel
theorem dX11_repeats_72 : decode cX11_repeats 72 = .ok (.ladd, 1) := by decide +kernel
theorem dX11_repeats_73 : decode cX11_repeats 73 = .ok (.putfield 269, 3) := by decide +kernel
theorem dX11_repeats_76 : decode cX11_repeats 76 = .ok (.aload_n 0, 1) := by decide +kernel
theorem dX11_repeats_77 : decode cX11_repeats 77 = .ok (.dup, 1) := by decide +kernel
theorem dX11_repeats_78 : decode cX11_repeats 78 = .ok (.getfield 272, 3) := by decide +kernel
theorem dX11_repeats_81 : decode cX11_repeats 81 = .ok (.lload 4, 2) := by decide +kernel
theorem dX11_repeats_83 : decode cX11_repeats 83 = .ok (.lload 4, 2) := by decide +kernel
theorem dX11_repeats_85 : decode cX11_repeats 85 = .ok (.lmul, 1) := by decide +kernel
theorem dX11_repeats_86 : decode cX11_repeats 86 = .ok (.ladd, 1) := by decide +kernel
theorem dX11_repeats_87 : decode cX11_repeats 87 = .ok (.putfield 272, 3) := by decide +kernel
theorem dX11_repeats_90 : decode cX11_repeats 90 = .ok (.iinc 3 1, 3) := by decide +kernel
theorem dX11_repeats_93 : decode cX11_repeats 93 = .ok (.goto (-77), 3) := by decide +kernel
theorem dX11_repeats_96 : decode cX11_repeats 96 = .ok (.return_, 1) := by decide +kernel
def wX11_repeats_16 (post : Sto → Prop)  (K96 : Sto → Prop) : Nat → Int32 → Int32 → Int32 → Sto → Prop
  | 0, _, _, _, _ => False
  | n + 1, x1, x2, x3, σ => (((σ.1 67 4) ≤ x3) → (K96  σ)) ∧ ((¬ ((σ.1 67 4) ≤ x3)) → (vp_in x3 150 ∧ (((¬ (σ.1 70 x3.toNatClampNeg) = x1) → (wX11_repeats_16 post  K96 n x1 x2 (x3 + (1 : Int32)) σ)) ∧ (((σ.1 70 x3.toNatClampNeg) = x1) → (vp_in x3 150 ∧ (((¬ (σ.1 71 x3.toNatClampNeg) = x2) → (wX11_repeats_16 post  K96 n x1 x2 (x3 + (1 : Int32)) σ)) ∧ (((σ.1 71 x3.toNatClampNeg) = x2) → (wX11_isKnown  x3 σ (fun (r46 : Bool) (s46 : Sto) => ((r46 = false) → (wX11_repeats_16 post  K96 n x1 x2 (x3 + (1 : Int32)) s46)) ∧ ((r46 = true) → (wX11_reducedOf  x3 s46 (fun (r54 : Int64) (s54 : Sto) => wX11_near  r54 ((1000 : Int64)) s54 (fun (r60 : Int64) (s60 : Sto) => wX11_repeats_16 post  K96 n x1 x2 (x3 + (1 : Int32)) (wL (wL s60 67 27 ((s60.2 67 27) + r60)) 67 28 ((s60.2 67 28) + (r60 * r60))))))))))))))))
set_option maxRecDepth 100000 in
set_option maxHeartbeats 4000000 in
theorem vX11_repeats_16 (E : Ev) (post : Sto → Prop)   (K96 : Sto → Prop) (HK96 : ∀  (σ : Sto), K96  σ → V E 5 mX11_repeats (pV post) 96 [] [] σ) : ∀ (n : Nat) (x1 : Int32) (x2 : Int32) (x3 : Int32) (σ : Sto), wX11_repeats_16 post  K96 n x1 x2 x3 σ → V E 5 mX11_repeats (pV post) 16 [(0, .ref 67), (1, .int x1), (2, .int x2), (3, .int x3)] [] σ := by
  intro n
  induction n with
  | zero => intro x1 x2 x3 σ h; exact h.elim
  | succ n ih =>
    intro x1 x2 x3 σ h
    unfold wX11_repeats_16 at h
    refine V_iload_n (pc := 16) 3 dX11_repeats_16 rfl ?_
    refine V_aload_n (pc := 17) 0 dX11_repeats_17 rfl ?_
    refine V_getI (pc := 18) dX11_repeats_18 fl_X11_122 sh_67 rfl ?_
    refine V_icmp_ge (pc := 21) (tgt := 96) dX11_repeats_21 (by decide) (fun hc => ?_) (fun hc => ?_)
    · replace h := h.1 hc
      exact V_loc [] rfl (HK96  σ  h)
    · replace h := h.2 hc
      refine V_aload_n (pc := 24) 0 dX11_repeats_24 rfl ?_
      refine V_getR (pc := 25) dX11_repeats_25 fl_X11_16 sh_67 rfl ?_
      refine V_iload_n (pc := 28) 3 dX11_repeats_28 rfl ?_
      obtain ⟨i29, h⟩ := h
      refine V_iald (pc := 29) dX11_repeats_29 sh_70 i29 ?_
      refine V_iload_n (pc := 30) 1 dX11_repeats_30 rfl ?_
      refine V_icmp_ne (pc := 31) (tgt := 90) dX11_repeats_31 (by decide) (fun hc => ?_) (fun hc => ?_)
      · replace h := h.1 hc
        refine V_iinc (pc := 90) 3 (v := 1) dX11_repeats_90 rfl (by decide) (by decide) ?_
        refine V_goto (pc := 93) (tgt := 16) dX11_repeats_93 (by decide) ?_
        exact V_loc [1, 2, 3, 0] rfl (ih x1 x2 (x3 + (1 : Int32)) σ  h)
      · replace h := h.2 hc
        refine V_aload_n (pc := 34) 0 dX11_repeats_34 rfl ?_
        refine V_getR (pc := 35) dX11_repeats_35 fl_X11_19 sh_67 rfl ?_
        refine V_iload_n (pc := 38) 3 dX11_repeats_38 rfl ?_
        obtain ⟨i39, h⟩ := h
        refine V_iald (pc := 39) dX11_repeats_39 sh_71 i39 ?_
        refine V_iload_n (pc := 40) 2 dX11_repeats_40 rfl ?_
        refine V_icmp_ne (pc := 41) (tgt := 90) dX11_repeats_41 (by decide) (fun hc => ?_) (fun hc => ?_)
        · replace h := h.1 hc
          refine V_iinc (pc := 90) 3 (v := 1) dX11_repeats_90 rfl (by decide) (by decide) ?_
          refine V_goto (pc := 93) (tgt := 16) dX11_repeats_93 (by decide) ?_
          exact V_loc [1, 2, 3, 0] rfl (ih x1 x2 (x3 + (1 : Int32)) σ  h)
        · replace h := h.2 hc
          refine V_aload_n (pc := 44) 0 dX11_repeats_44 rfl ?_
          refine V_iload_n (pc := 45) 3 dX11_repeats_45 rfl ?_
          refine V_callV (pc := 46) (M' := mX11_isKnown) dX11_repeats_46 ml_X11_136 kv_X11_isKnown ko_X11_isKnown sh_67 (by decide) (by decide) rfl rfl (Nat.le_of_ble_eq_true rfl) (Nat.le_of_ble_eq_true rfl) (vX11_isKnown E  x3 σ _  h) (kB (fun r46 s46 h => ?_))
          refine V_ifz (pc := 49) (tgt := 90) dX11_repeats_49 (by decide) (fun hc => ?_) (fun hc => ?_)
          · replace h := h.1 hc
            refine V_iinc (pc := 90) 3 (v := 1) dX11_repeats_90 rfl (by decide) (by decide) ?_
            refine V_goto (pc := 93) (tgt := 16) dX11_repeats_93 (by decide) ?_
            exact V_loc [1, 2, 3, 0] rfl (ih x1 x2 (x3 + (1 : Int32)) s46  h)
          · replace h := h.2 hc
            refine V_aload_n (pc := 52) 0 dX11_repeats_52 rfl ?_
            refine V_iload_n (pc := 53) 3 dX11_repeats_53 rfl ?_
            refine V_callV (pc := 54) (M' := mX11_reducedOf) dX11_repeats_54 ml_X11_148 kv_X11_reducedOf ko_X11_reducedOf sh_67 (by decide) (by decide) rfl rfl (Nat.le_of_ble_eq_true rfl) (Nat.le_of_ble_eq_true rfl) (vX11_reducedOf E  x3 s46 _  h) (kL (fun r54 s54 h => ?_))
            refine V_ldc2 (pc := 57) dX11_repeats_57 cl_X11_139 ?_
            refine V_callS (pc := 60) (M' := mX11_near) dX11_repeats_60 ml_X11_141 ks_X11_near ko_X11_near (by decide) rfl (Nat.le_of_ble_eq_true rfl) (Nat.le_of_ble_eq_true rfl) (vX11_near E  r54 ((1000 : Int64)) s54 _  h) (kL (fun r60 s60 h => ?_))
            refine V_lstore (pc := 63) dX11_repeats_63 (by decide) ?_
            refine V_aload_n (pc := 65) 1 dX11_repeats_65 rfl ?_
            refine V_dup (pc := 66) dX11_repeats_66 rfl ?_
            refine V_getL (pc := 67) dX11_repeats_67 fl_X11_269 sh_67 rfl ?_
            refine V_lload (pc := 70) 0 dX11_repeats_70 rfl ?_
            refine V_ladd (pc := 72) dX11_repeats_72 ?_
            refine V_putL (pc := 73) dX11_repeats_73 fl_X11_269 po_X11_27 sh_67 rfl rfl rfl ?_
            refine V_aload_n (pc := 76) 1 dX11_repeats_76 rfl ?_
            refine V_dup (pc := 77) dX11_repeats_77 rfl ?_
            refine V_getL (pc := 78) dX11_repeats_78 fl_X11_272 sh_67 rfl ?_
            refine V_lload (pc := 81) 0 dX11_repeats_81 rfl ?_
            refine V_lload (pc := 83) 0 dX11_repeats_83 rfl ?_
            refine V_lmul (pc := 85) dX11_repeats_85 ?_
            refine V_ladd (pc := 86) dX11_repeats_86 ?_
            refine V_putL (pc := 87) dX11_repeats_87 fl_X11_272 po_X11_28 sh_67 rfl rfl rfl ?_
            refine V_iinc (pc := 90) 4 (v := 1) dX11_repeats_90 rfl (by decide) (by decide) ?_
            refine V_goto (pc := 93) (tgt := 16) dX11_repeats_93 (by decide) ?_
            exact V_loc [2, 3, 4, 0] rfl (ih x1 x2 (x3 + (1 : Int32)) (wL (wL s60 67 27 ((s60.2 67 27) + r60)) 67 28 ((s60.2 67 28) + (r60 * r60)))  h)
def wX11_repeats  (x1 : Int32) (x2 : Int32) (σ : Sto) (post : Sto → Prop) : Prop := wX11_works   (wL (wL σ 67 27 ((0 : Int64))) 67 28 ((0 : Int64))) (fun (s11 : Sto) => ∃ n16, wX11_repeats_16 post  (fun  (σ_1 : Sto) => post σ_1) n16 x1 x2 ((0 : Int32)) s11)
set_option maxRecDepth 100000 in
set_option maxHeartbeats 4000000 in
theorem vX11_repeats (E : Ev)  (x1 : Int32) (x2 : Int32) (σ : Sto) (post : Sto → Prop)  (h : wX11_repeats  x1 x2 σ post) : V E 5 mX11_repeats (pV post) 0 [(0, .ref 67), (1, .int x1), (2, .int x2)] [] σ := by
  unfold wX11_repeats at h
  refine V_aload_n (pc := 0) 0 dX11_repeats_0 rfl ?_
  refine V_lconst (pc := 1) (v := 0) dX11_repeats_1 (by decide) ?_
  refine V_putL (pc := 2) dX11_repeats_2 fl_X11_269 po_X11_27 sh_67 rfl rfl rfl ?_
  refine V_aload_n (pc := 5) 0 dX11_repeats_5 rfl ?_
  refine V_lconst (pc := 6) (v := 0) dX11_repeats_6 (by decide) ?_
  refine V_putL (pc := 7) dX11_repeats_7 fl_X11_272 po_X11_28 sh_67 rfl rfl rfl ?_
  refine V_aload_n (pc := 10) 0 dX11_repeats_10 rfl ?_
  refine V_callV (pc := 11) (M' := mX11_works) dX11_repeats_11 ml_X11_157 kv_X11_works ko_X11_works sh_67 (by decide) (by decide) rfl rfl (Nat.le_of_ble_eq_true rfl) (Nat.le_of_ble_eq_true rfl) (vX11_works E   (wL (wL σ 67 27 ((0 : Int64))) 67 28 ((0 : Int64))) _  h) (kV (fun s11 h => ?_))
  refine V_iconst (pc := 14) (v := 0) dX11_repeats_14 (by decide) ?_
  refine V_istore_n (pc := 15) dX11_repeats_15 (by decide) ?_
  obtain ⟨n16, h⟩ := h
  refine V_loc [1, 2, 3, 0] rfl (vX11_repeats_16 E post   _ (fun σ_1 h => ?_) n16 x1 x2 ((0 : Int32)) s11  h)
  · exact V_vret dX11_repeats_96 rfl h
theorem dX11_withinTop_0 : decode cX11_withinTop 0 = .ok (.aload_n 0, 1) := by decide +kernel
theorem dX11_withinTop_1 : decode cX11_withinTop 1 = .ok (.iload_n 1, 1) := by decide +kernel
theorem dX11_withinTop_2 : decode cX11_withinTop 2 = .ok (.iload_n 2, 1) := by decide +kernel
theorem dX11_withinTop_3 : decode cX11_withinTop 3 = .ok (.invokevirtual 275, 3) := by decide +kernel
theorem dX11_withinTop_6 : decode cX11_withinTop 6 = .ok (.aload_n 0, 1) := by decide +kernel
theorem dX11_withinTop_7 : decode cX11_withinTop 7 = .ok (.getfield 54, 3) := by decide +kernel
theorem dX11_withinTop_10 : decode cX11_withinTop 10 = .ok (.iconst 4, 1) := by decide +kernel
theorem dX11_withinTop_11 : decode cX11_withinTop 11 = .ok (.iload_n 1, 1) := by decide +kernel
theorem dX11_withinTop_12 : decode cX11_withinTop 12 = .ok (.imul, 1) := by decide +kernel
theorem dX11_withinTop_13 : decode cX11_withinTop 13 = .ok (.iload_n 2, 1) := by decide +kernel
theorem dX11_withinTop_14 : decode cX11_withinTop 14 = .ok (.iadd, 1) := by decide +kernel
theorem dX11_withinTop_15 : decode cX11_withinTop 15 = .ok (.iaload, 1) := by decide +kernel
theorem dX11_withinTop_16 : decode cX11_withinTop 16 = .ok (.i2l, 1) := by decide +kernel
theorem dX11_withinTop_17 : decode cX11_withinTop 17 = .ok (.aload_n 0, 1) := by decide +kernel
theorem dX11_withinTop_18 : decode cX11_withinTop 18 = .ok (.getfield 272, 3) := by decide +kernel
theorem dX11_withinTop_21 : decode cX11_withinTop 21 = .ok (.lmul, 1) := by decide +kernel
theorem dX11_withinTop_22 : decode cX11_withinTop 22 = .ok (.aload_n 0, 1) := by decide +kernel
theorem dX11_withinTop_23 : decode cX11_withinTop 23 = .ok (.getfield 269, 3) := by decide +kernel
theorem dX11_withinTop_26 : decode cX11_withinTop 26 = .ok (.invokestatic 172, 3) := by decide +kernel
theorem dX11_withinTop_29 : decode cX11_withinTop 29 = .ok (.lsub, 1) := by decide +kernel
theorem dX11_withinTop_30 : decode cX11_withinTop 30 = .ok (.lreturn, 1) := by decide +kernel
def wX11_withinTop  (x1 : Int32) (x2 : Int32) (σ : Sto) (post : Int64 → Sto → Prop) : Prop := wX11_repeats  x1 x2 σ (fun (s3 : Sto) => vp_in ((((4 : Int32)) * x1) + x2) 56 ∧ (wX11_square  (s3.2 67 27) s3 (fun (r26 : Int64) (s26 : Sto) => post ((((s3.1 80 ((((4 : Int32)) * x1) + x2).toNatClampNeg).toInt64) * (s3.2 67 28)) - r26) s26)))
set_option maxRecDepth 100000 in
set_option maxHeartbeats 4000000 in
theorem vX11_withinTop (E : Ev)  (x1 : Int32) (x2 : Int32) (σ : Sto) (post : Int64 → Sto → Prop)  (h : wX11_withinTop  x1 x2 σ post) : V E 6 mX11_withinTop (pL post) 0 [(0, .ref 67), (1, .int x1), (2, .int x2)] [] σ := by
  unfold wX11_withinTop at h
  refine V_aload_n (pc := 0) 0 dX11_withinTop_0 rfl ?_
  refine V_iload_n (pc := 1) 1 dX11_withinTop_1 rfl ?_
  refine V_iload_n (pc := 2) 2 dX11_withinTop_2 rfl ?_
  refine V_callV (pc := 3) (M' := mX11_repeats) dX11_withinTop_3 ml_X11_275 kv_X11_repeats ko_X11_repeats sh_67 (by decide) (by decide) rfl rfl (Nat.le_of_ble_eq_true rfl) (Nat.le_of_ble_eq_true rfl) (vX11_repeats E  x1 x2 σ _  h) (kV (fun s3 h => ?_))
  refine V_aload_n (pc := 6) 0 dX11_withinTop_6 rfl ?_
  refine V_getR (pc := 7) dX11_withinTop_7 fl_X11_54 sh_67 rfl ?_
  refine V_iconst (pc := 10) (v := 4) dX11_withinTop_10 (by decide) ?_
  refine V_iload_n (pc := 11) 1 dX11_withinTop_11 rfl ?_
  refine V_imul (pc := 12) dX11_withinTop_12 ?_
  refine V_iload_n (pc := 13) 2 dX11_withinTop_13 rfl ?_
  refine V_iadd (pc := 14) dX11_withinTop_14 ?_
  obtain ⟨i15, h⟩ := h
  refine V_iald (pc := 15) dX11_withinTop_15 sh_80 i15 ?_
  refine V_i2l (pc := 16) dX11_withinTop_16 ?_
  refine V_aload_n (pc := 17) 0 dX11_withinTop_17 rfl ?_
  refine V_getL (pc := 18) dX11_withinTop_18 fl_X11_272 sh_67 rfl ?_
  refine V_lmul (pc := 21) dX11_withinTop_21 ?_
  refine V_aload_n (pc := 22) 0 dX11_withinTop_22 rfl ?_
  refine V_getL (pc := 23) dX11_withinTop_23 fl_X11_269 sh_67 rfl ?_
  refine V_callS (pc := 26) (M' := mX11_square) dX11_withinTop_26 ml_X11_172 ks_X11_square ko_X11_square (by decide) rfl (Nat.le_of_ble_eq_true rfl) (Nat.le_of_ble_eq_true rfl) (vX11_square E  (s3.2 67 27) s3 _  h) (kL (fun r26 s26 h => ?_))
  refine V_lsub (pc := 29) dX11_withinTop_29 ?_
  exact V_lret dX11_withinTop_30 rfl h
theorem dX11_withinBottom_0 : decode cX11_withinBottom 0 = .ok (.aload_n 0, 1) := by decide +kernel
theorem dX11_withinBottom_1 : decode cX11_withinBottom 1 = .ok (.getfield 54, 3) := by decide +kernel
theorem dX11_withinBottom_4 : decode cX11_withinBottom 4 = .ok (.iconst 4, 1) := by decide +kernel
theorem dX11_withinBottom_5 : decode cX11_withinBottom 5 = .ok (.iload_n 1, 1) := by decide +kernel
theorem dX11_withinBottom_6 : decode cX11_withinBottom 6 = .ok (.imul, 1) := by decide +kernel
theorem dX11_withinBottom_7 : decode cX11_withinBottom 7 = .ok (.iload_n 2, 1) := by decide +kernel
theorem dX11_withinBottom_8 : decode cX11_withinBottom 8 = .ok (.iadd, 1) := by decide +kernel
theorem dX11_withinBottom_9 : decode cX11_withinBottom 9 = .ok (.iaload, 1) := by decide +kernel
theorem dX11_withinBottom_10 : decode cX11_withinBottom 10 = .ok (.i2l, 1) := by decide +kernel
theorem dX11_withinBottom_11 : decode cX11_withinBottom 11 = .ok (.lstore_n 3, 1) := by decide +kernel
theorem dX11_withinBottom_12 : decode cX11_withinBottom 12 = .ok (.lload_n 3, 1) := by decide +kernel
theorem dX11_withinBottom_13 : decode cX11_withinBottom 13 = .ok (.lload_n 3, 1) := by decide +kernel
theorem dX11_withinBottom_14 : decode cX11_withinBottom 14 = .ok (.lconst 1, 1) := by decide +kernel
theorem dX11_withinBottom_15 : decode cX11_withinBottom 15 = .ok (.lsub, 1) := by decide +kernel
theorem dX11_withinBottom_16 : decode cX11_withinBottom 16 = .ok (.lmul, 1) := by decide +kernel
theorem dX11_withinBottom_17 : decode cX11_withinBottom 17 = .ok (.lreturn, 1) := by decide +kernel
def wX11_withinBottom  (x1 : Int32) (x2 : Int32) (σ : Sto) (post : Int64 → Sto → Prop) : Prop := vp_in ((((4 : Int32)) * x1) + x2) 56 ∧ (post (((σ.1 80 ((((4 : Int32)) * x1) + x2).toNatClampNeg).toInt64) * (((σ.1 80 ((((4 : Int32)) * x1) + x2).toNatClampNeg).toInt64) - ((1 : Int64)))) σ)
set_option maxRecDepth 100000 in
set_option maxHeartbeats 4000000 in
theorem vX11_withinBottom (E : Ev)  (x1 : Int32) (x2 : Int32) (σ : Sto) (post : Int64 → Sto → Prop)  (h : wX11_withinBottom  x1 x2 σ post) : V E 0 mX11_withinBottom (pL post) 0 [(0, .ref 67), (1, .int x1), (2, .int x2)] [] σ := by
  unfold wX11_withinBottom at h
  refine V_aload_n (pc := 0) 0 dX11_withinBottom_0 rfl ?_
  refine V_getR (pc := 1) dX11_withinBottom_1 fl_X11_54 sh_67 rfl ?_
  refine V_iconst (pc := 4) (v := 4) dX11_withinBottom_4 (by decide) ?_
  refine V_iload_n (pc := 5) 1 dX11_withinBottom_5 rfl ?_
  refine V_imul (pc := 6) dX11_withinBottom_6 ?_
  refine V_iload_n (pc := 7) 2 dX11_withinBottom_7 rfl ?_
  refine V_iadd (pc := 8) dX11_withinBottom_8 ?_
  obtain ⟨i9, h⟩ := h
  refine V_iald (pc := 9) dX11_withinBottom_9 sh_80 i9 ?_
  refine V_i2l (pc := 10) dX11_withinBottom_10 ?_
  refine V_lstore_n (pc := 11) dX11_withinBottom_11 (by decide) ?_
  refine V_lload_n (pc := 12) 0 dX11_withinBottom_12 rfl ?_
  refine V_lload_n (pc := 13) 0 dX11_withinBottom_13 rfl ?_
  refine V_lconst (pc := 14) (v := 1) dX11_withinBottom_14 (by decide) ?_
  refine V_lsub (pc := 15) dX11_withinBottom_15 ?_
  refine V_lmul (pc := 16) dX11_withinBottom_16 ?_
  exact V_lret dX11_withinBottom_17 rfl h
theorem dX11_isRepeat_0 : decode cX11_isRepeat 0 = .ok (.aload_n 0, 1) := by decide +kernel
theorem dX11_isRepeat_1 : decode cX11_isRepeat 1 = .ok (.invokevirtual 157, 3) := by decide +kernel
theorem dX11_isRepeat_4 : decode cX11_isRepeat 4 = .ok (.aload_n 0, 1) := by decide +kernel
theorem dX11_isRepeat_5 : decode cX11_isRepeat 5 = .ok (.getfield 54, 3) := by decide +kernel
theorem dX11_isRepeat_8 : decode cX11_isRepeat 8 = .ok (.iconst 4, 1) := by decide +kernel
theorem dX11_isRepeat_9 : decode cX11_isRepeat 9 = .ok (.iload_n 1, 1) := by decide +kernel
theorem dX11_isRepeat_10 : decode cX11_isRepeat 10 = .ok (.imul, 1) := by decide +kernel
theorem dX11_isRepeat_11 : decode cX11_isRepeat 11 = .ok (.iload_n 2, 1) := by decide +kernel
theorem dX11_isRepeat_12 : decode cX11_isRepeat 12 = .ok (.iadd, 1) := by decide +kernel
theorem dX11_isRepeat_13 : decode cX11_isRepeat 13 = .ok (.iaload, 1) := by decide +kernel
theorem dX11_isRepeat_14 : decode cX11_isRepeat 14 = .ok (.iconst 1, 1) := by decide +kernel
theorem dX11_isRepeat_15 : decode cX11_isRepeat 15 = .ok (.if_icmp .le 7, 3) := by decide +kernel
theorem dX11_isRepeat_18 : decode cX11_isRepeat 18 = .ok (.iconst 1, 1) := by decide +kernel
theorem dX11_isRepeat_19 : decode cX11_isRepeat 19 = .ok (.goto 4, 3) := by decide +kernel
theorem dX11_isRepeat_22 : decode cX11_isRepeat 22 = .ok (.iconst 0, 1) := by decide +kernel
theorem dX11_isRepeat_23 : decode cX11_isRepeat 23 = .ok (.ireturn, 1) := by decide +kernel
def wX11_isRepeat  (x1 : Int32) (x2 : Int32) (σ : Sto) (post : Bool → Sto → Prop) : Prop := wX11_works   σ (fun (s1 : Sto) => vp_in ((((4 : Int32)) * x1) + x2) 56 ∧ ((((s1.1 80 ((((4 : Int32)) * x1) + x2).toNatClampNeg) ≤ ((1 : Int32))) → (post false s1)) ∧ ((¬ ((s1.1 80 ((((4 : Int32)) * x1) + x2).toNatClampNeg) ≤ ((1 : Int32)))) → (post true s1))))
set_option maxRecDepth 100000 in
set_option maxHeartbeats 4000000 in
theorem vX11_isRepeat (E : Ev)  (x1 : Int32) (x2 : Int32) (σ : Sto) (post : Bool → Sto → Prop)  (h : wX11_isRepeat  x1 x2 σ post) : V E 5 mX11_isRepeat (pB post) 0 [(0, .ref 67), (1, .int x1), (2, .int x2)] [] σ := by
  unfold wX11_isRepeat at h
  refine V_aload_n (pc := 0) 0 dX11_isRepeat_0 rfl ?_
  refine V_callV (pc := 1) (M' := mX11_works) dX11_isRepeat_1 ml_X11_157 kv_X11_works ko_X11_works sh_67 (by decide) (by decide) rfl rfl (Nat.le_of_ble_eq_true rfl) (Nat.le_of_ble_eq_true rfl) (vX11_works E   σ _  h) (kV (fun s1 h => ?_))
  refine V_aload_n (pc := 4) 0 dX11_isRepeat_4 rfl ?_
  refine V_getR (pc := 5) dX11_isRepeat_5 fl_X11_54 sh_67 rfl ?_
  refine V_iconst (pc := 8) (v := 4) dX11_isRepeat_8 (by decide) ?_
  refine V_iload_n (pc := 9) 1 dX11_isRepeat_9 rfl ?_
  refine V_imul (pc := 10) dX11_isRepeat_10 ?_
  refine V_iload_n (pc := 11) 2 dX11_isRepeat_11 rfl ?_
  refine V_iadd (pc := 12) dX11_isRepeat_12 ?_
  obtain ⟨i13, h⟩ := h
  refine V_iald (pc := 13) dX11_isRepeat_13 sh_80 i13 ?_
  refine V_iconst (pc := 14) (v := 1) dX11_isRepeat_14 (by decide) ?_
  refine V_icmp_le (pc := 15) (tgt := 22) dX11_isRepeat_15 (by decide) (fun hc => ?_) (fun hc => ?_)
  · replace h := h.1 hc
    refine V_iconst (pc := 22) (v := 0) dX11_isRepeat_22 (by decide) ?_
    exact V_zret false rfl dX11_isRepeat_23 rfl h
  · replace h := h.2 hc
    refine V_iconst (pc := 18) (v := 1) dX11_isRepeat_18 (by decide) ?_
    refine V_goto (pc := 19) (tgt := 23) dX11_isRepeat_19 (by decide) ?_
    exact V_zret true rfl dX11_isRepeat_23 rfl h
theorem dX11_within_0 : decode cX11_within 0 = .ok (.aload_n 0, 1) := by decide +kernel
theorem dX11_within_1 : decode cX11_within 1 = .ok (.iload_n 1, 1) := by decide +kernel
theorem dX11_within_2 : decode cX11_within 2 = .ok (.invokevirtual 115, 3) := by decide +kernel
theorem dX11_within_5 : decode cX11_within 5 = .ok (.ifCond .eq 19, 3) := by decide +kernel
theorem dX11_within_8 : decode cX11_within 8 = .ok (.iload_n 2, 1) := by decide +kernel
theorem dX11_within_9 : decode cX11_within 9 = .ok (.invokestatic 119, 3) := by decide +kernel
theorem dX11_within_12 : decode cX11_within 12 = .ok (.ifCond .eq 12, 3) := by decide +kernel
theorem dX11_within_15 : decode cX11_within 15 = .ok (.iload_n 3, 1) := by decide +kernel
theorem dX11_within_16 : decode cX11_within 16 = .ok (.iconst 0, 1) := by decide +kernel
theorem dX11_within_17 : decode cX11_within 17 = .ok (.iconst 1, 1) := by decide +kernel
theorem dX11_within_18 : decode cX11_within 18 = .ok (.invokestatic 104, 3) := by decide +kernel
theorem dX11_within_21 : decode cX11_within 21 = .ok (.ifCond .ne 7, 3) := by decide +kernel
theorem dX11_within_24 : decode cX11_within 24 = .ok (.ldc2_w 249, 3) := by decide +kernel
theorem dX11_within_27 : decode cX11_within 27 = .ok (.lreturn, 1) := by decide +kernel
theorem dX11_within_28 : decode cX11_within 28 = .ok (.aload_n 0, 1) := by decide +kernel
theorem dX11_within_29 : decode cX11_within 29 = .ok (.iload_n 1, 1) := by decide +kernel
theorem dX11_within_30 : decode cX11_within 30 = .ok (.iload_n 2, 1) := by decide +kernel
theorem dX11_within_31 : decode cX11_within 31 = .ok (.invokevirtual 279, 3) := by decide +kernel
theorem dX11_within_34 : decode cX11_within 34 = .ok (.ifCond .ne 7, 3) := by decide +kernel
theorem dX11_within_37 : decode cX11_within 37 = .ok (.ldc2_w 258, 3) := by decide +kernel
theorem dX11_within_40 : decode cX11_within 40 = .ok (.lreturn, 1) := by decide +kernel
theorem dX11_within_41 : decode cX11_within 41 = .ok (.aload_n 0, 1) := by decide +kernel
theorem dX11_within_42 : decode cX11_within 42 = .ok (.iload_n 1, 1) := by decide +kernel
theorem dX11_within_43 : decode cX11_within 43 = .ok (.iload_n 2, 1) := by decide +kernel
theorem dX11_within_44 : decode cX11_within 44 = .ok (.invokevirtual 282, 3) := by decide +kernel
theorem dX11_within_47 : decode cX11_within 47 = .ok (.aload_n 0, 1) := by decide +kernel
theorem dX11_within_48 : decode cX11_within 48 = .ok (.iload_n 1, 1) := by decide +kernel
theorem dX11_within_49 : decode cX11_within 49 = .ok (.iload_n 2, 1) := by decide +kernel
theorem dX11_within_50 : decode cX11_within 50 = .ok (.invokevirtual 285, 3) := by decide +kernel
theorem dX11_within_53 : decode cX11_within 53 = .ok (.iload_n 3, 1) := by decide +kernel
theorem dX11_within_54 : decode cX11_within 54 = .ok (.invokestatic 254, 3) := by decide +kernel
theorem dX11_within_57 : decode cX11_within 57 = .ok (.lreturn, 1) := by decide +kernel
def wX11_within  (x1 : Int32) (x2 : Int32) (x3 : Int32) (σ : Sto) (post : Int64 → Sto → Prop) : Prop := wX11_isHouse  x1 σ (fun (r2 : Bool) (s2 : Sto) => ((r2 = false) → (post ((-9223372036854775806 : Int64)) s2)) ∧ ((r2 = true) → (wX11_isPiece  x2 s2 (fun (r9 : Bool) (s9 : Sto) => ((r9 = false) → (post ((-9223372036854775806 : Int64)) s9)) ∧ ((r9 = true) → (wX11_in  x3 ((0 : Int32)) ((1 : Int32)) s9 (fun (r18 : Bool) (s18 : Sto) => ((r18 = true) → (wX11_isRepeat  x1 x2 s18 (fun (r31 : Bool) (s31 : Sto) => ((r31 = true) → (wX11_withinTop  x1 x2 s31 (fun (r44 : Int64) (s44 : Sto) => wX11_withinBottom  x1 x2 s44 (fun (r50 : Int64) (s50 : Sto) => wX11_lowest  r44 r50 x3 s50 (fun (r54 : Int64) (s54 : Sto) => post r54 s54))))) ∧ ((r31 = false) → (post ((-9223372036854775805 : Int64)) s31))))) ∧ ((r18 = false) → (post ((-9223372036854775806 : Int64)) s18)))))))))
set_option maxRecDepth 100000 in
set_option maxHeartbeats 4000000 in
theorem vX11_within (E : Ev)  (x1 : Int32) (x2 : Int32) (x3 : Int32) (σ : Sto) (post : Int64 → Sto → Prop)  (h : wX11_within  x1 x2 x3 σ post) : V E 7 mX11_within (pL post) 0 [(0, .ref 67), (1, .int x1), (2, .int x2), (3, .int x3)] [] σ := by
  unfold wX11_within at h
  refine V_aload_n (pc := 0) 0 dX11_within_0 rfl ?_
  refine V_iload_n (pc := 1) 1 dX11_within_1 rfl ?_
  refine V_callV (pc := 2) (M' := mX11_isHouse) dX11_within_2 ml_X11_115 kv_X11_isHouse ko_X11_isHouse sh_67 (by decide) (by decide) rfl rfl (Nat.le_of_ble_eq_true rfl) (Nat.le_of_ble_eq_true rfl) (vX11_isHouse E  x1 σ _  h) (kB (fun r2 s2 h => ?_))
  refine V_ifz (pc := 5) (tgt := 24) dX11_within_5 (by decide) (fun hc => ?_) (fun hc => ?_)
  · replace h := h.1 hc
    refine V_ldc2 (pc := 24) dX11_within_24 cl_X11_249 ?_
    exact V_lret dX11_within_27 rfl h
  · replace h := h.2 hc
    refine V_iload_n (pc := 8) 2 dX11_within_8 rfl ?_
    refine V_callS (pc := 9) (M' := mX11_isPiece) dX11_within_9 ml_X11_119 ks_X11_isPiece ko_X11_isPiece (by decide) rfl (Nat.le_of_ble_eq_true rfl) (Nat.le_of_ble_eq_true rfl) (vX11_isPiece E  x2 s2 _  h) (kB (fun r9 s9 h => ?_))
    refine V_ifz (pc := 12) (tgt := 24) dX11_within_12 (by decide) (fun hc => ?_) (fun hc => ?_)
    · replace h := h.1 hc
      refine V_ldc2 (pc := 24) dX11_within_24 cl_X11_249 ?_
      exact V_lret dX11_within_27 rfl h
    · replace h := h.2 hc
      refine V_iload_n (pc := 15) 3 dX11_within_15 rfl ?_
      refine V_iconst (pc := 16) (v := 0) dX11_within_16 (by decide) ?_
      refine V_iconst (pc := 17) (v := 1) dX11_within_17 (by decide) ?_
      refine V_callS (pc := 18) (M' := mX11_in) dX11_within_18 ml_X11_104 ks_X11_in ko_X11_in (by decide) rfl (Nat.le_of_ble_eq_true rfl) (Nat.le_of_ble_eq_true rfl) (vX11_in E  x3 ((0 : Int32)) ((1 : Int32)) s9 _  h) (kB (fun r18 s18 h => ?_))
      refine V_ifnz (pc := 21) (tgt := 28) dX11_within_21 (by decide) (fun hc => ?_) (fun hc => ?_)
      · replace h := h.1 hc
        refine V_aload_n (pc := 28) 0 dX11_within_28 rfl ?_
        refine V_iload_n (pc := 29) 1 dX11_within_29 rfl ?_
        refine V_iload_n (pc := 30) 2 dX11_within_30 rfl ?_
        refine V_callV (pc := 31) (M' := mX11_isRepeat) dX11_within_31 ml_X11_279 kv_X11_isRepeat ko_X11_isRepeat sh_67 (by decide) (by decide) rfl rfl (Nat.le_of_ble_eq_true rfl) (Nat.le_of_ble_eq_true rfl) (vX11_isRepeat E  x1 x2 s18 _  h) (kB (fun r31 s31 h => ?_))
        refine V_ifnz (pc := 34) (tgt := 41) dX11_within_34 (by decide) (fun hc => ?_) (fun hc => ?_)
        · replace h := h.1 hc
          refine V_aload_n (pc := 41) 0 dX11_within_41 rfl ?_
          refine V_iload_n (pc := 42) 1 dX11_within_42 rfl ?_
          refine V_iload_n (pc := 43) 2 dX11_within_43 rfl ?_
          refine V_callV (pc := 44) (M' := mX11_withinTop) dX11_within_44 ml_X11_282 kv_X11_withinTop ko_X11_withinTop sh_67 (by decide) (by decide) rfl rfl (Nat.le_of_ble_eq_true rfl) (Nat.le_of_ble_eq_true rfl) (vX11_withinTop E  x1 x2 s31 _  h) (kL (fun r44 s44 h => ?_))
          refine V_aload_n (pc := 47) 0 dX11_within_47 rfl ?_
          refine V_iload_n (pc := 48) 1 dX11_within_48 rfl ?_
          refine V_iload_n (pc := 49) 2 dX11_within_49 rfl ?_
          refine V_callV (pc := 50) (M' := mX11_withinBottom) dX11_within_50 ml_X11_285 kv_X11_withinBottom ko_X11_withinBottom sh_67 (by decide) (by decide) rfl rfl (Nat.le_of_ble_eq_true rfl) (Nat.le_of_ble_eq_true rfl) (vX11_withinBottom E  x1 x2 s44 _  h) (kL (fun r50 s50 h => ?_))
          refine V_iload_n (pc := 53) 3 dX11_within_53 rfl ?_
          refine V_callS (pc := 54) (M' := mX11_lowest) dX11_within_54 ml_X11_254 ks_X11_lowest ko_X11_lowest (by decide) rfl (Nat.le_of_ble_eq_true rfl) (Nat.le_of_ble_eq_true rfl) (vX11_lowest E  r44 r50 x3 s50 _  h) (kL (fun r54 s54 h => ?_))
          exact V_lret dX11_within_57 rfl h
        · replace h := h.2 hc
          refine V_ldc2 (pc := 37) dX11_within_37 cl_X11_258 ?_
          exact V_lret dX11_within_40 rfl h
      · replace h := h.2 hc
        refine V_ldc2 (pc := 24) dX11_within_24 cl_X11_249 ?_
        exact V_lret dX11_within_27 rfl h
theorem dX11_widestOf_0 : decode cX11_widestOf 0 = .ok (.iconst (-1), 1) := by decide +kernel
theorem dX11_widestOf_1 : decode cX11_widestOf 1 = .ok (.istore_n 2, 1) := by decide +kernel
theorem dX11_widestOf_2 : decode cX11_widestOf 2 = .ok (.iconst 0, 1) := by decide +kernel
theorem dX11_widestOf_3 : decode cX11_widestOf 3 = .ok (.istore_n 3, 1) := by decide +kernel
theorem dX11_widestOf_4 : decode cX11_widestOf 4 = .ok (.iload_n 3, 1) := by decide +kernel
theorem dX11_widestOf_5 : decode cX11_widestOf 5 = .ok (.aload_n 0, 1) := by decide +kernel
theorem dX11_widestOf_6 : decode cX11_widestOf 6 = .ok (.getfield 101, 3) := by decide +kernel
theorem dX11_widestOf_9 : decode cX11_widestOf 9 = .ok (.if_icmp .ge 71, 3) := by decide +kernel
theorem dX11_widestOf_12 : decode cX11_widestOf 12 = .ok (.aload_n 0, 1) := by decide +kernel
theorem dX11_widestOf_13 : decode cX11_widestOf 13 = .ok (.iload_n 3, 1) := by decide +kernel
theorem dX11_widestOf_14 : decode cX11_widestOf 14 = .ok (.iload_n 1, 1) := by decide +kernel
theorem dX11_widestOf_15 : decode cX11_widestOf 15 = .ok (.invokevirtual 279, 3) := by decide +kernel
theorem dX11_widestOf_18 : decode cX11_widestOf 18 = .ok (.ifCond .eq 42, 3) := by decide +kernel
theorem dX11_widestOf_21 : decode cX11_widestOf 21 = .ok (.iload_n 2, 1) := by decide +kernel
theorem dX11_widestOf_22 : decode cX11_widestOf 22 = .ok (.iconst (-1), 1) := by decide +kernel
theorem dX11_widestOf_23 : decode cX11_widestOf 23 = .ok (.if_icmp .eq 33, 3) := by decide +kernel
theorem dX11_widestOf_26 : decode cX11_widestOf 26 = .ok (.aload_n 0, 1) := by decide +kernel
theorem dX11_widestOf_27 : decode cX11_widestOf 27 = .ok (.iload_n 3, 1) := by decide +kernel
theorem dX11_widestOf_28 : decode cX11_widestOf 28 = .ok (.iload_n 1, 1) := by decide +kernel
theorem dX11_widestOf_29 : decode cX11_widestOf 29 = .ok (.invokevirtual 282, 3) := by decide +kernel
theorem dX11_widestOf_32 : decode cX11_widestOf 32 = .ok (.aload_n 0, 1) := by decide +kernel
theorem dX11_widestOf_33 : decode cX11_widestOf 33 = .ok (.iload_n 2, 1) := by decide +kernel
theorem dX11_widestOf_34 : decode cX11_widestOf 34 = .ok (.iload_n 1, 1) := by decide +kernel
theorem dX11_widestOf_35 : decode cX11_widestOf 35 = .ok (.invokevirtual 285, 3) := by decide +kernel
theorem dX11_widestOf_38 : decode cX11_widestOf 38 = .ok (.lmul, 1) := by decide +kernel
theorem dX11_widestOf_39 : decode cX11_widestOf 39 = .ok (.aload_n 0, 1) := by decide +kernel
theorem dX11_widestOf_40 : decode cX11_widestOf 40 = .ok (.iload_n 2, 1) := by decide +kernel
theorem dX11_widestOf_41 : decode cX11_widestOf 41 = .ok (.iload_n 1, 1) := by decide +kernel
theorem dX11_widestOf_42 : decode cX11_widestOf 42 = .ok (.invokevirtual 282, 3) := by decide +kernel
theorem dX11_widestOf_45 : decode cX11_widestOf 45 = .ok (.aload_n 0, 1) := by decide +kernel
theorem dX11_widestOf_46 : decode cX11_widestOf 46 = .ok (.iload_n 3, 1) := by decide +kernel
theorem dX11_widestOf_47 : decode cX11_widestOf 47 = .ok (.iload_n 1, 1) := by decide +kernel
theorem dX11_widestOf_48 : decode cX11_widestOf 48 = .ok (.invokevirtual 285, 3) := by decide +kernel
theorem dX11_widestOf_51 : decode cX11_widestOf 51 = .ok (.lmul, 1) := by decide +kernel
theorem dX11_widestOf_52 : decode cX11_widestOf 52 = .ok (.lcmp, 1) := by decide +kernel
theorem dX11_widestOf_53 : decode cX11_widestOf 53 = .ok (.ifCond .le 7, 3) := by decide +kernel
theorem dX11_widestOf_56 : decode cX11_widestOf 56 = .ok (.iconst 1, 1) := by decide +kernel
theorem dX11_widestOf_57 : decode cX11_widestOf 57 = .ok (.goto 4, 3) := by decide +kernel
theorem dX11_widestOf_60 : decode cX11_widestOf 60 = .ok (.iconst 0, 1) := by decide +kernel
theorem dX11_widestOf_61 : decode cX11_widestOf 61 = .ok (.istore 4, 2) := by decide +kernel
theorem dX11_widestOf_63 : decode cX11_widestOf 63 = .ok (.iload 4, 2) := by decide +kernel
theorem dX11_widestOf_65 : decode cX11_widestOf 65 = .ok (.ifCond .eq 7, 3) := by decide +kernel
theorem dX11_widestOf_68 : decode cX11_widestOf 68 = .ok (.iload_n 3, 1) := by decide +kernel
theorem dX11_widestOf_69 : decode cX11_widestOf 69 = .ok (.goto 4, 3) := by decide +kernel
theorem dX11_widestOf_72 : decode cX11_widestOf 72 = .ok (.iload_n 2, 1) := by decide +kernel
theorem dX11_widestOf_73 : decode cX11_widestOf 73 = .ok (.istore_n 2, 1) := by decide +kernel
theorem dX11_widestOf_74 : decode cX11_widestOf 74 = .ok (.iinc 3 1, 3) := by decide +kernel
theorem dX11_widestOf_77 : decode cX11_widestOf 77 = .ok (.goto (-73), 3) := by decide +kernel
theorem dX11_widestOf_80 : decode cX11_widestOf 80 = .ok (.iload_n 2, 1) := by decide +kernel
theorem dX11_widestOf_81 : decode cX11_widestOf 81 = .ok (.ireturn, 1) := by decide +kernel
def wX11_widestOf_73 (post : Int32 → Sto → Prop)  (K4 : Int32 → Int32 → Int32 → Sto → Prop) (x1 : Int32) (x3 : Int32) (y0 : Int32) (σ : Sto) : Prop := K4 x1 y0 (x3 + (1 : Int32)) σ
set_option maxRecDepth 100000 in
set_option maxHeartbeats 4000000 in
theorem vX11_widestOf_73 (E : Ev) (post : Int32 → Sto → Prop)   (K4 : Int32 → Int32 → Int32 → Sto → Prop) (HK4 : ∀ (x1 : Int32) (x2 : Int32) (x3 : Int32) (σ : Sto), K4 x1 x2 x3 σ → V E 7 mX11_widestOf (pI post) 4 [(0, .ref 67), (1, .int x1), (2, .int x2), (3, .int x3)] [] σ) (x1 : Int32) (x3 : Int32) (y0 : Int32) (σ : Sto) (h : wX11_widestOf_73 post  K4 x1 x3 y0 σ) : V E 7 mX11_widestOf (pI post) 73 [(0, .ref 67), (1, .int x1), (3, .int x3)] [.int y0] σ := by
  unfold wX11_widestOf_73 at h
  refine V_istore_n (pc := 73) dX11_widestOf_73 (by decide) ?_
  refine V_iinc (pc := 74) 3 (v := 1) dX11_widestOf_74 rfl (by decide) (by decide) ?_
  refine V_goto (pc := 77) (tgt := 4) dX11_widestOf_77 (by decide) ?_
  exact V_loc [2, 3, 1, 0] rfl (HK4 x1 y0 (x3 + (1 : Int32)) σ  h)
def wX11_widestOf_61 (post : Int32 → Sto → Prop)  (K4 : Int32 → Int32 → Int32 → Sto → Prop) (x1 : Int32) (x2 : Int32) (x3 : Int32) (y0 : Int32) (σ : Sto) : Prop := ((y0 = 0) → (wX11_widestOf_73 post  K4 x1 x3 x2 σ)) ∧ ((¬ (y0 = 0)) → (wX11_widestOf_73 post  K4 x1 x3 x3 σ))
set_option maxRecDepth 100000 in
set_option maxHeartbeats 4000000 in
theorem vX11_widestOf_61 (E : Ev) (post : Int32 → Sto → Prop)   (K4 : Int32 → Int32 → Int32 → Sto → Prop) (HK4 : ∀ (x1 : Int32) (x2 : Int32) (x3 : Int32) (σ : Sto), K4 x1 x2 x3 σ → V E 7 mX11_widestOf (pI post) 4 [(0, .ref 67), (1, .int x1), (2, .int x2), (3, .int x3)] [] σ) (x1 : Int32) (x2 : Int32) (x3 : Int32) (y0 : Int32) (σ : Sto) (h : wX11_widestOf_61 post  K4 x1 x2 x3 y0 σ) : V E 7 mX11_widestOf (pI post) 61 [(0, .ref 67), (1, .int x1), (2, .int x2), (3, .int x3)] [.int y0] σ := by
  unfold wX11_widestOf_61 at h
  refine V_istore (pc := 61) dX11_widestOf_61 (by decide) ?_
  refine V_iload (pc := 63) 0 dX11_widestOf_63 rfl ?_
  refine V_if_eq (pc := 65) (tgt := 72) dX11_widestOf_65 (by decide) (fun hc => ?_) (fun hc => ?_)
  · replace h := h.1 hc
    refine V_iload_n (pc := 72) 3 dX11_widestOf_72 rfl ?_
    refine V_loc [1, 2, 4] rfl (vX11_widestOf_73 E post   K4 HK4 x1 x3 x2 σ  h)
  · replace h := h.2 hc
    refine V_iload_n (pc := 68) 4 dX11_widestOf_68 rfl ?_
    refine V_goto (pc := 69) (tgt := 73) dX11_widestOf_69 (by decide) ?_
    refine V_loc [1, 2, 4] rfl (vX11_widestOf_73 E post   K4 HK4 x1 x3 x3 σ  h)
def wX11_widestOf_60 (post : Int32 → Sto → Prop)  (K4 : Int32 → Int32 → Int32 → Sto → Prop) (x1 : Int32) (x2 : Int32) (x3 : Int32) (σ : Sto) : Prop := wX11_widestOf_61 post  K4 x1 x2 x3 ((0 : Int32)) σ
set_option maxRecDepth 100000 in
set_option maxHeartbeats 4000000 in
theorem vX11_widestOf_60 (E : Ev) (post : Int32 → Sto → Prop)   (K4 : Int32 → Int32 → Int32 → Sto → Prop) (HK4 : ∀ (x1 : Int32) (x2 : Int32) (x3 : Int32) (σ : Sto), K4 x1 x2 x3 σ → V E 7 mX11_widestOf (pI post) 4 [(0, .ref 67), (1, .int x1), (2, .int x2), (3, .int x3)] [] σ) (x1 : Int32) (x2 : Int32) (x3 : Int32) (σ : Sto) (h : wX11_widestOf_60 post  K4 x1 x2 x3 σ) : V E 7 mX11_widestOf (pI post) 60 [(0, .ref 67), (1, .int x1), (2, .int x2), (3, .int x3)] [] σ := by
  unfold wX11_widestOf_60 at h
  refine V_iconst (pc := 60) (v := 0) dX11_widestOf_60 (by decide) ?_
  refine V_loc [0, 1, 2, 3] rfl (vX11_widestOf_61 E post   K4 HK4 x1 x2 x3 ((0 : Int32)) σ  h)
def wX11_widestOf_56 (post : Int32 → Sto → Prop)  (K4 : Int32 → Int32 → Int32 → Sto → Prop) (x1 : Int32) (x2 : Int32) (x3 : Int32) (σ : Sto) : Prop := wX11_widestOf_61 post  K4 x1 x2 x3 ((1 : Int32)) σ
set_option maxRecDepth 100000 in
set_option maxHeartbeats 4000000 in
theorem vX11_widestOf_56 (E : Ev) (post : Int32 → Sto → Prop)   (K4 : Int32 → Int32 → Int32 → Sto → Prop) (HK4 : ∀ (x1 : Int32) (x2 : Int32) (x3 : Int32) (σ : Sto), K4 x1 x2 x3 σ → V E 7 mX11_widestOf (pI post) 4 [(0, .ref 67), (1, .int x1), (2, .int x2), (3, .int x3)] [] σ) (x1 : Int32) (x2 : Int32) (x3 : Int32) (σ : Sto) (h : wX11_widestOf_56 post  K4 x1 x2 x3 σ) : V E 7 mX11_widestOf (pI post) 56 [(0, .ref 67), (1, .int x1), (2, .int x2), (3, .int x3)] [] σ := by
  unfold wX11_widestOf_56 at h
  refine V_iconst (pc := 56) (v := 1) dX11_widestOf_56 (by decide) ?_
  refine V_goto (pc := 57) (tgt := 61) dX11_widestOf_57 (by decide) ?_
  refine V_loc [0, 1, 2, 3] rfl (vX11_widestOf_61 E post   K4 HK4 x1 x2 x3 ((1 : Int32)) σ  h)
def wX11_widestOf_4 (post : Int32 → Sto → Prop)  (K80 : Int32 → Sto → Prop) : Nat → Int32 → Int32 → Int32 → Sto → Prop
  | 0, _, _, _, _ => False
  | n + 1, x1, x2, x3, σ => (((σ.1 67 1) ≤ x3) → (K80 x2 σ)) ∧ ((¬ ((σ.1 67 1) ≤ x3)) → (wX11_isRepeat  x3 x1 σ (fun (r15 : Bool) (s15 : Sto) => ((r15 = false) → (wX11_widestOf_60 post  (wX11_widestOf_4 post  K80 n) x1 x2 x3 s15)) ∧ ((r15 = true) → (((x2 = ((-1 : Int32))) → (wX11_widestOf_56 post  (wX11_widestOf_4 post  K80 n) x1 x2 x3 s15)) ∧ ((¬ (x2 = ((-1 : Int32)))) → (wX11_withinTop  x3 x1 s15 (fun (r29 : Int64) (s29 : Sto) => wX11_withinBottom  x2 x1 s29 (fun (r35 : Int64) (s35 : Sto) => wX11_withinTop  x2 x1 s35 (fun (r42 : Int64) (s42 : Sto) => wX11_withinBottom  x3 x1 s42 (fun (r48 : Int64) (s48 : Sto) => (((r29 * r35) ≤ (r42 * r48)) → (wX11_widestOf_60 post  (wX11_widestOf_4 post  K80 n) x1 x2 x3 s48)) ∧ ((¬ ((r29 * r35) ≤ (r42 * r48))) → (wX11_widestOf_56 post  (wX11_widestOf_4 post  K80 n) x1 x2 x3 s48)))))))))))))
set_option maxRecDepth 100000 in
set_option maxHeartbeats 4000000 in
theorem vX11_widestOf_4 (E : Ev) (post : Int32 → Sto → Prop)   (K80 : Int32 → Sto → Prop) (HK80 : ∀ (x2 : Int32) (σ : Sto), K80 x2 σ → V E 7 mX11_widestOf (pI post) 80 [(2, .int x2)] [] σ) : ∀ (n : Nat) (x1 : Int32) (x2 : Int32) (x3 : Int32) (σ : Sto), wX11_widestOf_4 post  K80 n x1 x2 x3 σ → V E 7 mX11_widestOf (pI post) 4 [(0, .ref 67), (1, .int x1), (2, .int x2), (3, .int x3)] [] σ := by
  intro n
  induction n with
  | zero => intro x1 x2 x3 σ h; exact h.elim
  | succ n ih =>
    intro x1 x2 x3 σ h
    unfold wX11_widestOf_4 at h
    refine V_iload_n (pc := 4) 3 dX11_widestOf_4 rfl ?_
    refine V_aload_n (pc := 5) 0 dX11_widestOf_5 rfl ?_
    refine V_getI (pc := 6) dX11_widestOf_6 fl_X11_101 sh_67 rfl ?_
    refine V_icmp_ge (pc := 9) (tgt := 80) dX11_widestOf_9 (by decide) (fun hc => ?_) (fun hc => ?_)
    · replace h := h.1 hc
      exact V_loc [2] rfl (HK80 x2 σ  h)
    · replace h := h.2 hc
      refine V_aload_n (pc := 12) 0 dX11_widestOf_12 rfl ?_
      refine V_iload_n (pc := 13) 3 dX11_widestOf_13 rfl ?_
      refine V_iload_n (pc := 14) 1 dX11_widestOf_14 rfl ?_
      refine V_callV (pc := 15) (M' := mX11_isRepeat) dX11_widestOf_15 ml_X11_279 kv_X11_isRepeat ko_X11_isRepeat sh_67 (by decide) (by decide) rfl rfl (Nat.le_of_ble_eq_true rfl) (Nat.le_of_ble_eq_true rfl) (vX11_isRepeat E  x3 x1 σ _  h) (kB (fun r15 s15 h => ?_))
      refine V_ifz (pc := 18) (tgt := 60) dX11_widestOf_18 (by decide) (fun hc => ?_) (fun hc => ?_)
      · replace h := h.1 hc
        refine V_loc [0, 1, 2, 3] rfl (vX11_widestOf_60 E post   _ ih x1 x2 x3 s15  h)
      · replace h := h.2 hc
        refine V_iload_n (pc := 21) 2 dX11_widestOf_21 rfl ?_
        refine V_iconst (pc := 22) (v := -1) dX11_widestOf_22 (by decide) ?_
        refine V_icmp_eq (pc := 23) (tgt := 56) dX11_widestOf_23 (by decide) (fun hc => ?_) (fun hc => ?_)
        · replace h := h.1 hc
          refine V_loc [0, 1, 2, 3] rfl (vX11_widestOf_56 E post   _ ih x1 x2 x3 s15  h)
        · replace h := h.2 hc
          refine V_aload_n (pc := 26) 0 dX11_widestOf_26 rfl ?_
          refine V_iload_n (pc := 27) 3 dX11_widestOf_27 rfl ?_
          refine V_iload_n (pc := 28) 1 dX11_widestOf_28 rfl ?_
          refine V_callV (pc := 29) (M' := mX11_withinTop) dX11_widestOf_29 ml_X11_282 kv_X11_withinTop ko_X11_withinTop sh_67 (by decide) (by decide) rfl rfl (Nat.le_of_ble_eq_true rfl) (Nat.le_of_ble_eq_true rfl) (vX11_withinTop E  x3 x1 s15 _  h) (kL (fun r29 s29 h => ?_))
          refine V_aload_n (pc := 32) 0 dX11_widestOf_32 rfl ?_
          refine V_iload_n (pc := 33) 2 dX11_widestOf_33 rfl ?_
          refine V_iload_n (pc := 34) 1 dX11_widestOf_34 rfl ?_
          refine V_callV (pc := 35) (M' := mX11_withinBottom) dX11_widestOf_35 ml_X11_285 kv_X11_withinBottom ko_X11_withinBottom sh_67 (by decide) (by decide) rfl rfl (Nat.le_of_ble_eq_true rfl) (Nat.le_of_ble_eq_true rfl) (vX11_withinBottom E  x2 x1 s29 _  h) (kL (fun r35 s35 h => ?_))
          refine V_lmul (pc := 38) dX11_widestOf_38 ?_
          refine V_aload_n (pc := 39) 0 dX11_widestOf_39 rfl ?_
          refine V_iload_n (pc := 40) 2 dX11_widestOf_40 rfl ?_
          refine V_iload_n (pc := 41) 1 dX11_widestOf_41 rfl ?_
          refine V_callV (pc := 42) (M' := mX11_withinTop) dX11_widestOf_42 ml_X11_282 kv_X11_withinTop ko_X11_withinTop sh_67 (by decide) (by decide) rfl rfl (Nat.le_of_ble_eq_true rfl) (Nat.le_of_ble_eq_true rfl) (vX11_withinTop E  x2 x1 s35 _  h) (kL (fun r42 s42 h => ?_))
          refine V_aload_n (pc := 45) 0 dX11_widestOf_45 rfl ?_
          refine V_iload_n (pc := 46) 3 dX11_widestOf_46 rfl ?_
          refine V_iload_n (pc := 47) 1 dX11_widestOf_47 rfl ?_
          refine V_callV (pc := 48) (M' := mX11_withinBottom) dX11_widestOf_48 ml_X11_285 kv_X11_withinBottom ko_X11_withinBottom sh_67 (by decide) (by decide) rfl rfl (Nat.le_of_ble_eq_true rfl) (Nat.le_of_ble_eq_true rfl) (vX11_withinBottom E  x3 x1 s42 _  h) (kL (fun r48 s48 h => ?_))
          refine V_lmul (pc := 51) dX11_widestOf_51 ?_
          refine V_lc_le (pc := 52) (tgt := 60) dX11_widestOf_52 dX11_widestOf_53 (by decide) (fun hc => ?_) (fun hc => ?_)
          · replace h := h.1 hc
            refine V_loc [0, 1, 2, 3] rfl (vX11_widestOf_60 E post   _ ih x1 x2 x3 s48  h)
          · replace h := h.2 hc
            refine V_loc [0, 1, 2, 3] rfl (vX11_widestOf_56 E post   _ ih x1 x2 x3 s48  h)
def wX11_widestOf  (x1 : Int32) (σ : Sto) (post : Int32 → Sto → Prop) : Prop := ∃ n4, wX11_widestOf_4 post  (fun (x2_1 : Int32) (σ_1 : Sto) => post x2_1 σ_1) n4 x1 ((-1 : Int32)) ((0 : Int32)) σ
set_option maxRecDepth 100000 in
set_option maxHeartbeats 4000000 in
theorem vX11_widestOf (E : Ev)  (x1 : Int32) (σ : Sto) (post : Int32 → Sto → Prop)  (h : wX11_widestOf  x1 σ post) : V E 7 mX11_widestOf (pI post) 0 [(0, .ref 67), (1, .int x1)] [] σ := by
  unfold wX11_widestOf at h
  refine V_iconst (pc := 0) (v := -1) dX11_widestOf_0 (by decide) ?_
  refine V_istore_n (pc := 1) dX11_widestOf_1 (by decide) ?_
  refine V_iconst (pc := 2) (v := 0) dX11_widestOf_2 (by decide) ?_
  refine V_istore_n (pc := 3) dX11_widestOf_3 (by decide) ?_
  obtain ⟨n4, h⟩ := h
  refine V_loc [2, 3, 1, 0] rfl (vX11_widestOf_4 E post   _ (fun x2_1 σ_1 h => ?_) n4 x1 ((-1 : Int32)) ((0 : Int32)) σ  h)
  · refine V_iload_n (pc := 80) 0 dX11_widestOf_80 rfl ?_
    exact V_iret dX11_widestOf_81 rfl h
theorem dX11_widest_0 : decode cX11_widest 0 = .ok (.iload_n 1, 1) := by decide +kernel
theorem dX11_widest_1 : decode cX11_widest 1 = .ok (.invokestatic 119, 3) := by decide +kernel
theorem dX11_widest_4 : decode cX11_widest 4 = .ok (.ifCond .eq 11, 3) := by decide +kernel
theorem dX11_widest_7 : decode cX11_widest 7 = .ok (.aload_n 0, 1) := by decide +kernel
theorem dX11_widest_8 : decode cX11_widest 8 = .ok (.iload_n 1, 1) := by decide +kernel
theorem dX11_widest_9 : decode cX11_widest 9 = .ok (.invokevirtual 288, 3) := by decide +kernel
theorem dX11_widest_12 : decode cX11_widest 12 = .ok (.goto 5, 3) := by decide +kernel
theorem dX11_widest_15 : decode cX11_widest 15 = .ok (.bipush (-2), 2) := by decide +kernel
theorem dX11_widest_17 : decode cX11_widest 17 = .ok (.ireturn, 1) := by decide +kernel
def wX11_widest  (x1 : Int32) (σ : Sto) (post : Int32 → Sto → Prop) : Prop := wX11_isPiece  x1 σ (fun (r1 : Bool) (s1 : Sto) => ((r1 = false) → (post ((-2 : Int32)) s1)) ∧ ((r1 = true) → (wX11_widestOf  x1 s1 (fun (r9 : Int32) (s9 : Sto) => post r9 s9))))
set_option maxRecDepth 100000 in
set_option maxHeartbeats 4000000 in
theorem vX11_widest (E : Ev)  (x1 : Int32) (σ : Sto) (post : Int32 → Sto → Prop)  (h : wX11_widest  x1 σ post) : V E 8 mX11_widest (pI post) 0 [(0, .ref 67), (1, .int x1)] [] σ := by
  unfold wX11_widest at h
  refine V_iload_n (pc := 0) 1 dX11_widest_0 rfl ?_
  refine V_callS (pc := 1) (M' := mX11_isPiece) dX11_widest_1 ml_X11_119 ks_X11_isPiece ko_X11_isPiece (by decide) rfl (Nat.le_of_ble_eq_true rfl) (Nat.le_of_ble_eq_true rfl) (vX11_isPiece E  x1 σ _  h) (kB (fun r1 s1 h => ?_))
  refine V_ifz (pc := 4) (tgt := 15) dX11_widest_4 (by decide) (fun hc => ?_) (fun hc => ?_)
  · replace h := h.1 hc
    refine V_bipush (pc := 15) (v := -2) dX11_widest_15 (by decide) ?_
    exact V_iret dX11_widest_17 rfl h
  · replace h := h.2 hc
    refine V_aload_n (pc := 7) 0 dX11_widest_7 rfl ?_
    refine V_iload_n (pc := 8) 1 dX11_widest_8 rfl ?_
    refine V_callV (pc := 9) (M' := mX11_widestOf) dX11_widest_9 ml_X11_288 kv_X11_widestOf ko_X11_widestOf sh_67 (by decide) (by decide) rfl rfl (Nat.le_of_ble_eq_true rfl) (Nat.le_of_ble_eq_true rfl) (vX11_widestOf E  x1 s1 _  h) (kI (fun r9 s9 h => ?_))
    refine V_goto (pc := 12) (tgt := 17) dX11_widest_12 (by decide) ?_
    exact V_iret dX11_widest_17 rfl h
theorem dX11_share_0 : decode cX11_share 0 = .ok (.iload_n 1, 1) := by decide +kernel
theorem dX11_share_1 : decode cX11_share 1 = .ok (.invokestatic 119, 3) := by decide +kernel
theorem dX11_share_4 : decode cX11_share 4 = .ok (.ifCond .eq 12, 3) := by decide +kernel
theorem dX11_share_7 : decode cX11_share 7 = .ok (.iload_n 2, 1) := by decide +kernel
theorem dX11_share_8 : decode cX11_share 8 = .ok (.iconst 0, 1) := by decide +kernel
theorem dX11_share_9 : decode cX11_share 9 = .ok (.iconst 1, 1) := by decide +kernel
theorem dX11_share_10 : decode cX11_share 10 = .ok (.invokestatic 104, 3) := by decide +kernel
theorem dX11_share_13 : decode cX11_share 13 = .ok (.ifCond .ne 7, 3) := by decide +kernel
theorem dX11_share_16 : decode cX11_share 16 = .ok (.ldc2_w 249, 3) := by decide +kernel
theorem dX11_share_19 : decode cX11_share 19 = .ok (.lreturn, 1) := by decide +kernel
theorem dX11_share_20 : decode cX11_share 20 = .ok (.aload_n 0, 1) := by decide +kernel
theorem dX11_share_21 : decode cX11_share 21 = .ok (.iload_n 1, 1) := by decide +kernel
theorem dX11_share_22 : decode cX11_share 22 = .ok (.invokevirtual 288, 3) := by decide +kernel
theorem dX11_share_25 : decode cX11_share 25 = .ok (.istore_n 3, 1) := by decide +kernel
theorem dX11_share_26 : decode cX11_share 26 = .ok (.iload_n 3, 1) := by decide +kernel
theorem dX11_share_27 : decode cX11_share 27 = .ok (.iconst (-1), 1) := by decide +kernel
theorem dX11_share_28 : decode cX11_share 28 = .ok (.if_icmp .ne 7, 3) := by decide +kernel
theorem dX11_share_31 : decode cX11_share 31 = .ok (.ldc2_w 258, 3) := by decide +kernel
theorem dX11_share_34 : decode cX11_share 34 = .ok (.lreturn, 1) := by decide +kernel
theorem dX11_share_35 : decode cX11_share 35 = .ok (.lconst 0, 1) := by decide +kernel
theorem dX11_share_36 : decode cX11_share 36 = .ok (.lstore 4, 2) := by decide +kernel
theorem dX11_share_38 : decode cX11_share 38 = .ok (.iconst 0, 1) := by decide +kernel
theorem dX11_share_39 : decode cX11_share 39 = .ok (.istore 6, 2) := by decide +kernel
theorem dX11_share_41 : decode cX11_share 41 = .ok (.iload 6, 2) := by decide +kernel
theorem dX11_share_43 : decode cX11_share 43 = .ok (.aload_n 0, 1) := by decide +kernel
theorem dX11_share_44 : decode cX11_share 44 = .ok (.getfield 101, 3) := by decide +kernel
theorem dX11_share_47 : decode cX11_share 47 = .ok (.if_icmp .ge 47, 3) := by decide +kernel
theorem dX11_share_50 : decode cX11_share 50 = .ok (.lload 4, 2) := by decide +kernel
theorem dX11_share_52 : decode cX11_share 52 = .ok (.aload_n 0, 1) := by decide +kernel
theorem dX11_share_53 : decode cX11_share 53 = .ok (.iload 6, 2) := by decide +kernel
theorem dX11_share_55 : decode cX11_share 55 = .ok (.iload_n 1, 1) := by decide +kernel
theorem dX11_share_56 : decode cX11_share 56 = .ok (.invokevirtual 279, 3) := by decide +kernel
theorem dX11_share_59 : decode cX11_share 59 = .ok (.ifCond .eq 25, 3) := by decide +kernel
theorem dX11_share_62 : decode cX11_share 62 = .ok (.aload_n 0, 1) := by decide +kernel
theorem dX11_share_63 : decode cX11_share 63 = .ok (.iload 6, 2) := by decide +kernel
theorem dX11_share_65 : decode cX11_share 65 = .ok (.iload_n 1, 1) := by decide +kernel
theorem dX11_share_66 : decode cX11_share 66 = .ok (.invokevirtual 282, 3) := by decide +kernel
theorem dX11_share_69 : decode cX11_share 69 = .ok (.ldc2_w 291, 3) := by decide +kernel
theorem dX11_share_72 : decode cX11_share 72 = .ok (.aload_n 0, 1) := by decide +kernel
theorem dX11_share_73 : decode cX11_share 73 = .ok (.iload 6, 2) := by decide +kernel
theorem dX11_share_75 : decode cX11_share 75 = .ok (.iload_n 1, 1) := by decide +kernel
theorem dX11_share_76 : decode cX11_share 76 = .ok (.invokevirtual 285, 3) := by decide +kernel
theorem dX11_share_79 : decode cX11_share 79 = .ok (.ldiv, 1) := by decide +kernel
theorem dX11_share_80 : decode cX11_share 80 = .ok (.lmul, 1) := by decide +kernel
theorem dX11_share_81 : decode cX11_share 81 = .ok (.goto 4, 3) := by decide +kernel
theorem dX11_share_84 : decode cX11_share 84 = .ok (.lconst 0, 1) := by decide +kernel
theorem dX11_share_85 : decode cX11_share 85 = .ok (.ladd, 1) := by decide +kernel
theorem dX11_share_86 : decode cX11_share 86 = .ok (.lstore 4, 2) := by decide +kernel
theorem dX11_share_88 : decode cX11_share 88 = .ok (.iinc 6 1, 3) := by decide +kernel
theorem dX11_share_91 : decode cX11_share 91 = .ok (.goto (-50), 3) := by decide +kernel
theorem dX11_share_94 : decode cX11_share 94 = .ok (.lload 4, 2) := by decide +kernel
theorem dX11_share_96 : decode cX11_share 96 = .ok (.lconst 0, 1) := by decide +kernel
theorem dX11_share_97 : decode cX11_share 97 = .ok (.lcmp, 1) := by decide +kernel
theorem dX11_share_98 : decode cX11_share 98 = .ok (.ifCond .ne 6, 3) := by decide +kernel
theorem dX11_share_101 : decode cX11_share 101 = .ok (.iload_n 2, 1) := by decide +kernel
theorem dX11_share_102 : decode cX11_share 102 = .ok (.i2l, 1) := by decide +kernel
theorem dX11_share_103 : decode cX11_share 103 = .ok (.lreturn, 1) := by decide +kernel
theorem dX11_share_104 : decode cX11_share 104 = .ok (.aload_n 0, 1) := by decide +kernel
theorem dX11_share_105 : decode cX11_share 105 = .ok (.iload_n 3, 1) := by decide +kernel
theorem dX11_share_106 : decode cX11_share 106 = .ok (.iload_n 1, 1) := by decide +kernel
theorem dX11_share_107 : decode cX11_share 107 = .ok (.invokevirtual 282, 3) := by decide +kernel
theorem dX11_share_110 : decode cX11_share 110 = .ok (.ldc2_w 291, 3) := by decide +kernel
theorem dX11_share_113 : decode cX11_share 113 = .ok (.aload_n 0, 1) := by decide +kernel
theorem dX11_share_114 : decode cX11_share 114 = .ok (.iload_n 3, 1) := by decide +kernel
theorem dX11_share_115 : decode cX11_share 115 = .ok (.iload_n 1, 1) := by decide +kernel
theorem dX11_share_116 : decode cX11_share 116 = .ok (.invokevirtual 285, 3) := by decide +kernel
theorem dX11_share_119 : decode cX11_share 119 = .ok (.ldiv, 1) := by decide +kernel
theorem dX11_share_120 : decode cX11_share 120 = .ok (.lmul, 1) := by decide +kernel
theorem dX11_share_121 : decode cX11_share 121 = .ok (.lload 4, 2) := by decide +kernel
theorem dX11_share_123 : decode cX11_share 123 = .ok (.iload_n 2, 1) := by decide +kernel
theorem dX11_share_124 : decode cX11_share 124 = .ok (.invokestatic 254, 3) := by decide +kernel
theorem dX11_share_127 : decode cX11_share 127 = .ok (.lreturn, 1) := by decide +kernel
def wX11_share_85 (post : Int64 → Sto → Prop)  (K41 : Int32 → Int32 → Int32 → Int64 → Int32 → Sto → Prop) (x1 : Int32) (x2 : Int32) (x3 : Int32) (x6 : Int32) (y0 : Int64) (y1 : Int64) (σ : Sto) : Prop := K41 x1 x2 x3 (y1 + y0) (x6 + (1 : Int32)) σ
set_option maxRecDepth 100000 in
set_option maxHeartbeats 4000000 in
theorem vX11_share_85 (E : Ev) (post : Int64 → Sto → Prop)   (K41 : Int32 → Int32 → Int32 → Int64 → Int32 → Sto → Prop) (HK41 : ∀ (x1 : Int32) (x2 : Int32) (x3 : Int32) (x4 : Int64) (x6 : Int32) (σ : Sto), K41 x1 x2 x3 x4 x6 σ → V E 8 mX11_share (pL post) 41 [(0, .ref 67), (1, .int x1), (2, .int x2), (3, .int x3), (4, .long x4), (6, .int x6)] [] σ) (x1 : Int32) (x2 : Int32) (x3 : Int32) (x6 : Int32) (y0 : Int64) (y1 : Int64) (σ : Sto) (h : wX11_share_85 post  K41 x1 x2 x3 x6 y0 y1 σ) : V E 8 mX11_share (pL post) 85 [(0, .ref 67), (1, .int x1), (2, .int x2), (3, .int x3), (6, .int x6)] [.long y0, .long y1] σ := by
  unfold wX11_share_85 at h
  refine V_ladd (pc := 85) dX11_share_85 ?_
  refine V_lstore (pc := 86) dX11_share_86 (by decide) ?_
  refine V_iinc (pc := 88) 5 (v := 1) dX11_share_88 rfl (by decide) (by decide) ?_
  refine V_goto (pc := 91) (tgt := 41) dX11_share_91 (by decide) ?_
  exact V_loc [2, 3, 4, 5, 1, 0] rfl (HK41 x1 x2 x3 (y1 + y0) (x6 + (1 : Int32)) σ  h)
def wX11_share_41 (post : Int64 → Sto → Prop)  (K94 : Int32 → Int32 → Int32 → Int64 → Sto → Prop) : Nat → Int32 → Int32 → Int32 → Int64 → Int32 → Sto → Prop
  | 0, _, _, _, _, _, _ => False
  | n + 1, x1, x2, x3, x4, x6, σ => (((σ.1 67 1) ≤ x6) → (K94 x1 x2 x3 x4 σ)) ∧ ((¬ ((σ.1 67 1) ≤ x6)) → (wX11_isRepeat  x6 x1 σ (fun (r56 : Bool) (s56 : Sto) => ((r56 = false) → (wX11_share_85 post  (wX11_share_41 post  K94 n) x1 x2 x3 x6 ((0 : Int64)) x4 s56)) ∧ ((r56 = true) → (wX11_withinTop  x6 x1 s56 (fun (r66 : Int64) (s66 : Sto) => wX11_withinBottom  x6 x1 s66 (fun (r76 : Int64) (s76 : Sto) => (¬ r76 = 0) ∧ (wX11_share_85 post  (wX11_share_41 post  K94 n) x1 x2 x3 x6 (r66 * (((840 : Int64)) / r76)) x4 s76))))))))
set_option maxRecDepth 100000 in
set_option maxHeartbeats 4000000 in
theorem vX11_share_41 (E : Ev) (post : Int64 → Sto → Prop)   (K94 : Int32 → Int32 → Int32 → Int64 → Sto → Prop) (HK94 : ∀ (x1 : Int32) (x2 : Int32) (x3 : Int32) (x4 : Int64) (σ : Sto), K94 x1 x2 x3 x4 σ → V E 8 mX11_share (pL post) 94 [(0, .ref 67), (1, .int x1), (2, .int x2), (3, .int x3), (4, .long x4)] [] σ) : ∀ (n : Nat) (x1 : Int32) (x2 : Int32) (x3 : Int32) (x4 : Int64) (x6 : Int32) (σ : Sto), wX11_share_41 post  K94 n x1 x2 x3 x4 x6 σ → V E 8 mX11_share (pL post) 41 [(0, .ref 67), (1, .int x1), (2, .int x2), (3, .int x3), (4, .long x4), (6, .int x6)] [] σ := by
  intro n
  induction n with
  | zero => intro x1 x2 x3 x4 x6 σ h; exact h.elim
  | succ n ih =>
    intro x1 x2 x3 x4 x6 σ h
    unfold wX11_share_41 at h
    refine V_iload (pc := 41) 5 dX11_share_41 rfl ?_
    refine V_aload_n (pc := 43) 0 dX11_share_43 rfl ?_
    refine V_getI (pc := 44) dX11_share_44 fl_X11_101 sh_67 rfl ?_
    refine V_icmp_ge (pc := 47) (tgt := 94) dX11_share_47 (by decide) (fun hc => ?_) (fun hc => ?_)
    · replace h := h.1 hc
      exact V_loc [0, 1, 2, 3, 4] rfl (HK94 x1 x2 x3 x4 σ  h)
    · replace h := h.2 hc
      refine V_lload (pc := 50) 4 dX11_share_50 rfl ?_
      refine V_aload_n (pc := 52) 0 dX11_share_52 rfl ?_
      refine V_iload (pc := 53) 5 dX11_share_53 rfl ?_
      refine V_iload_n (pc := 55) 1 dX11_share_55 rfl ?_
      refine V_callV (pc := 56) (M' := mX11_isRepeat) dX11_share_56 ml_X11_279 kv_X11_isRepeat ko_X11_isRepeat sh_67 (by decide) (by decide) rfl rfl (Nat.le_of_ble_eq_true rfl) (Nat.le_of_ble_eq_true rfl) (vX11_isRepeat E  x6 x1 σ _  h) (kB (fun r56 s56 h => ?_))
      refine V_ifz (pc := 59) (tgt := 84) dX11_share_59 (by decide) (fun hc => ?_) (fun hc => ?_)
      · replace h := h.1 hc
        refine V_lconst (pc := 84) (v := 0) dX11_share_84 (by decide) ?_
        refine V_loc [0, 1, 2, 3, 5] rfl (vX11_share_85 E post   _ ih x1 x2 x3 x6 ((0 : Int64)) x4 s56  h)
      · replace h := h.2 hc
        refine V_aload_n (pc := 62) 0 dX11_share_62 rfl ?_
        refine V_iload (pc := 63) 5 dX11_share_63 rfl ?_
        refine V_iload_n (pc := 65) 1 dX11_share_65 rfl ?_
        refine V_callV (pc := 66) (M' := mX11_withinTop) dX11_share_66 ml_X11_282 kv_X11_withinTop ko_X11_withinTop sh_67 (by decide) (by decide) rfl rfl (Nat.le_of_ble_eq_true rfl) (Nat.le_of_ble_eq_true rfl) (vX11_withinTop E  x6 x1 s56 _  h) (kL (fun r66 s66 h => ?_))
        refine V_ldc2 (pc := 69) dX11_share_69 cl_X11_291 ?_
        refine V_aload_n (pc := 72) 0 dX11_share_72 rfl ?_
        refine V_iload (pc := 73) 5 dX11_share_73 rfl ?_
        refine V_iload_n (pc := 75) 1 dX11_share_75 rfl ?_
        refine V_callV (pc := 76) (M' := mX11_withinBottom) dX11_share_76 ml_X11_285 kv_X11_withinBottom ko_X11_withinBottom sh_67 (by decide) (by decide) rfl rfl (Nat.le_of_ble_eq_true rfl) (Nat.le_of_ble_eq_true rfl) (vX11_withinBottom E  x6 x1 s66 _  h) (kL (fun r76 s76 h => ?_))
        obtain ⟨z79, h⟩ := h
        refine V_ldiv (pc := 79) dX11_share_79 z79 ?_
        refine V_lmul (pc := 80) dX11_share_80 ?_
        refine V_goto (pc := 81) (tgt := 85) dX11_share_81 (by decide) ?_
        refine V_loc [0, 1, 2, 3, 5] rfl (vX11_share_85 E post   _ ih x1 x2 x3 x6 (r66 * (((840 : Int64)) / r76)) x4 s76  h)
def wX11_share  (x1 : Int32) (x2 : Int32) (σ : Sto) (post : Int64 → Sto → Prop) : Prop := wX11_isPiece  x1 σ (fun (r1 : Bool) (s1 : Sto) => ((r1 = false) → (post ((-9223372036854775806 : Int64)) s1)) ∧ ((r1 = true) → (wX11_in  x2 ((0 : Int32)) ((1 : Int32)) s1 (fun (r10 : Bool) (s10 : Sto) => ((r10 = true) → (wX11_widestOf  x1 s10 (fun (r22 : Int32) (s22 : Sto) => ((¬ r22 = ((-1 : Int32))) → (∃ n41, wX11_share_41 post  (fun (x1_1 : Int32) (x2_1 : Int32) (x3_1 : Int32) (x4_1 : Int64) (σ_1 : Sto) => ((¬ x4_1 = ((0 : Int64))) → (wX11_withinTop  x3_1 x1_1 σ_1 (fun (r107 : Int64) (s107 : Sto) => wX11_withinBottom  x3_1 x1_1 s107 (fun (r116 : Int64) (s116 : Sto) => (¬ r116 = 0) ∧ (wX11_lowest  (r107 * (((840 : Int64)) / r116)) x4_1 x2_1 s116 (fun (r124 : Int64) (s124 : Sto) => post r124 s124)))))) ∧ ((x4_1 = ((0 : Int64))) → (post x2_1.toInt64 σ_1))) n41 x1 x2 r22 ((0 : Int64)) ((0 : Int32)) s22)) ∧ ((r22 = ((-1 : Int32))) → (post ((-9223372036854775805 : Int64)) s22))))) ∧ ((r10 = false) → (post ((-9223372036854775806 : Int64)) s10))))))
set_option maxRecDepth 100000 in
set_option maxHeartbeats 4000000 in
theorem vX11_share (E : Ev)  (x1 : Int32) (x2 : Int32) (σ : Sto) (post : Int64 → Sto → Prop)  (h : wX11_share  x1 x2 σ post) : V E 8 mX11_share (pL post) 0 [(0, .ref 67), (1, .int x1), (2, .int x2)] [] σ := by
  unfold wX11_share at h
  refine V_iload_n (pc := 0) 1 dX11_share_0 rfl ?_
  refine V_callS (pc := 1) (M' := mX11_isPiece) dX11_share_1 ml_X11_119 ks_X11_isPiece ko_X11_isPiece (by decide) rfl (Nat.le_of_ble_eq_true rfl) (Nat.le_of_ble_eq_true rfl) (vX11_isPiece E  x1 σ _  h) (kB (fun r1 s1 h => ?_))
  refine V_ifz (pc := 4) (tgt := 16) dX11_share_4 (by decide) (fun hc => ?_) (fun hc => ?_)
  · replace h := h.1 hc
    refine V_ldc2 (pc := 16) dX11_share_16 cl_X11_249 ?_
    exact V_lret dX11_share_19 rfl h
  · replace h := h.2 hc
    refine V_iload_n (pc := 7) 2 dX11_share_7 rfl ?_
    refine V_iconst (pc := 8) (v := 0) dX11_share_8 (by decide) ?_
    refine V_iconst (pc := 9) (v := 1) dX11_share_9 (by decide) ?_
    refine V_callS (pc := 10) (M' := mX11_in) dX11_share_10 ml_X11_104 ks_X11_in ko_X11_in (by decide) rfl (Nat.le_of_ble_eq_true rfl) (Nat.le_of_ble_eq_true rfl) (vX11_in E  x2 ((0 : Int32)) ((1 : Int32)) s1 _  h) (kB (fun r10 s10 h => ?_))
    refine V_ifnz (pc := 13) (tgt := 20) dX11_share_13 (by decide) (fun hc => ?_) (fun hc => ?_)
    · replace h := h.1 hc
      refine V_aload_n (pc := 20) 0 dX11_share_20 rfl ?_
      refine V_iload_n (pc := 21) 1 dX11_share_21 rfl ?_
      refine V_callV (pc := 22) (M' := mX11_widestOf) dX11_share_22 ml_X11_288 kv_X11_widestOf ko_X11_widestOf sh_67 (by decide) (by decide) rfl rfl (Nat.le_of_ble_eq_true rfl) (Nat.le_of_ble_eq_true rfl) (vX11_widestOf E  x1 s10 _  h) (kI (fun r22 s22 h => ?_))
      refine V_istore_n (pc := 25) dX11_share_25 (by decide) ?_
      refine V_iload_n (pc := 26) 0 dX11_share_26 rfl ?_
      refine V_iconst (pc := 27) (v := -1) dX11_share_27 (by decide) ?_
      refine V_icmp_ne (pc := 28) (tgt := 35) dX11_share_28 (by decide) (fun hc => ?_) (fun hc => ?_)
      · replace h := h.1 hc
        refine V_lconst (pc := 35) (v := 0) dX11_share_35 (by decide) ?_
        refine V_lstore (pc := 36) dX11_share_36 (by decide) ?_
        refine V_iconst (pc := 38) (v := 0) dX11_share_38 (by decide) ?_
        refine V_istore (pc := 39) dX11_share_39 (by decide) ?_
        obtain ⟨n41, h⟩ := h
        refine V_loc [3, 4, 5, 2, 1, 0] rfl (vX11_share_41 E post   _ (fun x1_1 x2_1 x3_1 x4_1 σ_1 h => ?_) n41 x1 x2 r22 ((0 : Int64)) ((0 : Int32)) s22  h)
        · refine V_lload (pc := 94) 4 dX11_share_94 rfl ?_
          refine V_lconst (pc := 96) (v := 0) dX11_share_96 (by decide) ?_
          refine V_lc_ne (pc := 97) (tgt := 104) dX11_share_97 dX11_share_98 (by decide) (fun hc => ?_) (fun hc => ?_)
          · replace h := h.1 hc
            refine V_aload_n (pc := 104) 0 dX11_share_104 rfl ?_
            refine V_iload_n (pc := 105) 3 dX11_share_105 rfl ?_
            refine V_iload_n (pc := 106) 1 dX11_share_106 rfl ?_
            refine V_callV (pc := 107) (M' := mX11_withinTop) dX11_share_107 ml_X11_282 kv_X11_withinTop ko_X11_withinTop sh_67 (by decide) (by decide) rfl rfl (Nat.le_of_ble_eq_true rfl) (Nat.le_of_ble_eq_true rfl) (vX11_withinTop E  x3_1 x1_1 σ_1 _  h) (kL (fun r107 s107 h => ?_))
            refine V_ldc2 (pc := 110) dX11_share_110 cl_X11_291 ?_
            refine V_aload_n (pc := 113) 0 dX11_share_113 rfl ?_
            refine V_iload_n (pc := 114) 3 dX11_share_114 rfl ?_
            refine V_iload_n (pc := 115) 1 dX11_share_115 rfl ?_
            refine V_callV (pc := 116) (M' := mX11_withinBottom) dX11_share_116 ml_X11_285 kv_X11_withinBottom ko_X11_withinBottom sh_67 (by decide) (by decide) rfl rfl (Nat.le_of_ble_eq_true rfl) (Nat.le_of_ble_eq_true rfl) (vX11_withinBottom E  x3_1 x1_1 s107 _  h) (kL (fun r116 s116 h => ?_))
            obtain ⟨z119, h⟩ := h
            refine V_ldiv (pc := 119) dX11_share_119 z119 ?_
            refine V_lmul (pc := 120) dX11_share_120 ?_
            refine V_lload (pc := 121) 4 dX11_share_121 rfl ?_
            refine V_iload_n (pc := 123) 2 dX11_share_123 rfl ?_
            refine V_callS (pc := 124) (M' := mX11_lowest) dX11_share_124 ml_X11_254 ks_X11_lowest ko_X11_lowest (by decide) rfl (Nat.le_of_ble_eq_true rfl) (Nat.le_of_ble_eq_true rfl) (vX11_lowest E  (r107 * (((840 : Int64)) / r116)) x4_1 x2_1 s116 _  h) (kL (fun r124 s124 h => ?_))
            exact V_lret dX11_share_127 rfl h
          · replace h := h.2 hc
            refine V_iload_n (pc := 101) 2 dX11_share_101 rfl ?_
            refine V_i2l (pc := 102) dX11_share_102 ?_
            exact V_lret dX11_share_103 rfl h
      · replace h := h.2 hc
        refine V_ldc2 (pc := 31) dX11_share_31 cl_X11_258 ?_
        exact V_lret dX11_share_34 rfl h
    · replace h := h.2 hc
      refine V_ldc2 (pc := 16) dX11_share_16 cl_X11_249 ?_
      exact V_lret dX11_share_19 rfl h
theorem dX11_parts_0 : decode cX11_parts 0 = .ok (.iload_n 1, 1) := by decide +kernel
theorem dX11_parts_1 : decode cX11_parts 1 = .ok (.invokestatic 119, 3) := by decide +kernel
theorem dX11_parts_4 : decode cX11_parts 4 = .ok (.ifCond .eq 21, 3) := by decide +kernel
theorem dX11_parts_7 : decode cX11_parts 7 = .ok (.iload_n 2, 1) := by decide +kernel
theorem dX11_parts_8 : decode cX11_parts 8 = .ok (.iconst 0, 1) := by decide +kernel
theorem dX11_parts_9 : decode cX11_parts 9 = .ok (.iconst 1, 1) := by decide +kernel
theorem dX11_parts_10 : decode cX11_parts 10 = .ok (.invokestatic 104, 3) := by decide +kernel
theorem dX11_parts_13 : decode cX11_parts 13 = .ok (.ifCond .eq 12, 3) := by decide +kernel
theorem dX11_parts_16 : decode cX11_parts 16 = .ok (.iload_n 3, 1) := by decide +kernel
theorem dX11_parts_17 : decode cX11_parts 17 = .ok (.iconst 0, 1) := by decide +kernel
theorem dX11_parts_18 : decode cX11_parts 18 = .ok (.iconst 1, 1) := by decide +kernel
theorem dX11_parts_19 : decode cX11_parts 19 = .ok (.invokestatic 104, 3) := by decide +kernel
theorem dX11_parts_22 : decode cX11_parts 22 = .ok (.ifCond .ne 7, 3) := by decide +kernel
theorem dX11_parts_25 : decode cX11_parts 25 = .ok (.ldc2_w 249, 3) := by decide +kernel
theorem dX11_parts_28 : decode cX11_parts 28 = .ok (.lreturn, 1) := by decide +kernel
theorem dX11_parts_29 : decode cX11_parts 29 = .ok (.lconst 0, 1) := by decide +kernel
theorem dX11_parts_30 : decode cX11_parts 30 = .ok (.lstore 4, 2) := by decide +kernel
theorem dX11_parts_32 : decode cX11_parts 32 = .ok (.lconst 0, 1) := by decide +kernel
theorem dX11_parts_33 : decode cX11_parts 33 = .ok (.lstore 6, 2) := by decide +kernel
theorem dX11_parts_35 : decode cX11_parts 35 = .ok (.iconst 1, 1) := by decide +kernel
theorem dX11_parts_36 : decode cX11_parts 36 = .ok (.istore 8, 2) := by decide +kernel
theorem dX11_parts_38 : decode cX11_parts 38 = .ok (.lconst 0, 1) := by decide +kernel
theorem dX11_parts_39 : decode cX11_parts 39 = .ok (.lstore 9, 2) := by decide +kernel
theorem dX11_parts_41 : decode cX11_parts 41 = .ok (.lconst 0, 1) := by decide +kernel
theorem dX11_parts_42 : decode cX11_parts 42 = .ok (.lstore 11, 2) := by decide +kernel
theorem dX11_parts_44 : decode cX11_parts 44 = .ok (.lconst 0, 1) := by decide +kernel
theorem dX11_parts_45 : decode cX11_parts 45 = .ok (.lstore 13, 2) := by decide +kernel
theorem dX11_parts_47 : decode cX11_parts 47 = .ok (.aload_n 0, 1) := by decide +kernel
theorem dX11_parts_48 : decode cX11_parts 48 = .ok (.invokevirtual 157, 3) := by decide +kernel
theorem dX11_parts_51 : decode cX11_parts 51 = .ok (.iconst 0, 1) := by decide +kernel
theorem dX11_parts_52 : decode cX11_parts 52 = .ok (.istore 15, 2) := by decide +kernel
theorem dX11_parts_54 : decode cX11_parts 54 = .ok (.iload 15, 2) := by decide +kernel
theorem dX11_parts_56 : decode cX11_parts 56 = .ok (.aload_n 0, 1) := by decide +kernel
theorem dX11_parts_57 : decode cX11_parts 57 = .ok (.getfield 101, 3) := by decide +kernel
theorem dX11_parts_60 : decode cX11_parts 60 = .ok (.if_icmp .ge 103, 3) := by decide +kernel
theorem dX11_parts_63 : decode cX11_parts 63 = .ok (.aload_n 0, 1) := by decide +kernel
theorem dX11_parts_64 : decode cX11_parts 64 = .ok (.iload 15, 2) := by decide +kernel
theorem dX11_parts_66 : decode cX11_parts 66 = .ok (.iload_n 1, 1) := by decide +kernel
theorem dX11_parts_67 : decode cX11_parts 67 = .ok (.invokevirtual 160, 3) := by decide +kernel
theorem dX11_parts_70 : decode cX11_parts 70 = .ok (.ifCond .eq 87, 3) := by decide +kernel
theorem dX11_parts_73 : decode cX11_parts 73 = .ok (.aload_n 0, 1) := by decide +kernel
theorem dX11_parts_74 : decode cX11_parts 74 = .ok (.getfield 54, 3) := by decide +kernel
theorem dX11_parts_77 : decode cX11_parts 77 = .ok (.iconst 4, 1) := by decide +kernel
theorem dX11_parts_78 : decode cX11_parts 78 = .ok (.iload 15, 2) := by decide +kernel
theorem dX11_parts_80 : decode cX11_parts 80 = .ok (.imul, 1) := by decide +kernel
theorem dX11_parts_81 : decode cX11_parts 81 = .ok (.iload_n 1, 1) := by decide +kernel
theorem dX11_parts_82 : decode cX11_parts 82 = .ok (.iadd, 1) := by decide +kernel
theorem dX11_parts_83 : decode cX11_parts 83 = .ok (.iaload, 1) := by decide +kernel
theorem dX11_parts_84 : decode cX11_parts 84 = .ok (.i2l, 1) := by decide +kernel
theorem dX11_parts_85 : decode cX11_parts 85 = .ok (.lstore 16, 2) := by decide +kernel
theorem dX11_parts_87 : decode cX11_parts 87 = .ok (.iload 8, 2) := by decide +kernel
theorem dX11_parts_89 : decode cX11_parts 89 = .ok (.ifCond .eq 22, 3) := by decide +kernel
theorem dX11_parts_92 : decode cX11_parts 92 = .ok (.lload 4, 2) := by decide +kernel
theorem dX11_parts_94 : decode cX11_parts 94 = .ok (.lconst 0, 1) := by decide +kernel
theorem dX11_parts_95 : decode cX11_parts 95 = .ok (.lcmp, 1) := by decide +kernel
theorem dX11_parts_96 : decode cX11_parts 96 = .ok (.ifCond .eq 11, 3) := by decide +kernel
theorem dX11_parts_99 : decode cX11_parts 99 = .ok (.lload 16, 2) := by decide +kernel
theorem dX11_parts_101 : decode cX11_parts 101 = .ok (.lload 6, 2) := by decide +kernel
theorem dX11_parts_103 : decode cX11_parts 103 = .ok (.lcmp, 1) := by decide +kernel
theorem dX11_parts_104 : decode cX11_parts 104 = .ok (.ifCond .ne 7, 3) := by decide +kernel
theorem dX11_parts_107 : decode cX11_parts 107 = .ok (.iconst 1, 1) := by decide +kernel
theorem dX11_parts_108 : decode cX11_parts 108 = .ok (.goto 4, 3) := by decide +kernel
theorem dX11_parts_111 : decode cX11_parts 111 = .ok (.iconst 0, 1) := by decide +kernel
theorem dX11_parts_112 : decode cX11_parts 112 = .ok (.istore 8, 2) := by decide +kernel
theorem dX11_parts_114 : decode cX11_parts 114 = .ok (.lload 16, 2) := by decide +kernel
theorem dX11_parts_116 : decode cX11_parts 116 = .ok (.lstore 6, 2) := by decide +kernel
theorem dX11_parts_118 : decode cX11_parts 118 = .ok (.lload 4, 2) := by decide +kernel
theorem dX11_parts_120 : decode cX11_parts 120 = .ok (.lconst 1, 1) := by decide +kernel
theorem dX11_parts_121 : decode cX11_parts 121 = .ok (.ladd, 1) := by decide +kernel
theorem dX11_parts_122 : decode cX11_parts 122 = .ok (.lstore 4, 2) := by decide +kernel
theorem dX11_parts_124 : decode cX11_parts 124 = .ok (.lload 13, 2) := by decide +kernel
theorem dX11_parts_126 : decode cX11_parts 126 = .ok (.aload_n 0, 1) := by decide +kernel
theorem dX11_parts_127 : decode cX11_parts 127 = .ok (.iload 15, 2) := by decide +kernel
theorem dX11_parts_129 : decode cX11_parts 129 = .ok (.iload_n 1, 1) := by decide +kernel
theorem dX11_parts_130 : decode cX11_parts 130 = .ok (.invokevirtual 282, 3) := by decide +kernel
theorem dX11_parts_133 : decode cX11_parts 133 = .ok (.ladd, 1) := by decide +kernel
theorem dX11_parts_134 : decode cX11_parts 134 = .ok (.lstore 13, 2) := by decide +kernel
theorem dX11_parts_136 : decode cX11_parts 136 = .ok (.lload 9, 2) := by decide +kernel
theorem dX11_parts_138 : decode cX11_parts 138 = .ok (.aload_n 0, 1) := by decide +kernel
theorem dX11_parts_139 : decode cX11_parts 139 = .ok (.getfield 269, 3) := by decide +kernel
theorem dX11_parts_142 : decode cX11_parts 142 = .ok (.ladd, 1) := by decide +kernel
theorem dX11_parts_143 : decode cX11_parts 143 = .ok (.lstore 9, 2) := by decide +kernel
theorem dX11_parts_145 : decode cX11_parts 145 = .ok (.lload 11, 2) := by decide +kernel
theorem dX11_parts_147 : decode cX11_parts 147 = .ok (.aload_n 0, 1) := by decide +kernel
theorem dX11_parts_148 : decode cX11_parts 148 = .ok (.getfield 269, 3) := by decide +kernel
theorem dX11_parts_151 : decode cX11_parts 151 = .ok (.invokestatic 172, 3) := by decide +kernel
theorem dX11_parts_154 : decode cX11_parts 154 = .ok (.ladd, 1) := by decide +kernel
theorem dX11_parts_155 : decode cX11_parts 155 = .ok (.lstore 11, 2) := by decide +kernel
theorem dX11_parts_157 : decode cX11_parts 157 = .ok (.iinc 15 1, 3) := by decide +kernel
theorem dX11_parts_160 : decode cX11_parts 160 = .ok (.goto (-106), 3) := by decide +kernel
theorem dX11_parts_163 : decode cX11_parts 163 = .ok (.iload 8, 2) := by decide +kernel
theorem dX11_parts_165 : decode cX11_parts 165 = .ok (.ifCond .eq 21, 3) := by decide +kernel
theorem dX11_parts_168 : decode cX11_parts 168 = .ok (.lload 4, 2) := by decide +kernel
theorem dX11_parts_170 : decode cX11_parts 170 = .ok (.ldc2_w 88, 3) := by decide +kernel
theorem dX11_parts_173 : decode cX11_parts 173 = .ok (.lcmp, 1) := by decide +kernel
theorem dX11_parts_174 : decode cX11_parts 174 = .ok (.ifCond .lt 12, 3) := by decide +kernel
theorem dX11_parts_177 : decode cX11_parts 177 = .ok (.lload 6, 2) := by decide +kernel
theorem dX11_parts_179 : decode cX11_parts 179 = .ok (.ldc2_w 88, 3) := by decide +kernel
theorem dX11_parts_182 : decode cX11_parts 182 = .ok (.lcmp, 1) := by decide +kernel
theorem dX11_parts_183 : decode cX11_parts 183 = .ok (.ifCond .ge 7, 3) := by decide +kernel
theorem dX11_parts_186 : decode cX11_parts 186 = .ok (.ldc2_w 258, 3) := by decide +kernel
theorem dX11_parts_189 : decode cX11_parts 189 = .ok (.lreturn, 1) := by decide +kernel
theorem dX11_parts_190 : decode cX11_parts 190 = .ok (.iload_n 2, 1) := by decide +kernel
theorem dX11_parts_191 : decode cX11_parts 191 = .ok (.ifCond .ne 20, 3) := by decide +kernel
theorem dX11_parts_194 : decode cX11_parts 194 = .ok (.lload 13, 2) := by decide +kernel
theorem dX11_parts_196 : decode cX11_parts 196 = .ok (.lload 4, 2) := by decide +kernel
theorem dX11_parts_198 : decode cX11_parts 198 = .ok (.lload 6, 2) := by decide +kernel
theorem dX11_parts_200 : decode cX11_parts 200 = .ok (.lmul, 1) := by decide +kernel
theorem dX11_parts_201 : decode cX11_parts 201 = .ok (.lload 6, 2) := by decide +kernel
theorem dX11_parts_203 : decode cX11_parts 203 = .ok (.lconst 1, 1) := by decide +kernel
theorem dX11_parts_204 : decode cX11_parts 204 = .ok (.lsub, 1) := by decide +kernel
theorem dX11_parts_205 : decode cX11_parts 205 = .ok (.lmul, 1) := by decide +kernel
theorem dX11_parts_206 : decode cX11_parts 206 = .ok (.iload_n 3, 1) := by decide +kernel
theorem dX11_parts_207 : decode cX11_parts 207 = .ok (.invokestatic 254, 3) := by decide +kernel
theorem dX11_parts_210 : decode cX11_parts 210 = .ok (.lreturn, 1) := by decide +kernel
theorem dX11_parts_211 : decode cX11_parts 211 = .ok (.lload 4, 2) := by decide +kernel
theorem dX11_parts_213 : decode cX11_parts 213 = .ok (.lload 11, 2) := by decide +kernel
theorem dX11_parts_215 : decode cX11_parts 215 = .ok (.lmul, 1) := by decide +kernel
theorem dX11_parts_216 : decode cX11_parts 216 = .ok (.lload 9, 2) := by decide +kernel
theorem dX11_parts_218 : decode cX11_parts 218 = .ok (.invokestatic 172, 3) := by decide +kernel
theorem dX11_parts_221 : decode cX11_parts 221 = .ok (.lsub, 1) := by decide +kernel
theorem dX11_parts_222 : decode cX11_parts 222 = .ok (.lload 6, 2) := by decide +kernel
theorem dX11_parts_224 : decode cX11_parts 224 = .ok (.lconst 1, 1) := by decide +kernel
theorem dX11_parts_225 : decode cX11_parts 225 = .ok (.lsub, 1) := by decide +kernel
theorem dX11_parts_226 : decode cX11_parts 226 = .ok (.lmul, 1) := by decide +kernel
theorem dX11_parts_227 : decode cX11_parts 227 = .ok (.lload 13, 2) := by decide +kernel
theorem dX11_parts_229 : decode cX11_parts 229 = .ok (.lload 4, 2) := by decide +kernel
theorem dX11_parts_231 : decode cX11_parts 231 = .ok (.lconst 1, 1) := by decide +kernel
theorem dX11_parts_232 : decode cX11_parts 232 = .ok (.lsub, 1) := by decide +kernel
theorem dX11_parts_233 : decode cX11_parts 233 = .ok (.lmul, 1) := by decide +kernel
theorem dX11_parts_234 : decode cX11_parts 234 = .ok (.lsub, 1) := by decide +kernel
theorem dX11_parts_235 : decode cX11_parts 235 = .ok (.lstore 15, 2) := by decide +kernel
theorem dX11_parts_237 : decode cX11_parts 237 = .ok (.lload 15, 2) := by decide +kernel
theorem dX11_parts_239 : decode cX11_parts 239 = .ok (.lconst 0, 1) := by decide +kernel
theorem dX11_parts_240 : decode cX11_parts 240 = .ok (.lcmp, 1) := by decide +kernel
theorem dX11_parts_241 : decode cX11_parts 241 = .ok (.ifCond .gt 8, 3) := by decide +kernel
theorem dX11_parts_244 : decode cX11_parts 244 = .ok (.iload_n 3, 1) := by decide +kernel
theorem dX11_parts_245 : decode cX11_parts 245 = .ok (.i2l, 1) := by decide +kernel
theorem dX11_parts_246 : decode cX11_parts 246 = .ok (.goto 27, 3) := by decide +kernel
theorem dX11_parts_249 : decode cX11_parts 249 = .ok (.lload 15, 2) := by decide +kernel
theorem dX11_parts_251 : decode cX11_parts 251 = .ok (.lload 4, 2) := by decide +kernel
theorem dX11_parts_253 : decode cX11_parts 253 = .ok (.lload 4, 2) := by decide +kernel
theorem dX11_parts_255 : decode cX11_parts 255 = .ok (.lconst 1, 1) := by decide +kernel
theorem dX11_parts_256 : decode cX11_parts 256 = .ok (.lsub, 1) := by decide +kernel
theorem dX11_parts_257 : decode cX11_parts 257 = .ok (.lmul, 1) := by decide +kernel
theorem dX11_parts_258 : decode cX11_parts 258 = .ok (.lload 6, 2) := by decide +kernel
theorem dX11_parts_260 : decode cX11_parts 260 = .ok (.lmul, 1) := by decide +kernel
theorem dX11_parts_261 : decode cX11_parts 261 = .ok (.lload 6, 2) := by decide +kernel
theorem dX11_parts_263 : decode cX11_parts 263 = .ok (.lmul, 1) := by decide +kernel
theorem dX11_parts_264 : decode cX11_parts 264 = .ok (.lload 6, 2) := by decide +kernel
theorem dX11_parts_266 : decode cX11_parts 266 = .ok (.lconst 1, 1) := by decide +kernel
theorem dX11_parts_267 : decode cX11_parts 267 = .ok (.lsub, 1) := by decide +kernel
theorem dX11_parts_268 : decode cX11_parts 268 = .ok (.lmul, 1) := by decide +kernel
theorem dX11_parts_269 : decode cX11_parts 269 = .ok (.iload_n 3, 1) := by decide +kernel
theorem dX11_parts_270 : decode cX11_parts 270 = .ok (.invokestatic 254, 3) := by decide +kernel
theorem dX11_parts_273 : decode cX11_parts 273 = .ok (.lreturn, 1) := by decide +kernel
def wX11_parts_112 (post : Int64 → Sto → Prop)  (K54 : Int32 → Int32 → Int32 → Int64 → Int64 → Int32 → Int64 → Int64 → Int64 → Int32 → Sto → Prop) (x1 : Int32) (x2 : Int32) (x3 : Int32) (x4 : Int64) (x9 : Int64) (x11 : Int64) (x13 : Int64) (x15 : Int32) (x16 : Int64) (y0 : Int32) (σ : Sto) : Prop := wX11_withinTop  x15 x1 σ (fun (r130 : Int64) (s130 : Sto) => wX11_square  (s130.2 67 27) s130 (fun (r151 : Int64) (s151 : Sto) => K54 x1 x2 x3 (x4 + ((1 : Int64))) x16 y0 (x9 + (s130.2 67 27)) (x11 + r151) (x13 + r130) (x15 + (1 : Int32)) s151))
set_option maxRecDepth 100000 in
set_option maxHeartbeats 4000000 in
theorem vX11_parts_112 (E : Ev) (post : Int64 → Sto → Prop)   (K54 : Int32 → Int32 → Int32 → Int64 → Int64 → Int32 → Int64 → Int64 → Int64 → Int32 → Sto → Prop) (HK54 : ∀ (x1 : Int32) (x2 : Int32) (x3 : Int32) (x4 : Int64) (x6 : Int64) (x8 : Int32) (x9 : Int64) (x11 : Int64) (x13 : Int64) (x15 : Int32) (σ : Sto), K54 x1 x2 x3 x4 x6 x8 x9 x11 x13 x15 σ → V E 7 mX11_parts (pL post) 54 [(0, .ref 67), (1, .int x1), (2, .int x2), (3, .int x3), (4, .long x4), (6, .long x6), (8, .int x8), (9, .long x9), (11, .long x11), (13, .long x13), (15, .int x15)] [] σ) (x1 : Int32) (x2 : Int32) (x3 : Int32) (x4 : Int64) (x9 : Int64) (x11 : Int64) (x13 : Int64) (x15 : Int32) (x16 : Int64) (y0 : Int32) (σ : Sto) (h : wX11_parts_112 post  K54 x1 x2 x3 x4 x9 x11 x13 x15 x16 y0 σ) : V E 7 mX11_parts (pL post) 112 [(0, .ref 67), (1, .int x1), (2, .int x2), (3, .int x3), (4, .long x4), (9, .long x9), (11, .long x11), (13, .long x13), (15, .int x15), (16, .long x16)] [.int y0] σ := by
  unfold wX11_parts_112 at h
  refine V_istore (pc := 112) dX11_parts_112 (by decide) ?_
  refine V_lload (pc := 114) 10 dX11_parts_114 rfl ?_
  refine V_lstore (pc := 116) dX11_parts_116 (by decide) ?_
  refine V_lload (pc := 118) 6 dX11_parts_118 rfl ?_
  refine V_lconst (pc := 120) (v := 1) dX11_parts_120 (by decide) ?_
  refine V_ladd (pc := 121) dX11_parts_121 ?_
  refine V_lstore (pc := 122) dX11_parts_122 (by decide) ?_
  refine V_lload (pc := 124) 9 dX11_parts_124 rfl ?_
  refine V_aload_n (pc := 126) 3 dX11_parts_126 rfl ?_
  refine V_iload (pc := 127) 10 dX11_parts_127 rfl ?_
  refine V_iload_n (pc := 129) 4 dX11_parts_129 rfl ?_
  refine V_callV (pc := 130) (M' := mX11_withinTop) dX11_parts_130 ml_X11_282 kv_X11_withinTop ko_X11_withinTop sh_67 (by decide) (by decide) rfl rfl (Nat.le_of_ble_eq_true rfl) (Nat.le_of_ble_eq_true rfl) (vX11_withinTop E  x15 x1 σ _  h) (kL (fun r130 s130 h => ?_))
  refine V_ladd (pc := 133) dX11_parts_133 ?_
  refine V_lstore (pc := 134) dX11_parts_134 (by decide) ?_
  refine V_lload (pc := 136) 8 dX11_parts_136 rfl ?_
  refine V_aload_n (pc := 138) 4 dX11_parts_138 rfl ?_
  refine V_getL (pc := 139) dX11_parts_139 fl_X11_269 sh_67 rfl ?_
  refine V_ladd (pc := 142) dX11_parts_142 ?_
  refine V_lstore (pc := 143) dX11_parts_143 (by decide) ?_
  refine V_lload (pc := 145) 9 dX11_parts_145 rfl ?_
  refine V_aload_n (pc := 147) 5 dX11_parts_147 rfl ?_
  refine V_getL (pc := 148) dX11_parts_148 fl_X11_269 sh_67 rfl ?_
  refine V_callS (pc := 151) (M' := mX11_square) dX11_parts_151 ml_X11_172 ks_X11_square ko_X11_square (by decide) rfl (Nat.le_of_ble_eq_true rfl) (Nat.le_of_ble_eq_true rfl) (vX11_square E  (s130.2 67 27) s130 _  h) (kL (fun r151 s151 h => ?_))
  refine V_ladd (pc := 154) dX11_parts_154 ?_
  refine V_lstore (pc := 155) dX11_parts_155 (by decide) ?_
  refine V_iinc (pc := 157) 10 (v := 1) dX11_parts_157 rfl (by decide) (by decide) ?_
  refine V_goto (pc := 160) (tgt := 54) dX11_parts_160 (by decide) ?_
  exact V_loc [7, 8, 9, 10, 4, 5, 6, 2, 1, 3, 0] rfl (HK54 x1 x2 x3 (x4 + ((1 : Int64))) x16 y0 (x9 + (s130.2 67 27)) (x11 + r151) (x13 + r130) (x15 + (1 : Int32)) s151  h)
def wX11_parts_111 (post : Int64 → Sto → Prop)  (K54 : Int32 → Int32 → Int32 → Int64 → Int64 → Int32 → Int64 → Int64 → Int64 → Int32 → Sto → Prop) (x1 : Int32) (x2 : Int32) (x3 : Int32) (x4 : Int64) (x9 : Int64) (x11 : Int64) (x13 : Int64) (x15 : Int32) (x16 : Int64) (σ : Sto) : Prop := wX11_parts_112 post  K54 x1 x2 x3 x4 x9 x11 x13 x15 x16 ((0 : Int32)) σ
set_option maxRecDepth 100000 in
set_option maxHeartbeats 4000000 in
theorem vX11_parts_111 (E : Ev) (post : Int64 → Sto → Prop)   (K54 : Int32 → Int32 → Int32 → Int64 → Int64 → Int32 → Int64 → Int64 → Int64 → Int32 → Sto → Prop) (HK54 : ∀ (x1 : Int32) (x2 : Int32) (x3 : Int32) (x4 : Int64) (x6 : Int64) (x8 : Int32) (x9 : Int64) (x11 : Int64) (x13 : Int64) (x15 : Int32) (σ : Sto), K54 x1 x2 x3 x4 x6 x8 x9 x11 x13 x15 σ → V E 7 mX11_parts (pL post) 54 [(0, .ref 67), (1, .int x1), (2, .int x2), (3, .int x3), (4, .long x4), (6, .long x6), (8, .int x8), (9, .long x9), (11, .long x11), (13, .long x13), (15, .int x15)] [] σ) (x1 : Int32) (x2 : Int32) (x3 : Int32) (x4 : Int64) (x9 : Int64) (x11 : Int64) (x13 : Int64) (x15 : Int32) (x16 : Int64) (σ : Sto) (h : wX11_parts_111 post  K54 x1 x2 x3 x4 x9 x11 x13 x15 x16 σ) : V E 7 mX11_parts (pL post) 111 [(0, .ref 67), (1, .int x1), (2, .int x2), (3, .int x3), (4, .long x4), (9, .long x9), (11, .long x11), (13, .long x13), (15, .int x15), (16, .long x16)] [] σ := by
  unfold wX11_parts_111 at h
  refine V_iconst (pc := 111) (v := 0) dX11_parts_111 (by decide) ?_
  refine V_loc [0, 1, 2, 3, 4, 5, 6, 7, 8, 9] rfl (vX11_parts_112 E post   K54 HK54 x1 x2 x3 x4 x9 x11 x13 x15 x16 ((0 : Int32)) σ  h)
def wX11_parts_107 (post : Int64 → Sto → Prop)  (K54 : Int32 → Int32 → Int32 → Int64 → Int64 → Int32 → Int64 → Int64 → Int64 → Int32 → Sto → Prop) (x1 : Int32) (x2 : Int32) (x3 : Int32) (x4 : Int64) (x9 : Int64) (x11 : Int64) (x13 : Int64) (x15 : Int32) (x16 : Int64) (σ : Sto) : Prop := wX11_parts_112 post  K54 x1 x2 x3 x4 x9 x11 x13 x15 x16 ((1 : Int32)) σ
set_option maxRecDepth 100000 in
set_option maxHeartbeats 4000000 in
theorem vX11_parts_107 (E : Ev) (post : Int64 → Sto → Prop)   (K54 : Int32 → Int32 → Int32 → Int64 → Int64 → Int32 → Int64 → Int64 → Int64 → Int32 → Sto → Prop) (HK54 : ∀ (x1 : Int32) (x2 : Int32) (x3 : Int32) (x4 : Int64) (x6 : Int64) (x8 : Int32) (x9 : Int64) (x11 : Int64) (x13 : Int64) (x15 : Int32) (σ : Sto), K54 x1 x2 x3 x4 x6 x8 x9 x11 x13 x15 σ → V E 7 mX11_parts (pL post) 54 [(0, .ref 67), (1, .int x1), (2, .int x2), (3, .int x3), (4, .long x4), (6, .long x6), (8, .int x8), (9, .long x9), (11, .long x11), (13, .long x13), (15, .int x15)] [] σ) (x1 : Int32) (x2 : Int32) (x3 : Int32) (x4 : Int64) (x9 : Int64) (x11 : Int64) (x13 : Int64) (x15 : Int32) (x16 : Int64) (σ : Sto) (h : wX11_parts_107 post  K54 x1 x2 x3 x4 x9 x11 x13 x15 x16 σ) : V E 7 mX11_parts (pL post) 107 [(0, .ref 67), (1, .int x1), (2, .int x2), (3, .int x3), (4, .long x4), (9, .long x9), (11, .long x11), (13, .long x13), (15, .int x15), (16, .long x16)] [] σ := by
  unfold wX11_parts_107 at h
  refine V_iconst (pc := 107) (v := 1) dX11_parts_107 (by decide) ?_
  refine V_goto (pc := 108) (tgt := 112) dX11_parts_108 (by decide) ?_
  refine V_loc [0, 1, 2, 3, 4, 5, 6, 7, 8, 9] rfl (vX11_parts_112 E post   K54 HK54 x1 x2 x3 x4 x9 x11 x13 x15 x16 ((1 : Int32)) σ  h)
def wX11_parts_54 (post : Int64 → Sto → Prop)  (K163 : Int32 → Int32 → Int64 → Int64 → Int32 → Int64 → Int64 → Int64 → Sto → Prop) : Nat → Int32 → Int32 → Int32 → Int64 → Int64 → Int32 → Int64 → Int64 → Int64 → Int32 → Sto → Prop
  | 0, _, _, _, _, _, _, _, _, _, _, _ => False
  | n + 1, x1, x2, x3, x4, x6, x8, x9, x11, x13, x15, σ => (((σ.1 67 1) ≤ x15) → (K163 x2 x3 x4 x6 x8 x9 x11 x13 σ)) ∧ ((¬ ((σ.1 67 1) ≤ x15)) → (wX11_takes  x15 x1 σ (fun (r67 : Bool) (s67 : Sto) => ((r67 = false) → (wX11_parts_54 post  K163 n x1 x2 x3 x4 x6 x8 x9 x11 x13 (x15 + (1 : Int32)) s67)) ∧ ((r67 = true) → (vp_in ((((4 : Int32)) * x15) + x1) 56 ∧ (((x8 = 0) → (wX11_parts_111 post  (wX11_parts_54 post  K163 n) x1 x2 x3 x4 x9 x11 x13 x15 ((s67.1 80 ((((4 : Int32)) * x15) + x1).toNatClampNeg).toInt64) s67)) ∧ ((¬ (x8 = 0)) → (((x4 = ((0 : Int64))) → (wX11_parts_107 post  (wX11_parts_54 post  K163 n) x1 x2 x3 x4 x9 x11 x13 x15 ((s67.1 80 ((((4 : Int32)) * x15) + x1).toNatClampNeg).toInt64) s67)) ∧ ((¬ (x4 = ((0 : Int64)))) → (((¬ ((s67.1 80 ((((4 : Int32)) * x15) + x1).toNatClampNeg).toInt64) = x6) → (wX11_parts_111 post  (wX11_parts_54 post  K163 n) x1 x2 x3 x4 x9 x11 x13 x15 ((s67.1 80 ((((4 : Int32)) * x15) + x1).toNatClampNeg).toInt64) s67)) ∧ ((((s67.1 80 ((((4 : Int32)) * x15) + x1).toNatClampNeg).toInt64) = x6) → (wX11_parts_107 post  (wX11_parts_54 post  K163 n) x1 x2 x3 x4 x9 x11 x13 x15 ((s67.1 80 ((((4 : Int32)) * x15) + x1).toNatClampNeg).toInt64) s67))))))))))))
set_option maxRecDepth 100000 in
set_option maxHeartbeats 4000000 in
theorem vX11_parts_54 (E : Ev) (post : Int64 → Sto → Prop)   (K163 : Int32 → Int32 → Int64 → Int64 → Int32 → Int64 → Int64 → Int64 → Sto → Prop) (HK163 : ∀ (x2 : Int32) (x3 : Int32) (x4 : Int64) (x6 : Int64) (x8 : Int32) (x9 : Int64) (x11 : Int64) (x13 : Int64) (σ : Sto), K163 x2 x3 x4 x6 x8 x9 x11 x13 σ → V E 7 mX11_parts (pL post) 163 [(2, .int x2), (3, .int x3), (4, .long x4), (6, .long x6), (8, .int x8), (9, .long x9), (11, .long x11), (13, .long x13)] [] σ) : ∀ (n : Nat) (x1 : Int32) (x2 : Int32) (x3 : Int32) (x4 : Int64) (x6 : Int64) (x8 : Int32) (x9 : Int64) (x11 : Int64) (x13 : Int64) (x15 : Int32) (σ : Sto), wX11_parts_54 post  K163 n x1 x2 x3 x4 x6 x8 x9 x11 x13 x15 σ → V E 7 mX11_parts (pL post) 54 [(0, .ref 67), (1, .int x1), (2, .int x2), (3, .int x3), (4, .long x4), (6, .long x6), (8, .int x8), (9, .long x9), (11, .long x11), (13, .long x13), (15, .int x15)] [] σ := by
  intro n
  induction n with
  | zero => intro x1 x2 x3 x4 x6 x8 x9 x11 x13 x15 σ h; exact h.elim
  | succ n ih =>
    intro x1 x2 x3 x4 x6 x8 x9 x11 x13 x15 σ h
    unfold wX11_parts_54 at h
    refine V_iload (pc := 54) 10 dX11_parts_54 rfl ?_
    refine V_aload_n (pc := 56) 0 dX11_parts_56 rfl ?_
    refine V_getI (pc := 57) dX11_parts_57 fl_X11_101 sh_67 rfl ?_
    refine V_icmp_ge (pc := 60) (tgt := 163) dX11_parts_60 (by decide) (fun hc => ?_) (fun hc => ?_)
    · replace h := h.1 hc
      exact V_loc [2, 3, 4, 5, 6, 7, 8, 9] rfl (HK163 x2 x3 x4 x6 x8 x9 x11 x13 σ  h)
    · replace h := h.2 hc
      refine V_aload_n (pc := 63) 0 dX11_parts_63 rfl ?_
      refine V_iload (pc := 64) 10 dX11_parts_64 rfl ?_
      refine V_iload_n (pc := 66) 1 dX11_parts_66 rfl ?_
      refine V_callV (pc := 67) (M' := mX11_takes) dX11_parts_67 ml_X11_160 kv_X11_takes ko_X11_takes sh_67 (by decide) (by decide) rfl rfl (Nat.le_of_ble_eq_true rfl) (Nat.le_of_ble_eq_true rfl) (vX11_takes E  x15 x1 σ _  h) (kB (fun r67 s67 h => ?_))
      refine V_ifz (pc := 70) (tgt := 157) dX11_parts_70 (by decide) (fun hc => ?_) (fun hc => ?_)
      · replace h := h.1 hc
        refine V_iinc (pc := 157) 10 (v := 1) dX11_parts_157 rfl (by decide) (by decide) ?_
        refine V_goto (pc := 160) (tgt := 54) dX11_parts_160 (by decide) ?_
        exact V_loc [1, 2, 3, 4, 5, 6, 7, 8, 9, 10, 0] rfl (ih x1 x2 x3 x4 x6 x8 x9 x11 x13 (x15 + (1 : Int32)) s67  h)
      · replace h := h.2 hc
        refine V_aload_n (pc := 73) 0 dX11_parts_73 rfl ?_
        refine V_getR (pc := 74) dX11_parts_74 fl_X11_54 sh_67 rfl ?_
        refine V_iconst (pc := 77) (v := 4) dX11_parts_77 (by decide) ?_
        refine V_iload (pc := 78) 10 dX11_parts_78 rfl ?_
        refine V_imul (pc := 80) dX11_parts_80 ?_
        refine V_iload_n (pc := 81) 1 dX11_parts_81 rfl ?_
        refine V_iadd (pc := 82) dX11_parts_82 ?_
        obtain ⟨i83, h⟩ := h
        refine V_iald (pc := 83) dX11_parts_83 sh_80 i83 ?_
        refine V_i2l (pc := 84) dX11_parts_84 ?_
        refine V_lstore (pc := 85) dX11_parts_85 (by decide) ?_
        refine V_iload (pc := 87) 7 dX11_parts_87 rfl ?_
        refine V_if_eq (pc := 89) (tgt := 111) dX11_parts_89 (by decide) (fun hc => ?_) (fun hc => ?_)
        · replace h := h.1 hc
          refine V_loc [1, 2, 3, 4, 5, 8, 9, 10, 11, 0] rfl (vX11_parts_111 E post   _ ih x1 x2 x3 x4 x9 x11 x13 x15 ((s67.1 80 ((((4 : Int32)) * x15) + x1).toNatClampNeg).toInt64) s67  h)
        · replace h := h.2 hc
          refine V_lload (pc := 92) 5 dX11_parts_92 rfl ?_
          refine V_lconst (pc := 94) (v := 0) dX11_parts_94 (by decide) ?_
          refine V_lc_eq (pc := 95) (tgt := 107) dX11_parts_95 dX11_parts_96 (by decide) (fun hc => ?_) (fun hc => ?_)
          · replace h := h.1 hc
            refine V_loc [1, 2, 3, 4, 5, 8, 9, 10, 11, 0] rfl (vX11_parts_107 E post   _ ih x1 x2 x3 x4 x9 x11 x13 x15 ((s67.1 80 ((((4 : Int32)) * x15) + x1).toNatClampNeg).toInt64) s67  h)
          · replace h := h.2 hc
            refine V_lload (pc := 99) 0 dX11_parts_99 rfl ?_
            refine V_lload (pc := 101) 6 dX11_parts_101 rfl ?_
            refine V_lc_ne (pc := 103) (tgt := 111) dX11_parts_103 dX11_parts_104 (by decide) (fun hc => ?_) (fun hc => ?_)
            · replace h := h.1 hc
              refine V_loc [1, 2, 3, 4, 5, 8, 9, 10, 11, 0] rfl (vX11_parts_111 E post   _ ih x1 x2 x3 x4 x9 x11 x13 x15 ((s67.1 80 ((((4 : Int32)) * x15) + x1).toNatClampNeg).toInt64) s67  h)
            · replace h := h.2 hc
              refine V_loc [1, 2, 3, 4, 5, 8, 9, 10, 11, 0] rfl (vX11_parts_107 E post   _ ih x1 x2 x3 x4 x9 x11 x13 x15 ((s67.1 80 ((((4 : Int32)) * x15) + x1).toNatClampNeg).toInt64) s67  h)
def wX11_parts  (x1 : Int32) (x2 : Int32) (x3 : Int32) (σ : Sto) (post : Int64 → Sto → Prop) : Prop := wX11_isPiece  x1 σ (fun (r1 : Bool) (s1 : Sto) => ((r1 = false) → (post ((-9223372036854775806 : Int64)) s1)) ∧ ((r1 = true) → (wX11_in  x2 ((0 : Int32)) ((1 : Int32)) s1 (fun (r10 : Bool) (s10 : Sto) => ((r10 = false) → (post ((-9223372036854775806 : Int64)) s10)) ∧ ((r10 = true) → (wX11_in  x3 ((0 : Int32)) ((1 : Int32)) s10 (fun (r19 : Bool) (s19 : Sto) => ((r19 = true) → (wX11_works   s19 (fun (s48 : Sto) => ∃ n54, wX11_parts_54 post  (fun (x2_1 : Int32) (x3_1 : Int32) (x4_1 : Int64) (x6_1 : Int64) (x8_1 : Int32) (x9_1 : Int64) (x11_1 : Int64) (x13_1 : Int64) (σ_1 : Sto) => ((x8_1 = 0) → (post ((-9223372036854775805 : Int64)) σ_1)) ∧ ((¬ (x8_1 = 0)) → (((x4_1 < ((2 : Int64))) → (post ((-9223372036854775805 : Int64)) σ_1)) ∧ ((¬ (x4_1 < ((2 : Int64)))) → (((((2 : Int64)) ≤ x6_1) → (((¬ x2_1 = 0) → (wX11_square  x9_1 σ_1 (fun (r218 : Int64) (s218 : Sto) => ((((0 : Int64)) < ((((x4_1 * x11_1) - r218) * (x6_1 - ((1 : Int64)))) - (x13_1 * (x4_1 - ((1 : Int64)))))) → (wX11_lowest  ((((x4_1 * x11_1) - r218) * (x6_1 - ((1 : Int64)))) - (x13_1 * (x4_1 - ((1 : Int64))))) ((((x4_1 * (x4_1 - ((1 : Int64)))) * x6_1) * x6_1) * (x6_1 - ((1 : Int64)))) x3_1 s218 (fun (r270 : Int64) (s270 : Sto) => post r270 s270))) ∧ ((¬ (((0 : Int64)) < ((((x4_1 * x11_1) - r218) * (x6_1 - ((1 : Int64)))) - (x13_1 * (x4_1 - ((1 : Int64))))))) → (post x3_1.toInt64 s218))))) ∧ ((x2_1 = 0) → (wX11_lowest  x13_1 ((x4_1 * x6_1) * (x6_1 - ((1 : Int64)))) x3_1 σ_1 (fun (r207 : Int64) (s207 : Sto) => post r207 s207))))) ∧ ((¬ (((2 : Int64)) ≤ x6_1)) → (post ((-9223372036854775805 : Int64)) σ_1))))))) n54 x1 x2 x3 ((0 : Int64)) ((0 : Int64)) ((1 : Int32)) ((0 : Int64)) ((0 : Int64)) ((0 : Int64)) ((0 : Int32)) s48))) ∧ ((r19 = false) → (post ((-9223372036854775806 : Int64)) s19)))))))))
set_option maxRecDepth 100000 in
set_option maxHeartbeats 4000000 in
theorem vX11_parts (E : Ev)  (x1 : Int32) (x2 : Int32) (x3 : Int32) (σ : Sto) (post : Int64 → Sto → Prop)  (h : wX11_parts  x1 x2 x3 σ post) : V E 7 mX11_parts (pL post) 0 [(0, .ref 67), (1, .int x1), (2, .int x2), (3, .int x3)] [] σ := by
  unfold wX11_parts at h
  refine V_iload_n (pc := 0) 1 dX11_parts_0 rfl ?_
  refine V_callS (pc := 1) (M' := mX11_isPiece) dX11_parts_1 ml_X11_119 ks_X11_isPiece ko_X11_isPiece (by decide) rfl (Nat.le_of_ble_eq_true rfl) (Nat.le_of_ble_eq_true rfl) (vX11_isPiece E  x1 σ _  h) (kB (fun r1 s1 h => ?_))
  refine V_ifz (pc := 4) (tgt := 25) dX11_parts_4 (by decide) (fun hc => ?_) (fun hc => ?_)
  · replace h := h.1 hc
    refine V_ldc2 (pc := 25) dX11_parts_25 cl_X11_249 ?_
    exact V_lret dX11_parts_28 rfl h
  · replace h := h.2 hc
    refine V_iload_n (pc := 7) 2 dX11_parts_7 rfl ?_
    refine V_iconst (pc := 8) (v := 0) dX11_parts_8 (by decide) ?_
    refine V_iconst (pc := 9) (v := 1) dX11_parts_9 (by decide) ?_
    refine V_callS (pc := 10) (M' := mX11_in) dX11_parts_10 ml_X11_104 ks_X11_in ko_X11_in (by decide) rfl (Nat.le_of_ble_eq_true rfl) (Nat.le_of_ble_eq_true rfl) (vX11_in E  x2 ((0 : Int32)) ((1 : Int32)) s1 _  h) (kB (fun r10 s10 h => ?_))
    refine V_ifz (pc := 13) (tgt := 25) dX11_parts_13 (by decide) (fun hc => ?_) (fun hc => ?_)
    · replace h := h.1 hc
      refine V_ldc2 (pc := 25) dX11_parts_25 cl_X11_249 ?_
      exact V_lret dX11_parts_28 rfl h
    · replace h := h.2 hc
      refine V_iload_n (pc := 16) 3 dX11_parts_16 rfl ?_
      refine V_iconst (pc := 17) (v := 0) dX11_parts_17 (by decide) ?_
      refine V_iconst (pc := 18) (v := 1) dX11_parts_18 (by decide) ?_
      refine V_callS (pc := 19) (M' := mX11_in) dX11_parts_19 ml_X11_104 ks_X11_in ko_X11_in (by decide) rfl (Nat.le_of_ble_eq_true rfl) (Nat.le_of_ble_eq_true rfl) (vX11_in E  x3 ((0 : Int32)) ((1 : Int32)) s10 _  h) (kB (fun r19 s19 h => ?_))
      refine V_ifnz (pc := 22) (tgt := 29) dX11_parts_22 (by decide) (fun hc => ?_) (fun hc => ?_)
      · replace h := h.1 hc
        refine V_lconst (pc := 29) (v := 0) dX11_parts_29 (by decide) ?_
        refine V_lstore (pc := 30) dX11_parts_30 (by decide) ?_
        refine V_lconst (pc := 32) (v := 0) dX11_parts_32 (by decide) ?_
        refine V_lstore (pc := 33) dX11_parts_33 (by decide) ?_
        refine V_iconst (pc := 35) (v := 1) dX11_parts_35 (by decide) ?_
        refine V_istore (pc := 36) dX11_parts_36 (by decide) ?_
        refine V_lconst (pc := 38) (v := 0) dX11_parts_38 (by decide) ?_
        refine V_lstore (pc := 39) dX11_parts_39 (by decide) ?_
        refine V_lconst (pc := 41) (v := 0) dX11_parts_41 (by decide) ?_
        refine V_lstore (pc := 42) dX11_parts_42 (by decide) ?_
        refine V_lconst (pc := 44) (v := 0) dX11_parts_44 (by decide) ?_
        refine V_lstore (pc := 45) dX11_parts_45 (by decide) ?_
        refine V_aload_n (pc := 47) 6 dX11_parts_47 rfl ?_
        refine V_callV (pc := 48) (M' := mX11_works) dX11_parts_48 ml_X11_157 kv_X11_works ko_X11_works sh_67 (by decide) (by decide) rfl rfl (Nat.le_of_ble_eq_true rfl) (Nat.le_of_ble_eq_true rfl) (vX11_works E   s19 _  h) (kV (fun s48 h => ?_))
        refine V_iconst (pc := 51) (v := 0) dX11_parts_51 (by decide) ?_
        refine V_istore (pc := 52) dX11_parts_52 (by decide) ?_
        obtain ⟨n54, h⟩ := h
        refine V_loc [7, 8, 9, 10, 6, 5, 4, 3, 2, 1, 0] rfl (vX11_parts_54 E post   _ (fun x2_1 x3_1 x4_1 x6_1 x8_1 x9_1 x11_1 x13_1 σ_1 h => ?_) n54 x1 x2 x3 ((0 : Int64)) ((0 : Int64)) ((1 : Int32)) ((0 : Int64)) ((0 : Int64)) ((0 : Int64)) ((0 : Int32)) s48  h)
        · refine V_iload (pc := 163) 4 dX11_parts_163 rfl ?_
          refine V_if_eq (pc := 165) (tgt := 186) dX11_parts_165 (by decide) (fun hc => ?_) (fun hc => ?_)
          · replace h := h.1 hc
            refine V_ldc2 (pc := 186) dX11_parts_186 cl_X11_258 ?_
            exact V_lret dX11_parts_189 rfl h
          · replace h := h.2 hc
            refine V_lload (pc := 168) 2 dX11_parts_168 rfl ?_
            refine V_ldc2 (pc := 170) dX11_parts_170 cl_X11_88 ?_
            refine V_lc_lt (pc := 173) (tgt := 186) dX11_parts_173 dX11_parts_174 (by decide) (fun hc => ?_) (fun hc => ?_)
            · replace h := h.1 hc
              refine V_ldc2 (pc := 186) dX11_parts_186 cl_X11_258 ?_
              exact V_lret dX11_parts_189 rfl h
            · replace h := h.2 hc
              refine V_lload (pc := 177) 3 dX11_parts_177 rfl ?_
              refine V_ldc2 (pc := 179) dX11_parts_179 cl_X11_88 ?_
              refine V_lc_ge (pc := 182) (tgt := 190) dX11_parts_182 dX11_parts_183 (by decide) (fun hc => ?_) (fun hc => ?_)
              · replace h := h.1 hc
                refine V_iload_n (pc := 190) 0 dX11_parts_190 rfl ?_
                refine V_if_ne (pc := 191) (tgt := 211) dX11_parts_191 (by decide) (fun hc => ?_) (fun hc => ?_)
                · replace h := h.1 hc
                  refine V_lload (pc := 211) 2 dX11_parts_211 rfl ?_
                  refine V_lload (pc := 213) 6 dX11_parts_213 rfl ?_
                  refine V_lmul (pc := 215) dX11_parts_215 ?_
                  refine V_lload (pc := 216) 5 dX11_parts_216 rfl ?_
                  refine V_callS (pc := 218) (M' := mX11_square) dX11_parts_218 ml_X11_172 ks_X11_square ko_X11_square (by decide) rfl (Nat.le_of_ble_eq_true rfl) (Nat.le_of_ble_eq_true rfl) (vX11_square E  x9_1 σ_1 _  h) (kL (fun r218 s218 h => ?_))
                  refine V_lsub (pc := 221) dX11_parts_221 ?_
                  refine V_lload (pc := 222) 3 dX11_parts_222 rfl ?_
                  refine V_lconst (pc := 224) (v := 1) dX11_parts_224 (by decide) ?_
                  refine V_lsub (pc := 225) dX11_parts_225 ?_
                  refine V_lmul (pc := 226) dX11_parts_226 ?_
                  refine V_lload (pc := 227) 7 dX11_parts_227 rfl ?_
                  refine V_lload (pc := 229) 2 dX11_parts_229 rfl ?_
                  refine V_lconst (pc := 231) (v := 1) dX11_parts_231 (by decide) ?_
                  refine V_lsub (pc := 232) dX11_parts_232 ?_
                  refine V_lmul (pc := 233) dX11_parts_233 ?_
                  refine V_lsub (pc := 234) dX11_parts_234 ?_
                  refine V_lstore (pc := 235) dX11_parts_235 (by decide) ?_
                  refine V_lload (pc := 237) 0 dX11_parts_237 rfl ?_
                  refine V_lconst (pc := 239) (v := 0) dX11_parts_239 (by decide) ?_
                  refine V_lc_gt (pc := 240) (tgt := 249) dX11_parts_240 dX11_parts_241 (by decide) (fun hc => ?_) (fun hc => ?_)
                  · replace h := h.1 hc
                    refine V_lload (pc := 249) 0 dX11_parts_249 rfl ?_
                    refine V_lload (pc := 251) 3 dX11_parts_251 rfl ?_
                    refine V_lload (pc := 253) 3 dX11_parts_253 rfl ?_
                    refine V_lconst (pc := 255) (v := 1) dX11_parts_255 (by decide) ?_
                    refine V_lsub (pc := 256) dX11_parts_256 ?_
                    refine V_lmul (pc := 257) dX11_parts_257 ?_
                    refine V_lload (pc := 258) 4 dX11_parts_258 rfl ?_
                    refine V_lmul (pc := 260) dX11_parts_260 ?_
                    refine V_lload (pc := 261) 4 dX11_parts_261 rfl ?_
                    refine V_lmul (pc := 263) dX11_parts_263 ?_
                    refine V_lload (pc := 264) 4 dX11_parts_264 rfl ?_
                    refine V_lconst (pc := 266) (v := 1) dX11_parts_266 (by decide) ?_
                    refine V_lsub (pc := 267) dX11_parts_267 ?_
                    refine V_lmul (pc := 268) dX11_parts_268 ?_
                    refine V_iload_n (pc := 269) 2 dX11_parts_269 rfl ?_
                    refine V_callS (pc := 270) (M' := mX11_lowest) dX11_parts_270 ml_X11_254 ks_X11_lowest ko_X11_lowest (by decide) rfl (Nat.le_of_ble_eq_true rfl) (Nat.le_of_ble_eq_true rfl) (vX11_lowest E  ((((x4_1 * x11_1) - r218) * (x6_1 - ((1 : Int64)))) - (x13_1 * (x4_1 - ((1 : Int64))))) ((((x4_1 * (x4_1 - ((1 : Int64)))) * x6_1) * x6_1) * (x6_1 - ((1 : Int64)))) x3_1 s218 _  h) (kL (fun r270 s270 h => ?_))
                    exact V_lret dX11_parts_273 rfl h
                  · replace h := h.2 hc
                    refine V_iload_n (pc := 244) 2 dX11_parts_244 rfl ?_
                    refine V_i2l (pc := 245) dX11_parts_245 ?_
                    refine V_goto (pc := 246) (tgt := 273) dX11_parts_246 (by decide) ?_
                    exact V_lret dX11_parts_273 rfl h
                · replace h := h.2 hc
                  refine V_lload (pc := 194) 7 dX11_parts_194 rfl ?_
                  refine V_lload (pc := 196) 2 dX11_parts_196 rfl ?_
                  refine V_lload (pc := 198) 3 dX11_parts_198 rfl ?_
                  refine V_lmul (pc := 200) dX11_parts_200 ?_
                  refine V_lload (pc := 201) 3 dX11_parts_201 rfl ?_
                  refine V_lconst (pc := 203) (v := 1) dX11_parts_203 (by decide) ?_
                  refine V_lsub (pc := 204) dX11_parts_204 ?_
                  refine V_lmul (pc := 205) dX11_parts_205 ?_
                  refine V_iload_n (pc := 206) 1 dX11_parts_206 rfl ?_
                  refine V_callS (pc := 207) (M' := mX11_lowest) dX11_parts_207 ml_X11_254 ks_X11_lowest ko_X11_lowest (by decide) rfl (Nat.le_of_ble_eq_true rfl) (Nat.le_of_ble_eq_true rfl) (vX11_lowest E  x13_1 ((x4_1 * x6_1) * (x6_1 - ((1 : Int64)))) x3_1 σ_1 _  h) (kL (fun r207 s207 h => ?_))
                  exact V_lret dX11_parts_210 rfl h
              · replace h := h.2 hc
                refine V_ldc2 (pc := 186) dX11_parts_186 cl_X11_258 ?_
                exact V_lret dX11_parts_189 rfl h
      · replace h := h.2 hc
        refine V_ldc2 (pc := 25) dX11_parts_25 cl_X11_249 ?_
        exact V_lret dX11_parts_28 rfl h
theorem dX11_wayMany_0 : decode cX11_wayMany 0 = .ok (.iconst 0, 1) := by decide +kernel
theorem dX11_wayMany_1 : decode cX11_wayMany 1 = .ok (.istore_n 3, 1) := by decide +kernel
theorem dX11_wayMany_2 : decode cX11_wayMany 2 = .ok (.iconst 0, 1) := by decide +kernel
theorem dX11_wayMany_3 : decode cX11_wayMany 3 = .ok (.istore 4, 2) := by decide +kernel
theorem dX11_wayMany_5 : decode cX11_wayMany 5 = .ok (.iload 4, 2) := by decide +kernel
theorem dX11_wayMany_7 : decode cX11_wayMany 7 = .ok (.aload_n 0, 1) := by decide +kernel
theorem dX11_wayMany_8 : decode cX11_wayMany 8 = .ok (.getfield 101, 3) := by decide +kernel
theorem dX11_wayMany_11 : decode cX11_wayMany 11 = .ok (.if_icmp .ge 38, 3) := by decide +kernel
theorem dX11_wayMany_14 : decode cX11_wayMany 14 = .ok (.iload_n 3, 1) := by decide +kernel
theorem dX11_wayMany_15 : decode cX11_wayMany 15 = .ok (.aload_n 0, 1) := by decide +kernel
theorem dX11_wayMany_16 : decode cX11_wayMany 16 = .ok (.iload 4, 2) := by decide +kernel
theorem dX11_wayMany_18 : decode cX11_wayMany 18 = .ok (.iload_n 1, 1) := by decide +kernel
theorem dX11_wayMany_19 : decode cX11_wayMany 19 = .ok (.invokevirtual 160, 3) := by decide +kernel
theorem dX11_wayMany_22 : decode cX11_wayMany 22 = .ok (.ifCond .eq 18, 3) := by decide +kernel
theorem dX11_wayMany_25 : decode cX11_wayMany 25 = .ok (.aload_n 0, 1) := by decide +kernel
theorem dX11_wayMany_26 : decode cX11_wayMany 26 = .ok (.getfield 9, 3) := by decide +kernel
theorem dX11_wayMany_29 : decode cX11_wayMany 29 = .ok (.iload 4, 2) := by decide +kernel
theorem dX11_wayMany_31 : decode cX11_wayMany 31 = .ok (.iaload, 1) := by decide +kernel
theorem dX11_wayMany_32 : decode cX11_wayMany 32 = .ok (.iload_n 2, 1) := by decide +kernel
theorem dX11_wayMany_33 : decode cX11_wayMany 33 = .ok (.if_icmp .ne 7, 3) := by decide +kernel
theorem dX11_wayMany_36 : decode cX11_wayMany 36 = .ok (.iconst 1, 1) := by decide +kernel
theorem dX11_wayMany_37 : decode cX11_wayMany 37 = .ok (.goto 4, 3) := by decide +kernel
theorem dX11_wayMany_40 : decode cX11_wayMany 40 = .ok (.iconst 0, 1) := by decide +kernel
theorem dX11_wayMany_41 : decode cX11_wayMany 41 = .ok (.iadd, 1) := by decide +kernel
theorem dX11_wayMany_42 : decode cX11_wayMany 42 = .ok (.istore_n 3, 1) := by decide +kernel
theorem dX11_wayMany_43 : decode cX11_wayMany 43 = .ok (.iinc 4 1, 3) := by decide +kernel
theorem dX11_wayMany_46 : decode cX11_wayMany 46 = .ok (.goto (-41), 3) := by decide +kernel
theorem dX11_wayMany_49 : decode cX11_wayMany 49 = .ok (.iload_n 3, 1) := by decide +kernel
theorem dX11_wayMany_50 : decode cX11_wayMany 50 = .ok (.ireturn, 1) := by decide +kernel
def wX11_wayMany_41 (post : Int32 → Sto → Prop)  (K5 : Int32 → Int32 → Int32 → Int32 → Sto → Prop) (x1 : Int32) (x2 : Int32) (x4 : Int32) (y0 : Int32) (y1 : Int32) (σ : Sto) : Prop := K5 x1 x2 (y1 + y0) (x4 + (1 : Int32)) σ
set_option maxRecDepth 100000 in
set_option maxHeartbeats 4000000 in
theorem vX11_wayMany_41 (E : Ev) (post : Int32 → Sto → Prop)   (K5 : Int32 → Int32 → Int32 → Int32 → Sto → Prop) (HK5 : ∀ (x1 : Int32) (x2 : Int32) (x3 : Int32) (x4 : Int32) (σ : Sto), K5 x1 x2 x3 x4 σ → V E 6 mX11_wayMany (pI post) 5 [(0, .ref 67), (1, .int x1), (2, .int x2), (3, .int x3), (4, .int x4)] [] σ) (x1 : Int32) (x2 : Int32) (x4 : Int32) (y0 : Int32) (y1 : Int32) (σ : Sto) (h : wX11_wayMany_41 post  K5 x1 x2 x4 y0 y1 σ) : V E 6 mX11_wayMany (pI post) 41 [(0, .ref 67), (1, .int x1), (2, .int x2), (4, .int x4)] [.int y0, .int y1] σ := by
  unfold wX11_wayMany_41 at h
  refine V_iadd (pc := 41) dX11_wayMany_41 ?_
  refine V_istore_n (pc := 42) dX11_wayMany_42 (by decide) ?_
  refine V_iinc (pc := 43) 4 (v := 1) dX11_wayMany_43 rfl (by decide) (by decide) ?_
  refine V_goto (pc := 46) (tgt := 5) dX11_wayMany_46 (by decide) ?_
  exact V_loc [2, 3, 4, 1, 0] rfl (HK5 x1 x2 (y1 + y0) (x4 + (1 : Int32)) σ  h)
def wX11_wayMany_40 (post : Int32 → Sto → Prop)  (K5 : Int32 → Int32 → Int32 → Int32 → Sto → Prop) (x1 : Int32) (x2 : Int32) (x4 : Int32) (y0 : Int32) (σ : Sto) : Prop := wX11_wayMany_41 post  K5 x1 x2 x4 ((0 : Int32)) y0 σ
set_option maxRecDepth 100000 in
set_option maxHeartbeats 4000000 in
theorem vX11_wayMany_40 (E : Ev) (post : Int32 → Sto → Prop)   (K5 : Int32 → Int32 → Int32 → Int32 → Sto → Prop) (HK5 : ∀ (x1 : Int32) (x2 : Int32) (x3 : Int32) (x4 : Int32) (σ : Sto), K5 x1 x2 x3 x4 σ → V E 6 mX11_wayMany (pI post) 5 [(0, .ref 67), (1, .int x1), (2, .int x2), (3, .int x3), (4, .int x4)] [] σ) (x1 : Int32) (x2 : Int32) (x4 : Int32) (y0 : Int32) (σ : Sto) (h : wX11_wayMany_40 post  K5 x1 x2 x4 y0 σ) : V E 6 mX11_wayMany (pI post) 40 [(0, .ref 67), (1, .int x1), (2, .int x2), (4, .int x4)] [.int y0] σ := by
  unfold wX11_wayMany_40 at h
  refine V_iconst (pc := 40) (v := 0) dX11_wayMany_40 (by decide) ?_
  refine V_loc [0, 1, 2, 3] rfl (vX11_wayMany_41 E post   K5 HK5 x1 x2 x4 ((0 : Int32)) y0 σ  h)
def wX11_wayMany_5 (post : Int32 → Sto → Prop)  (K49 : Int32 → Sto → Prop) : Nat → Int32 → Int32 → Int32 → Int32 → Sto → Prop
  | 0, _, _, _, _, _ => False
  | n + 1, x1, x2, x3, x4, σ => (((σ.1 67 1) ≤ x4) → (K49 x3 σ)) ∧ ((¬ ((σ.1 67 1) ≤ x4)) → (wX11_takes  x4 x1 σ (fun (r19 : Bool) (s19 : Sto) => ((r19 = false) → (wX11_wayMany_40 post  (wX11_wayMany_5 post  K49 n) x1 x2 x4 x3 s19)) ∧ ((r19 = true) → (vp_in x4 14 ∧ (((¬ (s19.1 68 x4.toNatClampNeg) = x2) → (wX11_wayMany_40 post  (wX11_wayMany_5 post  K49 n) x1 x2 x4 x3 s19)) ∧ (((s19.1 68 x4.toNatClampNeg) = x2) → (wX11_wayMany_41 post  (wX11_wayMany_5 post  K49 n) x1 x2 x4 ((1 : Int32)) x3 s19))))))))
set_option maxRecDepth 100000 in
set_option maxHeartbeats 4000000 in
theorem vX11_wayMany_5 (E : Ev) (post : Int32 → Sto → Prop)   (K49 : Int32 → Sto → Prop) (HK49 : ∀ (x3 : Int32) (σ : Sto), K49 x3 σ → V E 6 mX11_wayMany (pI post) 49 [(3, .int x3)] [] σ) : ∀ (n : Nat) (x1 : Int32) (x2 : Int32) (x3 : Int32) (x4 : Int32) (σ : Sto), wX11_wayMany_5 post  K49 n x1 x2 x3 x4 σ → V E 6 mX11_wayMany (pI post) 5 [(0, .ref 67), (1, .int x1), (2, .int x2), (3, .int x3), (4, .int x4)] [] σ := by
  intro n
  induction n with
  | zero => intro x1 x2 x3 x4 σ h; exact h.elim
  | succ n ih =>
    intro x1 x2 x3 x4 σ h
    unfold wX11_wayMany_5 at h
    refine V_iload (pc := 5) 4 dX11_wayMany_5 rfl ?_
    refine V_aload_n (pc := 7) 0 dX11_wayMany_7 rfl ?_
    refine V_getI (pc := 8) dX11_wayMany_8 fl_X11_101 sh_67 rfl ?_
    refine V_icmp_ge (pc := 11) (tgt := 49) dX11_wayMany_11 (by decide) (fun hc => ?_) (fun hc => ?_)
    · replace h := h.1 hc
      exact V_loc [3] rfl (HK49 x3 σ  h)
    · replace h := h.2 hc
      refine V_iload_n (pc := 14) 3 dX11_wayMany_14 rfl ?_
      refine V_aload_n (pc := 15) 0 dX11_wayMany_15 rfl ?_
      refine V_iload (pc := 16) 4 dX11_wayMany_16 rfl ?_
      refine V_iload_n (pc := 18) 1 dX11_wayMany_18 rfl ?_
      refine V_callV (pc := 19) (M' := mX11_takes) dX11_wayMany_19 ml_X11_160 kv_X11_takes ko_X11_takes sh_67 (by decide) (by decide) rfl rfl (Nat.le_of_ble_eq_true rfl) (Nat.le_of_ble_eq_true rfl) (vX11_takes E  x4 x1 σ _  h) (kB (fun r19 s19 h => ?_))
      refine V_ifz (pc := 22) (tgt := 40) dX11_wayMany_22 (by decide) (fun hc => ?_) (fun hc => ?_)
      · replace h := h.1 hc
        refine V_loc [0, 1, 2, 4] rfl (vX11_wayMany_40 E post   _ ih x1 x2 x4 x3 s19  h)
      · replace h := h.2 hc
        refine V_aload_n (pc := 25) 0 dX11_wayMany_25 rfl ?_
        refine V_getR (pc := 26) dX11_wayMany_26 fl_X11_9 sh_67 rfl ?_
        refine V_iload (pc := 29) 4 dX11_wayMany_29 rfl ?_
        obtain ⟨i31, h⟩ := h
        refine V_iald (pc := 31) dX11_wayMany_31 sh_68 i31 ?_
        refine V_iload_n (pc := 32) 2 dX11_wayMany_32 rfl ?_
        refine V_icmp_ne (pc := 33) (tgt := 40) dX11_wayMany_33 (by decide) (fun hc => ?_) (fun hc => ?_)
        · replace h := h.1 hc
          refine V_loc [0, 1, 2, 4] rfl (vX11_wayMany_40 E post   _ ih x1 x2 x4 x3 s19  h)
        · replace h := h.2 hc
          refine V_iconst (pc := 36) (v := 1) dX11_wayMany_36 (by decide) ?_
          refine V_goto (pc := 37) (tgt := 41) dX11_wayMany_37 (by decide) ?_
          refine V_loc [0, 1, 2, 4] rfl (vX11_wayMany_41 E post   _ ih x1 x2 x4 ((1 : Int32)) x3 s19  h)
def wX11_wayMany  (x1 : Int32) (x2 : Int32) (σ : Sto) (post : Int32 → Sto → Prop) : Prop := ∃ n5, wX11_wayMany_5 post  (fun (x3_1 : Int32) (σ_1 : Sto) => post x3_1 σ_1) n5 x1 x2 ((0 : Int32)) ((0 : Int32)) σ
set_option maxRecDepth 100000 in
set_option maxHeartbeats 4000000 in
theorem vX11_wayMany (E : Ev)  (x1 : Int32) (x2 : Int32) (σ : Sto) (post : Int32 → Sto → Prop)  (h : wX11_wayMany  x1 x2 σ post) : V E 6 mX11_wayMany (pI post) 0 [(0, .ref 67), (1, .int x1), (2, .int x2)] [] σ := by
  unfold wX11_wayMany at h
  refine V_iconst (pc := 0) (v := 0) dX11_wayMany_0 (by decide) ?_
  refine V_istore_n (pc := 1) dX11_wayMany_1 (by decide) ?_
  refine V_iconst (pc := 2) (v := 0) dX11_wayMany_2 (by decide) ?_
  refine V_istore (pc := 3) dX11_wayMany_3 (by decide) ?_
  obtain ⟨n5, h⟩ := h
  refine V_loc [2, 3, 4, 1, 0] rfl (vX11_wayMany_5 E post   _ (fun x3_1 σ_1 h => ?_) n5 x1 x2 ((0 : Int32)) ((0 : Int32)) σ  h)
  · refine V_iload_n (pc := 49) 0 dX11_wayMany_49 rfl ?_
    exact V_iret dX11_wayMany_50 rfl h
theorem dX11_scoreOf_0 : decode cX11_scoreOf 0 = .ok (.lconst 0, 1) := by decide +kernel
theorem dX11_scoreOf_1 : decode cX11_scoreOf 1 = .ok (.lstore_n 2, 1) := by decide +kernel
theorem dX11_scoreOf_2 : decode cX11_scoreOf 2 = .ok (.iconst 0, 1) := by decide +kernel
theorem dX11_scoreOf_3 : decode cX11_scoreOf 3 = .ok (.istore 4, 2) := by decide +kernel
theorem dX11_scoreOf_5 : decode cX11_scoreOf 5 = .ok (.iload 4, 2) := by decide +kernel
theorem dX11_scoreOf_7 : decode cX11_scoreOf 7 = .ok (.aload_n 0, 1) := by decide +kernel
theorem dX11_scoreOf_8 : decode cX11_scoreOf 8 = .ok (.getfield 101, 3) := by decide +kernel
theorem dX11_scoreOf_11 : decode cX11_scoreOf 11 = .ok (.if_icmp .ge 44, 3) := by decide +kernel
theorem dX11_scoreOf_14 : decode cX11_scoreOf 14 = .ok (.lload_n 2, 1) := by decide +kernel
theorem dX11_scoreOf_15 : decode cX11_scoreOf 15 = .ok (.aload_n 0, 1) := by decide +kernel
theorem dX11_scoreOf_16 : decode cX11_scoreOf 16 = .ok (.iload 4, 2) := by decide +kernel
theorem dX11_scoreOf_18 : decode cX11_scoreOf 18 = .ok (.iload_n 1, 1) := by decide +kernel
theorem dX11_scoreOf_19 : decode cX11_scoreOf 19 = .ok (.invokevirtual 160, 3) := by decide +kernel
theorem dX11_scoreOf_22 : decode cX11_scoreOf 22 = .ok (.ifCond .eq 24, 3) := by decide +kernel
theorem dX11_scoreOf_25 : decode cX11_scoreOf 25 = .ok (.aload_n 0, 1) := by decide +kernel
theorem dX11_scoreOf_26 : decode cX11_scoreOf 26 = .ok (.getfield 9, 3) := by decide +kernel
theorem dX11_scoreOf_29 : decode cX11_scoreOf 29 = .ok (.iload 4, 2) := by decide +kernel
theorem dX11_scoreOf_31 : decode cX11_scoreOf 31 = .ok (.iaload, 1) := by decide +kernel
theorem dX11_scoreOf_32 : decode cX11_scoreOf 32 = .ok (.iconst 1, 1) := by decide +kernel
theorem dX11_scoreOf_33 : decode cX11_scoreOf 33 = .ok (.if_icmp .ne 13, 3) := by decide +kernel
theorem dX11_scoreOf_36 : decode cX11_scoreOf 36 = .ok (.aload_n 0, 1) := by decide +kernel
theorem dX11_scoreOf_37 : decode cX11_scoreOf 37 = .ok (.iload 4, 2) := by decide +kernel
theorem dX11_scoreOf_39 : decode cX11_scoreOf 39 = .ok (.iload_n 1, 1) := by decide +kernel
theorem dX11_scoreOf_40 : decode cX11_scoreOf 40 = .ok (.invokevirtual 164, 3) := by decide +kernel
theorem dX11_scoreOf_43 : decode cX11_scoreOf 43 = .ok (.goto 4, 3) := by decide +kernel
theorem dX11_scoreOf_46 : decode cX11_scoreOf 46 = .ok (.lconst 0, 1) := by decide +kernel
theorem dX11_scoreOf_47 : decode cX11_scoreOf 47 = .ok (.ladd, 1) := by decide +kernel
theorem dX11_scoreOf_48 : decode cX11_scoreOf 48 = .ok (.lstore_n 2, 1) := by decide +kernel
theorem dX11_scoreOf_49 : decode cX11_scoreOf 49 = .ok (.iinc 4 1, 3) := by decide +kernel
theorem dX11_scoreOf_52 : decode cX11_scoreOf 52 = .ok (.goto (-47), 3) := by decide +kernel
theorem dX11_scoreOf_55 : decode cX11_scoreOf 55 = .ok (.lload_n 2, 1) := by decide +kernel
theorem dX11_scoreOf_56 : decode cX11_scoreOf 56 = .ok (.lreturn, 1) := by decide +kernel
def wX11_scoreOf_47 (post : Int64 → Sto → Prop)  (K5 : Int32 → Int64 → Int32 → Sto → Prop) (x1 : Int32) (x4 : Int32) (y0 : Int64) (y1 : Int64) (σ : Sto) : Prop := K5 x1 (y1 + y0) (x4 + (1 : Int32)) σ
set_option maxRecDepth 100000 in
set_option maxHeartbeats 4000000 in
theorem vX11_scoreOf_47 (E : Ev) (post : Int64 → Sto → Prop)   (K5 : Int32 → Int64 → Int32 → Sto → Prop) (HK5 : ∀ (x1 : Int32) (x2 : Int64) (x4 : Int32) (σ : Sto), K5 x1 x2 x4 σ → V E 6 mX11_scoreOf (pL post) 5 [(0, .ref 67), (1, .int x1), (2, .long x2), (4, .int x4)] [] σ) (x1 : Int32) (x4 : Int32) (y0 : Int64) (y1 : Int64) (σ : Sto) (h : wX11_scoreOf_47 post  K5 x1 x4 y0 y1 σ) : V E 6 mX11_scoreOf (pL post) 47 [(0, .ref 67), (1, .int x1), (4, .int x4)] [.long y0, .long y1] σ := by
  unfold wX11_scoreOf_47 at h
  refine V_ladd (pc := 47) dX11_scoreOf_47 ?_
  refine V_lstore_n (pc := 48) dX11_scoreOf_48 (by decide) ?_
  refine V_iinc (pc := 49) 3 (v := 1) dX11_scoreOf_49 rfl (by decide) (by decide) ?_
  refine V_goto (pc := 52) (tgt := 5) dX11_scoreOf_52 (by decide) ?_
  exact V_loc [2, 3, 1, 0] rfl (HK5 x1 (y1 + y0) (x4 + (1 : Int32)) σ  h)
def wX11_scoreOf_46 (post : Int64 → Sto → Prop)  (K5 : Int32 → Int64 → Int32 → Sto → Prop) (x1 : Int32) (x4 : Int32) (y0 : Int64) (σ : Sto) : Prop := wX11_scoreOf_47 post  K5 x1 x4 ((0 : Int64)) y0 σ
set_option maxRecDepth 100000 in
set_option maxHeartbeats 4000000 in
theorem vX11_scoreOf_46 (E : Ev) (post : Int64 → Sto → Prop)   (K5 : Int32 → Int64 → Int32 → Sto → Prop) (HK5 : ∀ (x1 : Int32) (x2 : Int64) (x4 : Int32) (σ : Sto), K5 x1 x2 x4 σ → V E 6 mX11_scoreOf (pL post) 5 [(0, .ref 67), (1, .int x1), (2, .long x2), (4, .int x4)] [] σ) (x1 : Int32) (x4 : Int32) (y0 : Int64) (σ : Sto) (h : wX11_scoreOf_46 post  K5 x1 x4 y0 σ) : V E 6 mX11_scoreOf (pL post) 46 [(0, .ref 67), (1, .int x1), (4, .int x4)] [.long y0] σ := by
  unfold wX11_scoreOf_46 at h
  refine V_lconst (pc := 46) (v := 0) dX11_scoreOf_46 (by decide) ?_
  refine V_loc [0, 1, 2] rfl (vX11_scoreOf_47 E post   K5 HK5 x1 x4 ((0 : Int64)) y0 σ  h)
def wX11_scoreOf_5 (post : Int64 → Sto → Prop)  (K55 : Int64 → Sto → Prop) : Nat → Int32 → Int64 → Int32 → Sto → Prop
  | 0, _, _, _, _ => False
  | n + 1, x1, x2, x4, σ => (((σ.1 67 1) ≤ x4) → (K55 x2 σ)) ∧ ((¬ ((σ.1 67 1) ≤ x4)) → (wX11_takes  x4 x1 σ (fun (r19 : Bool) (s19 : Sto) => ((r19 = false) → (wX11_scoreOf_46 post  (wX11_scoreOf_5 post  K55 n) x1 x4 x2 s19)) ∧ ((r19 = true) → (vp_in x4 14 ∧ (((¬ (s19.1 68 x4.toNatClampNeg) = ((1 : Int32))) → (wX11_scoreOf_46 post  (wX11_scoreOf_5 post  K55 n) x1 x4 x2 s19)) ∧ (((s19.1 68 x4.toNatClampNeg) = ((1 : Int32))) → (wX11_toldOf  x4 x1 s19 (fun (r40 : Int64) (s40 : Sto) => wX11_scoreOf_47 post  (wX11_scoreOf_5 post  K55 n) x1 x4 r40 x2 s40)))))))))
set_option maxRecDepth 100000 in
set_option maxHeartbeats 4000000 in
theorem vX11_scoreOf_5 (E : Ev) (post : Int64 → Sto → Prop)   (K55 : Int64 → Sto → Prop) (HK55 : ∀ (x2 : Int64) (σ : Sto), K55 x2 σ → V E 6 mX11_scoreOf (pL post) 55 [(2, .long x2)] [] σ) : ∀ (n : Nat) (x1 : Int32) (x2 : Int64) (x4 : Int32) (σ : Sto), wX11_scoreOf_5 post  K55 n x1 x2 x4 σ → V E 6 mX11_scoreOf (pL post) 5 [(0, .ref 67), (1, .int x1), (2, .long x2), (4, .int x4)] [] σ := by
  intro n
  induction n with
  | zero => intro x1 x2 x4 σ h; exact h.elim
  | succ n ih =>
    intro x1 x2 x4 σ h
    unfold wX11_scoreOf_5 at h
    refine V_iload (pc := 5) 3 dX11_scoreOf_5 rfl ?_
    refine V_aload_n (pc := 7) 0 dX11_scoreOf_7 rfl ?_
    refine V_getI (pc := 8) dX11_scoreOf_8 fl_X11_101 sh_67 rfl ?_
    refine V_icmp_ge (pc := 11) (tgt := 55) dX11_scoreOf_11 (by decide) (fun hc => ?_) (fun hc => ?_)
    · replace h := h.1 hc
      exact V_loc [2] rfl (HK55 x2 σ  h)
    · replace h := h.2 hc
      refine V_lload_n (pc := 14) 2 dX11_scoreOf_14 rfl ?_
      refine V_aload_n (pc := 15) 0 dX11_scoreOf_15 rfl ?_
      refine V_iload (pc := 16) 3 dX11_scoreOf_16 rfl ?_
      refine V_iload_n (pc := 18) 1 dX11_scoreOf_18 rfl ?_
      refine V_callV (pc := 19) (M' := mX11_takes) dX11_scoreOf_19 ml_X11_160 kv_X11_takes ko_X11_takes sh_67 (by decide) (by decide) rfl rfl (Nat.le_of_ble_eq_true rfl) (Nat.le_of_ble_eq_true rfl) (vX11_takes E  x4 x1 σ _  h) (kB (fun r19 s19 h => ?_))
      refine V_ifz (pc := 22) (tgt := 46) dX11_scoreOf_22 (by decide) (fun hc => ?_) (fun hc => ?_)
      · replace h := h.1 hc
        refine V_loc [0, 1, 3] rfl (vX11_scoreOf_46 E post   _ ih x1 x4 x2 s19  h)
      · replace h := h.2 hc
        refine V_aload_n (pc := 25) 0 dX11_scoreOf_25 rfl ?_
        refine V_getR (pc := 26) dX11_scoreOf_26 fl_X11_9 sh_67 rfl ?_
        refine V_iload (pc := 29) 3 dX11_scoreOf_29 rfl ?_
        obtain ⟨i31, h⟩ := h
        refine V_iald (pc := 31) dX11_scoreOf_31 sh_68 i31 ?_
        refine V_iconst (pc := 32) (v := 1) dX11_scoreOf_32 (by decide) ?_
        refine V_icmp_ne (pc := 33) (tgt := 46) dX11_scoreOf_33 (by decide) (fun hc => ?_) (fun hc => ?_)
        · replace h := h.1 hc
          refine V_loc [0, 1, 3] rfl (vX11_scoreOf_46 E post   _ ih x1 x4 x2 s19  h)
        · replace h := h.2 hc
          refine V_aload_n (pc := 36) 0 dX11_scoreOf_36 rfl ?_
          refine V_iload (pc := 37) 3 dX11_scoreOf_37 rfl ?_
          refine V_iload_n (pc := 39) 1 dX11_scoreOf_39 rfl ?_
          refine V_callV (pc := 40) (M' := mX11_toldOf) dX11_scoreOf_40 ml_X11_164 kv_X11_toldOf ko_X11_toldOf sh_67 (by decide) (by decide) rfl rfl (Nat.le_of_ble_eq_true rfl) (Nat.le_of_ble_eq_true rfl) (vX11_toldOf E  x4 x1 s19 _  h) (kL (fun r40 s40 h => ?_))
          refine V_goto (pc := 43) (tgt := 47) dX11_scoreOf_43 (by decide) ?_
          refine V_loc [0, 1, 3] rfl (vX11_scoreOf_47 E post   _ ih x1 x4 r40 x2 s40  h)
def wX11_scoreOf  (x1 : Int32) (σ : Sto) (post : Int64 → Sto → Prop) : Prop := ∃ n5, wX11_scoreOf_5 post  (fun (x2_1 : Int64) (σ_1 : Sto) => post x2_1 σ_1) n5 x1 ((0 : Int64)) ((0 : Int32)) σ
set_option maxRecDepth 100000 in
set_option maxHeartbeats 4000000 in
theorem vX11_scoreOf (E : Ev)  (x1 : Int32) (σ : Sto) (post : Int64 → Sto → Prop)  (h : wX11_scoreOf  x1 σ post) : V E 6 mX11_scoreOf (pL post) 0 [(0, .ref 67), (1, .int x1)] [] σ := by
  unfold wX11_scoreOf at h
  refine V_lconst (pc := 0) (v := 0) dX11_scoreOf_0 (by decide) ?_
  refine V_lstore_n (pc := 1) dX11_scoreOf_1 (by decide) ?_
  refine V_iconst (pc := 2) (v := 0) dX11_scoreOf_2 (by decide) ?_
  refine V_istore (pc := 3) dX11_scoreOf_3 (by decide) ?_
  obtain ⟨n5, h⟩ := h
  refine V_loc [2, 3, 1, 0] rfl (vX11_scoreOf_5 E post   _ (fun x2_1 σ_1 h => ?_) n5 x1 ((0 : Int64)) ((0 : Int32)) σ  h)
  · refine V_lload_n (pc := 55) 0 dX11_scoreOf_55 rfl ?_
    exact V_lret dX11_scoreOf_56 rfl h
theorem dX11_score_0 : decode cX11_score 0 = .ok (.iload_n 1, 1) := by decide +kernel
theorem dX11_score_1 : decode cX11_score 1 = .ok (.invokestatic 119, 3) := by decide +kernel
theorem dX11_score_4 : decode cX11_score 4 = .ok (.ifCond .eq 11, 3) := by decide +kernel
theorem dX11_score_7 : decode cX11_score 7 = .ok (.aload_n 0, 1) := by decide +kernel
theorem dX11_score_8 : decode cX11_score 8 = .ok (.iload_n 1, 1) := by decide +kernel
theorem dX11_score_9 : decode cX11_score 9 = .ok (.invokevirtual 293, 3) := by decide +kernel
theorem dX11_score_12 : decode cX11_score 12 = .ok (.goto 6, 3) := by decide +kernel
theorem dX11_score_15 : decode cX11_score 15 = .ok (.ldc2_w 296, 3) := by decide +kernel
theorem dX11_score_18 : decode cX11_score 18 = .ok (.lreturn, 1) := by decide +kernel
def wX11_score  (x1 : Int32) (σ : Sto) (post : Int64 → Sto → Prop) : Prop := wX11_isPiece  x1 σ (fun (r1 : Bool) (s1 : Sto) => ((r1 = false) → (post ((-9223372036854775808 : Int64)) s1)) ∧ ((r1 = true) → (wX11_scoreOf  x1 s1 (fun (r9 : Int64) (s9 : Sto) => post r9 s9))))
set_option maxRecDepth 100000 in
set_option maxHeartbeats 4000000 in
theorem vX11_score (E : Ev)  (x1 : Int32) (σ : Sto) (post : Int64 → Sto → Prop)  (h : wX11_score  x1 σ post) : V E 7 mX11_score (pL post) 0 [(0, .ref 67), (1, .int x1)] [] σ := by
  unfold wX11_score at h
  refine V_iload_n (pc := 0) 1 dX11_score_0 rfl ?_
  refine V_callS (pc := 1) (M' := mX11_isPiece) dX11_score_1 ml_X11_119 ks_X11_isPiece ko_X11_isPiece (by decide) rfl (Nat.le_of_ble_eq_true rfl) (Nat.le_of_ble_eq_true rfl) (vX11_isPiece E  x1 σ _  h) (kB (fun r1 s1 h => ?_))
  refine V_ifz (pc := 4) (tgt := 15) dX11_score_4 (by decide) (fun hc => ?_) (fun hc => ?_)
  · replace h := h.1 hc
    refine V_ldc2 (pc := 15) dX11_score_15 cl_X11_296 ?_
    exact V_lret dX11_score_18 rfl h
  · replace h := h.2 hc
    refine V_aload_n (pc := 7) 0 dX11_score_7 rfl ?_
    refine V_iload_n (pc := 8) 1 dX11_score_8 rfl ?_
    refine V_callV (pc := 9) (M' := mX11_scoreOf) dX11_score_9 ml_X11_293 kv_X11_scoreOf ko_X11_scoreOf sh_67 (by decide) (by decide) rfl rfl (Nat.le_of_ble_eq_true rfl) (Nat.le_of_ble_eq_true rfl) (vX11_scoreOf E  x1 s1 _  h) (kL (fun r9 s9 h => ?_))
    refine V_goto (pc := 12) (tgt := 18) dX11_score_12 (by decide) ?_
    exact V_lret dX11_score_18 rfl h
theorem dX11_chanceOf_0 : decode cX11_chanceOf 0 = .ok (.aload_n 0, 1) := by decide +kernel
theorem dX11_chanceOf_1 : decode cX11_chanceOf 1 = .ok (.iload_n 1, 1) := by decide +kernel
theorem dX11_chanceOf_2 : decode cX11_chanceOf 2 = .ok (.invokevirtual 293, 3) := by decide +kernel
theorem dX11_chanceOf_5 : decode cX11_chanceOf 5 = .ok (.lstore_n 3, 1) := by decide +kernel
theorem dX11_chanceOf_6 : decode cX11_chanceOf 6 = .ok (.lconst 0, 1) := by decide +kernel
theorem dX11_chanceOf_7 : decode cX11_chanceOf 7 = .ok (.lstore 5, 2) := by decide +kernel
theorem dX11_chanceOf_9 : decode cX11_chanceOf 9 = .ok (.lconst 0, 1) := by decide +kernel
theorem dX11_chanceOf_10 : decode cX11_chanceOf 10 = .ok (.lstore 7, 2) := by decide +kernel
theorem dX11_chanceOf_12 : decode cX11_chanceOf 12 = .ok (.aload_n 0, 1) := by decide +kernel
theorem dX11_chanceOf_13 : decode cX11_chanceOf 13 = .ok (.iload_n 1, 1) := by decide +kernel
theorem dX11_chanceOf_14 : decode cX11_chanceOf 14 = .ok (.invokevirtual 224, 3) := by decide +kernel
theorem dX11_chanceOf_17 : decode cX11_chanceOf 17 = .ok (.iconst 0, 1) := by decide +kernel
theorem dX11_chanceOf_18 : decode cX11_chanceOf 18 = .ok (.istore 9, 2) := by decide +kernel
theorem dX11_chanceOf_20 : decode cX11_chanceOf 20 = .ok (.iload 9, 2) := by decide +kernel
theorem dX11_chanceOf_22 : decode cX11_chanceOf 22 = .ok (.iconst 1, 1) := by decide +kernel
theorem dX11_chanceOf_23 : decode cX11_chanceOf 23 = .ok (.aload_n 0, 1) := by decide +kernel
theorem dX11_chanceOf_24 : decode cX11_chanceOf 24 = .ok (.getfield 204, 3) := by decide +kernel
theorem dX11_chanceOf_27 : decode cX11_chanceOf 27 = .ok (.ishl, 1) := by decide +kernel
theorem dX11_chanceOf_28 : decode cX11_chanceOf 28 = .ok (.if_icmp .ge 89, 3) := by decide +kernel
theorem dX11_chanceOf_31 : decode cX11_chanceOf 31 = .ok (.iload 9, 2) := by decide +kernel
theorem dX11_chanceOf_33 : decode cX11_chanceOf 33 = .ok (.invokestatic 180, 3) := by decide +kernel
theorem dX11_chanceOf_36 : decode cX11_chanceOf 36 = .ok (.iload_n 2, 1) := by decide +kernel
theorem dX11_chanceOf_37 : decode cX11_chanceOf 37 = .ok (.if_icmp .ne 74, 3) := by decide +kernel
theorem dX11_chanceOf_40 : decode cX11_chanceOf 40 = .ok (.lconst 0, 1) := by decide +kernel
theorem dX11_chanceOf_41 : decode cX11_chanceOf 41 = .ok (.lstore 10, 2) := by decide +kernel
theorem dX11_chanceOf_43 : decode cX11_chanceOf 43 = .ok (.iconst 0, 1) := by decide +kernel
theorem dX11_chanceOf_44 : decode cX11_chanceOf 44 = .ok (.istore 12, 2) := by decide +kernel
theorem dX11_chanceOf_46 : decode cX11_chanceOf 46 = .ok (.iload 12, 2) := by decide +kernel
theorem dX11_chanceOf_48 : decode cX11_chanceOf 48 = .ok (.aload_n 0, 1) := by decide +kernel
theorem dX11_chanceOf_49 : decode cX11_chanceOf 49 = .ok (.getfield 204, 3) := by decide +kernel
theorem dX11_chanceOf_52 : decode cX11_chanceOf 52 = .ok (.if_icmp .ge 36, 3) := by decide +kernel
theorem dX11_chanceOf_55 : decode cX11_chanceOf 55 = .ok (.lload 10, 2) := by decide +kernel
theorem dX11_chanceOf_57 : decode cX11_chanceOf 57 = .ok (.iload 9, 2) := by decide +kernel
theorem dX11_chanceOf_59 : decode cX11_chanceOf 59 = .ok (.iload 12, 2) := by decide +kernel
theorem dX11_chanceOf_61 : decode cX11_chanceOf 61 = .ok (.ishr, 1) := by decide +kernel
theorem dX11_chanceOf_62 : decode cX11_chanceOf 62 = .ok (.iconst 1, 1) := by decide +kernel
theorem dX11_chanceOf_63 : decode cX11_chanceOf 63 = .ok (.iand, 1) := by decide +kernel
theorem dX11_chanceOf_64 : decode cX11_chanceOf 64 = .ok (.iconst 1, 1) := by decide +kernel
theorem dX11_chanceOf_65 : decode cX11_chanceOf 65 = .ok (.if_icmp .ne 13, 3) := by decide +kernel
theorem dX11_chanceOf_68 : decode cX11_chanceOf 68 = .ok (.aload_n 0, 1) := by decide +kernel
theorem dX11_chanceOf_69 : decode cX11_chanceOf 69 = .ok (.getfield 66, 3) := by decide +kernel
theorem dX11_chanceOf_72 : decode cX11_chanceOf 72 = .ok (.iload 12, 2) := by decide +kernel
theorem dX11_chanceOf_74 : decode cX11_chanceOf 74 = .ok (.laload, 1) := by decide +kernel
theorem dX11_chanceOf_75 : decode cX11_chanceOf 75 = .ok (.goto 4, 3) := by decide +kernel
theorem dX11_chanceOf_78 : decode cX11_chanceOf 78 = .ok (.lconst 0, 1) := by decide +kernel
theorem dX11_chanceOf_79 : decode cX11_chanceOf 79 = .ok (.ladd, 1) := by decide +kernel
theorem dX11_chanceOf_80 : decode cX11_chanceOf 80 = .ok (.lstore 10, 2) := by decide +kernel
theorem dX11_chanceOf_82 : decode cX11_chanceOf 82 = .ok (.iinc 12 1, 3) := by decide +kernel
theorem dX11_chanceOf_85 : decode cX11_chanceOf 85 = .ok (.goto (-39), 3) := by decide +kernel
theorem dX11_chanceOf_88 : decode cX11_chanceOf 88 = .ok (.lload 5, 2) := by decide +kernel
theorem dX11_chanceOf_90 : decode cX11_chanceOf 90 = .ok (.lconst 1, 1) := by decide +kernel
theorem dX11_chanceOf_91 : decode cX11_chanceOf 91 = .ok (.ladd, 1) := by decide +kernel
theorem dX11_chanceOf_92 : decode cX11_chanceOf 92 = .ok (.lstore 5, 2) := by decide +kernel
theorem dX11_chanceOf_94 : decode cX11_chanceOf 94 = .ok (.lload 7, 2) := by decide +kernel
theorem dX11_chanceOf_96 : decode cX11_chanceOf 96 = .ok (.lload 10, 2) := by decide +kernel
theorem dX11_chanceOf_98 : decode cX11_chanceOf 98 = .ok (.lload_n 3, 1) := by decide +kernel
theorem dX11_chanceOf_99 : decode cX11_chanceOf 99 = .ok (.lcmp, 1) := by decide +kernel
theorem dX11_chanceOf_100 : decode cX11_chanceOf 100 = .ok (.ifCond .lt 7, 3) := by decide +kernel
theorem dX11_chanceOf_103 : decode cX11_chanceOf 103 = .ok (.lconst 1, 1) := by decide +kernel
theorem dX11_chanceOf_104 : decode cX11_chanceOf 104 = .ok (.goto 4, 3) := by decide +kernel
theorem dX11_chanceOf_107 : decode cX11_chanceOf 107 = .ok (.lconst 0, 1) := by decide +kernel
theorem dX11_chanceOf_108 : decode cX11_chanceOf 108 = .ok (.ladd, 1) := by decide +kernel
theorem dX11_chanceOf_109 : decode cX11_chanceOf 109 = .ok (.lstore 7, 2) := by decide +kernel
theorem dX11_chanceOf_111 : decode cX11_chanceOf 111 = .ok (.iinc 9 1, 3) := by decide +kernel
theorem dX11_chanceOf_114 : decode cX11_chanceOf 114 = .ok (.goto (-94), 3) := by decide +kernel
theorem dX11_chanceOf_117 : decode cX11_chanceOf 117 = .ok (.ldc2_w 175, 3) := by decide +kernel
theorem dX11_chanceOf_120 : decode cX11_chanceOf 120 = .ok (.lload 7, 2) := by decide +kernel
theorem dX11_chanceOf_122 : decode cX11_chanceOf 122 = .ok (.lmul, 1) := by decide +kernel
theorem dX11_chanceOf_123 : decode cX11_chanceOf 123 = .ok (.lload 5, 2) := by decide +kernel
theorem dX11_chanceOf_125 : decode cX11_chanceOf 125 = .ok (.ldiv, 1) := by decide +kernel
theorem dX11_chanceOf_126 : decode cX11_chanceOf 126 = .ok (.l2i, 1) := by decide +kernel
theorem dX11_chanceOf_127 : decode cX11_chanceOf 127 = .ok (.ireturn, 1) := by decide +kernel
def wX11_chanceOf_79 (post : Int32 → Sto → Prop)  (K46 : Int32 → Int64 → Int64 → Int64 → Int32 → Int64 → Int32 → Sto → Prop) (x2 : Int32) (x3 : Int64) (x5 : Int64) (x7 : Int64) (x9 : Int32) (x12 : Int32) (y0 : Int64) (y1 : Int64) (σ : Sto) : Prop := K46 x2 x3 x5 x7 x9 (y1 + y0) (x12 + (1 : Int32)) σ
set_option maxRecDepth 100000 in
set_option maxHeartbeats 4000000 in
theorem vX11_chanceOf_79 (E : Ev) (post : Int32 → Sto → Prop)   (K46 : Int32 → Int64 → Int64 → Int64 → Int32 → Int64 → Int32 → Sto → Prop) (HK46 : ∀ (x2 : Int32) (x3 : Int64) (x5 : Int64) (x7 : Int64) (x9 : Int32) (x10 : Int64) (x12 : Int32) (σ : Sto), K46 x2 x3 x5 x7 x9 x10 x12 σ → V E 7 mX11_chanceOf (pI post) 46 [(0, .ref 67), (2, .int x2), (3, .long x3), (5, .long x5), (7, .long x7), (9, .int x9), (10, .long x10), (12, .int x12)] [] σ) (x2 : Int32) (x3 : Int64) (x5 : Int64) (x7 : Int64) (x9 : Int32) (x12 : Int32) (y0 : Int64) (y1 : Int64) (σ : Sto) (h : wX11_chanceOf_79 post  K46 x2 x3 x5 x7 x9 x12 y0 y1 σ) : V E 7 mX11_chanceOf (pI post) 79 [(0, .ref 67), (2, .int x2), (3, .long x3), (5, .long x5), (7, .long x7), (9, .int x9), (12, .int x12)] [.long y0, .long y1] σ := by
  unfold wX11_chanceOf_79 at h
  refine V_ladd (pc := 79) dX11_chanceOf_79 ?_
  refine V_lstore (pc := 80) dX11_chanceOf_80 (by decide) ?_
  refine V_iinc (pc := 82) 7 (v := 1) dX11_chanceOf_82 rfl (by decide) (by decide) ?_
  refine V_goto (pc := 85) (tgt := 46) dX11_chanceOf_85 (by decide) ?_
  exact V_loc [2, 3, 4, 5, 6, 7, 1, 0] rfl (HK46 x2 x3 x5 x7 x9 (y1 + y0) (x12 + (1 : Int32)) σ  h)
def wX11_chanceOf_46 (post : Int32 → Sto → Prop)  (K88 : Int32 → Int64 → Int64 → Int64 → Int32 → Int64 → Sto → Prop) : Nat → Int32 → Int64 → Int64 → Int64 → Int32 → Int64 → Int32 → Sto → Prop
  | 0, _, _, _, _, _, _, _, _ => False
  | n + 1, x2, x3, x5, x7, x9, x10, x12, σ => (((σ.1 67 23) ≤ x12) → (K88 x2 x3 x5 x7 x9 x10 σ)) ∧ ((¬ ((σ.1 67 23) ≤ x12)) → (((¬ ((x9 >>> (x12 &&& 31)) &&& ((1 : Int32))) = ((1 : Int32))) → (wX11_chanceOf_79 post  (wX11_chanceOf_46 post  K88 n) x2 x3 x5 x7 x9 x12 ((0 : Int64)) x10 σ)) ∧ ((((x9 >>> (x12 &&& 31)) &&& ((1 : Int32))) = ((1 : Int32))) → (vp_in x12 105 ∧ (wX11_chanceOf_79 post  (wX11_chanceOf_46 post  K88 n) x2 x3 x5 x7 x9 x12 (σ.2 84 x12.toNatClampNeg) x10 σ)))))
set_option maxRecDepth 100000 in
set_option maxHeartbeats 4000000 in
theorem vX11_chanceOf_46 (E : Ev) (post : Int32 → Sto → Prop)   (K88 : Int32 → Int64 → Int64 → Int64 → Int32 → Int64 → Sto → Prop) (HK88 : ∀ (x2 : Int32) (x3 : Int64) (x5 : Int64) (x7 : Int64) (x9 : Int32) (x10 : Int64) (σ : Sto), K88 x2 x3 x5 x7 x9 x10 σ → V E 7 mX11_chanceOf (pI post) 88 [(0, .ref 67), (2, .int x2), (3, .long x3), (5, .long x5), (7, .long x7), (9, .int x9), (10, .long x10)] [] σ) : ∀ (n : Nat) (x2 : Int32) (x3 : Int64) (x5 : Int64) (x7 : Int64) (x9 : Int32) (x10 : Int64) (x12 : Int32) (σ : Sto), wX11_chanceOf_46 post  K88 n x2 x3 x5 x7 x9 x10 x12 σ → V E 7 mX11_chanceOf (pI post) 46 [(0, .ref 67), (2, .int x2), (3, .long x3), (5, .long x5), (7, .long x7), (9, .int x9), (10, .long x10), (12, .int x12)] [] σ := by
  intro n
  induction n with
  | zero => intro x2 x3 x5 x7 x9 x10 x12 σ h; exact h.elim
  | succ n ih =>
    intro x2 x3 x5 x7 x9 x10 x12 σ h
    unfold wX11_chanceOf_46 at h
    refine V_iload (pc := 46) 7 dX11_chanceOf_46 rfl ?_
    refine V_aload_n (pc := 48) 0 dX11_chanceOf_48 rfl ?_
    refine V_getI (pc := 49) dX11_chanceOf_49 fl_X11_204 sh_67 rfl ?_
    refine V_icmp_ge (pc := 52) (tgt := 88) dX11_chanceOf_52 (by decide) (fun hc => ?_) (fun hc => ?_)
    · replace h := h.1 hc
      exact V_loc [0, 1, 2, 3, 4, 5, 6] rfl (HK88 x2 x3 x5 x7 x9 x10 σ  h)
    · replace h := h.2 hc
      refine V_lload (pc := 55) 6 dX11_chanceOf_55 rfl ?_
      refine V_iload (pc := 57) 5 dX11_chanceOf_57 rfl ?_
      refine V_iload (pc := 59) 7 dX11_chanceOf_59 rfl ?_
      refine V_ishr (pc := 61) dX11_chanceOf_61 ?_
      refine V_iconst (pc := 62) (v := 1) dX11_chanceOf_62 (by decide) ?_
      refine V_iand (pc := 63) dX11_chanceOf_63 ?_
      refine V_iconst (pc := 64) (v := 1) dX11_chanceOf_64 (by decide) ?_
      refine V_icmp_ne (pc := 65) (tgt := 78) dX11_chanceOf_65 (by decide) (fun hc => ?_) (fun hc => ?_)
      · replace h := h.1 hc
        refine V_lconst (pc := 78) (v := 0) dX11_chanceOf_78 (by decide) ?_
        refine V_loc [0, 1, 2, 3, 4, 5, 7] rfl (vX11_chanceOf_79 E post   _ ih x2 x3 x5 x7 x9 x12 ((0 : Int64)) x10 σ  h)
      · replace h := h.2 hc
        refine V_aload_n (pc := 68) 0 dX11_chanceOf_68 rfl ?_
        refine V_getR (pc := 69) dX11_chanceOf_69 fl_X11_66 sh_67 rfl ?_
        refine V_iload (pc := 72) 7 dX11_chanceOf_72 rfl ?_
        obtain ⟨i74, h⟩ := h
        refine V_lald (pc := 74) dX11_chanceOf_74 sh_84 i74 ?_
        refine V_goto (pc := 75) (tgt := 79) dX11_chanceOf_75 (by decide) ?_
        refine V_loc [0, 1, 2, 3, 4, 5, 7] rfl (vX11_chanceOf_79 E post   _ ih x2 x3 x5 x7 x9 x12 (σ.2 84 x12.toNatClampNeg) x10 σ  h)
def wX11_chanceOf_108 (post : Int32 → Sto → Prop)  (K20 : Int32 → Int64 → Int64 → Int64 → Int32 → Sto → Prop) (x2 : Int32) (x3 : Int64) (x5 : Int64) (x9 : Int32) (y0 : Int64) (y1 : Int64) (σ : Sto) : Prop := K20 x2 x3 x5 (y1 + y0) (x9 + (1 : Int32)) σ
set_option maxRecDepth 100000 in
set_option maxHeartbeats 4000000 in
theorem vX11_chanceOf_108 (E : Ev) (post : Int32 → Sto → Prop)   (K20 : Int32 → Int64 → Int64 → Int64 → Int32 → Sto → Prop) (HK20 : ∀ (x2 : Int32) (x3 : Int64) (x5 : Int64) (x7 : Int64) (x9 : Int32) (σ : Sto), K20 x2 x3 x5 x7 x9 σ → V E 7 mX11_chanceOf (pI post) 20 [(0, .ref 67), (2, .int x2), (3, .long x3), (5, .long x5), (7, .long x7), (9, .int x9)] [] σ) (x2 : Int32) (x3 : Int64) (x5 : Int64) (x9 : Int32) (y0 : Int64) (y1 : Int64) (σ : Sto) (h : wX11_chanceOf_108 post  K20 x2 x3 x5 x9 y0 y1 σ) : V E 7 mX11_chanceOf (pI post) 108 [(0, .ref 67), (2, .int x2), (3, .long x3), (5, .long x5), (9, .int x9)] [.long y0, .long y1] σ := by
  unfold wX11_chanceOf_108 at h
  refine V_ladd (pc := 108) dX11_chanceOf_108 ?_
  refine V_lstore (pc := 109) dX11_chanceOf_109 (by decide) ?_
  refine V_iinc (pc := 111) 5 (v := 1) dX11_chanceOf_111 rfl (by decide) (by decide) ?_
  refine V_goto (pc := 114) (tgt := 20) dX11_chanceOf_114 (by decide) ?_
  exact V_loc [2, 3, 4, 5, 1, 0] rfl (HK20 x2 x3 x5 (y1 + y0) (x9 + (1 : Int32)) σ  h)
def wX11_chanceOf_20 (post : Int32 → Sto → Prop)  (K117 : Int64 → Int64 → Sto → Prop) : Nat → Int32 → Int64 → Int64 → Int64 → Int32 → Sto → Prop
  | 0, _, _, _, _, _, _ => False
  | n + 1, x2, x3, x5, x7, x9, σ => (((((1 : Int32)) <<< ((σ.1 67 23) &&& 31)) ≤ x9) → (K117 x5 x7 σ)) ∧ ((¬ ((((1 : Int32)) <<< ((σ.1 67 23) &&& 31)) ≤ x9)) → (wX11_ones  x9 σ (fun (r33 : Int32) (s33 : Sto) => ((¬ r33 = x2) → (wX11_chanceOf_20 post  K117 n x2 x3 x5 x7 (x9 + (1 : Int32)) s33)) ∧ ((r33 = x2) → (∃ n46, wX11_chanceOf_46 post  (fun (x2_1 : Int32) (x3_1 : Int64) (x5_1 : Int64) (x7_1 : Int64) (x9_1 : Int32) (x10_1 : Int64) (σ_1 : Sto) => ((x10_1 < x3_1) → (wX11_chanceOf_108 post  (wX11_chanceOf_20 post  K117 n) x2_1 x3_1 (x5_1 + ((1 : Int64))) x9_1 ((0 : Int64)) x7_1 σ_1)) ∧ ((¬ (x10_1 < x3_1)) → (wX11_chanceOf_108 post  (wX11_chanceOf_20 post  K117 n) x2_1 x3_1 (x5_1 + ((1 : Int64))) x9_1 ((1 : Int64)) x7_1 σ_1))) n46 x2 x3 x5 x7 x9 ((0 : Int64)) ((0 : Int32)) s33)))))
set_option maxRecDepth 100000 in
set_option maxHeartbeats 4000000 in
theorem vX11_chanceOf_20 (E : Ev) (post : Int32 → Sto → Prop)   (K117 : Int64 → Int64 → Sto → Prop) (HK117 : ∀ (x5 : Int64) (x7 : Int64) (σ : Sto), K117 x5 x7 σ → V E 7 mX11_chanceOf (pI post) 117 [(5, .long x5), (7, .long x7)] [] σ) : ∀ (n : Nat) (x2 : Int32) (x3 : Int64) (x5 : Int64) (x7 : Int64) (x9 : Int32) (σ : Sto), wX11_chanceOf_20 post  K117 n x2 x3 x5 x7 x9 σ → V E 7 mX11_chanceOf (pI post) 20 [(0, .ref 67), (2, .int x2), (3, .long x3), (5, .long x5), (7, .long x7), (9, .int x9)] [] σ := by
  intro n
  induction n with
  | zero => intro x2 x3 x5 x7 x9 σ h; exact h.elim
  | succ n ih =>
    intro x2 x3 x5 x7 x9 σ h
    unfold wX11_chanceOf_20 at h
    refine V_iload (pc := 20) 5 dX11_chanceOf_20 rfl ?_
    refine V_iconst (pc := 22) (v := 1) dX11_chanceOf_22 (by decide) ?_
    refine V_aload_n (pc := 23) 0 dX11_chanceOf_23 rfl ?_
    refine V_getI (pc := 24) dX11_chanceOf_24 fl_X11_204 sh_67 rfl ?_
    refine V_ishl (pc := 27) dX11_chanceOf_27 ?_
    refine V_icmp_ge (pc := 28) (tgt := 117) dX11_chanceOf_28 (by decide) (fun hc => ?_) (fun hc => ?_)
    · replace h := h.1 hc
      exact V_loc [3, 4] rfl (HK117 x5 x7 σ  h)
    · replace h := h.2 hc
      refine V_iload (pc := 31) 5 dX11_chanceOf_31 rfl ?_
      refine V_callS (pc := 33) (M' := mX11_ones) dX11_chanceOf_33 ml_X11_180 ks_X11_ones ko_X11_ones (by decide) rfl (Nat.le_of_ble_eq_true rfl) (Nat.le_of_ble_eq_true rfl) (vX11_ones E  x9 σ _  h) (kI (fun r33 s33 h => ?_))
      refine V_iload_n (pc := 36) 1 dX11_chanceOf_36 rfl ?_
      refine V_icmp_ne (pc := 37) (tgt := 111) dX11_chanceOf_37 (by decide) (fun hc => ?_) (fun hc => ?_)
      · replace h := h.1 hc
        refine V_iinc (pc := 111) 5 (v := 1) dX11_chanceOf_111 rfl (by decide) (by decide) ?_
        refine V_goto (pc := 114) (tgt := 20) dX11_chanceOf_114 (by decide) ?_
        exact V_loc [1, 2, 3, 4, 5, 0] rfl (ih x2 x3 x5 x7 (x9 + (1 : Int32)) s33  h)
      · replace h := h.2 hc
        refine V_lconst (pc := 40) (v := 0) dX11_chanceOf_40 (by decide) ?_
        refine V_lstore (pc := 41) dX11_chanceOf_41 (by decide) ?_
        refine V_iconst (pc := 43) (v := 0) dX11_chanceOf_43 (by decide) ?_
        refine V_istore (pc := 44) dX11_chanceOf_44 (by decide) ?_
        obtain ⟨n46, h⟩ := h
        refine V_loc [2, 3, 4, 5, 6, 7, 1, 0] rfl (vX11_chanceOf_46 E post   _ (fun x2_1 x3_1 x5_1 x7_1 x9_1 x10_1 σ_1 h => ?_) n46 x2 x3 x5 x7 x9 ((0 : Int64)) ((0 : Int32)) s33  h)
        · refine V_lload (pc := 88) 3 dX11_chanceOf_88 rfl ?_
          refine V_lconst (pc := 90) (v := 1) dX11_chanceOf_90 (by decide) ?_
          refine V_ladd (pc := 91) dX11_chanceOf_91 ?_
          refine V_lstore (pc := 92) dX11_chanceOf_92 (by decide) ?_
          refine V_lload (pc := 94) 4 dX11_chanceOf_94 rfl ?_
          refine V_lload (pc := 96) 6 dX11_chanceOf_96 rfl ?_
          refine V_lload_n (pc := 98) 3 dX11_chanceOf_98 rfl ?_
          refine V_lc_lt (pc := 99) (tgt := 107) dX11_chanceOf_99 dX11_chanceOf_100 (by decide) (fun hc => ?_) (fun hc => ?_)
          · replace h := h.1 hc
            refine V_lconst (pc := 107) (v := 0) dX11_chanceOf_107 (by decide) ?_
            refine V_loc [1, 2, 3, 0, 5] rfl (vX11_chanceOf_108 E post   _ ih x2_1 x3_1 (x5_1 + ((1 : Int64))) x9_1 ((0 : Int64)) x7_1 σ_1  h)
          · replace h := h.2 hc
            refine V_lconst (pc := 103) (v := 1) dX11_chanceOf_103 (by decide) ?_
            refine V_goto (pc := 104) (tgt := 108) dX11_chanceOf_104 (by decide) ?_
            refine V_loc [1, 2, 3, 0, 5] rfl (vX11_chanceOf_108 E post   _ ih x2_1 x3_1 (x5_1 + ((1 : Int64))) x9_1 ((1 : Int64)) x7_1 σ_1  h)
def wX11_chanceOf  (x1 : Int32) (x2 : Int32) (σ : Sto) (post : Int32 → Sto → Prop) : Prop := wX11_scoreOf  x1 σ (fun (r2 : Int64) (s2 : Sto) => wX11_rowOf  x1 s2 (fun (s14 : Sto) => ∃ n20, wX11_chanceOf_20 post  (fun (x5_2 : Int64) (x7_2 : Int64) (σ_2 : Sto) => (¬ x5_2 = 0) ∧ (post (((((1000000 : Int64)) * x7_2) / x5_2).toInt32) σ_2)) n20 x2 r2 ((0 : Int64)) ((0 : Int64)) ((0 : Int32)) s14))
set_option maxRecDepth 100000 in
set_option maxHeartbeats 4000000 in
theorem vX11_chanceOf (E : Ev)  (x1 : Int32) (x2 : Int32) (σ : Sto) (post : Int32 → Sto → Prop)  (h : wX11_chanceOf  x1 x2 σ post) : V E 7 mX11_chanceOf (pI post) 0 [(0, .ref 67), (1, .int x1), (2, .int x2)] [] σ := by
  unfold wX11_chanceOf at h
  refine V_aload_n (pc := 0) 0 dX11_chanceOf_0 rfl ?_
  refine V_iload_n (pc := 1) 1 dX11_chanceOf_1 rfl ?_
  refine V_callV (pc := 2) (M' := mX11_scoreOf) dX11_chanceOf_2 ml_X11_293 kv_X11_scoreOf ko_X11_scoreOf sh_67 (by decide) (by decide) rfl rfl (Nat.le_of_ble_eq_true rfl) (Nat.le_of_ble_eq_true rfl) (vX11_scoreOf E  x1 σ _  h) (kL (fun r2 s2 h => ?_))
  refine V_lstore_n (pc := 5) dX11_chanceOf_5 (by decide) ?_
  refine V_lconst (pc := 6) (v := 0) dX11_chanceOf_6 (by decide) ?_
  refine V_lstore (pc := 7) dX11_chanceOf_7 (by decide) ?_
  refine V_lconst (pc := 9) (v := 0) dX11_chanceOf_9 (by decide) ?_
  refine V_lstore (pc := 10) dX11_chanceOf_10 (by decide) ?_
  refine V_aload_n (pc := 12) 3 dX11_chanceOf_12 rfl ?_
  refine V_iload_n (pc := 13) 4 dX11_chanceOf_13 rfl ?_
  refine V_callV (pc := 14) (M' := mX11_rowOf) dX11_chanceOf_14 ml_X11_224 kv_X11_rowOf ko_X11_rowOf sh_67 (by decide) (by decide) rfl rfl (Nat.le_of_ble_eq_true rfl) (Nat.le_of_ble_eq_true rfl) (vX11_rowOf E  x1 s2 _  h) (kV (fun s14 h => ?_))
  refine V_iconst (pc := 17) (v := 0) dX11_chanceOf_17 (by decide) ?_
  refine V_istore (pc := 18) dX11_chanceOf_18 (by decide) ?_
  obtain ⟨n20, h⟩ := h
  refine V_loc [4, 6, 3, 2, 1, 0] rfl (vX11_chanceOf_20 E post   _ (fun x5_2 x7_2 σ_2 h => ?_) n20 x2 r2 ((0 : Int64)) ((0 : Int64)) ((0 : Int32)) s14  h)
  · refine V_ldc2 (pc := 117) dX11_chanceOf_117 cl_X11_175 ?_
    refine V_lload (pc := 120) 1 dX11_chanceOf_120 rfl ?_
    refine V_lmul (pc := 122) dX11_chanceOf_122 ?_
    refine V_lload (pc := 123) 0 dX11_chanceOf_123 rfl ?_
    obtain ⟨z125, h⟩ := h
    refine V_ldiv (pc := 125) dX11_chanceOf_125 z125 ?_
    refine V_l2i (pc := 126) dX11_chanceOf_126 ?_
    exact V_iret dX11_chanceOf_127 rfl h

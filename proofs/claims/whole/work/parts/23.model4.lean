theorem dX11_ways_0 : decode cX11_ways 0 = .ok (.iload_n 1, 1) := by decide +kernel
theorem dX11_ways_1 : decode cX11_ways 1 = .ok (.invokestatic 119, 3) := by decide +kernel
theorem dX11_ways_4 : decode cX11_ways 4 = .ok (.ifCond .eq 12, 3) := by decide +kernel
theorem dX11_ways_7 : decode cX11_ways 7 = .ok (.iload_n 2, 1) := by decide +kernel
theorem dX11_ways_8 : decode cX11_ways 8 = .ok (.iconst 0, 1) := by decide +kernel
theorem dX11_ways_9 : decode cX11_ways 9 = .ok (.iconst 2, 1) := by decide +kernel
theorem dX11_ways_10 : decode cX11_ways 10 = .ok (.invokestatic 104, 3) := by decide +kernel
theorem dX11_ways_13 : decode cX11_ways 13 = .ok (.ifCond .ne 6, 3) := by decide +kernel
theorem dX11_ways_16 : decode cX11_ways 16 = .ok (.bipush (-2), 2) := by decide +kernel
theorem dX11_ways_18 : decode cX11_ways 18 = .ok (.ireturn, 1) := by decide +kernel
theorem dX11_ways_19 : decode cX11_ways 19 = .ok (.aload_n 0, 1) := by decide +kernel
theorem dX11_ways_20 : decode cX11_ways 20 = .ok (.iload_n 1, 1) := by decide +kernel
theorem dX11_ways_21 : decode cX11_ways 21 = .ok (.iconst 0, 1) := by decide +kernel
theorem dX11_ways_22 : decode cX11_ways 22 = .ok (.invokevirtual 298, 3) := by decide +kernel
theorem dX11_ways_25 : decode cX11_ways 25 = .ok (.istore_n 3, 1) := by decide +kernel
theorem dX11_ways_26 : decode cX11_ways 26 = .ok (.aload_n 0, 1) := by decide +kernel
theorem dX11_ways_27 : decode cX11_ways 27 = .ok (.iload_n 1, 1) := by decide +kernel
theorem dX11_ways_28 : decode cX11_ways 28 = .ok (.iconst 1, 1) := by decide +kernel
theorem dX11_ways_29 : decode cX11_ways 29 = .ok (.invokevirtual 298, 3) := by decide +kernel
theorem dX11_ways_32 : decode cX11_ways 32 = .ok (.istore 4, 2) := by decide +kernel
theorem dX11_ways_34 : decode cX11_ways 34 = .ok (.iload_n 2, 1) := by decide +kernel
theorem dX11_ways_35 : decode cX11_ways 35 = .ok (.iconst 2, 1) := by decide +kernel
theorem dX11_ways_36 : decode cX11_ways 36 = .ok (.if_icmp .ge 14, 3) := by decide +kernel
theorem dX11_ways_39 : decode cX11_ways 39 = .ok (.iload_n 2, 1) := by decide +kernel
theorem dX11_ways_40 : decode cX11_ways 40 = .ok (.ifCond .ne 7, 3) := by decide +kernel
theorem dX11_ways_43 : decode cX11_ways 43 = .ok (.iload_n 3, 1) := by decide +kernel
theorem dX11_ways_44 : decode cX11_ways 44 = .ok (.goto 5, 3) := by decide +kernel
theorem dX11_ways_47 : decode cX11_ways 47 = .ok (.iload 4, 2) := by decide +kernel
theorem dX11_ways_49 : decode cX11_ways 49 = .ok (.ireturn, 1) := by decide +kernel
theorem dX11_ways_50 : decode cX11_ways 50 = .ok (.iload_n 3, 1) := by decide +kernel
theorem dX11_ways_51 : decode cX11_ways 51 = .ok (.ifCond .eq 8, 3) := by decide +kernel
theorem dX11_ways_54 : decode cX11_ways 54 = .ok (.iload 4, 2) := by decide +kernel
theorem dX11_ways_56 : decode cX11_ways 56 = .ok (.ifCond .ne 8, 3) := by decide +kernel
theorem dX11_ways_59 : decode cX11_ways 59 = .ok (.bipush (-3), 2) := by decide +kernel
theorem dX11_ways_61 : decode cX11_ways 61 = .ok (.goto 24, 3) := by decide +kernel
theorem dX11_ways_64 : decode cX11_ways 64 = .ok (.iload_n 3, 1) := by decide +kernel
theorem dX11_ways_65 : decode cX11_ways 65 = .ok (.iload 4, 2) := by decide +kernel
theorem dX11_ways_67 : decode cX11_ways 67 = .ok (.iadd, 1) := by decide +kernel
theorem dX11_ways_68 : decode cX11_ways 68 = .ok (.bipush 13, 2) := by decide +kernel
theorem dX11_ways_70 : decode cX11_ways 70 = .ok (.if_icmp .le 8, 3) := by decide +kernel
theorem dX11_ways_73 : decode cX11_ways 73 = .ok (.bipush (-4), 2) := by decide +kernel
theorem dX11_ways_75 : decode cX11_ways 75 = .ok (.goto 10, 3) := by decide +kernel
theorem dX11_ways_78 : decode cX11_ways 78 = .ok (.aload_n 0, 1) := by decide +kernel
theorem dX11_ways_79 : decode cX11_ways 79 = .ok (.iload_n 1, 1) := by decide +kernel
theorem dX11_ways_80 : decode cX11_ways 80 = .ok (.iload 4, 2) := by decide +kernel
theorem dX11_ways_82 : decode cX11_ways 82 = .ok (.invokevirtual 301, 3) := by decide +kernel
theorem dX11_ways_85 : decode cX11_ways 85 = .ok (.ireturn, 1) := by decide +kernel
def wX11_ways  (x1 : Int32) (x2 : Int32) (σ : Sto) (post : Int32 → Sto → Prop) : Prop := wX11_isPiece  x1 σ (fun (r1 : Bool) (s1 : Sto) => ((r1 = false) → (post ((-2 : Int32)) s1)) ∧ ((r1 = true) → (wX11_in  x2 ((0 : Int32)) ((2 : Int32)) s1 (fun (r10 : Bool) (s10 : Sto) => ((r10 = true) → (wX11_wayMany  x1 ((0 : Int32)) s10 (fun (r22 : Int32) (s22 : Sto) => wX11_wayMany  x1 ((1 : Int32)) s22 (fun (r29 : Int32) (s29 : Sto) => ((((2 : Int32)) ≤ x2) → (((r22 = 0) → (post ((-3 : Int32)) s29)) ∧ ((¬ (r22 = 0)) → (((¬ r29 = 0) → ((((r22 + r29) ≤ ((13 : Int32))) → (wX11_chanceOf  x1 r29 s29 (fun (r82 : Int32) (s82 : Sto) => post r82 s82))) ∧ ((¬ ((r22 + r29) ≤ ((13 : Int32)))) → (post ((-4 : Int32)) s29)))) ∧ ((r29 = 0) → (post ((-3 : Int32)) s29)))))) ∧ ((¬ (((2 : Int32)) ≤ x2)) → (((¬ x2 = 0) → (post r29 s29)) ∧ ((x2 = 0) → (post r22 s29)))))))) ∧ ((r10 = false) → (post ((-2 : Int32)) s10))))))
set_option maxRecDepth 100000 in
set_option maxHeartbeats 4000000 in
theorem vX11_ways (E : Ev)  (x1 : Int32) (x2 : Int32) (σ : Sto) (post : Int32 → Sto → Prop)  (h : wX11_ways  x1 x2 σ post) : V E 8 mX11_ways (pI post) 0 [(0, .ref 67), (1, .int x1), (2, .int x2)] [] σ := by
  unfold wX11_ways at h
  refine V_iload_n (pc := 0) 1 dX11_ways_0 rfl ?_
  refine V_callS (pc := 1) (M' := mX11_isPiece) dX11_ways_1 ml_X11_119 ks_X11_isPiece ko_X11_isPiece (by decide) rfl (Nat.le_of_ble_eq_true rfl) (Nat.le_of_ble_eq_true rfl) (vX11_isPiece E  x1 σ _  h) (kB (fun r1 s1 h => ?_))
  refine V_ifz (pc := 4) (tgt := 16) dX11_ways_4 (by decide) (fun hc => ?_) (fun hc => ?_)
  · replace h := h.1 hc
    refine V_bipush (pc := 16) (v := -2) dX11_ways_16 (by decide) ?_
    exact V_iret dX11_ways_18 rfl h
  · replace h := h.2 hc
    refine V_iload_n (pc := 7) 2 dX11_ways_7 rfl ?_
    refine V_iconst (pc := 8) (v := 0) dX11_ways_8 (by decide) ?_
    refine V_iconst (pc := 9) (v := 2) dX11_ways_9 (by decide) ?_
    refine V_callS (pc := 10) (M' := mX11_in) dX11_ways_10 ml_X11_104 ks_X11_in ko_X11_in (by decide) rfl (Nat.le_of_ble_eq_true rfl) (Nat.le_of_ble_eq_true rfl) (vX11_in E  x2 ((0 : Int32)) ((2 : Int32)) s1 _  h) (kB (fun r10 s10 h => ?_))
    refine V_ifnz (pc := 13) (tgt := 19) dX11_ways_13 (by decide) (fun hc => ?_) (fun hc => ?_)
    · replace h := h.1 hc
      refine V_aload_n (pc := 19) 0 dX11_ways_19 rfl ?_
      refine V_iload_n (pc := 20) 1 dX11_ways_20 rfl ?_
      refine V_iconst (pc := 21) (v := 0) dX11_ways_21 (by decide) ?_
      refine V_callV (pc := 22) (M' := mX11_wayMany) dX11_ways_22 ml_X11_298 kv_X11_wayMany ko_X11_wayMany sh_67 (by decide) (by decide) rfl rfl (Nat.le_of_ble_eq_true rfl) (Nat.le_of_ble_eq_true rfl) (vX11_wayMany E  x1 ((0 : Int32)) s10 _  h) (kI (fun r22 s22 h => ?_))
      refine V_istore_n (pc := 25) dX11_ways_25 (by decide) ?_
      refine V_aload_n (pc := 26) 1 dX11_ways_26 rfl ?_
      refine V_iload_n (pc := 27) 2 dX11_ways_27 rfl ?_
      refine V_iconst (pc := 28) (v := 1) dX11_ways_28 (by decide) ?_
      refine V_callV (pc := 29) (M' := mX11_wayMany) dX11_ways_29 ml_X11_298 kv_X11_wayMany ko_X11_wayMany sh_67 (by decide) (by decide) rfl rfl (Nat.le_of_ble_eq_true rfl) (Nat.le_of_ble_eq_true rfl) (vX11_wayMany E  x1 ((1 : Int32)) s22 _  h) (kI (fun r29 s29 h => ?_))
      refine V_istore (pc := 32) dX11_ways_32 (by decide) ?_
      refine V_iload_n (pc := 34) 4 dX11_ways_34 rfl ?_
      refine V_iconst (pc := 35) (v := 2) dX11_ways_35 (by decide) ?_
      refine V_icmp_ge (pc := 36) (tgt := 50) dX11_ways_36 (by decide) (fun hc => ?_) (fun hc => ?_)
      · replace h := h.1 hc
        refine V_iload_n (pc := 50) 1 dX11_ways_50 rfl ?_
        refine V_if_eq (pc := 51) (tgt := 59) dX11_ways_51 (by decide) (fun hc => ?_) (fun hc => ?_)
        · replace h := h.1 hc
          refine V_bipush (pc := 59) (v := -3) dX11_ways_59 (by decide) ?_
          refine V_goto (pc := 61) (tgt := 85) dX11_ways_61 (by decide) ?_
          exact V_iret dX11_ways_85 rfl h
        · replace h := h.2 hc
          refine V_iload (pc := 54) 0 dX11_ways_54 rfl ?_
          refine V_if_ne (pc := 56) (tgt := 64) dX11_ways_56 (by decide) (fun hc => ?_) (fun hc => ?_)
          · replace h := h.1 hc
            refine V_iload_n (pc := 64) 1 dX11_ways_64 rfl ?_
            refine V_iload (pc := 65) 0 dX11_ways_65 rfl ?_
            refine V_iadd (pc := 67) dX11_ways_67 ?_
            refine V_bipush (pc := 68) (v := 13) dX11_ways_68 (by decide) ?_
            refine V_icmp_le (pc := 70) (tgt := 78) dX11_ways_70 (by decide) (fun hc => ?_) (fun hc => ?_)
            · replace h := h.1 hc
              refine V_aload_n (pc := 78) 2 dX11_ways_78 rfl ?_
              refine V_iload_n (pc := 79) 3 dX11_ways_79 rfl ?_
              refine V_iload (pc := 80) 0 dX11_ways_80 rfl ?_
              refine V_callV (pc := 82) (M' := mX11_chanceOf) dX11_ways_82 ml_X11_301 kv_X11_chanceOf ko_X11_chanceOf sh_67 (by decide) (by decide) rfl rfl (Nat.le_of_ble_eq_true rfl) (Nat.le_of_ble_eq_true rfl) (vX11_chanceOf E  x1 r29 s29 _  h) (kI (fun r82 s82 h => ?_))
              exact V_iret dX11_ways_85 rfl h
            · replace h := h.2 hc
              refine V_bipush (pc := 73) (v := -4) dX11_ways_73 (by decide) ?_
              refine V_goto (pc := 75) (tgt := 85) dX11_ways_75 (by decide) ?_
              exact V_iret dX11_ways_85 rfl h
          · replace h := h.2 hc
            refine V_bipush (pc := 59) (v := -3) dX11_ways_59 (by decide) ?_
            refine V_goto (pc := 61) (tgt := 85) dX11_ways_61 (by decide) ?_
            exact V_iret dX11_ways_85 rfl h
      · replace h := h.2 hc
        refine V_iload_n (pc := 39) 4 dX11_ways_39 rfl ?_
        refine V_if_ne (pc := 40) (tgt := 47) dX11_ways_40 (by decide) (fun hc => ?_) (fun hc => ?_)
        · replace h := h.1 hc
          refine V_iload (pc := 47) 0 dX11_ways_47 rfl ?_
          exact V_iret dX11_ways_49 rfl h
        · replace h := h.2 hc
          refine V_iload_n (pc := 43) 1 dX11_ways_43 rfl ?_
          refine V_goto (pc := 44) (tgt := 49) dX11_ways_44 (by decide) ?_
          exact V_iret dX11_ways_49 rfl h
    · replace h := h.2 hc
      refine V_bipush (pc := 16) (v := -2) dX11_ways_16 (by decide) ?_
      exact V_iret dX11_ways_18 rfl h
theorem dX11_type_0 : decode cX11_type 0 = .ok (.iload_n 1, 1) := by decide +kernel
theorem dX11_type_1 : decode cX11_type 1 = .ok (.iconst 0, 1) := by decide +kernel
theorem dX11_type_2 : decode cX11_type 2 = .ok (.sipush 255, 3) := by decide +kernel
theorem dX11_type_5 : decode cX11_type 5 = .ok (.invokestatic 104, 3) := by decide +kernel
theorem dX11_type_8 : decode cX11_type 8 = .ok (.ifCond .ne 6, 3) := by decide +kernel
theorem dX11_type_11 : decode cX11_type 11 = .ok (.bipush (-2), 2) := by decide +kernel
theorem dX11_type_13 : decode cX11_type 13 = .ok (.ireturn, 1) := by decide +kernel
theorem dX11_type_14 : decode cX11_type 14 = .ok (.aload_n 0, 1) := by decide +kernel
theorem dX11_type_15 : decode cX11_type 15 = .ok (.getfield 304, 3) := by decide +kernel
theorem dX11_type_18 : decode cX11_type 18 = .ok (.bipush 60, 2) := by decide +kernel
theorem dX11_type_20 : decode cX11_type 20 = .ok (.if_icmp .ne 6, 3) := by decide +kernel
theorem dX11_type_23 : decode cX11_type 23 = .ok (.bipush (-4), 2) := by decide +kernel
theorem dX11_type_25 : decode cX11_type 25 = .ok (.ireturn, 1) := by decide +kernel
theorem dX11_type_26 : decode cX11_type 26 = .ok (.aload_n 0, 1) := by decide +kernel
theorem dX11_type_27 : decode cX11_type 27 = .ok (.getfield 69, 3) := by decide +kernel
theorem dX11_type_30 : decode cX11_type 30 = .ok (.aload_n 0, 1) := by decide +kernel
theorem dX11_type_31 : decode cX11_type 31 = .ok (.getfield 304, 3) := by decide +kernel
theorem dX11_type_34 : decode cX11_type 34 = .ok (.iload_n 1, 1) := by decide +kernel
theorem dX11_type_35 : decode cX11_type 35 = .ok (.iastore, 1) := by decide +kernel
theorem dX11_type_36 : decode cX11_type 36 = .ok (.aload_n 0, 1) := by decide +kernel
theorem dX11_type_37 : decode cX11_type 37 = .ok (.dup, 1) := by decide +kernel
theorem dX11_type_38 : decode cX11_type 38 = .ok (.getfield 304, 3) := by decide +kernel
theorem dX11_type_41 : decode cX11_type 41 = .ok (.iconst 1, 1) := by decide +kernel
theorem dX11_type_42 : decode cX11_type 42 = .ok (.iadd, 1) := by decide +kernel
theorem dX11_type_43 : decode cX11_type 43 = .ok (.putfield 304, 3) := by decide +kernel
theorem dX11_type_46 : decode cX11_type 46 = .ok (.aload_n 0, 1) := by decide +kernel
theorem dX11_type_47 : decode cX11_type 47 = .ok (.getfield 304, 3) := by decide +kernel
theorem dX11_type_50 : decode cX11_type 50 = .ok (.ireturn, 1) := by decide +kernel
def wX11_type  (x1 : Int32) (σ : Sto) (post : Int32 → Sto → Prop) : Prop := wX11_in  x1 ((0 : Int32)) ((255 : Int32)) σ (fun (r5 : Bool) (s5 : Sto) => ((r5 = true) → (((¬ (s5.1 67 29) = ((60 : Int32))) → (vp_in (s5.1 67 29) 60 ∧ (post ((s5.1 67 29) + ((1 : Int32))) (wI (wI s5 85 (s5.1 67 29).toNatClampNeg x1) 67 29 ((s5.1 67 29) + ((1 : Int32))))))) ∧ (((s5.1 67 29) = ((60 : Int32))) → (post ((-4 : Int32)) s5)))) ∧ ((r5 = false) → (post ((-2 : Int32)) s5)))
set_option maxRecDepth 100000 in
set_option maxHeartbeats 4000000 in
theorem vX11_type (E : Ev)  (x1 : Int32) (σ : Sto) (post : Int32 → Sto → Prop)  (h : wX11_type  x1 σ post) : V E 1 mX11_type (pI post) 0 [(0, .ref 67), (1, .int x1)] [] σ := by
  unfold wX11_type at h
  refine V_iload_n (pc := 0) 1 dX11_type_0 rfl ?_
  refine V_iconst (pc := 1) (v := 0) dX11_type_1 (by decide) ?_
  refine V_sipush (pc := 2) (v := 255) dX11_type_2 (by decide) ?_
  refine V_callS (pc := 5) (M' := mX11_in) dX11_type_5 ml_X11_104 ks_X11_in ko_X11_in (by decide) rfl (Nat.le_of_ble_eq_true rfl) (Nat.le_of_ble_eq_true rfl) (vX11_in E  x1 ((0 : Int32)) ((255 : Int32)) σ _  h) (kB (fun r5 s5 h => ?_))
  refine V_ifnz (pc := 8) (tgt := 14) dX11_type_8 (by decide) (fun hc => ?_) (fun hc => ?_)
  · replace h := h.1 hc
    refine V_aload_n (pc := 14) 0 dX11_type_14 rfl ?_
    refine V_getI (pc := 15) dX11_type_15 fl_X11_304 sh_67 rfl ?_
    refine V_bipush (pc := 18) (v := 60) dX11_type_18 (by decide) ?_
    refine V_icmp_ne (pc := 20) (tgt := 26) dX11_type_20 (by decide) (fun hc => ?_) (fun hc => ?_)
    · replace h := h.1 hc
      refine V_aload_n (pc := 26) 0 dX11_type_26 rfl ?_
      refine V_getR (pc := 27) dX11_type_27 fl_X11_69 sh_67 rfl ?_
      refine V_aload_n (pc := 30) 0 dX11_type_30 rfl ?_
      refine V_getI (pc := 31) dX11_type_31 fl_X11_304 sh_67 rfl ?_
      refine V_iload_n (pc := 34) 1 dX11_type_34 rfl ?_
      obtain ⟨i35, h⟩ := h
      refine V_iast (pc := 35) dX11_type_35 sh_85 i35 ?_
      refine V_aload_n (pc := 36) 0 dX11_type_36 rfl ?_
      refine V_dup (pc := 37) dX11_type_37 rfl ?_
      refine V_getI (pc := 38) dX11_type_38 fl_X11_304 sh_67 rfl ?_
      refine V_iconst (pc := 41) (v := 1) dX11_type_41 (by decide) ?_
      refine V_iadd (pc := 42) dX11_type_42 ?_
      refine V_putI (pc := 43) dX11_type_43 fl_X11_304 po_X11_29 sh_67 rfl rfl rfl ?_
      refine V_aload_n (pc := 46) 0 dX11_type_46 rfl ?_
      refine V_getI (pc := 47) dX11_type_47 fl_X11_304 sh_67 rfl ?_
      exact V_iret dX11_type_50 rfl h
    · replace h := h.2 hc
      refine V_bipush (pc := 23) (v := -4) dX11_type_23 (by decide) ?_
      exact V_iret dX11_type_25 rfl h
  · replace h := h.2 hc
    refine V_bipush (pc := 11) (v := -2) dX11_type_11 (by decide) ?_
    exact V_iret dX11_type_13 rfl h
theorem dX11_wipe_0 : decode cX11_wipe 0 = .ok (.aload_n 0, 1) := by decide +kernel
theorem dX11_wipe_1 : decode cX11_wipe 1 = .ok (.getfield 304, 3) := by decide +kernel
theorem dX11_wipe_4 : decode cX11_wipe 4 = .ok (.istore_n 1, 1) := by decide +kernel
theorem dX11_wipe_5 : decode cX11_wipe 5 = .ok (.aload_n 0, 1) := by decide +kernel
theorem dX11_wipe_6 : decode cX11_wipe 6 = .ok (.iconst 0, 1) := by decide +kernel
theorem dX11_wipe_7 : decode cX11_wipe 7 = .ok (.putfield 304, 3) := by decide +kernel
theorem dX11_wipe_10 : decode cX11_wipe 10 = .ok (.iload_n 1, 1) := by decide +kernel
theorem dX11_wipe_11 : decode cX11_wipe 11 = .ok (.ireturn, 1) := by decide +kernel
def wX11_wipe   (σ : Sto) (post : Int32 → Sto → Prop) : Prop := post (σ.1 67 29) (wI σ 67 29 ((0 : Int32)))
set_option maxRecDepth 100000 in
set_option maxHeartbeats 4000000 in
theorem vX11_wipe (E : Ev)   (σ : Sto) (post : Int32 → Sto → Prop)  (h : wX11_wipe   σ post) : V E 0 mX11_wipe (pI post) 0 [(0, .ref 67)] [] σ := by
  unfold wX11_wipe at h
  refine V_aload_n (pc := 0) 0 dX11_wipe_0 rfl ?_
  refine V_getI (pc := 1) dX11_wipe_1 fl_X11_304 sh_67 rfl ?_
  refine V_istore_n (pc := 4) dX11_wipe_4 (by decide) ?_
  refine V_aload_n (pc := 5) 1 dX11_wipe_5 rfl ?_
  refine V_iconst (pc := 6) (v := 0) dX11_wipe_6 (by decide) ?_
  refine V_putI (pc := 7) dX11_wipe_7 fl_X11_304 po_X11_29 sh_67 rfl rfl rfl ?_
  refine V_iload_n (pc := 10) 0 dX11_wipe_10 rfl ?_
  exact V_iret dX11_wipe_11 rfl h
theorem dX11_byteAt_0 : decode cX11_byteAt 0 = .ok (.iload_n 1, 1) := by decide +kernel
theorem dX11_byteAt_1 : decode cX11_byteAt 1 = .ok (.aload_n 0, 1) := by decide +kernel
theorem dX11_byteAt_2 : decode cX11_byteAt 2 = .ok (.getfield 304, 3) := by decide +kernel
theorem dX11_byteAt_5 : decode cX11_byteAt 5 = .ok (.if_icmp .ge 12, 3) := by decide +kernel
theorem dX11_byteAt_8 : decode cX11_byteAt 8 = .ok (.aload_n 0, 1) := by decide +kernel
theorem dX11_byteAt_9 : decode cX11_byteAt 9 = .ok (.getfield 69, 3) := by decide +kernel
theorem dX11_byteAt_12 : decode cX11_byteAt 12 = .ok (.iload_n 1, 1) := by decide +kernel
theorem dX11_byteAt_13 : decode cX11_byteAt 13 = .ok (.iaload, 1) := by decide +kernel
theorem dX11_byteAt_14 : decode cX11_byteAt 14 = .ok (.goto 4, 3) := by decide +kernel
theorem dX11_byteAt_17 : decode cX11_byteAt 17 = .ok (.iconst (-1), 1) := by decide +kernel
theorem dX11_byteAt_18 : decode cX11_byteAt 18 = .ok (.ireturn, 1) := by decide +kernel
def wX11_byteAt  (x1 : Int32) (σ : Sto) (post : Int32 → Sto → Prop) : Prop := (((σ.1 67 29) ≤ x1) → (post ((-1 : Int32)) σ)) ∧ ((¬ ((σ.1 67 29) ≤ x1)) → (vp_in x1 60 ∧ (post (σ.1 85 x1.toNatClampNeg) σ)))
set_option maxRecDepth 100000 in
set_option maxHeartbeats 4000000 in
theorem vX11_byteAt (E : Ev)  (x1 : Int32) (σ : Sto) (post : Int32 → Sto → Prop)  (h : wX11_byteAt  x1 σ post) : V E 0 mX11_byteAt (pI post) 0 [(0, .ref 67), (1, .int x1)] [] σ := by
  unfold wX11_byteAt at h
  refine V_iload_n (pc := 0) 1 dX11_byteAt_0 rfl ?_
  refine V_aload_n (pc := 1) 0 dX11_byteAt_1 rfl ?_
  refine V_getI (pc := 2) dX11_byteAt_2 fl_X11_304 sh_67 rfl ?_
  refine V_icmp_ge (pc := 5) (tgt := 17) dX11_byteAt_5 (by decide) (fun hc => ?_) (fun hc => ?_)
  · replace h := h.1 hc
    refine V_iconst (pc := 17) (v := -1) dX11_byteAt_17 (by decide) ?_
    exact V_iret dX11_byteAt_18 rfl h
  · replace h := h.2 hc
    refine V_aload_n (pc := 8) 0 dX11_byteAt_8 rfl ?_
    refine V_getR (pc := 9) dX11_byteAt_9 fl_X11_69 sh_67 rfl ?_
    refine V_iload_n (pc := 12) 1 dX11_byteAt_12 rfl ?_
    obtain ⟨i13, h⟩ := h
    refine V_iald (pc := 13) dX11_byteAt_13 sh_85 i13 ?_
    refine V_goto (pc := 14) (tgt := 18) dX11_byteAt_14 (by decide) ?_
    exact V_iret dX11_byteAt_18 rfl h
theorem dX11_figures_0 : decode cX11_figures 0 = .ok (.aload_n 0, 1) := by decide +kernel
theorem dX11_figures_1 : decode cX11_figures 1 = .ok (.getfield 307, 3) := by decide +kernel
theorem dX11_figures_4 : decode cX11_figures 4 = .ok (.istore_n 1, 1) := by decide +kernel
theorem dX11_figures_5 : decode cX11_figures 5 = .ok (.iconst 0, 1) := by decide +kernel
theorem dX11_figures_6 : decode cX11_figures 6 = .ok (.istore_n 2, 1) := by decide +kernel
theorem dX11_figures_7 : decode cX11_figures 7 = .ok (.aload_n 0, 1) := by decide +kernel
theorem dX11_figures_8 : decode cX11_figures 8 = .ok (.getfield 307, 3) := by decide +kernel
theorem dX11_figures_11 : decode cX11_figures 11 = .ok (.iload_n 1, 1) := by decide +kernel
theorem dX11_figures_12 : decode cX11_figures 12 = .ok (.iconst 3, 1) := by decide +kernel
theorem dX11_figures_13 : decode cX11_figures 13 = .ok (.iadd, 1) := by decide +kernel
theorem dX11_figures_14 : decode cX11_figures 14 = .ok (.if_icmp .ge 59, 3) := by decide +kernel
theorem dX11_figures_17 : decode cX11_figures 17 = .ok (.aload_n 0, 1) := by decide +kernel
theorem dX11_figures_18 : decode cX11_figures 18 = .ok (.aload_n 0, 1) := by decide +kernel
theorem dX11_figures_19 : decode cX11_figures 19 = .ok (.getfield 307, 3) := by decide +kernel
theorem dX11_figures_22 : decode cX11_figures 22 = .ok (.invokevirtual 310, 3) := by decide +kernel
theorem dX11_figures_25 : decode cX11_figures 25 = .ok (.bipush 48, 2) := by decide +kernel
theorem dX11_figures_27 : decode cX11_figures 27 = .ok (.if_icmp .lt 46, 3) := by decide +kernel
theorem dX11_figures_30 : decode cX11_figures 30 = .ok (.aload_n 0, 1) := by decide +kernel
theorem dX11_figures_31 : decode cX11_figures 31 = .ok (.aload_n 0, 1) := by decide +kernel
theorem dX11_figures_32 : decode cX11_figures 32 = .ok (.getfield 307, 3) := by decide +kernel
theorem dX11_figures_35 : decode cX11_figures 35 = .ok (.invokevirtual 310, 3) := by decide +kernel
theorem dX11_figures_38 : decode cX11_figures 38 = .ok (.bipush 57, 2) := by decide +kernel
theorem dX11_figures_40 : decode cX11_figures 40 = .ok (.if_icmp .gt 33, 3) := by decide +kernel
theorem dX11_figures_43 : decode cX11_figures 43 = .ok (.bipush 10, 2) := by decide +kernel
theorem dX11_figures_45 : decode cX11_figures 45 = .ok (.iload_n 2, 1) := by decide +kernel
theorem dX11_figures_46 : decode cX11_figures 46 = .ok (.imul, 1) := by decide +kernel
theorem dX11_figures_47 : decode cX11_figures 47 = .ok (.aload_n 0, 1) := by decide +kernel
theorem dX11_figures_48 : decode cX11_figures 48 = .ok (.aload_n 0, 1) := by decide +kernel
theorem dX11_figures_49 : decode cX11_figures 49 = .ok (.getfield 307, 3) := by decide +kernel
theorem dX11_figures_52 : decode cX11_figures 52 = .ok (.invokevirtual 310, 3) := by decide +kernel
theorem dX11_figures_55 : decode cX11_figures 55 = .ok (.iadd, 1) := by decide +kernel
theorem dX11_figures_56 : decode cX11_figures 56 = .ok (.bipush 48, 2) := by decide +kernel
theorem dX11_figures_58 : decode cX11_figures 58 = .ok (.isub, 1) := by decide +kernel
theorem dX11_figures_59 : decode cX11_figures 59 = .ok (.istore_n 2, 1) := by decide +kernel
theorem dX11_figures_60 : decode cX11_figures 60 = .ok (.aload_n 0, 1) := by decide +kernel
theorem dX11_figures_61 : decode cX11_figures 61 = .ok (.dup, 1) := by decide +kernel
theorem dX11_figures_62 : decode cX11_figures 62 = .ok (.getfield 307, 3) := by decide +kernel
theorem dX11_figures_65 : decode cX11_figures 65 = .ok (.iconst 1, 1) := by decide +kernel
theorem dX11_figures_66 : decode cX11_figures 66 = .ok (.iadd, 1) := by decide +kernel
theorem dX11_figures_67 : decode cX11_figures 67 = .ok (.putfield 307, 3) := by decide +kernel
theorem dX11_figures_70 : decode cX11_figures 70 = .ok (.goto (-63), 3) := by decide +kernel
theorem dX11_figures_73 : decode cX11_figures 73 = .ok (.aload_n 0, 1) := by decide +kernel
theorem dX11_figures_74 : decode cX11_figures 74 = .ok (.getfield 307, 3) := by decide +kernel
theorem dX11_figures_77 : decode cX11_figures 77 = .ok (.iload_n 1, 1) := by decide +kernel
theorem dX11_figures_78 : decode cX11_figures 78 = .ok (.if_icmp .ne 8, 3) := by decide +kernel
theorem dX11_figures_81 : decode cX11_figures 81 = .ok (.aload_n 0, 1) := by decide +kernel
theorem dX11_figures_82 : decode cX11_figures 82 = .ok (.iload_n 1, 1) := by decide +kernel
theorem dX11_figures_83 : decode cX11_figures 83 = .ok (.putfield 313, 3) := by decide +kernel
theorem dX11_figures_86 : decode cX11_figures 86 = .ok (.iload_n 2, 1) := by decide +kernel
theorem dX11_figures_87 : decode cX11_figures 87 = .ok (.ireturn, 1) := by decide +kernel
def wX11_figures_7 (post : Int32 → Sto → Prop)  (K73 : Int32 → Int32 → Sto → Prop) : Nat → Int32 → Int32 → Sto → Prop
  | 0, _, _, _ => False
  | n + 1, x1, x2, σ => (((x1 + ((3 : Int32))) ≤ (σ.1 67 31)) → (K73 x1 x2 σ)) ∧ ((¬ ((x1 + ((3 : Int32))) ≤ (σ.1 67 31))) → (wX11_byteAt  (σ.1 67 31) σ (fun (r22 : Int32) (s22 : Sto) => ((r22 < ((48 : Int32))) → (K73 x1 x2 s22)) ∧ ((¬ (r22 < ((48 : Int32)))) → (wX11_byteAt  (s22.1 67 31) s22 (fun (r35 : Int32) (s35 : Sto) => ((((57 : Int32)) < r35) → (K73 x1 x2 s35)) ∧ ((¬ (((57 : Int32)) < r35)) → (wX11_byteAt  (s35.1 67 31) s35 (fun (r52 : Int32) (s52 : Sto) => wX11_figures_7 post  K73 n x1 (((((10 : Int32)) * x2) + r52) - ((48 : Int32))) (wI s52 67 31 ((s52.1 67 31) + ((1 : Int32)))))))))))))
set_option maxRecDepth 100000 in
set_option maxHeartbeats 4000000 in
theorem vX11_figures_7 (E : Ev) (post : Int32 → Sto → Prop)   (K73 : Int32 → Int32 → Sto → Prop) (HK73 : ∀ (x1 : Int32) (x2 : Int32) (σ : Sto), K73 x1 x2 σ → V E 1 mX11_figures (pI post) 73 [(0, .ref 67), (1, .int x1), (2, .int x2)] [] σ) : ∀ (n : Nat) (x1 : Int32) (x2 : Int32) (σ : Sto), wX11_figures_7 post  K73 n x1 x2 σ → V E 1 mX11_figures (pI post) 7 [(0, .ref 67), (1, .int x1), (2, .int x2)] [] σ := by
  intro n
  induction n with
  | zero => intro x1 x2 σ h; exact h.elim
  | succ n ih =>
    intro x1 x2 σ h
    unfold wX11_figures_7 at h
    refine V_aload_n (pc := 7) 0 dX11_figures_7 rfl ?_
    refine V_getI (pc := 8) dX11_figures_8 fl_X11_307 sh_67 rfl ?_
    refine V_iload_n (pc := 11) 1 dX11_figures_11 rfl ?_
    refine V_iconst (pc := 12) (v := 3) dX11_figures_12 (by decide) ?_
    refine V_iadd (pc := 13) dX11_figures_13 ?_
    refine V_icmp_ge (pc := 14) (tgt := 73) dX11_figures_14 (by decide) (fun hc => ?_) (fun hc => ?_)
    · replace h := h.1 hc
      exact V_loc [0, 1, 2] rfl (HK73 x1 x2 σ  h)
    · replace h := h.2 hc
      refine V_aload_n (pc := 17) 0 dX11_figures_17 rfl ?_
      refine V_aload_n (pc := 18) 0 dX11_figures_18 rfl ?_
      refine V_getI (pc := 19) dX11_figures_19 fl_X11_307 sh_67 rfl ?_
      refine V_callV (pc := 22) (M' := mX11_byteAt) dX11_figures_22 ml_X11_310 kv_X11_byteAt ko_X11_byteAt sh_67 (by decide) (by decide) rfl rfl (Nat.le_of_ble_eq_true rfl) (Nat.le_of_ble_eq_true rfl) (vX11_byteAt E  (σ.1 67 31) σ _  h) (kI (fun r22 s22 h => ?_))
      refine V_bipush (pc := 25) (v := 48) dX11_figures_25 (by decide) ?_
      refine V_icmp_lt (pc := 27) (tgt := 73) dX11_figures_27 (by decide) (fun hc => ?_) (fun hc => ?_)
      · replace h := h.1 hc
        exact V_loc [0, 1, 2] rfl (HK73 x1 x2 s22  h)
      · replace h := h.2 hc
        refine V_aload_n (pc := 30) 0 dX11_figures_30 rfl ?_
        refine V_aload_n (pc := 31) 0 dX11_figures_31 rfl ?_
        refine V_getI (pc := 32) dX11_figures_32 fl_X11_307 sh_67 rfl ?_
        refine V_callV (pc := 35) (M' := mX11_byteAt) dX11_figures_35 ml_X11_310 kv_X11_byteAt ko_X11_byteAt sh_67 (by decide) (by decide) rfl rfl (Nat.le_of_ble_eq_true rfl) (Nat.le_of_ble_eq_true rfl) (vX11_byteAt E  (s22.1 67 31) s22 _  h) (kI (fun r35 s35 h => ?_))
        refine V_bipush (pc := 38) (v := 57) dX11_figures_38 (by decide) ?_
        refine V_icmp_gt (pc := 40) (tgt := 73) dX11_figures_40 (by decide) (fun hc => ?_) (fun hc => ?_)
        · replace h := h.1 hc
          exact V_loc [0, 1, 2] rfl (HK73 x1 x2 s35  h)
        · replace h := h.2 hc
          refine V_bipush (pc := 43) (v := 10) dX11_figures_43 (by decide) ?_
          refine V_iload_n (pc := 45) 2 dX11_figures_45 rfl ?_
          refine V_imul (pc := 46) dX11_figures_46 ?_
          refine V_aload_n (pc := 47) 0 dX11_figures_47 rfl ?_
          refine V_aload_n (pc := 48) 0 dX11_figures_48 rfl ?_
          refine V_getI (pc := 49) dX11_figures_49 fl_X11_307 sh_67 rfl ?_
          refine V_callV (pc := 52) (M' := mX11_byteAt) dX11_figures_52 ml_X11_310 kv_X11_byteAt ko_X11_byteAt sh_67 (by decide) (by decide) rfl rfl (Nat.le_of_ble_eq_true rfl) (Nat.le_of_ble_eq_true rfl) (vX11_byteAt E  (s35.1 67 31) s35 _  h) (kI (fun r52 s52 h => ?_))
          refine V_iadd (pc := 55) dX11_figures_55 ?_
          refine V_bipush (pc := 56) (v := 48) dX11_figures_56 (by decide) ?_
          refine V_isub (pc := 58) dX11_figures_58 ?_
          refine V_istore_n (pc := 59) dX11_figures_59 (by decide) ?_
          refine V_aload_n (pc := 60) 1 dX11_figures_60 rfl ?_
          refine V_dup (pc := 61) dX11_figures_61 rfl ?_
          refine V_getI (pc := 62) dX11_figures_62 fl_X11_307 sh_67 rfl ?_
          refine V_iconst (pc := 65) (v := 1) dX11_figures_65 (by decide) ?_
          refine V_iadd (pc := 66) dX11_figures_66 ?_
          refine V_putI (pc := 67) dX11_figures_67 fl_X11_307 po_X11_31 sh_67 rfl rfl rfl ?_
          refine V_goto (pc := 70) (tgt := 7) dX11_figures_70 (by decide) ?_
          exact V_loc [1, 2, 0] rfl (ih x1 (((((10 : Int32)) * x2) + r52) - ((48 : Int32))) (wI s52 67 31 ((s52.1 67 31) + ((1 : Int32))))  h)
def wX11_figures_73 (post : Int32 → Sto → Prop)   (x1 : Int32) (x2 : Int32) (σ : Sto) : Prop := ((¬ (σ.1 67 31) = x1) → (post x2 σ)) ∧ (((σ.1 67 31) = x1) → (post x2 (wI σ 67 32 x1)))
set_option maxRecDepth 100000 in
set_option maxHeartbeats 4000000 in
theorem vX11_figures_73 (E : Ev) (post : Int32 → Sto → Prop)     (x1 : Int32) (x2 : Int32) (σ : Sto) (h : wX11_figures_73 post   x1 x2 σ) : V E 1 mX11_figures (pI post) 73 [(0, .ref 67), (1, .int x1), (2, .int x2)] [] σ := by
  unfold wX11_figures_73 at h
  refine V_aload_n (pc := 73) 0 dX11_figures_73 rfl ?_
  refine V_getI (pc := 74) dX11_figures_74 fl_X11_307 sh_67 rfl ?_
  refine V_iload_n (pc := 77) 1 dX11_figures_77 rfl ?_
  refine V_icmp_ne (pc := 78) (tgt := 86) dX11_figures_78 (by decide) (fun hc => ?_) (fun hc => ?_)
  · replace h := h.1 hc
    refine V_iload_n (pc := 86) 2 dX11_figures_86 rfl ?_
    exact V_iret dX11_figures_87 rfl h
  · replace h := h.2 hc
    refine V_aload_n (pc := 81) 0 dX11_figures_81 rfl ?_
    refine V_iload_n (pc := 82) 1 dX11_figures_82 rfl ?_
    refine V_putI (pc := 83) dX11_figures_83 fl_X11_313 po_X11_32 sh_67 rfl rfl rfl ?_
    refine V_iload_n (pc := 86) 2 dX11_figures_86 rfl ?_
    exact V_iret dX11_figures_87 rfl h
def wX11_figures   (σ : Sto) (post : Int32 → Sto → Prop) : Prop := ∃ n7, wX11_figures_7 post  (fun (x1_1 : Int32) (x2_1 : Int32) (σ_1 : Sto) => wX11_figures_73 post   x1_1 x2_1 σ_1) n7 (σ.1 67 31) ((0 : Int32)) σ
set_option maxRecDepth 100000 in
set_option maxHeartbeats 4000000 in
theorem vX11_figures (E : Ev)   (σ : Sto) (post : Int32 → Sto → Prop)  (h : wX11_figures   σ post) : V E 1 mX11_figures (pI post) 0 [(0, .ref 67)] [] σ := by
  unfold wX11_figures at h
  refine V_aload_n (pc := 0) 0 dX11_figures_0 rfl ?_
  refine V_getI (pc := 1) dX11_figures_1 fl_X11_307 sh_67 rfl ?_
  refine V_istore_n (pc := 4) dX11_figures_4 (by decide) ?_
  refine V_iconst (pc := 5) (v := 0) dX11_figures_5 (by decide) ?_
  refine V_istore_n (pc := 6) dX11_figures_6 (by decide) ?_
  obtain ⟨n7, h⟩ := h
  refine V_loc [2, 1, 0] rfl (vX11_figures_7 E post   _ (fun x1_1 x2_1 σ_1 h => ?_) n7 (σ.1 67 31) ((0 : Int32)) σ  h)
  · refine V_loc [0, 1, 2] rfl (vX11_figures_73 E post     x1_1 x2_1 σ_1  h)
theorem dX11_part_0 : decode cX11_part 0 = .ok (.aload_n 0, 1) := by decide +kernel
theorem dX11_part_1 : decode cX11_part 1 = .ok (.aload_n 0, 1) := by decide +kernel
theorem dX11_part_2 : decode cX11_part 2 = .ok (.invokevirtual 316, 3) := by decide +kernel
theorem dX11_part_5 : decode cX11_part 5 = .ok (.i2l, 1) := by decide +kernel
theorem dX11_part_6 : decode cX11_part 6 = .ok (.putfield 320, 3) := by decide +kernel
theorem dX11_part_9 : decode cX11_part 9 = .ok (.aload_n 0, 1) := by decide +kernel
theorem dX11_part_10 : decode cX11_part 10 = .ok (.lconst 1, 1) := by decide +kernel
theorem dX11_part_11 : decode cX11_part 11 = .ok (.putfield 323, 3) := by decide +kernel
theorem dX11_part_14 : decode cX11_part 14 = .ok (.aload_n 0, 1) := by decide +kernel
theorem dX11_part_15 : decode cX11_part 15 = .ok (.getfield 313, 3) := by decide +kernel
theorem dX11_part_18 : decode cX11_part 18 = .ok (.iconst (-1), 1) := by decide +kernel
theorem dX11_part_19 : decode cX11_part 19 = .ok (.if_icmp .ne 201, 3) := by decide +kernel
theorem dX11_part_22 : decode cX11_part 22 = .ok (.aload_n 0, 1) := by decide +kernel
theorem dX11_part_23 : decode cX11_part 23 = .ok (.aload_n 0, 1) := by decide +kernel
theorem dX11_part_24 : decode cX11_part 24 = .ok (.getfield 307, 3) := by decide +kernel
theorem dX11_part_27 : decode cX11_part 27 = .ok (.invokevirtual 310, 3) := by decide +kernel
theorem dX11_part_30 : decode cX11_part 30 = .ok (.bipush 42, 2) := by decide +kernel
theorem dX11_part_32 : decode cX11_part 32 = .ok (.if_icmp .eq 16, 3) := by decide +kernel
theorem dX11_part_35 : decode cX11_part 35 = .ok (.aload_n 0, 1) := by decide +kernel
theorem dX11_part_36 : decode cX11_part 36 = .ok (.aload_n 0, 1) := by decide +kernel
theorem dX11_part_37 : decode cX11_part 37 = .ok (.getfield 307, 3) := by decide +kernel
theorem dX11_part_40 : decode cX11_part 40 = .ok (.invokevirtual 310, 3) := by decide +kernel
theorem dX11_part_43 : decode cX11_part 43 = .ok (.bipush 47, 2) := by decide +kernel
theorem dX11_part_45 : decode cX11_part 45 = .ok (.if_icmp .ne 175, 3) := by decide +kernel
theorem dX11_part_48 : decode cX11_part 48 = .ok (.aload_n 0, 1) := by decide +kernel
theorem dX11_part_49 : decode cX11_part 49 = .ok (.aload_n 0, 1) := by decide +kernel
theorem dX11_part_50 : decode cX11_part 50 = .ok (.getfield 307, 3) := by decide +kernel
theorem dX11_part_53 : decode cX11_part 53 = .ok (.invokevirtual 310, 3) := by decide +kernel
theorem dX11_part_56 : decode cX11_part 56 = .ok (.istore_n 1, 1) := by decide +kernel
theorem dX11_part_57 : decode cX11_part 57 = .ok (.aload_n 0, 1) := by decide +kernel
theorem dX11_part_58 : decode cX11_part 58 = .ok (.dup, 1) := by decide +kernel
theorem dX11_part_59 : decode cX11_part 59 = .ok (.getfield 307, 3) := by decide +kernel
theorem dX11_part_62 : decode cX11_part 62 = .ok (.iconst 1, 1) := by decide +kernel
theorem dX11_part_63 : decode cX11_part 63 = .ok (.iadd, 1) := by decide +kernel
theorem dX11_part_64 : decode cX11_part 64 = .ok (.putfield 307, 3) := by decide +kernel
theorem dX11_part_67 : decode cX11_part 67 = .ok (.aload_n 0, 1) := by decide +kernel
theorem dX11_part_68 : decode cX11_part 68 = .ok (.getfield 307, 3) := by decide +kernel
theorem dX11_part_71 : decode cX11_part 71 = .ok (.istore_n 2, 1) := by decide +kernel
theorem dX11_part_72 : decode cX11_part 72 = .ok (.aload_n 0, 1) := by decide +kernel
theorem dX11_part_73 : decode cX11_part 73 = .ok (.invokevirtual 316, 3) := by decide +kernel
theorem dX11_part_76 : decode cX11_part 76 = .ok (.i2l, 1) := by decide +kernel
theorem dX11_part_77 : decode cX11_part 77 = .ok (.lstore_n 3, 1) := by decide +kernel
theorem dX11_part_78 : decode cX11_part 78 = .ok (.aload_n 0, 1) := by decide +kernel
theorem dX11_part_79 : decode cX11_part 79 = .ok (.getfield 313, 3) := by decide +kernel
theorem dX11_part_82 : decode cX11_part 82 = .ok (.iconst (-1), 1) := by decide +kernel
theorem dX11_part_83 : decode cX11_part 83 = .ok (.if_icmp .ne 20, 3) := by decide +kernel
theorem dX11_part_86 : decode cX11_part 86 = .ok (.iload_n 1, 1) := by decide +kernel
theorem dX11_part_87 : decode cX11_part 87 = .ok (.bipush 47, 2) := by decide +kernel
theorem dX11_part_89 : decode cX11_part 89 = .ok (.if_icmp .ne 14, 3) := by decide +kernel
theorem dX11_part_92 : decode cX11_part 92 = .ok (.lload_n 3, 1) := by decide +kernel
theorem dX11_part_93 : decode cX11_part 93 = .ok (.lconst 0, 1) := by decide +kernel
theorem dX11_part_94 : decode cX11_part 94 = .ok (.lcmp, 1) := by decide +kernel
theorem dX11_part_95 : decode cX11_part 95 = .ok (.ifCond .ne 8, 3) := by decide +kernel
theorem dX11_part_98 : decode cX11_part 98 = .ok (.aload_n 0, 1) := by decide +kernel
theorem dX11_part_99 : decode cX11_part 99 = .ok (.iload_n 2, 1) := by decide +kernel
theorem dX11_part_100 : decode cX11_part 100 = .ok (.putfield 313, 3) := by decide +kernel
theorem dX11_part_103 : decode cX11_part 103 = .ok (.aload_n 0, 1) := by decide +kernel
theorem dX11_part_104 : decode cX11_part 104 = .ok (.getfield 313, 3) := by decide +kernel
theorem dX11_part_107 : decode cX11_part 107 = .ok (.iconst (-1), 1) := by decide +kernel
theorem dX11_part_108 : decode cX11_part 108 = .ok (.if_icmp .ne 109, 3) := by decide +kernel
theorem dX11_part_111 : decode cX11_part 111 = .ok (.aload_n 0, 1) := by decide +kernel
theorem dX11_part_112 : decode cX11_part 112 = .ok (.dup, 1) := by decide +kernel
theorem dX11_part_113 : decode cX11_part 113 = .ok (.getfield 320, 3) := by decide +kernel
theorem dX11_part_116 : decode cX11_part 116 = .ok (.iload_n 1, 1) := by decide +kernel
theorem dX11_part_117 : decode cX11_part 117 = .ok (.bipush 42, 2) := by decide +kernel
theorem dX11_part_119 : decode cX11_part 119 = .ok (.if_icmp .ne 7, 3) := by decide +kernel
theorem dX11_part_122 : decode cX11_part 122 = .ok (.lload_n 3, 1) := by decide +kernel
theorem dX11_part_123 : decode cX11_part 123 = .ok (.goto 4, 3) := by decide +kernel
theorem dX11_part_126 : decode cX11_part 126 = .ok (.lconst 1, 1) := by decide +kernel
theorem dX11_part_127 : decode cX11_part 127 = .ok (.lmul, 1) := by decide +kernel
theorem dX11_part_128 : decode cX11_part 128 = .ok (.putfield 320, 3) := by decide +kernel
theorem dX11_part_131 : decode cX11_part 131 = .ok (.aload_n 0, 1) := by decide +kernel
theorem dX11_part_132 : decode cX11_part 132 = .ok (.dup, 1) := by decide +kernel
theorem dX11_part_133 : decode cX11_part 133 = .ok (.getfield 323, 3) := by decide +kernel
theorem dX11_part_136 : decode cX11_part 136 = .ok (.iload_n 1, 1) := by decide +kernel
theorem dX11_part_137 : decode cX11_part 137 = .ok (.bipush 47, 2) := by decide +kernel
theorem dX11_part_139 : decode cX11_part 139 = .ok (.if_icmp .ne 7, 3) := by decide +kernel
theorem dX11_part_142 : decode cX11_part 142 = .ok (.lload_n 3, 1) := by decide +kernel
theorem dX11_part_143 : decode cX11_part 143 = .ok (.goto 4, 3) := by decide +kernel
theorem dX11_part_146 : decode cX11_part 146 = .ok (.lconst 1, 1) := by decide +kernel
theorem dX11_part_147 : decode cX11_part 147 = .ok (.lmul, 1) := by decide +kernel
theorem dX11_part_148 : decode cX11_part 148 = .ok (.putfield 323, 3) := by decide +kernel
theorem dX11_part_151 : decode cX11_part 151 = .ok (.aload_n 0, 1) := by decide +kernel
theorem dX11_part_152 : decode cX11_part 152 = .ok (.getfield 320, 3) := by decide +kernel
theorem dX11_part_155 : decode cX11_part 155 = .ok (.aload_n 0, 1) := by decide +kernel
theorem dX11_part_156 : decode cX11_part 156 = .ok (.getfield 323, 3) := by decide +kernel
theorem dX11_part_159 : decode cX11_part 159 = .ok (.invokestatic 98, 3) := by decide +kernel
theorem dX11_part_162 : decode cX11_part 162 = .ok (.lstore 5, 2) := by decide +kernel
theorem dX11_part_164 : decode cX11_part 164 = .ok (.aload_n 0, 1) := by decide +kernel
theorem dX11_part_165 : decode cX11_part 165 = .ok (.dup, 1) := by decide +kernel
theorem dX11_part_166 : decode cX11_part 166 = .ok (.getfield 320, 3) := by decide +kernel
theorem dX11_part_169 : decode cX11_part 169 = .ok (.lload 5, 2) := by decide +kernel
theorem dX11_part_171 : decode cX11_part 171 = .ok (.ldiv, 1) := by decide +kernel
theorem dX11_part_172 : decode cX11_part 172 = .ok (.putfield 320, 3) := by decide +kernel
theorem dX11_part_175 : decode cX11_part 175 = .ok (.aload_n 0, 1) := by decide +kernel
theorem dX11_part_176 : decode cX11_part 176 = .ok (.dup, 1) := by decide +kernel
theorem dX11_part_177 : decode cX11_part 177 = .ok (.getfield 323, 3) := by decide +kernel
theorem dX11_part_180 : decode cX11_part 180 = .ok (.lload 5, 2) := by decide +kernel
theorem dX11_part_182 : decode cX11_part 182 = .ok (.ldiv, 1) := by decide +kernel
theorem dX11_part_183 : decode cX11_part 183 = .ok (.putfield 323, 3) := by decide +kernel
theorem dX11_part_186 : decode cX11_part 186 = .ok (.aload_n 0, 1) := by decide +kernel
theorem dX11_part_187 : decode cX11_part 187 = .ok (.aload_n 0, 1) := by decide +kernel
theorem dX11_part_188 : decode cX11_part 188 = .ok (.getfield 320, 3) := by decide +kernel
theorem dX11_part_191 : decode cX11_part 191 = .ok (.ldc2_w 326, 3) := by decide +kernel
theorem dX11_part_194 : decode cX11_part 194 = .ok (.lcmp, 1) := by decide +kernel
theorem dX11_part_195 : decode cX11_part 195 = .ok (.ifCond .gt 14, 3) := by decide +kernel
theorem dX11_part_198 : decode cX11_part 198 = .ok (.aload_n 0, 1) := by decide +kernel
theorem dX11_part_199 : decode cX11_part 199 = .ok (.getfield 323, 3) := by decide +kernel
theorem dX11_part_202 : decode cX11_part 202 = .ok (.ldc2_w 326, 3) := by decide +kernel
theorem dX11_part_205 : decode cX11_part 205 = .ok (.lcmp, 1) := by decide +kernel
theorem dX11_part_206 : decode cX11_part 206 = .ok (.ifCond .le 7, 3) := by decide +kernel
theorem dX11_part_209 : decode cX11_part 209 = .ok (.iload_n 2, 1) := by decide +kernel
theorem dX11_part_210 : decode cX11_part 210 = .ok (.goto 4, 3) := by decide +kernel
theorem dX11_part_213 : decode cX11_part 213 = .ok (.iconst (-1), 1) := by decide +kernel
theorem dX11_part_214 : decode cX11_part 214 = .ok (.putfield 313, 3) := by decide +kernel
theorem dX11_part_217 : decode cX11_part 217 = .ok (.goto (-203), 3) := by decide +kernel
theorem dX11_part_220 : decode cX11_part 220 = .ok (.aload_n 0, 1) := by decide +kernel
theorem dX11_part_221 : decode cX11_part 221 = .ok (.getfield 313, 3) := by decide +kernel
theorem dX11_part_224 : decode cX11_part 224 = .ok (.iconst (-1), 1) := by decide +kernel
theorem dX11_part_225 : decode cX11_part 225 = .ok (.if_icmp .ne 43, 3) := by decide +kernel
theorem dX11_part_228 : decode cX11_part 228 = .ok (.ldc2_w 328, 3) := by decide +kernel
theorem dX11_part_231 : decode cX11_part 231 = .ok (.aload_n 0, 1) := by decide +kernel
theorem dX11_part_232 : decode cX11_part 232 = .ok (.getfield 320, 3) := by decide +kernel
theorem dX11_part_235 : decode cX11_part 235 = .ok (.lmul, 1) := by decide +kernel
theorem dX11_part_236 : decode cX11_part 236 = .ok (.aload_n 0, 1) := by decide +kernel
theorem dX11_part_237 : decode cX11_part 237 = .ok (.getfield 320, 3) := by decide +kernel
theorem dX11_part_240 : decode cX11_part 240 = .ok (.lmul, 1) := by decide +kernel
theorem dX11_part_241 : decode cX11_part 241 = .ok (.lstore_n 1, 1) := by decide +kernel
theorem dX11_part_242 : decode cX11_part 242 = .ok (.aload_n 0, 1) := by decide +kernel
theorem dX11_part_243 : decode cX11_part 243 = .ok (.getfield 323, 3) := by decide +kernel
theorem dX11_part_246 : decode cX11_part 246 = .ok (.aload_n 0, 1) := by decide +kernel
theorem dX11_part_247 : decode cX11_part 247 = .ok (.getfield 323, 3) := by decide +kernel
theorem dX11_part_250 : decode cX11_part 250 = .ok (.lmul, 1) := by decide +kernel
theorem dX11_part_251 : decode cX11_part 251 = .ok (.lstore_n 3, 1) := by decide +kernel
theorem dX11_part_252 : decode cX11_part 252 = .ok (.aload_n 0, 1) := by decide +kernel
theorem dX11_part_253 : decode cX11_part 253 = .ok (.dup, 1) := by decide +kernel
theorem dX11_part_254 : decode cX11_part 254 = .ok (.getfield 330, 3) := by decide +kernel
theorem dX11_part_257 : decode cX11_part 257 = .ok (.lload_n 1, 1) := by decide +kernel
theorem dX11_part_258 : decode cX11_part 258 = .ok (.lload_n 3, 1) := by decide +kernel
theorem dX11_part_259 : decode cX11_part 259 = .ok (.ladd, 1) := by decide +kernel
theorem dX11_part_260 : decode cX11_part 260 = .ok (.lconst 1, 1) := by decide +kernel
theorem dX11_part_261 : decode cX11_part 261 = .ok (.lsub, 1) := by decide +kernel
theorem dX11_part_262 : decode cX11_part 262 = .ok (.lload_n 3, 1) := by decide +kernel
theorem dX11_part_263 : decode cX11_part 263 = .ok (.ldiv, 1) := by decide +kernel
theorem dX11_part_264 : decode cX11_part 264 = .ok (.ladd, 1) := by decide +kernel
theorem dX11_part_265 : decode cX11_part 265 = .ok (.putfield 330, 3) := by decide +kernel
theorem dX11_part_268 : decode cX11_part 268 = .ok (.return_, 1) := by decide +kernel
def wX11_part_209 (post : Sto → Prop)  (K14 : Sto → Prop) (x2 : Int32) (σ : Sto) : Prop := K14  (wI σ 67 32 x2)
set_option maxRecDepth 100000 in
set_option maxHeartbeats 4000000 in
theorem vX11_part_209 (E : Ev) (post : Sto → Prop)   (K14 : Sto → Prop) (HK14 : ∀  (σ : Sto), K14  σ → V E 2 mX11_part (pV post) 14 [(0, .ref 67)] [] σ) (x2 : Int32) (σ : Sto) (h : wX11_part_209 post  K14 x2 σ) : V E 2 mX11_part (pV post) 209 [(0, .ref 67), (2, .int x2)] [.ref 67] σ := by
  unfold wX11_part_209 at h
  refine V_iload_n (pc := 209) 1 dX11_part_209 rfl ?_
  refine V_goto (pc := 210) (tgt := 214) dX11_part_210 (by decide) ?_
  refine V_putI (pc := 214) dX11_part_214 fl_X11_313 po_X11_32 sh_67 rfl rfl rfl ?_
  refine V_goto (pc := 217) (tgt := 14) dX11_part_217 (by decide) ?_
  exact V_loc [0] rfl (HK14  (wI σ 67 32 x2)  h)
def wX11_part_147 (post : Sto → Prop)  (K14 : Sto → Prop) (x2 : Int32) (y0 : Int64) (y1 : Int64) (σ : Sto) : Prop := wX11_divisor  (σ.2 67 33) (y1 * y0) (wL σ 67 34 (y1 * y0)) (fun (r159 : Int64) (s159 : Sto) => (¬ r159 = 0) ∧ ((¬ r159 = 0) ∧ (((((100000 : Int64)) < ((s159.2 67 33) / r159)) → (wX11_part_209 post  K14 x2 (wL (wL s159 67 33 ((s159.2 67 33) / r159)) 67 34 ((s159.2 67 34) / r159)))) ∧ ((¬ (((100000 : Int64)) < ((s159.2 67 33) / r159))) → (((((s159.2 67 34) / r159) ≤ ((100000 : Int64))) → (K14  (wI (wL (wL s159 67 33 ((s159.2 67 33) / r159)) 67 34 ((s159.2 67 34) / r159)) 67 32 ((-1 : Int32))))) ∧ ((¬ (((s159.2 67 34) / r159) ≤ ((100000 : Int64)))) → (wX11_part_209 post  K14 x2 (wL (wL s159 67 33 ((s159.2 67 33) / r159)) 67 34 ((s159.2 67 34) / r159)))))))))
set_option maxRecDepth 100000 in
set_option maxHeartbeats 4000000 in
theorem vX11_part_147 (E : Ev) (post : Sto → Prop)   (K14 : Sto → Prop) (HK14 : ∀  (σ : Sto), K14  σ → V E 2 mX11_part (pV post) 14 [(0, .ref 67)] [] σ) (x2 : Int32) (y0 : Int64) (y1 : Int64) (σ : Sto) (h : wX11_part_147 post  K14 x2 y0 y1 σ) : V E 2 mX11_part (pV post) 147 [(0, .ref 67), (2, .int x2)] [.long y0, .long y1, .ref 67] σ := by
  unfold wX11_part_147 at h
  refine V_lmul (pc := 147) dX11_part_147 ?_
  refine V_putL (pc := 148) dX11_part_148 fl_X11_323 po_X11_34 sh_67 rfl rfl rfl ?_
  refine V_aload_n (pc := 151) 0 dX11_part_151 rfl ?_
  refine V_getL (pc := 152) dX11_part_152 fl_X11_320 sh_67 rfl ?_
  refine V_aload_n (pc := 155) 0 dX11_part_155 rfl ?_
  refine V_getL (pc := 156) dX11_part_156 fl_X11_323 sh_67 rfl ?_
  refine V_callS (pc := 159) (M' := mX11_divisor) dX11_part_159 ml_X11_98 ks_X11_divisor ko_X11_divisor (by decide) rfl (Nat.le_of_ble_eq_true rfl) (Nat.le_of_ble_eq_true rfl) (vX11_divisor E  (σ.2 67 33) (y1 * y0) (wL σ 67 34 (y1 * y0)) _  h) (kL (fun r159 s159 h => ?_))
  refine V_lstore (pc := 162) dX11_part_162 (by decide) ?_
  refine V_aload_n (pc := 164) 1 dX11_part_164 rfl ?_
  refine V_dup (pc := 165) dX11_part_165 rfl ?_
  refine V_getL (pc := 166) dX11_part_166 fl_X11_320 sh_67 rfl ?_
  refine V_lload (pc := 169) 0 dX11_part_169 rfl ?_
  obtain ⟨z171, h⟩ := h
  refine V_ldiv (pc := 171) dX11_part_171 z171 ?_
  refine V_putL (pc := 172) dX11_part_172 fl_X11_320 po_X11_33 sh_67 rfl rfl rfl ?_
  refine V_aload_n (pc := 175) 1 dX11_part_175 rfl ?_
  refine V_dup (pc := 176) dX11_part_176 rfl ?_
  refine V_getL (pc := 177) dX11_part_177 fl_X11_323 sh_67 rfl ?_
  refine V_lload (pc := 180) 0 dX11_part_180 rfl ?_
  obtain ⟨z182, h⟩ := h
  refine V_ldiv (pc := 182) dX11_part_182 z182 ?_
  refine V_putL (pc := 183) dX11_part_183 fl_X11_323 po_X11_34 sh_67 rfl rfl rfl ?_
  refine V_aload_n (pc := 186) 1 dX11_part_186 rfl ?_
  refine V_aload_n (pc := 187) 1 dX11_part_187 rfl ?_
  refine V_getL (pc := 188) dX11_part_188 fl_X11_320 sh_67 rfl ?_
  refine V_ldc2 (pc := 191) dX11_part_191 cl_X11_326 ?_
  refine V_lc_gt (pc := 194) (tgt := 209) dX11_part_194 dX11_part_195 (by decide) (fun hc => ?_) (fun hc => ?_)
  · replace h := h.1 hc
    refine V_loc [1, 2] rfl (vX11_part_209 E post   K14 HK14 x2 (wL (wL s159 67 33 ((s159.2 67 33) / r159)) 67 34 ((s159.2 67 34) / r159))  h)
  · replace h := h.2 hc
    refine V_aload_n (pc := 198) 1 dX11_part_198 rfl ?_
    refine V_getL (pc := 199) dX11_part_199 fl_X11_323 sh_67 rfl ?_
    refine V_ldc2 (pc := 202) dX11_part_202 cl_X11_326 ?_
    refine V_lc_le (pc := 205) (tgt := 213) dX11_part_205 dX11_part_206 (by decide) (fun hc => ?_) (fun hc => ?_)
    · replace h := h.1 hc
      refine V_iconst (pc := 213) (v := -1) dX11_part_213 (by decide) ?_
      refine V_putI (pc := 214) dX11_part_214 fl_X11_313 po_X11_32 sh_67 rfl rfl rfl ?_
      refine V_goto (pc := 217) (tgt := 14) dX11_part_217 (by decide) ?_
      exact V_loc [1] rfl (HK14  (wI (wL (wL s159 67 33 ((s159.2 67 33) / r159)) 67 34 ((s159.2 67 34) / r159)) 67 32 ((-1 : Int32)))  h)
    · replace h := h.2 hc
      refine V_loc [1, 2] rfl (vX11_part_209 E post   K14 HK14 x2 (wL (wL s159 67 33 ((s159.2 67 33) / r159)) 67 34 ((s159.2 67 34) / r159))  h)
def wX11_part_127 (post : Sto → Prop)  (K14 : Sto → Prop) (x1 : Int32) (x2 : Int32) (x3 : Int64) (y0 : Int64) (y1 : Int64) (σ : Sto) : Prop := ((¬ x1 = ((47 : Int32))) → (wX11_part_147 post  K14 x2 ((1 : Int64)) (σ.2 67 34) (wL σ 67 33 (y1 * y0)))) ∧ ((x1 = ((47 : Int32))) → (wX11_part_147 post  K14 x2 x3 (σ.2 67 34) (wL σ 67 33 (y1 * y0))))
set_option maxRecDepth 100000 in
set_option maxHeartbeats 4000000 in
theorem vX11_part_127 (E : Ev) (post : Sto → Prop)   (K14 : Sto → Prop) (HK14 : ∀  (σ : Sto), K14  σ → V E 2 mX11_part (pV post) 14 [(0, .ref 67)] [] σ) (x1 : Int32) (x2 : Int32) (x3 : Int64) (y0 : Int64) (y1 : Int64) (σ : Sto) (h : wX11_part_127 post  K14 x1 x2 x3 y0 y1 σ) : V E 2 mX11_part (pV post) 127 [(0, .ref 67), (1, .int x1), (2, .int x2), (3, .long x3)] [.long y0, .long y1, .ref 67] σ := by
  unfold wX11_part_127 at h
  refine V_lmul (pc := 127) dX11_part_127 ?_
  refine V_putL (pc := 128) dX11_part_128 fl_X11_320 po_X11_33 sh_67 rfl rfl rfl ?_
  refine V_aload_n (pc := 131) 0 dX11_part_131 rfl ?_
  refine V_dup (pc := 132) dX11_part_132 rfl ?_
  refine V_getL (pc := 133) dX11_part_133 fl_X11_323 sh_67 rfl ?_
  refine V_iload_n (pc := 136) 1 dX11_part_136 rfl ?_
  refine V_bipush (pc := 137) (v := 47) dX11_part_137 (by decide) ?_
  refine V_icmp_ne (pc := 139) (tgt := 146) dX11_part_139 (by decide) (fun hc => ?_) (fun hc => ?_)
  · replace h := h.1 hc
    refine V_lconst (pc := 146) (v := 1) dX11_part_146 (by decide) ?_
    refine V_loc [0, 2] rfl (vX11_part_147 E post   K14 HK14 x2 ((1 : Int64)) (σ.2 67 34) (wL σ 67 33 (y1 * y0))  h)
  · replace h := h.2 hc
    refine V_lload_n (pc := 142) 3 dX11_part_142 rfl ?_
    refine V_goto (pc := 143) (tgt := 147) dX11_part_143 (by decide) ?_
    refine V_loc [0, 2] rfl (vX11_part_147 E post   K14 HK14 x2 x3 (σ.2 67 34) (wL σ 67 33 (y1 * y0))  h)
def wX11_part_103 (post : Sto → Prop)  (K14 : Sto → Prop) (x1 : Int32) (x2 : Int32) (x3 : Int64) (σ : Sto) : Prop := ((¬ (σ.1 67 32) = ((-1 : Int32))) → (K14  σ)) ∧ (((σ.1 67 32) = ((-1 : Int32))) → (((¬ x1 = ((42 : Int32))) → (wX11_part_127 post  K14 x1 x2 x3 ((1 : Int64)) (σ.2 67 33) σ)) ∧ ((x1 = ((42 : Int32))) → (wX11_part_127 post  K14 x1 x2 x3 x3 (σ.2 67 33) σ))))
set_option maxRecDepth 100000 in
set_option maxHeartbeats 4000000 in
theorem vX11_part_103 (E : Ev) (post : Sto → Prop)   (K14 : Sto → Prop) (HK14 : ∀  (σ : Sto), K14  σ → V E 2 mX11_part (pV post) 14 [(0, .ref 67)] [] σ) (x1 : Int32) (x2 : Int32) (x3 : Int64) (σ : Sto) (h : wX11_part_103 post  K14 x1 x2 x3 σ) : V E 2 mX11_part (pV post) 103 [(0, .ref 67), (1, .int x1), (2, .int x2), (3, .long x3)] [] σ := by
  unfold wX11_part_103 at h
  refine V_aload_n (pc := 103) 0 dX11_part_103 rfl ?_
  refine V_getI (pc := 104) dX11_part_104 fl_X11_313 sh_67 rfl ?_
  refine V_iconst (pc := 107) (v := -1) dX11_part_107 (by decide) ?_
  refine V_icmp_ne (pc := 108) (tgt := 217) dX11_part_108 (by decide) (fun hc => ?_) (fun hc => ?_)
  · replace h := h.1 hc
    refine V_goto (pc := 217) (tgt := 14) dX11_part_217 (by decide) ?_
    exact V_loc [0] rfl (HK14  σ  h)
  · replace h := h.2 hc
    refine V_aload_n (pc := 111) 0 dX11_part_111 rfl ?_
    refine V_dup (pc := 112) dX11_part_112 rfl ?_
    refine V_getL (pc := 113) dX11_part_113 fl_X11_320 sh_67 rfl ?_
    refine V_iload_n (pc := 116) 1 dX11_part_116 rfl ?_
    refine V_bipush (pc := 117) (v := 42) dX11_part_117 (by decide) ?_
    refine V_icmp_ne (pc := 119) (tgt := 126) dX11_part_119 (by decide) (fun hc => ?_) (fun hc => ?_)
    · replace h := h.1 hc
      refine V_lconst (pc := 126) (v := 1) dX11_part_126 (by decide) ?_
      refine V_loc [0, 1, 2, 3] rfl (vX11_part_127 E post   K14 HK14 x1 x2 x3 ((1 : Int64)) (σ.2 67 33) σ  h)
    · replace h := h.2 hc
      refine V_lload_n (pc := 122) 3 dX11_part_122 rfl ?_
      refine V_goto (pc := 123) (tgt := 127) dX11_part_123 (by decide) ?_
      refine V_loc [0, 1, 2, 3] rfl (vX11_part_127 E post   K14 HK14 x1 x2 x3 x3 (σ.2 67 33) σ  h)
def wX11_part_48 (post : Sto → Prop)  (K14 : Sto → Prop)  (σ : Sto) : Prop := wX11_byteAt  (σ.1 67 31) σ (fun (r53 : Int32) (s53 : Sto) => wX11_figures   (wI s53 67 31 ((s53.1 67 31) + ((1 : Int32)))) (fun (r73 : Int32) (s73 : Sto) => ((¬ (s73.1 67 32) = ((-1 : Int32))) → (wX11_part_103 post  K14 r53 ((s53.1 67 31) + ((1 : Int32))) r73.toInt64 s73)) ∧ (((s73.1 67 32) = ((-1 : Int32))) → (((¬ r53 = ((47 : Int32))) → (wX11_part_103 post  K14 r53 ((s53.1 67 31) + ((1 : Int32))) r73.toInt64 s73)) ∧ ((r53 = ((47 : Int32))) → (((¬ r73.toInt64 = ((0 : Int64))) → (wX11_part_103 post  K14 r53 ((s53.1 67 31) + ((1 : Int32))) r73.toInt64 s73)) ∧ ((r73.toInt64 = ((0 : Int64))) → (wX11_part_103 post  K14 r53 ((s53.1 67 31) + ((1 : Int32))) r73.toInt64 (wI s73 67 32 ((s53.1 67 31) + ((1 : Int32))))))))))))
set_option maxRecDepth 100000 in
set_option maxHeartbeats 4000000 in
theorem vX11_part_48 (E : Ev) (post : Sto → Prop)   (K14 : Sto → Prop) (HK14 : ∀  (σ : Sto), K14  σ → V E 2 mX11_part (pV post) 14 [(0, .ref 67)] [] σ)  (σ : Sto) (h : wX11_part_48 post  K14  σ) : V E 2 mX11_part (pV post) 48 [(0, .ref 67)] [] σ := by
  unfold wX11_part_48 at h
  refine V_aload_n (pc := 48) 0 dX11_part_48 rfl ?_
  refine V_aload_n (pc := 49) 0 dX11_part_49 rfl ?_
  refine V_getI (pc := 50) dX11_part_50 fl_X11_307 sh_67 rfl ?_
  refine V_callV (pc := 53) (M' := mX11_byteAt) dX11_part_53 ml_X11_310 kv_X11_byteAt ko_X11_byteAt sh_67 (by decide) (by decide) rfl rfl (Nat.le_of_ble_eq_true rfl) (Nat.le_of_ble_eq_true rfl) (vX11_byteAt E  (σ.1 67 31) σ _  h) (kI (fun r53 s53 h => ?_))
  refine V_istore_n (pc := 56) dX11_part_56 (by decide) ?_
  refine V_aload_n (pc := 57) 1 dX11_part_57 rfl ?_
  refine V_dup (pc := 58) dX11_part_58 rfl ?_
  refine V_getI (pc := 59) dX11_part_59 fl_X11_307 sh_67 rfl ?_
  refine V_iconst (pc := 62) (v := 1) dX11_part_62 (by decide) ?_
  refine V_iadd (pc := 63) dX11_part_63 ?_
  refine V_putI (pc := 64) dX11_part_64 fl_X11_307 po_X11_31 sh_67 rfl rfl rfl ?_
  refine V_aload_n (pc := 67) 1 dX11_part_67 rfl ?_
  refine V_getI (pc := 68) dX11_part_68 fl_X11_307 sh_67 rfl ?_
  refine V_istore_n (pc := 71) dX11_part_71 (by decide) ?_
  refine V_aload_n (pc := 72) 2 dX11_part_72 rfl ?_
  refine V_callV (pc := 73) (M' := mX11_figures) dX11_part_73 ml_X11_316 kv_X11_figures ko_X11_figures sh_67 (by decide) (by decide) rfl rfl (Nat.le_of_ble_eq_true rfl) (Nat.le_of_ble_eq_true rfl) (vX11_figures E   (wI s53 67 31 ((s53.1 67 31) + ((1 : Int32)))) _  h) (kI (fun r73 s73 h => ?_))
  refine V_i2l (pc := 76) dX11_part_76 ?_
  refine V_lstore_n (pc := 77) dX11_part_77 (by decide) ?_
  refine V_aload_n (pc := 78) 3 dX11_part_78 rfl ?_
  refine V_getI (pc := 79) dX11_part_79 fl_X11_313 sh_67 rfl ?_
  refine V_iconst (pc := 82) (v := -1) dX11_part_82 (by decide) ?_
  refine V_icmp_ne (pc := 83) (tgt := 103) dX11_part_83 (by decide) (fun hc => ?_) (fun hc => ?_)
  · replace h := h.1 hc
    refine V_loc [3, 2, 1, 0] rfl (vX11_part_103 E post   K14 HK14 r53 ((s53.1 67 31) + ((1 : Int32))) r73.toInt64 s73  h)
  · replace h := h.2 hc
    refine V_iload_n (pc := 86) 2 dX11_part_86 rfl ?_
    refine V_bipush (pc := 87) (v := 47) dX11_part_87 (by decide) ?_
    refine V_icmp_ne (pc := 89) (tgt := 103) dX11_part_89 (by decide) (fun hc => ?_) (fun hc => ?_)
    · replace h := h.1 hc
      refine V_loc [3, 2, 1, 0] rfl (vX11_part_103 E post   K14 HK14 r53 ((s53.1 67 31) + ((1 : Int32))) r73.toInt64 s73  h)
    · replace h := h.2 hc
      refine V_lload_n (pc := 92) 0 dX11_part_92 rfl ?_
      refine V_lconst (pc := 93) (v := 0) dX11_part_93 (by decide) ?_
      refine V_lc_ne (pc := 94) (tgt := 103) dX11_part_94 dX11_part_95 (by decide) (fun hc => ?_) (fun hc => ?_)
      · replace h := h.1 hc
        refine V_loc [3, 2, 1, 0] rfl (vX11_part_103 E post   K14 HK14 r53 ((s53.1 67 31) + ((1 : Int32))) r73.toInt64 s73  h)
      · replace h := h.2 hc
        refine V_aload_n (pc := 98) 3 dX11_part_98 rfl ?_
        refine V_iload_n (pc := 99) 1 dX11_part_99 rfl ?_
        refine V_putI (pc := 100) dX11_part_100 fl_X11_313 po_X11_32 sh_67 rfl rfl rfl ?_
        refine V_loc [3, 2, 1, 0] rfl (vX11_part_103 E post   K14 HK14 r53 ((s53.1 67 31) + ((1 : Int32))) r73.toInt64 (wI s73 67 32 ((s53.1 67 31) + ((1 : Int32))))  h)
def wX11_part_14 (post : Sto → Prop)  (K220 : Sto → Prop) : Nat → Sto → Prop
  | 0, _ => False
  | n + 1, σ => ((¬ (σ.1 67 32) = ((-1 : Int32))) → (K220  σ)) ∧ (((σ.1 67 32) = ((-1 : Int32))) → (wX11_byteAt  (σ.1 67 31) σ (fun (r27 : Int32) (s27 : Sto) => ((r27 = ((42 : Int32))) → (wX11_part_48 post  (wX11_part_14 post  K220 n)  s27)) ∧ ((¬ (r27 = ((42 : Int32)))) → (wX11_byteAt  (s27.1 67 31) s27 (fun (r40 : Int32) (s40 : Sto) => ((¬ r40 = ((47 : Int32))) → (K220  s40)) ∧ ((r40 = ((47 : Int32))) → (wX11_part_48 post  (wX11_part_14 post  K220 n)  s40))))))))
set_option maxRecDepth 100000 in
set_option maxHeartbeats 4000000 in
theorem vX11_part_14 (E : Ev) (post : Sto → Prop)   (K220 : Sto → Prop) (HK220 : ∀  (σ : Sto), K220  σ → V E 2 mX11_part (pV post) 220 [(0, .ref 67)] [] σ) : ∀ (n : Nat)  (σ : Sto), wX11_part_14 post  K220 n  σ → V E 2 mX11_part (pV post) 14 [(0, .ref 67)] [] σ := by
  intro n
  induction n with
  | zero => intro σ h; exact h.elim
  | succ n ih =>
    intro σ h
    unfold wX11_part_14 at h
    refine V_aload_n (pc := 14) 0 dX11_part_14 rfl ?_
    refine V_getI (pc := 15) dX11_part_15 fl_X11_313 sh_67 rfl ?_
    refine V_iconst (pc := 18) (v := -1) dX11_part_18 (by decide) ?_
    refine V_icmp_ne (pc := 19) (tgt := 220) dX11_part_19 (by decide) (fun hc => ?_) (fun hc => ?_)
    · replace h := h.1 hc
      exact V_loc [0] rfl (HK220  σ  h)
    · replace h := h.2 hc
      refine V_aload_n (pc := 22) 0 dX11_part_22 rfl ?_
      refine V_aload_n (pc := 23) 0 dX11_part_23 rfl ?_
      refine V_getI (pc := 24) dX11_part_24 fl_X11_307 sh_67 rfl ?_
      refine V_callV (pc := 27) (M' := mX11_byteAt) dX11_part_27 ml_X11_310 kv_X11_byteAt ko_X11_byteAt sh_67 (by decide) (by decide) rfl rfl (Nat.le_of_ble_eq_true rfl) (Nat.le_of_ble_eq_true rfl) (vX11_byteAt E  (σ.1 67 31) σ _  h) (kI (fun r27 s27 h => ?_))
      refine V_bipush (pc := 30) (v := 42) dX11_part_30 (by decide) ?_
      refine V_icmp_eq (pc := 32) (tgt := 48) dX11_part_32 (by decide) (fun hc => ?_) (fun hc => ?_)
      · replace h := h.1 hc
        refine V_loc [0] rfl (vX11_part_48 E post   _ ih  s27  h)
      · replace h := h.2 hc
        refine V_aload_n (pc := 35) 0 dX11_part_35 rfl ?_
        refine V_aload_n (pc := 36) 0 dX11_part_36 rfl ?_
        refine V_getI (pc := 37) dX11_part_37 fl_X11_307 sh_67 rfl ?_
        refine V_callV (pc := 40) (M' := mX11_byteAt) dX11_part_40 ml_X11_310 kv_X11_byteAt ko_X11_byteAt sh_67 (by decide) (by decide) rfl rfl (Nat.le_of_ble_eq_true rfl) (Nat.le_of_ble_eq_true rfl) (vX11_byteAt E  (s27.1 67 31) s27 _  h) (kI (fun r40 s40 h => ?_))
        refine V_bipush (pc := 43) (v := 47) dX11_part_43 (by decide) ?_
        refine V_icmp_ne (pc := 45) (tgt := 220) dX11_part_45 (by decide) (fun hc => ?_) (fun hc => ?_)
        · replace h := h.1 hc
          exact V_loc [0] rfl (HK220  s40  h)
        · replace h := h.2 hc
          refine V_loc [0] rfl (vX11_part_48 E post   _ ih  s40  h)
def wX11_part_220 (post : Sto → Prop)    (σ : Sto) : Prop := ((¬ (σ.1 67 32) = ((-1 : Int32))) → (post σ)) ∧ (((σ.1 67 32) = ((-1 : Int32))) → ((¬ ((σ.2 67 34) * (σ.2 67 34)) = 0) ∧ (post (wL σ 67 35 ((σ.2 67 35) + (((((((10000 : Int64)) * (σ.2 67 33)) * (σ.2 67 33)) + ((σ.2 67 34) * (σ.2 67 34))) - ((1 : Int64))) / ((σ.2 67 34) * (σ.2 67 34))))))))
set_option maxRecDepth 100000 in
set_option maxHeartbeats 4000000 in
theorem vX11_part_220 (E : Ev) (post : Sto → Prop)      (σ : Sto) (h : wX11_part_220 post    σ) : V E 2 mX11_part (pV post) 220 [(0, .ref 67)] [] σ := by
  unfold wX11_part_220 at h
  refine V_aload_n (pc := 220) 0 dX11_part_220 rfl ?_
  refine V_getI (pc := 221) dX11_part_221 fl_X11_313 sh_67 rfl ?_
  refine V_iconst (pc := 224) (v := -1) dX11_part_224 (by decide) ?_
  refine V_icmp_ne (pc := 225) (tgt := 268) dX11_part_225 (by decide) (fun hc => ?_) (fun hc => ?_)
  · replace h := h.1 hc
    exact V_vret dX11_part_268 rfl h
  · replace h := h.2 hc
    refine V_ldc2 (pc := 228) dX11_part_228 cl_X11_328 ?_
    refine V_aload_n (pc := 231) 0 dX11_part_231 rfl ?_
    refine V_getL (pc := 232) dX11_part_232 fl_X11_320 sh_67 rfl ?_
    refine V_lmul (pc := 235) dX11_part_235 ?_
    refine V_aload_n (pc := 236) 0 dX11_part_236 rfl ?_
    refine V_getL (pc := 237) dX11_part_237 fl_X11_320 sh_67 rfl ?_
    refine V_lmul (pc := 240) dX11_part_240 ?_
    refine V_lstore_n (pc := 241) dX11_part_241 (by decide) ?_
    refine V_aload_n (pc := 242) 1 dX11_part_242 rfl ?_
    refine V_getL (pc := 243) dX11_part_243 fl_X11_323 sh_67 rfl ?_
    refine V_aload_n (pc := 246) 1 dX11_part_246 rfl ?_
    refine V_getL (pc := 247) dX11_part_247 fl_X11_323 sh_67 rfl ?_
    refine V_lmul (pc := 250) dX11_part_250 ?_
    refine V_lstore_n (pc := 251) dX11_part_251 (by decide) ?_
    refine V_aload_n (pc := 252) 2 dX11_part_252 rfl ?_
    refine V_dup (pc := 253) dX11_part_253 rfl ?_
    refine V_getL (pc := 254) dX11_part_254 fl_X11_330 sh_67 rfl ?_
    refine V_lload_n (pc := 257) 1 dX11_part_257 rfl ?_
    refine V_lload_n (pc := 258) 0 dX11_part_258 rfl ?_
    refine V_ladd (pc := 259) dX11_part_259 ?_
    refine V_lconst (pc := 260) (v := 1) dX11_part_260 (by decide) ?_
    refine V_lsub (pc := 261) dX11_part_261 ?_
    refine V_lload_n (pc := 262) 0 dX11_part_262 rfl ?_
    obtain ⟨z263, h⟩ := h
    refine V_ldiv (pc := 263) dX11_part_263 z263 ?_
    refine V_ladd (pc := 264) dX11_part_264 ?_
    refine V_putL (pc := 265) dX11_part_265 fl_X11_330 po_X11_35 sh_67 rfl rfl rfl ?_
    exact V_vret dX11_part_268 rfl h
def wX11_part   (σ : Sto) (post : Sto → Prop) : Prop := wX11_figures   σ (fun (r2 : Int32) (s2 : Sto) => ∃ n14, wX11_part_14 post  (fun  (σ_1 : Sto) => wX11_part_220 post    σ_1) n14  (wL (wL s2 67 33 r2.toInt64) 67 34 ((1 : Int64))))
set_option maxRecDepth 100000 in
set_option maxHeartbeats 4000000 in
theorem vX11_part (E : Ev)   (σ : Sto) (post : Sto → Prop)  (h : wX11_part   σ post) : V E 2 mX11_part (pV post) 0 [(0, .ref 67)] [] σ := by
  unfold wX11_part at h
  refine V_aload_n (pc := 0) 0 dX11_part_0 rfl ?_
  refine V_aload_n (pc := 1) 0 dX11_part_1 rfl ?_
  refine V_callV (pc := 2) (M' := mX11_figures) dX11_part_2 ml_X11_316 kv_X11_figures ko_X11_figures sh_67 (by decide) (by decide) rfl rfl (Nat.le_of_ble_eq_true rfl) (Nat.le_of_ble_eq_true rfl) (vX11_figures E   σ _  h) (kI (fun r2 s2 h => ?_))
  refine V_i2l (pc := 5) dX11_part_5 ?_
  refine V_putL (pc := 6) dX11_part_6 fl_X11_320 po_X11_33 sh_67 rfl rfl rfl ?_
  refine V_aload_n (pc := 9) 0 dX11_part_9 rfl ?_
  refine V_lconst (pc := 10) (v := 1) dX11_part_10 (by decide) ?_
  refine V_putL (pc := 11) dX11_part_11 fl_X11_323 po_X11_34 sh_67 rfl rfl rfl ?_
  obtain ⟨n14, h⟩ := h
  refine V_loc [0] rfl (vX11_part_14 E post   _ (fun σ_1 h => ?_) n14  (wL (wL s2 67 33 r2.toInt64) 67 34 ((1 : Int64)))  h)
  · refine V_loc [0] rfl (vX11_part_220 E post      σ_1  h)
theorem dX11_faultNow_0 : decode cX11_faultNow 0 = .ok (.aload_n 0, 1) := by decide +kernel
theorem dX11_faultNow_1 : decode cX11_faultNow 1 = .ok (.iconst 0, 1) := by decide +kernel
theorem dX11_faultNow_2 : decode cX11_faultNow 2 = .ok (.putfield 307, 3) := by decide +kernel
theorem dX11_faultNow_5 : decode cX11_faultNow 5 = .ok (.aload_n 0, 1) := by decide +kernel
theorem dX11_faultNow_6 : decode cX11_faultNow 6 = .ok (.iconst (-1), 1) := by decide +kernel
theorem dX11_faultNow_7 : decode cX11_faultNow 7 = .ok (.putfield 313, 3) := by decide +kernel
theorem dX11_faultNow_10 : decode cX11_faultNow 10 = .ok (.aload_n 0, 1) := by decide +kernel
theorem dX11_faultNow_11 : decode cX11_faultNow 11 = .ok (.lconst 0, 1) := by decide +kernel
theorem dX11_faultNow_12 : decode cX11_faultNow 12 = .ok (.putfield 330, 3) := by decide +kernel
theorem dX11_faultNow_15 : decode cX11_faultNow 15 = .ok (.aload_n 0, 1) := by decide +kernel
theorem dX11_faultNow_16 : decode cX11_faultNow 16 = .ok (.invokevirtual 333, 3) := by decide +kernel
theorem dX11_faultNow_19 : decode cX11_faultNow 19 = .ok (.aload_n 0, 1) := by decide +kernel
theorem dX11_faultNow_20 : decode cX11_faultNow 20 = .ok (.getfield 313, 3) := by decide +kernel
theorem dX11_faultNow_23 : decode cX11_faultNow 23 = .ok (.iconst (-1), 1) := by decide +kernel
theorem dX11_faultNow_24 : decode cX11_faultNow 24 = .ok (.if_icmp .ne 57, 3) := by decide +kernel
theorem dX11_faultNow_27 : decode cX11_faultNow 27 = .ok (.aload_n 0, 1) := by decide +kernel
theorem dX11_faultNow_28 : decode cX11_faultNow 28 = .ok (.getfield 307, 3) := by decide +kernel
theorem dX11_faultNow_31 : decode cX11_faultNow 31 = .ok (.aload_n 0, 1) := by decide +kernel
theorem dX11_faultNow_32 : decode cX11_faultNow 32 = .ok (.getfield 304, 3) := by decide +kernel
theorem dX11_faultNow_35 : decode cX11_faultNow 35 = .ok (.if_icmp .ge 46, 3) := by decide +kernel
theorem dX11_faultNow_38 : decode cX11_faultNow 38 = .ok (.aload_n 0, 1) := by decide +kernel
theorem dX11_faultNow_39 : decode cX11_faultNow 39 = .ok (.aload_n 0, 1) := by decide +kernel
theorem dX11_faultNow_40 : decode cX11_faultNow 40 = .ok (.getfield 307, 3) := by decide +kernel
theorem dX11_faultNow_43 : decode cX11_faultNow 43 = .ok (.invokevirtual 310, 3) := by decide +kernel
theorem dX11_faultNow_46 : decode cX11_faultNow 46 = .ok (.bipush 43, 2) := by decide +kernel
theorem dX11_faultNow_48 : decode cX11_faultNow 48 = .ok (.if_icmp .eq 16, 3) := by decide +kernel
theorem dX11_faultNow_51 : decode cX11_faultNow 51 = .ok (.aload_n 0, 1) := by decide +kernel
theorem dX11_faultNow_52 : decode cX11_faultNow 52 = .ok (.aload_n 0, 1) := by decide +kernel
theorem dX11_faultNow_53 : decode cX11_faultNow 53 = .ok (.getfield 307, 3) := by decide +kernel
theorem dX11_faultNow_56 : decode cX11_faultNow 56 = .ok (.putfield 313, 3) := by decide +kernel
theorem dX11_faultNow_59 : decode cX11_faultNow 59 = .ok (.aload_n 0, 1) := by decide +kernel
theorem dX11_faultNow_60 : decode cX11_faultNow 60 = .ok (.getfield 307, 3) := by decide +kernel
theorem dX11_faultNow_63 : decode cX11_faultNow 63 = .ok (.ireturn, 1) := by decide +kernel
theorem dX11_faultNow_64 : decode cX11_faultNow 64 = .ok (.aload_n 0, 1) := by decide +kernel
theorem dX11_faultNow_65 : decode cX11_faultNow 65 = .ok (.dup, 1) := by decide +kernel
theorem dX11_faultNow_66 : decode cX11_faultNow 66 = .ok (.getfield 307, 3) := by decide +kernel
theorem dX11_faultNow_69 : decode cX11_faultNow 69 = .ok (.iconst 1, 1) := by decide +kernel
theorem dX11_faultNow_70 : decode cX11_faultNow 70 = .ok (.iadd, 1) := by decide +kernel
theorem dX11_faultNow_71 : decode cX11_faultNow 71 = .ok (.putfield 307, 3) := by decide +kernel
theorem dX11_faultNow_74 : decode cX11_faultNow 74 = .ok (.aload_n 0, 1) := by decide +kernel
theorem dX11_faultNow_75 : decode cX11_faultNow 75 = .ok (.invokevirtual 333, 3) := by decide +kernel
theorem dX11_faultNow_78 : decode cX11_faultNow 78 = .ok (.goto (-59), 3) := by decide +kernel
theorem dX11_faultNow_81 : decode cX11_faultNow 81 = .ok (.aload_n 0, 1) := by decide +kernel
theorem dX11_faultNow_82 : decode cX11_faultNow 82 = .ok (.getfield 313, 3) := by decide +kernel
theorem dX11_faultNow_85 : decode cX11_faultNow 85 = .ok (.ireturn, 1) := by decide +kernel
def wX11_faultNow_19 (post : Int32 → Sto → Prop)  (K81 : Sto → Prop) (K51 : Sto → Prop) : Nat → Sto → Prop
  | 0, _ => False
  | n + 1, σ => ((¬ (σ.1 67 32) = ((-1 : Int32))) → (K81  σ)) ∧ (((σ.1 67 32) = ((-1 : Int32))) → ((((σ.1 67 29) ≤ (σ.1 67 31)) → (K81  σ)) ∧ ((¬ ((σ.1 67 29) ≤ (σ.1 67 31))) → (wX11_byteAt  (σ.1 67 31) σ (fun (r43 : Int32) (s43 : Sto) => ((r43 = ((43 : Int32))) → (wX11_part   (wI s43 67 31 ((s43.1 67 31) + ((1 : Int32)))) (fun (s75 : Sto) => wX11_faultNow_19 post  K81 K51 n  s75))) ∧ ((¬ (r43 = ((43 : Int32)))) → (K51  s43)))))))
set_option maxRecDepth 100000 in
set_option maxHeartbeats 4000000 in
theorem vX11_faultNow_19 (E : Ev) (post : Int32 → Sto → Prop)   (K81 : Sto → Prop) (K51 : Sto → Prop) (HK81 : ∀  (σ : Sto), K81  σ → V E 3 mX11_faultNow (pI post) 81 [(0, .ref 67)] [] σ) (HK51 : ∀  (σ : Sto), K51  σ → V E 3 mX11_faultNow (pI post) 51 [(0, .ref 67)] [] σ) : ∀ (n : Nat)  (σ : Sto), wX11_faultNow_19 post  K81 K51 n  σ → V E 3 mX11_faultNow (pI post) 19 [(0, .ref 67)] [] σ := by
  intro n
  induction n with
  | zero => intro σ h; exact h.elim
  | succ n ih =>
    intro σ h
    unfold wX11_faultNow_19 at h
    refine V_aload_n (pc := 19) 0 dX11_faultNow_19 rfl ?_
    refine V_getI (pc := 20) dX11_faultNow_20 fl_X11_313 sh_67 rfl ?_
    refine V_iconst (pc := 23) (v := -1) dX11_faultNow_23 (by decide) ?_
    refine V_icmp_ne (pc := 24) (tgt := 81) dX11_faultNow_24 (by decide) (fun hc => ?_) (fun hc => ?_)
    · replace h := h.1 hc
      exact V_loc [0] rfl (HK81  σ  h)
    · replace h := h.2 hc
      refine V_aload_n (pc := 27) 0 dX11_faultNow_27 rfl ?_
      refine V_getI (pc := 28) dX11_faultNow_28 fl_X11_307 sh_67 rfl ?_
      refine V_aload_n (pc := 31) 0 dX11_faultNow_31 rfl ?_
      refine V_getI (pc := 32) dX11_faultNow_32 fl_X11_304 sh_67 rfl ?_
      refine V_icmp_ge (pc := 35) (tgt := 81) dX11_faultNow_35 (by decide) (fun hc => ?_) (fun hc => ?_)
      · replace h := h.1 hc
        exact V_loc [0] rfl (HK81  σ  h)
      · replace h := h.2 hc
        refine V_aload_n (pc := 38) 0 dX11_faultNow_38 rfl ?_
        refine V_aload_n (pc := 39) 0 dX11_faultNow_39 rfl ?_
        refine V_getI (pc := 40) dX11_faultNow_40 fl_X11_307 sh_67 rfl ?_
        refine V_callV (pc := 43) (M' := mX11_byteAt) dX11_faultNow_43 ml_X11_310 kv_X11_byteAt ko_X11_byteAt sh_67 (by decide) (by decide) rfl rfl (Nat.le_of_ble_eq_true rfl) (Nat.le_of_ble_eq_true rfl) (vX11_byteAt E  (σ.1 67 31) σ _  h) (kI (fun r43 s43 h => ?_))
        refine V_bipush (pc := 46) (v := 43) dX11_faultNow_46 (by decide) ?_
        refine V_icmp_eq (pc := 48) (tgt := 64) dX11_faultNow_48 (by decide) (fun hc => ?_) (fun hc => ?_)
        · replace h := h.1 hc
          refine V_aload_n (pc := 64) 0 dX11_faultNow_64 rfl ?_
          refine V_dup (pc := 65) dX11_faultNow_65 rfl ?_
          refine V_getI (pc := 66) dX11_faultNow_66 fl_X11_307 sh_67 rfl ?_
          refine V_iconst (pc := 69) (v := 1) dX11_faultNow_69 (by decide) ?_
          refine V_iadd (pc := 70) dX11_faultNow_70 ?_
          refine V_putI (pc := 71) dX11_faultNow_71 fl_X11_307 po_X11_31 sh_67 rfl rfl rfl ?_
          refine V_aload_n (pc := 74) 0 dX11_faultNow_74 rfl ?_
          refine V_callV (pc := 75) (M' := mX11_part) dX11_faultNow_75 ml_X11_333 kv_X11_part ko_X11_part sh_67 (by decide) (by decide) rfl rfl (Nat.le_of_ble_eq_true rfl) (Nat.le_of_ble_eq_true rfl) (vX11_part E   (wI s43 67 31 ((s43.1 67 31) + ((1 : Int32)))) _  h) (kV (fun s75 h => ?_))
          refine V_goto (pc := 78) (tgt := 19) dX11_faultNow_78 (by decide) ?_
          exact V_loc [0] rfl (ih  s75  h)
        · replace h := h.2 hc
          exact V_loc [0] rfl (HK51  s43  h)
def wX11_faultNow   (σ : Sto) (post : Int32 → Sto → Prop) : Prop := wX11_part   (wL (wI (wI σ 67 31 ((0 : Int32))) 67 32 ((-1 : Int32))) 67 35 ((0 : Int64))) (fun (s16 : Sto) => ∃ n19, wX11_faultNow_19 post  (fun  (σ_1 : Sto) => post (σ_1.1 67 32) σ_1) (fun  (σ_2 : Sto) => post (σ_2.1 67 31) (wI σ_2 67 32 (σ_2.1 67 31))) n19  s16)
set_option maxRecDepth 100000 in
set_option maxHeartbeats 4000000 in
theorem vX11_faultNow (E : Ev)   (σ : Sto) (post : Int32 → Sto → Prop)  (h : wX11_faultNow   σ post) : V E 3 mX11_faultNow (pI post) 0 [(0, .ref 67)] [] σ := by
  unfold wX11_faultNow at h
  refine V_aload_n (pc := 0) 0 dX11_faultNow_0 rfl ?_
  refine V_iconst (pc := 1) (v := 0) dX11_faultNow_1 (by decide) ?_
  refine V_putI (pc := 2) dX11_faultNow_2 fl_X11_307 po_X11_31 sh_67 rfl rfl rfl ?_
  refine V_aload_n (pc := 5) 0 dX11_faultNow_5 rfl ?_
  refine V_iconst (pc := 6) (v := -1) dX11_faultNow_6 (by decide) ?_
  refine V_putI (pc := 7) dX11_faultNow_7 fl_X11_313 po_X11_32 sh_67 rfl rfl rfl ?_
  refine V_aload_n (pc := 10) 0 dX11_faultNow_10 rfl ?_
  refine V_lconst (pc := 11) (v := 0) dX11_faultNow_11 (by decide) ?_
  refine V_putL (pc := 12) dX11_faultNow_12 fl_X11_330 po_X11_35 sh_67 rfl rfl rfl ?_
  refine V_aload_n (pc := 15) 0 dX11_faultNow_15 rfl ?_
  refine V_callV (pc := 16) (M' := mX11_part) dX11_faultNow_16 ml_X11_333 kv_X11_part ko_X11_part sh_67 (by decide) (by decide) rfl rfl (Nat.le_of_ble_eq_true rfl) (Nat.le_of_ble_eq_true rfl) (vX11_part E   (wL (wI (wI σ 67 31 ((0 : Int32))) 67 32 ((-1 : Int32))) 67 35 ((0 : Int64))) _  h) (kV (fun s16 h => ?_))
  obtain ⟨n19, h⟩ := h
  refine V_loc [0] rfl (vX11_faultNow_19 E post   _ _ (fun σ_1 h => ?_) (fun σ_2 h => ?_) n19  s16  h)
  · refine V_aload_n (pc := 81) 0 dX11_faultNow_81 rfl ?_
    refine V_getI (pc := 82) dX11_faultNow_82 fl_X11_313 sh_67 rfl ?_
    exact V_iret dX11_faultNow_85 rfl h
  · refine V_aload_n (pc := 51) 0 dX11_faultNow_51 rfl ?_
    refine V_aload_n (pc := 52) 0 dX11_faultNow_52 rfl ?_
    refine V_getI (pc := 53) dX11_faultNow_53 fl_X11_307 sh_67 rfl ?_
    refine V_putI (pc := 56) dX11_faultNow_56 fl_X11_313 po_X11_32 sh_67 rfl rfl rfl ?_
    refine V_aload_n (pc := 59) 0 dX11_faultNow_59 rfl ?_
    refine V_getI (pc := 60) dX11_faultNow_60 fl_X11_307 sh_67 rfl ?_
    exact V_iret dX11_faultNow_63 rfl h
theorem dX11_fault_0 : decode cX11_fault 0 = .ok (.aload_n 0, 1) := by decide +kernel
theorem dX11_fault_1 : decode cX11_fault 1 = .ok (.invokevirtual 336, 3) := by decide +kernel
theorem dX11_fault_4 : decode cX11_fault 4 = .ok (.ireturn, 1) := by decide +kernel
def wX11_fault   (σ : Sto) (post : Int32 → Sto → Prop) : Prop := wX11_faultNow   σ (fun (r1 : Int32) (s1 : Sto) => post r1 s1)
set_option maxRecDepth 100000 in
set_option maxHeartbeats 4000000 in
theorem vX11_fault (E : Ev)   (σ : Sto) (post : Int32 → Sto → Prop)  (h : wX11_fault   σ post) : V E 4 mX11_fault (pI post) 0 [(0, .ref 67)] [] σ := by
  unfold wX11_fault at h
  refine V_aload_n (pc := 0) 0 dX11_fault_0 rfl ?_
  refine V_callV (pc := 1) (M' := mX11_faultNow) dX11_fault_1 ml_X11_336 kv_X11_faultNow ko_X11_faultNow sh_67 (by decide) (by decide) rfl rfl (Nat.le_of_ble_eq_true rfl) (Nat.le_of_ble_eq_true rfl) (vX11_faultNow E   σ _  h) (kI (fun r1 s1 h => ?_))
  exact V_iret dX11_fault_4 rfl h
theorem dX11_reckons_0 : decode cX11_reckons 0 = .ok (.aload_n 0, 1) := by decide +kernel
theorem dX11_reckons_1 : decode cX11_reckons 1 = .ok (.invokevirtual 336, 3) := by decide +kernel
theorem dX11_reckons_4 : decode cX11_reckons 4 = .ok (.iconst (-1), 1) := by decide +kernel
theorem dX11_reckons_5 : decode cX11_reckons 5 = .ok (.if_icmp .eq 5, 3) := by decide +kernel
theorem dX11_reckons_8 : decode cX11_reckons 8 = .ok (.iconst (-1), 1) := by decide +kernel
theorem dX11_reckons_9 : decode cX11_reckons 9 = .ok (.ireturn, 1) := by decide +kernel
theorem dX11_reckons_10 : decode cX11_reckons 10 = .ok (.iconst 1, 1) := by decide +kernel
theorem dX11_reckons_11 : decode cX11_reckons 11 = .ok (.istore_n 1, 1) := by decide +kernel
theorem dX11_reckons_12 : decode cX11_reckons 12 = .ok (.iload_n 1, 1) := by decide +kernel
theorem dX11_reckons_13 : decode cX11_reckons 13 = .ok (.sipush 1000, 3) := by decide +kernel
theorem dX11_reckons_16 : decode cX11_reckons 16 = .ok (.if_icmp .ge 26, 3) := by decide +kernel
theorem dX11_reckons_19 : decode cX11_reckons 19 = .ok (.ldc2_w 328, 3) := by decide +kernel
theorem dX11_reckons_22 : decode cX11_reckons 22 = .ok (.iload_n 1, 1) := by decide +kernel
theorem dX11_reckons_23 : decode cX11_reckons 23 = .ok (.i2l, 1) := by decide +kernel
theorem dX11_reckons_24 : decode cX11_reckons 24 = .ok (.lmul, 1) := by decide +kernel
theorem dX11_reckons_25 : decode cX11_reckons 25 = .ok (.iload_n 1, 1) := by decide +kernel
theorem dX11_reckons_26 : decode cX11_reckons 26 = .ok (.i2l, 1) := by decide +kernel
theorem dX11_reckons_27 : decode cX11_reckons 27 = .ok (.lmul, 1) := by decide +kernel
theorem dX11_reckons_28 : decode cX11_reckons 28 = .ok (.aload_n 0, 1) := by decide +kernel
theorem dX11_reckons_29 : decode cX11_reckons 29 = .ok (.getfield 330, 3) := by decide +kernel
theorem dX11_reckons_32 : decode cX11_reckons 32 = .ok (.lcmp, 1) := by decide +kernel
theorem dX11_reckons_33 : decode cX11_reckons 33 = .ok (.ifCond .ge 9, 3) := by decide +kernel
theorem dX11_reckons_36 : decode cX11_reckons 36 = .ok (.iinc 1 1, 3) := by decide +kernel
theorem dX11_reckons_39 : decode cX11_reckons 39 = .ok (.goto (-27), 3) := by decide +kernel
theorem dX11_reckons_42 : decode cX11_reckons 42 = .ok (.iload_n 1, 1) := by decide +kernel
theorem dX11_reckons_43 : decode cX11_reckons 43 = .ok (.ireturn, 1) := by decide +kernel
def wX11_reckons_12 (post : Int32 → Sto → Prop)  (K42 : Int32 → Sto → Prop) : Nat → Int32 → Sto → Prop
  | 0, _, _ => False
  | n + 1, x1, σ => ((((1000 : Int32)) ≤ x1) → (K42 x1 σ)) ∧ ((¬ (((1000 : Int32)) ≤ x1)) → ((((σ.2 67 35) ≤ ((((10000 : Int64)) * x1.toInt64) * x1.toInt64)) → (K42 x1 σ)) ∧ ((¬ ((σ.2 67 35) ≤ ((((10000 : Int64)) * x1.toInt64) * x1.toInt64))) → (wX11_reckons_12 post  K42 n (x1 + (1 : Int32)) σ))))
set_option maxRecDepth 100000 in
set_option maxHeartbeats 4000000 in
theorem vX11_reckons_12 (E : Ev) (post : Int32 → Sto → Prop)   (K42 : Int32 → Sto → Prop) (HK42 : ∀ (x1 : Int32) (σ : Sto), K42 x1 σ → V E 4 mX11_reckons (pI post) 42 [(1, .int x1)] [] σ) : ∀ (n : Nat) (x1 : Int32) (σ : Sto), wX11_reckons_12 post  K42 n x1 σ → V E 4 mX11_reckons (pI post) 12 [(0, .ref 67), (1, .int x1)] [] σ := by
  intro n
  induction n with
  | zero => intro x1 σ h; exact h.elim
  | succ n ih =>
    intro x1 σ h
    unfold wX11_reckons_12 at h
    refine V_iload_n (pc := 12) 1 dX11_reckons_12 rfl ?_
    refine V_sipush (pc := 13) (v := 1000) dX11_reckons_13 (by decide) ?_
    refine V_icmp_ge (pc := 16) (tgt := 42) dX11_reckons_16 (by decide) (fun hc => ?_) (fun hc => ?_)
    · replace h := h.1 hc
      exact V_loc [1] rfl (HK42 x1 σ  h)
    · replace h := h.2 hc
      refine V_ldc2 (pc := 19) dX11_reckons_19 cl_X11_328 ?_
      refine V_iload_n (pc := 22) 1 dX11_reckons_22 rfl ?_
      refine V_i2l (pc := 23) dX11_reckons_23 ?_
      refine V_lmul (pc := 24) dX11_reckons_24 ?_
      refine V_iload_n (pc := 25) 1 dX11_reckons_25 rfl ?_
      refine V_i2l (pc := 26) dX11_reckons_26 ?_
      refine V_lmul (pc := 27) dX11_reckons_27 ?_
      refine V_aload_n (pc := 28) 0 dX11_reckons_28 rfl ?_
      refine V_getL (pc := 29) dX11_reckons_29 fl_X11_330 sh_67 rfl ?_
      refine V_lc_ge (pc := 32) (tgt := 42) dX11_reckons_32 dX11_reckons_33 (by decide) (fun hc => ?_) (fun hc => ?_)
      · replace h := h.1 hc
        exact V_loc [1] rfl (HK42 x1 σ  h)
      · replace h := h.2 hc
        refine V_iinc (pc := 36) 1 (v := 1) dX11_reckons_36 rfl (by decide) (by decide) ?_
        refine V_goto (pc := 39) (tgt := 12) dX11_reckons_39 (by decide) ?_
        exact V_loc [1, 0] rfl (ih (x1 + (1 : Int32)) σ  h)
def wX11_reckons   (σ : Sto) (post : Int32 → Sto → Prop) : Prop := wX11_faultNow   σ (fun (r1 : Int32) (s1 : Sto) => ((r1 = ((-1 : Int32))) → (∃ n12, wX11_reckons_12 post  (fun (x1_1 : Int32) (σ_1 : Sto) => post x1_1 σ_1) n12 ((1 : Int32)) s1)) ∧ ((¬ (r1 = ((-1 : Int32)))) → (post ((-1 : Int32)) s1)))
set_option maxRecDepth 100000 in
set_option maxHeartbeats 4000000 in
theorem vX11_reckons (E : Ev)   (σ : Sto) (post : Int32 → Sto → Prop)  (h : wX11_reckons   σ post) : V E 4 mX11_reckons (pI post) 0 [(0, .ref 67)] [] σ := by
  unfold wX11_reckons at h
  refine V_aload_n (pc := 0) 0 dX11_reckons_0 rfl ?_
  refine V_callV (pc := 1) (M' := mX11_faultNow) dX11_reckons_1 ml_X11_336 kv_X11_faultNow ko_X11_faultNow sh_67 (by decide) (by decide) rfl rfl (Nat.le_of_ble_eq_true rfl) (Nat.le_of_ble_eq_true rfl) (vX11_faultNow E   σ _  h) (kI (fun r1 s1 h => ?_))
  refine V_iconst (pc := 4) (v := -1) dX11_reckons_4 (by decide) ?_
  refine V_icmp_eq (pc := 5) (tgt := 10) dX11_reckons_5 (by decide) (fun hc => ?_) (fun hc => ?_)
  · replace h := h.1 hc
    refine V_iconst (pc := 10) (v := 1) dX11_reckons_10 (by decide) ?_
    refine V_istore_n (pc := 11) dX11_reckons_11 (by decide) ?_
    obtain ⟨n12, h⟩ := h
    refine V_loc [1, 0] rfl (vX11_reckons_12 E post   _ (fun x1_1 σ_1 h => ?_) n12 ((1 : Int32)) s1  h)
    · refine V_iload_n (pc := 42) 0 dX11_reckons_42 rfl ?_
      exact V_iret dX11_reckons_43 rfl h
  · replace h := h.2 hc
    refine V_iconst (pc := 8) (v := -1) dX11_reckons_8 (by decide) ?_
    exact V_iret dX11_reckons_9 rfl h
theorem dX11_reckon_0 : decode cX11_reckon 0 = .ok (.aload_n 0, 1) := by decide +kernel
theorem dX11_reckon_1 : decode cX11_reckon 1 = .ok (.invokevirtual 339, 3) := by decide +kernel
theorem dX11_reckon_4 : decode cX11_reckon 4 = .ok (.istore_n 1, 1) := by decide +kernel
theorem dX11_reckon_5 : decode cX11_reckon 5 = .ok (.iload_n 1, 1) := by decide +kernel
theorem dX11_reckon_6 : decode cX11_reckon 6 = .ok (.iconst (-1), 1) := by decide +kernel
theorem dX11_reckon_7 : decode cX11_reckon 7 = .ok (.if_icmp .ne 8, 3) := by decide +kernel
theorem dX11_reckon_10 : decode cX11_reckon 10 = .ok (.bipush (-3), 2) := by decide +kernel
theorem dX11_reckon_12 : decode cX11_reckon 12 = .ok (.goto 4, 3) := by decide +kernel
theorem dX11_reckon_15 : decode cX11_reckon 15 = .ok (.iload_n 1, 1) := by decide +kernel
theorem dX11_reckon_16 : decode cX11_reckon 16 = .ok (.ireturn, 1) := by decide +kernel
def wX11_reckon   (σ : Sto) (post : Int32 → Sto → Prop) : Prop := wX11_reckons   σ (fun (r1 : Int32) (s1 : Sto) => ((¬ r1 = ((-1 : Int32))) → (post r1 s1)) ∧ ((r1 = ((-1 : Int32))) → (post ((-3 : Int32)) s1)))
set_option maxRecDepth 100000 in
set_option maxHeartbeats 4000000 in
theorem vX11_reckon (E : Ev)   (σ : Sto) (post : Int32 → Sto → Prop)  (h : wX11_reckon   σ post) : V E 5 mX11_reckon (pI post) 0 [(0, .ref 67)] [] σ := by
  unfold wX11_reckon at h
  refine V_aload_n (pc := 0) 0 dX11_reckon_0 rfl ?_
  refine V_callV (pc := 1) (M' := mX11_reckons) dX11_reckon_1 ml_X11_339 kv_X11_reckons ko_X11_reckons sh_67 (by decide) (by decide) rfl rfl (Nat.le_of_ble_eq_true rfl) (Nat.le_of_ble_eq_true rfl) (vX11_reckons E   σ _  h) (kI (fun r1 s1 h => ?_))
  refine V_istore_n (pc := 4) dX11_reckon_4 (by decide) ?_
  refine V_iload_n (pc := 5) 0 dX11_reckon_5 rfl ?_
  refine V_iconst (pc := 6) (v := -1) dX11_reckon_6 (by decide) ?_
  refine V_icmp_ne (pc := 7) (tgt := 15) dX11_reckon_7 (by decide) (fun hc => ?_) (fun hc => ?_)
  · replace h := h.1 hc
    refine V_iload_n (pc := 15) 0 dX11_reckon_15 rfl ?_
    exact V_iret dX11_reckon_16 rfl h
  · replace h := h.2 hc
    refine V_bipush (pc := 10) (v := -3) dX11_reckon_10 (by decide) ?_
    refine V_goto (pc := 12) (tgt := 16) dX11_reckon_12 (by decide) ?_
    exact V_iret dX11_reckon_16 rfl h
theorem dX11_claim_0 : decode cX11_claim 0 = .ok (.aload_n 0, 1) := by decide +kernel
theorem dX11_claim_1 : decode cX11_claim 1 = .ok (.iload_n 1, 1) := by decide +kernel
theorem dX11_claim_2 : decode cX11_claim 2 = .ok (.invokevirtual 115, 3) := by decide +kernel
theorem dX11_claim_5 : decode cX11_claim 5 = .ok (.ifCond .ne 6, 3) := by decide +kernel
theorem dX11_claim_8 : decode cX11_claim 8 = .ok (.bipush (-2), 2) := by decide +kernel
theorem dX11_claim_10 : decode cX11_claim 10 = .ok (.ireturn, 1) := by decide +kernel
theorem dX11_claim_11 : decode cX11_claim 11 = .ok (.aload_n 0, 1) := by decide +kernel
theorem dX11_claim_12 : decode cX11_claim 12 = .ok (.invokevirtual 339, 3) := by decide +kernel
theorem dX11_claim_15 : decode cX11_claim 15 = .ok (.istore_n 2, 1) := by decide +kernel
theorem dX11_claim_16 : decode cX11_claim 16 = .ok (.iload_n 2, 1) := by decide +kernel
theorem dX11_claim_17 : decode cX11_claim 17 = .ok (.iconst (-1), 1) := by decide +kernel
theorem dX11_claim_18 : decode cX11_claim 18 = .ok (.if_icmp .ne 6, 3) := by decide +kernel
theorem dX11_claim_21 : decode cX11_claim 21 = .ok (.bipush (-3), 2) := by decide +kernel
theorem dX11_claim_23 : decode cX11_claim 23 = .ok (.ireturn, 1) := by decide +kernel
theorem dX11_claim_24 : decode cX11_claim 24 = .ok (.aload_n 0, 1) := by decide +kernel
theorem dX11_claim_25 : decode cX11_claim 25 = .ok (.getfield 13, 3) := by decide +kernel
theorem dX11_claim_28 : decode cX11_claim 28 = .ok (.iload_n 1, 1) := by decide +kernel
theorem dX11_claim_29 : decode cX11_claim 29 = .ok (.iaload, 1) := by decide +kernel
theorem dX11_claim_30 : decode cX11_claim 30 = .ok (.istore_n 3, 1) := by decide +kernel
theorem dX11_claim_31 : decode cX11_claim 31 = .ok (.aload_n 0, 1) := by decide +kernel
theorem dX11_claim_32 : decode cX11_claim 32 = .ok (.getfield 13, 3) := by decide +kernel
theorem dX11_claim_35 : decode cX11_claim 35 = .ok (.iload_n 1, 1) := by decide +kernel
theorem dX11_claim_36 : decode cX11_claim 36 = .ok (.iload_n 2, 1) := by decide +kernel
theorem dX11_claim_37 : decode cX11_claim 37 = .ok (.iastore, 1) := by decide +kernel
theorem dX11_claim_38 : decode cX11_claim 38 = .ok (.iload_n 3, 1) := by decide +kernel
theorem dX11_claim_39 : decode cX11_claim 39 = .ok (.ireturn, 1) := by decide +kernel
def wX11_claim  (x1 : Int32) (σ : Sto) (post : Int32 → Sto → Prop) : Prop := wX11_isHouse  x1 σ (fun (r2 : Bool) (s2 : Sto) => ((r2 = true) → (wX11_reckons   s2 (fun (r12 : Int32) (s12 : Sto) => ((¬ r12 = ((-1 : Int32))) → (vp_in x1 14 ∧ (vp_in x1 14 ∧ (post (s12.1 69 x1.toNatClampNeg) (wI s12 69 x1.toNatClampNeg r12))))) ∧ ((r12 = ((-1 : Int32))) → (post ((-3 : Int32)) s12))))) ∧ ((r2 = false) → (post ((-2 : Int32)) s2)))
set_option maxRecDepth 100000 in
set_option maxHeartbeats 4000000 in
theorem vX11_claim (E : Ev)  (x1 : Int32) (σ : Sto) (post : Int32 → Sto → Prop)  (h : wX11_claim  x1 σ post) : V E 5 mX11_claim (pI post) 0 [(0, .ref 67), (1, .int x1)] [] σ := by
  unfold wX11_claim at h
  refine V_aload_n (pc := 0) 0 dX11_claim_0 rfl ?_
  refine V_iload_n (pc := 1) 1 dX11_claim_1 rfl ?_
  refine V_callV (pc := 2) (M' := mX11_isHouse) dX11_claim_2 ml_X11_115 kv_X11_isHouse ko_X11_isHouse sh_67 (by decide) (by decide) rfl rfl (Nat.le_of_ble_eq_true rfl) (Nat.le_of_ble_eq_true rfl) (vX11_isHouse E  x1 σ _  h) (kB (fun r2 s2 h => ?_))
  refine V_ifnz (pc := 5) (tgt := 11) dX11_claim_5 (by decide) (fun hc => ?_) (fun hc => ?_)
  · replace h := h.1 hc
    refine V_aload_n (pc := 11) 0 dX11_claim_11 rfl ?_
    refine V_callV (pc := 12) (M' := mX11_reckons) dX11_claim_12 ml_X11_339 kv_X11_reckons ko_X11_reckons sh_67 (by decide) (by decide) rfl rfl (Nat.le_of_ble_eq_true rfl) (Nat.le_of_ble_eq_true rfl) (vX11_reckons E   s2 _  h) (kI (fun r12 s12 h => ?_))
    refine V_istore_n (pc := 15) dX11_claim_15 (by decide) ?_
    refine V_iload_n (pc := 16) 0 dX11_claim_16 rfl ?_
    refine V_iconst (pc := 17) (v := -1) dX11_claim_17 (by decide) ?_
    refine V_icmp_ne (pc := 18) (tgt := 24) dX11_claim_18 (by decide) (fun hc => ?_) (fun hc => ?_)
    · replace h := h.1 hc
      refine V_aload_n (pc := 24) 1 dX11_claim_24 rfl ?_
      refine V_getR (pc := 25) dX11_claim_25 fl_X11_13 sh_67 rfl ?_
      refine V_iload_n (pc := 28) 2 dX11_claim_28 rfl ?_
      obtain ⟨i29, h⟩ := h
      refine V_iald (pc := 29) dX11_claim_29 sh_69 i29 ?_
      refine V_istore_n (pc := 30) dX11_claim_30 (by decide) ?_
      refine V_aload_n (pc := 31) 2 dX11_claim_31 rfl ?_
      refine V_getR (pc := 32) dX11_claim_32 fl_X11_13 sh_67 rfl ?_
      refine V_iload_n (pc := 35) 3 dX11_claim_35 rfl ?_
      refine V_iload_n (pc := 36) 1 dX11_claim_36 rfl ?_
      obtain ⟨i37, h⟩ := h
      refine V_iast (pc := 37) dX11_claim_37 sh_69 i37 ?_
      refine V_iload_n (pc := 38) 0 dX11_claim_38 rfl ?_
      exact V_iret dX11_claim_39 rfl h
    · replace h := h.2 hc
      refine V_bipush (pc := 21) (v := -3) dX11_claim_21 (by decide) ?_
      exact V_iret dX11_claim_23 rfl h
  · replace h := h.2 hc
    refine V_bipush (pc := 8) (v := -2) dX11_claim_8 (by decide) ?_
    exact V_iret dX11_claim_10 rfl h
theorem dX11_sheet_0 : decode cX11_sheet 0 = .ok (.iload_n 1, 1) := by decide +kernel
theorem dX11_sheet_1 : decode cX11_sheet 1 = .ok (.invokestatic 129, 3) := by decide +kernel
theorem dX11_sheet_4 : decode cX11_sheet 4 = .ok (.ifCond .eq 18, 3) := by decide +kernel
theorem dX11_sheet_7 : decode cX11_sheet 7 = .ok (.iload_n 2, 1) := by decide +kernel
theorem dX11_sheet_8 : decode cX11_sheet 8 = .ok (.iconst 0, 1) := by decide +kernel
theorem dX11_sheet_9 : decode cX11_sheet 9 = .ok (.iconst 2, 1) := by decide +kernel
theorem dX11_sheet_10 : decode cX11_sheet 10 = .ok (.invokestatic 104, 3) := by decide +kernel
theorem dX11_sheet_13 : decode cX11_sheet 13 = .ok (.ifCond .eq 9, 3) := by decide +kernel
theorem dX11_sheet_16 : decode cX11_sheet 16 = .ok (.iload_n 3, 1) := by decide +kernel
theorem dX11_sheet_17 : decode cX11_sheet 17 = .ok (.bipush 60, 2) := by decide +kernel
theorem dX11_sheet_19 : decode cX11_sheet 19 = .ok (.if_icmp .le 6, 3) := by decide +kernel
theorem dX11_sheet_22 : decode cX11_sheet 22 = .ok (.bipush (-2), 2) := by decide +kernel
theorem dX11_sheet_24 : decode cX11_sheet 24 = .ok (.ireturn, 1) := by decide +kernel
theorem dX11_sheet_25 : decode cX11_sheet 25 = .ok (.iload_n 3, 1) := by decide +kernel
theorem dX11_sheet_26 : decode cX11_sheet 26 = .ok (.ifCond .ge 9, 3) := by decide +kernel
theorem dX11_sheet_29 : decode cX11_sheet 29 = .ok (.aload_n 0, 1) := by decide +kernel
theorem dX11_sheet_30 : decode cX11_sheet 30 = .ok (.iconst 5, 1) := by decide +kernel
theorem dX11_sheet_31 : decode cX11_sheet 31 = .ok (.invokevirtual 132, 3) := by decide +kernel
theorem dX11_sheet_34 : decode cX11_sheet 34 = .ok (.ireturn, 1) := by decide +kernel
theorem dX11_sheet_35 : decode cX11_sheet 35 = .ok (.aload_n 0, 1) := by decide +kernel
theorem dX11_sheet_36 : decode cX11_sheet 36 = .ok (.getfield 72, 3) := by decide +kernel
theorem dX11_sheet_39 : decode cX11_sheet 39 = .ok (.iload_n 1, 1) := by decide +kernel
theorem dX11_sheet_40 : decode cX11_sheet 40 = .ok (.iconst 1, 1) := by decide +kernel
theorem dX11_sheet_41 : decode cX11_sheet 41 = .ok (.bastore, 1) := by decide +kernel
theorem dX11_sheet_42 : decode cX11_sheet 42 = .ok (.aload_n 0, 1) := by decide +kernel
theorem dX11_sheet_43 : decode cX11_sheet 43 = .ok (.getfield 76, 3) := by decide +kernel
theorem dX11_sheet_46 : decode cX11_sheet 46 = .ok (.iload_n 1, 1) := by decide +kernel
theorem dX11_sheet_47 : decode cX11_sheet 47 = .ok (.iload_n 2, 1) := by decide +kernel
theorem dX11_sheet_48 : decode cX11_sheet 48 = .ok (.iastore, 1) := by decide +kernel
theorem dX11_sheet_49 : decode cX11_sheet 49 = .ok (.aload_n 0, 1) := by decide +kernel
theorem dX11_sheet_50 : decode cX11_sheet 50 = .ok (.getfield 79, 3) := by decide +kernel
theorem dX11_sheet_53 : decode cX11_sheet 53 = .ok (.iload_n 1, 1) := by decide +kernel
theorem dX11_sheet_54 : decode cX11_sheet 54 = .ok (.iload_n 3, 1) := by decide +kernel
theorem dX11_sheet_55 : decode cX11_sheet 55 = .ok (.iastore, 1) := by decide +kernel
theorem dX11_sheet_56 : decode cX11_sheet 56 = .ok (.iconst 0, 1) := by decide +kernel
theorem dX11_sheet_57 : decode cX11_sheet 57 = .ok (.istore 4, 2) := by decide +kernel
theorem dX11_sheet_59 : decode cX11_sheet 59 = .ok (.iload 4, 2) := by decide +kernel
theorem dX11_sheet_61 : decode cX11_sheet 61 = .ok (.bipush 60, 2) := by decide +kernel
theorem dX11_sheet_63 : decode cX11_sheet 63 = .ok (.if_icmp .ge 22, 3) := by decide +kernel
theorem dX11_sheet_66 : decode cX11_sheet 66 = .ok (.aload_n 0, 1) := by decide +kernel
theorem dX11_sheet_67 : decode cX11_sheet 67 = .ok (.getfield 82, 3) := by decide +kernel
theorem dX11_sheet_70 : decode cX11_sheet 70 = .ok (.bipush 60, 2) := by decide +kernel
theorem dX11_sheet_72 : decode cX11_sheet 72 = .ok (.iload_n 1, 1) := by decide +kernel
theorem dX11_sheet_73 : decode cX11_sheet 73 = .ok (.imul, 1) := by decide +kernel
theorem dX11_sheet_74 : decode cX11_sheet 74 = .ok (.iload 4, 2) := by decide +kernel
theorem dX11_sheet_76 : decode cX11_sheet 76 = .ok (.iadd, 1) := by decide +kernel
theorem dX11_sheet_77 : decode cX11_sheet 77 = .ok (.iconst 0, 1) := by decide +kernel
theorem dX11_sheet_78 : decode cX11_sheet 78 = .ok (.iastore, 1) := by decide +kernel
theorem dX11_sheet_79 : decode cX11_sheet 79 = .ok (.iinc 4 1, 3) := by decide +kernel
theorem dX11_sheet_82 : decode cX11_sheet 82 = .ok (.goto (-23), 3) := by decide +kernel
theorem dX11_sheet_85 : decode cX11_sheet 85 = .ok (.iload_n 3, 1) := by decide +kernel
theorem dX11_sheet_86 : decode cX11_sheet 86 = .ok (.ireturn, 1) := by decide +kernel
def wX11_sheet_59 (post : Int32 → Sto → Prop)  (K85 : Int32 → Sto → Prop) : Nat → Int32 → Int32 → Int32 → Sto → Prop
  | 0, _, _, _, _ => False
  | n + 1, x1, x3, x4, σ => ((((60 : Int32)) ≤ x4) → (K85 x3 σ)) ∧ ((¬ (((60 : Int32)) ≤ x4)) → (vp_in ((((60 : Int32)) * x1) + x4) 240 ∧ (wX11_sheet_59 post  K85 n x1 x3 (x4 + (1 : Int32)) (wI σ 89 ((((60 : Int32)) * x1) + x4).toNatClampNeg ((0 : Int32))))))
set_option maxRecDepth 100000 in
set_option maxHeartbeats 4000000 in
theorem vX11_sheet_59 (E : Ev) (post : Int32 → Sto → Prop)   (K85 : Int32 → Sto → Prop) (HK85 : ∀ (x3 : Int32) (σ : Sto), K85 x3 σ → V E 2 mX11_sheet (pI post) 85 [(3, .int x3)] [] σ) : ∀ (n : Nat) (x1 : Int32) (x3 : Int32) (x4 : Int32) (σ : Sto), wX11_sheet_59 post  K85 n x1 x3 x4 σ → V E 2 mX11_sheet (pI post) 59 [(0, .ref 67), (1, .int x1), (3, .int x3), (4, .int x4)] [] σ := by
  intro n
  induction n with
  | zero => intro x1 x3 x4 σ h; exact h.elim
  | succ n ih =>
    intro x1 x3 x4 σ h
    unfold wX11_sheet_59 at h
    refine V_iload (pc := 59) 3 dX11_sheet_59 rfl ?_
    refine V_bipush (pc := 61) (v := 60) dX11_sheet_61 (by decide) ?_
    refine V_icmp_ge (pc := 63) (tgt := 85) dX11_sheet_63 (by decide) (fun hc => ?_) (fun hc => ?_)
    · replace h := h.1 hc
      exact V_loc [2] rfl (HK85 x3 σ  h)
    · replace h := h.2 hc
      refine V_aload_n (pc := 66) 0 dX11_sheet_66 rfl ?_
      refine V_getR (pc := 67) dX11_sheet_67 fl_X11_82 sh_67 rfl ?_
      refine V_bipush (pc := 70) (v := 60) dX11_sheet_70 (by decide) ?_
      refine V_iload_n (pc := 72) 1 dX11_sheet_72 rfl ?_
      refine V_imul (pc := 73) dX11_sheet_73 ?_
      refine V_iload (pc := 74) 3 dX11_sheet_74 rfl ?_
      refine V_iadd (pc := 76) dX11_sheet_76 ?_
      refine V_iconst (pc := 77) (v := 0) dX11_sheet_77 (by decide) ?_
      obtain ⟨i78, h⟩ := h
      refine V_iast (pc := 78) dX11_sheet_78 sh_89 i78 ?_
      refine V_iinc (pc := 79) 3 (v := 1) dX11_sheet_79 rfl (by decide) (by decide) ?_
      refine V_goto (pc := 82) (tgt := 59) dX11_sheet_82 (by decide) ?_
      exact V_loc [1, 2, 3, 0] rfl (ih x1 x3 (x4 + (1 : Int32)) (wI σ 89 ((((60 : Int32)) * x1) + x4).toNatClampNeg ((0 : Int32)))  h)
def wX11_sheet  (x1 : Int32) (x2 : Int32) (x3 : Int32) (σ : Sto) (post : Int32 → Sto → Prop) : Prop := wX11_isSheet  x1 σ (fun (r1 : Bool) (s1 : Sto) => ((r1 = false) → (post ((-2 : Int32)) s1)) ∧ ((r1 = true) → (wX11_in  x2 ((0 : Int32)) ((2 : Int32)) s1 (fun (r10 : Bool) (s10 : Sto) => ((r10 = false) → (post ((-2 : Int32)) s10)) ∧ ((r10 = true) → (((x3 ≤ ((60 : Int32))) → (((0 ≤ x3) → (vp_in x1 4 ∧ (vp_in x1 4 ∧ (vp_in x1 4 ∧ (∃ n59, wX11_sheet_59 post  (fun (x3_1 : Int32) (σ_1 : Sto) => post x3_1 σ_1) n59 x1 x3 ((0 : Int32)) (wI (wI (wI s10 86 x1.toNatClampNeg ((1 : Int32))) 87 x1.toNatClampNeg x2) 88 x1.toNatClampNeg x3)))))) ∧ ((¬ (0 ≤ x3)) → (wX11_meets  ((5 : Int32)) s10 (fun (r31 : Int32) (s31 : Sto) => post r31 s31))))) ∧ ((¬ (x3 ≤ ((60 : Int32)))) → (post ((-2 : Int32)) s10))))))))
set_option maxRecDepth 100000 in
set_option maxHeartbeats 4000000 in
theorem vX11_sheet (E : Ev)  (x1 : Int32) (x2 : Int32) (x3 : Int32) (σ : Sto) (post : Int32 → Sto → Prop)  (h : wX11_sheet  x1 x2 x3 σ post) : V E 2 mX11_sheet (pI post) 0 [(0, .ref 67), (1, .int x1), (2, .int x2), (3, .int x3)] [] σ := by
  unfold wX11_sheet at h
  refine V_iload_n (pc := 0) 1 dX11_sheet_0 rfl ?_
  refine V_callS (pc := 1) (M' := mX11_isSheet) dX11_sheet_1 ml_X11_129 ks_X11_isSheet ko_X11_isSheet (by decide) rfl (Nat.le_of_ble_eq_true rfl) (Nat.le_of_ble_eq_true rfl) (vX11_isSheet E  x1 σ _  h) (kB (fun r1 s1 h => ?_))
  refine V_ifz (pc := 4) (tgt := 22) dX11_sheet_4 (by decide) (fun hc => ?_) (fun hc => ?_)
  · replace h := h.1 hc
    refine V_bipush (pc := 22) (v := -2) dX11_sheet_22 (by decide) ?_
    exact V_iret dX11_sheet_24 rfl h
  · replace h := h.2 hc
    refine V_iload_n (pc := 7) 2 dX11_sheet_7 rfl ?_
    refine V_iconst (pc := 8) (v := 0) dX11_sheet_8 (by decide) ?_
    refine V_iconst (pc := 9) (v := 2) dX11_sheet_9 (by decide) ?_
    refine V_callS (pc := 10) (M' := mX11_in) dX11_sheet_10 ml_X11_104 ks_X11_in ko_X11_in (by decide) rfl (Nat.le_of_ble_eq_true rfl) (Nat.le_of_ble_eq_true rfl) (vX11_in E  x2 ((0 : Int32)) ((2 : Int32)) s1 _  h) (kB (fun r10 s10 h => ?_))
    refine V_ifz (pc := 13) (tgt := 22) dX11_sheet_13 (by decide) (fun hc => ?_) (fun hc => ?_)
    · replace h := h.1 hc
      refine V_bipush (pc := 22) (v := -2) dX11_sheet_22 (by decide) ?_
      exact V_iret dX11_sheet_24 rfl h
    · replace h := h.2 hc
      refine V_iload_n (pc := 16) 3 dX11_sheet_16 rfl ?_
      refine V_bipush (pc := 17) (v := 60) dX11_sheet_17 (by decide) ?_
      refine V_icmp_le (pc := 19) (tgt := 25) dX11_sheet_19 (by decide) (fun hc => ?_) (fun hc => ?_)
      · replace h := h.1 hc
        refine V_iload_n (pc := 25) 3 dX11_sheet_25 rfl ?_
        refine V_if_ge (pc := 26) (tgt := 35) dX11_sheet_26 (by decide) (fun hc => ?_) (fun hc => ?_)
        · replace h := h.1 hc
          refine V_aload_n (pc := 35) 0 dX11_sheet_35 rfl ?_
          refine V_getR (pc := 36) dX11_sheet_36 fl_X11_72 sh_67 rfl ?_
          refine V_iload_n (pc := 39) 1 dX11_sheet_39 rfl ?_
          refine V_iconst (pc := 40) (v := 1) dX11_sheet_40 (by decide) ?_
          obtain ⟨i41, h⟩ := h
          refine V_zast (pc := 41) dX11_sheet_41 sh_86 i41 (by decide) ?_
          refine V_aload_n (pc := 42) 0 dX11_sheet_42 rfl ?_
          refine V_getR (pc := 43) dX11_sheet_43 fl_X11_76 sh_67 rfl ?_
          refine V_iload_n (pc := 46) 1 dX11_sheet_46 rfl ?_
          refine V_iload_n (pc := 47) 2 dX11_sheet_47 rfl ?_
          obtain ⟨i48, h⟩ := h
          refine V_iast (pc := 48) dX11_sheet_48 sh_87 i48 ?_
          refine V_aload_n (pc := 49) 0 dX11_sheet_49 rfl ?_
          refine V_getR (pc := 50) dX11_sheet_50 fl_X11_79 sh_67 rfl ?_
          refine V_iload_n (pc := 53) 1 dX11_sheet_53 rfl ?_
          refine V_iload_n (pc := 54) 3 dX11_sheet_54 rfl ?_
          obtain ⟨i55, h⟩ := h
          refine V_iast (pc := 55) dX11_sheet_55 sh_88 i55 ?_
          refine V_iconst (pc := 56) (v := 0) dX11_sheet_56 (by decide) ?_
          refine V_istore (pc := 57) dX11_sheet_57 (by decide) ?_
          obtain ⟨n59, h⟩ := h
          refine V_loc [1, 2, 4, 0] rfl (vX11_sheet_59 E post   _ (fun x3_1 σ_1 h => ?_) n59 x1 x3 ((0 : Int32)) (wI (wI (wI s10 86 x1.toNatClampNeg ((1 : Int32))) 87 x1.toNatClampNeg x2) 88 x1.toNatClampNeg x3)  h)
          · refine V_iload_n (pc := 85) 0 dX11_sheet_85 rfl ?_
            exact V_iret dX11_sheet_86 rfl h
        · replace h := h.2 hc
          refine V_aload_n (pc := 29) 0 dX11_sheet_29 rfl ?_
          refine V_iconst (pc := 30) (v := 5) dX11_sheet_30 (by decide) ?_
          refine V_callV (pc := 31) (M' := mX11_meets) dX11_sheet_31 ml_X11_132 kv_X11_meets ko_X11_meets sh_67 (by decide) (by decide) rfl rfl (Nat.le_of_ble_eq_true rfl) (Nat.le_of_ble_eq_true rfl) (vX11_meets E  ((5 : Int32)) s10 _  h) (kI (fun r31 s31 h => ?_))
          exact V_iret dX11_sheet_34 rfl h
      · replace h := h.2 hc
        refine V_bipush (pc := 22) (v := -2) dX11_sheet_22 (by decide) ?_
        exact V_iret dX11_sheet_24 rfl h
theorem dX11_lose_0 : decode cX11_lose 0 = .ok (.iload_n 1, 1) := by decide +kernel
theorem dX11_lose_1 : decode cX11_lose 1 = .ok (.invokestatic 129, 3) := by decide +kernel
theorem dX11_lose_4 : decode cX11_lose 4 = .ok (.ifCond .ne 6, 3) := by decide +kernel
theorem dX11_lose_7 : decode cX11_lose 7 = .ok (.bipush (-2), 2) := by decide +kernel
theorem dX11_lose_9 : decode cX11_lose 9 = .ok (.ireturn, 1) := by decide +kernel
theorem dX11_lose_10 : decode cX11_lose 10 = .ok (.aload_n 0, 1) := by decide +kernel
theorem dX11_lose_11 : decode cX11_lose 11 = .ok (.getfield 72, 3) := by decide +kernel
theorem dX11_lose_14 : decode cX11_lose 14 = .ok (.iload_n 1, 1) := by decide +kernel
theorem dX11_lose_15 : decode cX11_lose 15 = .ok (.baload, 1) := by decide +kernel
theorem dX11_lose_16 : decode cX11_lose 16 = .ok (.ifCond .ne 9, 3) := by decide +kernel
theorem dX11_lose_19 : decode cX11_lose 19 = .ok (.aload_n 0, 1) := by decide +kernel
theorem dX11_lose_20 : decode cX11_lose 20 = .ok (.iconst 1, 1) := by decide +kernel
theorem dX11_lose_21 : decode cX11_lose 21 = .ok (.invokevirtual 132, 3) := by decide +kernel
theorem dX11_lose_24 : decode cX11_lose 24 = .ok (.ireturn, 1) := by decide +kernel
theorem dX11_lose_25 : decode cX11_lose 25 = .ok (.aload_n 0, 1) := by decide +kernel
theorem dX11_lose_26 : decode cX11_lose 26 = .ok (.getfield 72, 3) := by decide +kernel
theorem dX11_lose_29 : decode cX11_lose 29 = .ok (.iload_n 1, 1) := by decide +kernel
theorem dX11_lose_30 : decode cX11_lose 30 = .ok (.iconst 0, 1) := by decide +kernel
theorem dX11_lose_31 : decode cX11_lose 31 = .ok (.bastore, 1) := by decide +kernel
theorem dX11_lose_32 : decode cX11_lose 32 = .ok (.aload_n 0, 1) := by decide +kernel
theorem dX11_lose_33 : decode cX11_lose 33 = .ok (.getfield 79, 3) := by decide +kernel
theorem dX11_lose_36 : decode cX11_lose 36 = .ok (.iload_n 1, 1) := by decide +kernel
theorem dX11_lose_37 : decode cX11_lose 37 = .ok (.iaload, 1) := by decide +kernel
theorem dX11_lose_38 : decode cX11_lose 38 = .ok (.ireturn, 1) := by decide +kernel
def wX11_lose  (x1 : Int32) (σ : Sto) (post : Int32 → Sto → Prop) : Prop := wX11_isSheet  x1 σ (fun (r1 : Bool) (s1 : Sto) => ((r1 = true) → (vp_in x1 4 ∧ (((¬ (s1.1 86 x1.toNatClampNeg) = 0) → (vp_in x1 4 ∧ (vp_in x1 4 ∧ (post (s1.1 88 x1.toNatClampNeg) (wI s1 86 x1.toNatClampNeg ((0 : Int32))))))) ∧ (((s1.1 86 x1.toNatClampNeg) = 0) → (wX11_meets  ((1 : Int32)) s1 (fun (r21 : Int32) (s21 : Sto) => post r21 s21)))))) ∧ ((r1 = false) → (post ((-2 : Int32)) s1)))
set_option maxRecDepth 100000 in
set_option maxHeartbeats 4000000 in
theorem vX11_lose (E : Ev)  (x1 : Int32) (σ : Sto) (post : Int32 → Sto → Prop)  (h : wX11_lose  x1 σ post) : V E 2 mX11_lose (pI post) 0 [(0, .ref 67), (1, .int x1)] [] σ := by
  unfold wX11_lose at h
  refine V_iload_n (pc := 0) 1 dX11_lose_0 rfl ?_
  refine V_callS (pc := 1) (M' := mX11_isSheet) dX11_lose_1 ml_X11_129 ks_X11_isSheet ko_X11_isSheet (by decide) rfl (Nat.le_of_ble_eq_true rfl) (Nat.le_of_ble_eq_true rfl) (vX11_isSheet E  x1 σ _  h) (kB (fun r1 s1 h => ?_))
  refine V_ifnz (pc := 4) (tgt := 10) dX11_lose_4 (by decide) (fun hc => ?_) (fun hc => ?_)
  · replace h := h.1 hc
    refine V_aload_n (pc := 10) 0 dX11_lose_10 rfl ?_
    refine V_getR (pc := 11) dX11_lose_11 fl_X11_72 sh_67 rfl ?_
    refine V_iload_n (pc := 14) 1 dX11_lose_14 rfl ?_
    obtain ⟨i15, h⟩ := h
    refine V_zald (pc := 15) dX11_lose_15 sh_86 i15 ?_
    refine V_if_ne (pc := 16) (tgt := 25) dX11_lose_16 (by decide) (fun hc => ?_) (fun hc => ?_)
    · replace h := h.1 hc
      refine V_aload_n (pc := 25) 0 dX11_lose_25 rfl ?_
      refine V_getR (pc := 26) dX11_lose_26 fl_X11_72 sh_67 rfl ?_
      refine V_iload_n (pc := 29) 1 dX11_lose_29 rfl ?_
      refine V_iconst (pc := 30) (v := 0) dX11_lose_30 (by decide) ?_
      obtain ⟨i31, h⟩ := h
      refine V_zast (pc := 31) dX11_lose_31 sh_86 i31 (by decide) ?_
      refine V_aload_n (pc := 32) 0 dX11_lose_32 rfl ?_
      refine V_getR (pc := 33) dX11_lose_33 fl_X11_79 sh_67 rfl ?_
      refine V_iload_n (pc := 36) 1 dX11_lose_36 rfl ?_
      obtain ⟨i37, h⟩ := h
      refine V_iald (pc := 37) dX11_lose_37 sh_88 i37 ?_
      exact V_iret dX11_lose_38 rfl h
    · replace h := h.2 hc
      refine V_aload_n (pc := 19) 0 dX11_lose_19 rfl ?_
      refine V_iconst (pc := 20) (v := 1) dX11_lose_20 (by decide) ?_
      refine V_callV (pc := 21) (M' := mX11_meets) dX11_lose_21 ml_X11_132 kv_X11_meets ko_X11_meets sh_67 (by decide) (by decide) rfl rfl (Nat.le_of_ble_eq_true rfl) (Nat.le_of_ble_eq_true rfl) (vX11_meets E  ((1 : Int32)) s1 _  h) (kI (fun r21 s21 h => ?_))
      exact V_iret dX11_lose_24 rfl h
  · replace h := h.2 hc
    refine V_bipush (pc := 7) (v := -2) dX11_lose_7 (by decide) ?_
    exact V_iret dX11_lose_9 rfl h
theorem dX11_lacks_0 : decode cX11_lacks 0 = .ok (.aload_n 0, 1) := by decide +kernel
theorem dX11_lacks_1 : decode cX11_lacks 1 = .ok (.getfield 72, 3) := by decide +kernel
theorem dX11_lacks_4 : decode cX11_lacks 4 = .ok (.iload_n 1, 1) := by decide +kernel
theorem dX11_lacks_5 : decode cX11_lacks 5 = .ok (.baload, 1) := by decide +kernel
theorem dX11_lacks_6 : decode cX11_lacks 6 = .ok (.ifCond .ne 7, 3) := by decide +kernel
theorem dX11_lacks_9 : decode cX11_lacks 9 = .ok (.iconst 1, 1) := by decide +kernel
theorem dX11_lacks_10 : decode cX11_lacks 10 = .ok (.goto 38, 3) := by decide +kernel
theorem dX11_lacks_13 : decode cX11_lacks 13 = .ok (.aload_n 0, 1) := by decide +kernel
theorem dX11_lacks_14 : decode cX11_lacks 14 = .ok (.getfield 76, 3) := by decide +kernel
theorem dX11_lacks_17 : decode cX11_lacks 17 = .ok (.iload_n 1, 1) := by decide +kernel
theorem dX11_lacks_18 : decode cX11_lacks 18 = .ok (.iaload, 1) := by decide +kernel
theorem dX11_lacks_19 : decode cX11_lacks 19 = .ok (.iload_n 2, 1) := by decide +kernel
theorem dX11_lacks_20 : decode cX11_lacks 20 = .ok (.if_icmp .eq 7, 3) := by decide +kernel
theorem dX11_lacks_23 : decode cX11_lacks 23 = .ok (.iconst 3, 1) := by decide +kernel
theorem dX11_lacks_24 : decode cX11_lacks 24 = .ok (.goto 24, 3) := by decide +kernel
theorem dX11_lacks_27 : decode cX11_lacks 27 = .ok (.iload_n 3, 1) := by decide +kernel
theorem dX11_lacks_28 : decode cX11_lacks 28 = .ok (.iconst 0, 1) := by decide +kernel
theorem dX11_lacks_29 : decode cX11_lacks 29 = .ok (.aload_n 0, 1) := by decide +kernel
theorem dX11_lacks_30 : decode cX11_lacks 30 = .ok (.getfield 79, 3) := by decide +kernel
theorem dX11_lacks_33 : decode cX11_lacks 33 = .ok (.iload_n 1, 1) := by decide +kernel
theorem dX11_lacks_34 : decode cX11_lacks 34 = .ok (.iaload, 1) := by decide +kernel
theorem dX11_lacks_35 : decode cX11_lacks 35 = .ok (.iconst 1, 1) := by decide +kernel
theorem dX11_lacks_36 : decode cX11_lacks 36 = .ok (.isub, 1) := by decide +kernel
theorem dX11_lacks_37 : decode cX11_lacks 37 = .ok (.invokestatic 104, 3) := by decide +kernel
theorem dX11_lacks_40 : decode cX11_lacks 40 = .ok (.ifCond .eq 7, 3) := by decide +kernel
theorem dX11_lacks_43 : decode cX11_lacks 43 = .ok (.iconst 0, 1) := by decide +kernel
theorem dX11_lacks_44 : decode cX11_lacks 44 = .ok (.goto 4, 3) := by decide +kernel
theorem dX11_lacks_47 : decode cX11_lacks 47 = .ok (.iconst 2, 1) := by decide +kernel
theorem dX11_lacks_48 : decode cX11_lacks 48 = .ok (.ireturn, 1) := by decide +kernel
def wX11_lacks  (x1 : Int32) (x2 : Int32) (x3 : Int32) (σ : Sto) (post : Int32 → Sto → Prop) : Prop := vp_in x1 4 ∧ (((¬ (σ.1 86 x1.toNatClampNeg) = 0) → (vp_in x1 4 ∧ ((((σ.1 87 x1.toNatClampNeg) = x2) → (vp_in x1 4 ∧ (wX11_in  x3 ((0 : Int32)) ((σ.1 88 x1.toNatClampNeg) - ((1 : Int32))) σ (fun (r37 : Bool) (s37 : Sto) => ((r37 = false) → (post ((2 : Int32)) s37)) ∧ ((r37 = true) → (post ((0 : Int32)) s37)))))) ∧ ((¬ ((σ.1 87 x1.toNatClampNeg) = x2)) → (post ((3 : Int32)) σ))))) ∧ (((σ.1 86 x1.toNatClampNeg) = 0) → (post ((1 : Int32)) σ)))
set_option maxRecDepth 100000 in
set_option maxHeartbeats 4000000 in
theorem vX11_lacks (E : Ev)  (x1 : Int32) (x2 : Int32) (x3 : Int32) (σ : Sto) (post : Int32 → Sto → Prop)  (h : wX11_lacks  x1 x2 x3 σ post) : V E 1 mX11_lacks (pI post) 0 [(0, .ref 67), (1, .int x1), (2, .int x2), (3, .int x3)] [] σ := by
  unfold wX11_lacks at h
  refine V_aload_n (pc := 0) 0 dX11_lacks_0 rfl ?_
  refine V_getR (pc := 1) dX11_lacks_1 fl_X11_72 sh_67 rfl ?_
  refine V_iload_n (pc := 4) 1 dX11_lacks_4 rfl ?_
  obtain ⟨i5, h⟩ := h
  refine V_zald (pc := 5) dX11_lacks_5 sh_86 i5 ?_
  refine V_if_ne (pc := 6) (tgt := 13) dX11_lacks_6 (by decide) (fun hc => ?_) (fun hc => ?_)
  · replace h := h.1 hc
    refine V_aload_n (pc := 13) 0 dX11_lacks_13 rfl ?_
    refine V_getR (pc := 14) dX11_lacks_14 fl_X11_76 sh_67 rfl ?_
    refine V_iload_n (pc := 17) 1 dX11_lacks_17 rfl ?_
    obtain ⟨i18, h⟩ := h
    refine V_iald (pc := 18) dX11_lacks_18 sh_87 i18 ?_
    refine V_iload_n (pc := 19) 2 dX11_lacks_19 rfl ?_
    refine V_icmp_eq (pc := 20) (tgt := 27) dX11_lacks_20 (by decide) (fun hc => ?_) (fun hc => ?_)
    · replace h := h.1 hc
      refine V_iload_n (pc := 27) 3 dX11_lacks_27 rfl ?_
      refine V_iconst (pc := 28) (v := 0) dX11_lacks_28 (by decide) ?_
      refine V_aload_n (pc := 29) 0 dX11_lacks_29 rfl ?_
      refine V_getR (pc := 30) dX11_lacks_30 fl_X11_79 sh_67 rfl ?_
      refine V_iload_n (pc := 33) 1 dX11_lacks_33 rfl ?_
      obtain ⟨i34, h⟩ := h
      refine V_iald (pc := 34) dX11_lacks_34 sh_88 i34 ?_
      refine V_iconst (pc := 35) (v := 1) dX11_lacks_35 (by decide) ?_
      refine V_isub (pc := 36) dX11_lacks_36 ?_
      refine V_callS (pc := 37) (M' := mX11_in) dX11_lacks_37 ml_X11_104 ks_X11_in ko_X11_in (by decide) rfl (Nat.le_of_ble_eq_true rfl) (Nat.le_of_ble_eq_true rfl) (vX11_in E  x3 ((0 : Int32)) ((σ.1 88 x1.toNatClampNeg) - ((1 : Int32))) σ _  h) (kB (fun r37 s37 h => ?_))
      refine V_ifz (pc := 40) (tgt := 47) dX11_lacks_40 (by decide) (fun hc => ?_) (fun hc => ?_)
      · replace h := h.1 hc
        refine V_iconst (pc := 47) (v := 2) dX11_lacks_47 (by decide) ?_
        exact V_iret dX11_lacks_48 rfl h
      · replace h := h.2 hc
        refine V_iconst (pc := 43) (v := 0) dX11_lacks_43 (by decide) ?_
        refine V_goto (pc := 44) (tgt := 48) dX11_lacks_44 (by decide) ?_
        exact V_iret dX11_lacks_48 rfl h
    · replace h := h.2 hc
      refine V_iconst (pc := 23) (v := 3) dX11_lacks_23 (by decide) ?_
      refine V_goto (pc := 24) (tgt := 48) dX11_lacks_24 (by decide) ?_
      exact V_iret dX11_lacks_48 rfl h
  · replace h := h.2 hc
    refine V_iconst (pc := 9) (v := 1) dX11_lacks_9 (by decide) ?_
    refine V_goto (pc := 10) (tgt := 48) dX11_lacks_10 (by decide) ?_
    exact V_iret dX11_lacks_48 rfl h
theorem dX11_lay_0 : decode cX11_lay 0 = .ok (.aload_n 0, 1) := by decide +kernel
theorem dX11_lay_1 : decode cX11_lay 1 = .ok (.getfield 82, 3) := by decide +kernel
theorem dX11_lay_4 : decode cX11_lay 4 = .ok (.bipush 60, 2) := by decide +kernel
theorem dX11_lay_6 : decode cX11_lay 6 = .ok (.iload_n 1, 1) := by decide +kernel
theorem dX11_lay_7 : decode cX11_lay 7 = .ok (.imul, 1) := by decide +kernel
theorem dX11_lay_8 : decode cX11_lay 8 = .ok (.iload_n 2, 1) := by decide +kernel
theorem dX11_lay_9 : decode cX11_lay 9 = .ok (.iadd, 1) := by decide +kernel
theorem dX11_lay_10 : decode cX11_lay 10 = .ok (.aload_n 0, 1) := by decide +kernel
theorem dX11_lay_11 : decode cX11_lay 11 = .ok (.getfield 76, 3) := by decide +kernel
theorem dX11_lay_14 : decode cX11_lay 14 = .ok (.iload_n 1, 1) := by decide +kernel
theorem dX11_lay_15 : decode cX11_lay 15 = .ok (.iaload, 1) := by decide +kernel
theorem dX11_lay_16 : decode cX11_lay 16 = .ok (.ifCond .ne 8, 3) := by decide +kernel
theorem dX11_lay_19 : decode cX11_lay 19 = .ok (.iload_n 3, 1) := by decide +kernel
theorem dX11_lay_20 : decode cX11_lay 20 = .ok (.i2b, 1) := by decide +kernel
theorem dX11_lay_21 : decode cX11_lay 21 = .ok (.goto 19, 3) := by decide +kernel
theorem dX11_lay_24 : decode cX11_lay 24 = .ok (.aload_n 0, 1) := by decide +kernel
theorem dX11_lay_25 : decode cX11_lay 25 = .ok (.getfield 76, 3) := by decide +kernel
theorem dX11_lay_28 : decode cX11_lay 28 = .ok (.iload_n 1, 1) := by decide +kernel
theorem dX11_lay_29 : decode cX11_lay 29 = .ok (.iaload, 1) := by decide +kernel
theorem dX11_lay_30 : decode cX11_lay 30 = .ok (.iconst 1, 1) := by decide +kernel
theorem dX11_lay_31 : decode cX11_lay 31 = .ok (.if_icmp .ne 8, 3) := by decide +kernel
theorem dX11_lay_34 : decode cX11_lay 34 = .ok (.iload_n 3, 1) := by decide +kernel
theorem dX11_lay_35 : decode cX11_lay 35 = .ok (.i2s, 1) := by decide +kernel
theorem dX11_lay_36 : decode cX11_lay 36 = .ok (.goto 4, 3) := by decide +kernel
theorem dX11_lay_39 : decode cX11_lay 39 = .ok (.iload_n 3, 1) := by decide +kernel
theorem dX11_lay_40 : decode cX11_lay 40 = .ok (.iastore, 1) := by decide +kernel
theorem dX11_lay_41 : decode cX11_lay 41 = .ok (.return_, 1) := by decide +kernel
def wX11_lay  (x1 : Int32) (x2 : Int32) (x3 : Int32) (σ : Sto) (post : Sto → Prop) : Prop := vp_in x1 4 ∧ (((¬ (σ.1 87 x1.toNatClampNeg) = 0) → (vp_in x1 4 ∧ (((¬ (σ.1 87 x1.toNatClampNeg) = ((1 : Int32))) → (vp_in ((((60 : Int32)) * x1) + x2) 240 ∧ (post (wI σ 89 ((((60 : Int32)) * x1) + x2).toNatClampNeg x3)))) ∧ (((σ.1 87 x1.toNatClampNeg) = ((1 : Int32))) → (vp_in ((((60 : Int32)) * x1) + x2) 240 ∧ (post (wI σ 89 ((((60 : Int32)) * x1) + x2).toNatClampNeg x3.toInt16.toInt32))))))) ∧ (((σ.1 87 x1.toNatClampNeg) = 0) → (vp_in ((((60 : Int32)) * x1) + x2) 240 ∧ (post (wI σ 89 ((((60 : Int32)) * x1) + x2).toNatClampNeg x3.toInt8.toInt32)))))
set_option maxRecDepth 100000 in
set_option maxHeartbeats 4000000 in
theorem vX11_lay (E : Ev)  (x1 : Int32) (x2 : Int32) (x3 : Int32) (σ : Sto) (post : Sto → Prop)  (h : wX11_lay  x1 x2 x3 σ post) : V E 0 mX11_lay (pV post) 0 [(0, .ref 67), (1, .int x1), (2, .int x2), (3, .int x3)] [] σ := by
  unfold wX11_lay at h
  refine V_aload_n (pc := 0) 0 dX11_lay_0 rfl ?_
  refine V_getR (pc := 1) dX11_lay_1 fl_X11_82 sh_67 rfl ?_
  refine V_bipush (pc := 4) (v := 60) dX11_lay_4 (by decide) ?_
  refine V_iload_n (pc := 6) 1 dX11_lay_6 rfl ?_
  refine V_imul (pc := 7) dX11_lay_7 ?_
  refine V_iload_n (pc := 8) 2 dX11_lay_8 rfl ?_
  refine V_iadd (pc := 9) dX11_lay_9 ?_
  refine V_aload_n (pc := 10) 0 dX11_lay_10 rfl ?_
  refine V_getR (pc := 11) dX11_lay_11 fl_X11_76 sh_67 rfl ?_
  refine V_iload_n (pc := 14) 1 dX11_lay_14 rfl ?_
  obtain ⟨i15, h⟩ := h
  refine V_iald (pc := 15) dX11_lay_15 sh_87 i15 ?_
  refine V_if_ne (pc := 16) (tgt := 24) dX11_lay_16 (by decide) (fun hc => ?_) (fun hc => ?_)
  · replace h := h.1 hc
    refine V_aload_n (pc := 24) 0 dX11_lay_24 rfl ?_
    refine V_getR (pc := 25) dX11_lay_25 fl_X11_76 sh_67 rfl ?_
    refine V_iload_n (pc := 28) 1 dX11_lay_28 rfl ?_
    obtain ⟨i29, h⟩ := h
    refine V_iald (pc := 29) dX11_lay_29 sh_87 i29 ?_
    refine V_iconst (pc := 30) (v := 1) dX11_lay_30 (by decide) ?_
    refine V_icmp_ne (pc := 31) (tgt := 39) dX11_lay_31 (by decide) (fun hc => ?_) (fun hc => ?_)
    · replace h := h.1 hc
      refine V_iload_n (pc := 39) 3 dX11_lay_39 rfl ?_
      obtain ⟨i40, h⟩ := h
      refine V_iast (pc := 40) dX11_lay_40 sh_89 i40 ?_
      exact V_vret dX11_lay_41 rfl h
    · replace h := h.2 hc
      refine V_iload_n (pc := 34) 3 dX11_lay_34 rfl ?_
      refine V_i2s (pc := 35) dX11_lay_35 ?_
      refine V_goto (pc := 36) (tgt := 40) dX11_lay_36 (by decide) ?_
      obtain ⟨i40, h⟩ := h
      refine V_iast (pc := 40) dX11_lay_40 sh_89 i40 ?_
      exact V_vret dX11_lay_41 rfl h
  · replace h := h.2 hc
    refine V_iload_n (pc := 19) 3 dX11_lay_19 rfl ?_
    refine V_i2b (pc := 20) dX11_lay_20 ?_
    refine V_goto (pc := 21) (tgt := 40) dX11_lay_21 (by decide) ?_
    obtain ⟨i40, h⟩ := h
    refine V_iast (pc := 40) dX11_lay_40 sh_89 i40 ?_
    exact V_vret dX11_lay_41 rfl h
theorem dX11_put_0 : decode cX11_put 0 = .ok (.iload_n 1, 1) := by decide +kernel
theorem dX11_put_1 : decode cX11_put 1 = .ok (.invokestatic 129, 3) := by decide +kernel
theorem dX11_put_4 : decode cX11_put 4 = .ok (.ifCond .eq 12, 3) := by decide +kernel
theorem dX11_put_7 : decode cX11_put 7 = .ok (.iload_n 2, 1) := by decide +kernel
theorem dX11_put_8 : decode cX11_put 8 = .ok (.iconst 0, 1) := by decide +kernel
theorem dX11_put_9 : decode cX11_put 9 = .ok (.iconst 2, 1) := by decide +kernel
theorem dX11_put_10 : decode cX11_put 10 = .ok (.invokestatic 104, 3) := by decide +kernel
theorem dX11_put_13 : decode cX11_put 13 = .ok (.ifCond .ne 6, 3) := by decide +kernel
theorem dX11_put_16 : decode cX11_put 16 = .ok (.bipush (-2), 2) := by decide +kernel
theorem dX11_put_18 : decode cX11_put 18 = .ok (.ireturn, 1) := by decide +kernel
theorem dX11_put_19 : decode cX11_put 19 = .ok (.aload_n 0, 1) := by decide +kernel
theorem dX11_put_20 : decode cX11_put 20 = .ok (.iload_n 1, 1) := by decide +kernel
theorem dX11_put_21 : decode cX11_put 21 = .ok (.iload_n 2, 1) := by decide +kernel
theorem dX11_put_22 : decode cX11_put 22 = .ok (.iload_n 3, 1) := by decide +kernel
theorem dX11_put_23 : decode cX11_put 23 = .ok (.invokevirtual 345, 3) := by decide +kernel
theorem dX11_put_26 : decode cX11_put 26 = .ok (.istore 5, 2) := by decide +kernel
theorem dX11_put_28 : decode cX11_put 28 = .ok (.iload 5, 2) := by decide +kernel
theorem dX11_put_30 : decode cX11_put 30 = .ok (.ifCond .le 10, 3) := by decide +kernel
theorem dX11_put_33 : decode cX11_put 33 = .ok (.aload_n 0, 1) := by decide +kernel
theorem dX11_put_34 : decode cX11_put 34 = .ok (.iload 5, 2) := by decide +kernel
theorem dX11_put_36 : decode cX11_put 36 = .ok (.invokevirtual 132, 3) := by decide +kernel
theorem dX11_put_39 : decode cX11_put 39 = .ok (.ireturn, 1) := by decide +kernel
theorem dX11_put_40 : decode cX11_put 40 = .ok (.aload_n 0, 1) := by decide +kernel
theorem dX11_put_41 : decode cX11_put 41 = .ok (.iload_n 1, 1) := by decide +kernel
theorem dX11_put_42 : decode cX11_put 42 = .ok (.iload_n 3, 1) := by decide +kernel
theorem dX11_put_43 : decode cX11_put 43 = .ok (.iload 4, 2) := by decide +kernel
theorem dX11_put_45 : decode cX11_put 45 = .ok (.invokevirtual 349, 3) := by decide +kernel
theorem dX11_put_48 : decode cX11_put 48 = .ok (.iconst 1, 1) := by decide +kernel
theorem dX11_put_49 : decode cX11_put 49 = .ok (.ireturn, 1) := by decide +kernel
def wX11_put  (x1 : Int32) (x2 : Int32) (x3 : Int32) (x4 : Int32) (σ : Sto) (post : Int32 → Sto → Prop) : Prop := wX11_isSheet  x1 σ (fun (r1 : Bool) (s1 : Sto) => ((r1 = false) → (post ((-2 : Int32)) s1)) ∧ ((r1 = true) → (wX11_in  x2 ((0 : Int32)) ((2 : Int32)) s1 (fun (r10 : Bool) (s10 : Sto) => ((r10 = true) → (wX11_lacks  x1 x2 x3 s10 (fun (r23 : Int32) (s23 : Sto) => ((r23 ≤ 0) → (wX11_lay  x1 x3 x4 s23 (fun (s45 : Sto) => post ((1 : Int32)) s45))) ∧ ((¬ (r23 ≤ 0)) → (wX11_meets  r23 s23 (fun (r36 : Int32) (s36 : Sto) => post r36 s36)))))) ∧ ((r10 = false) → (post ((-2 : Int32)) s10))))))
set_option maxRecDepth 100000 in
set_option maxHeartbeats 4000000 in
theorem vX11_put (E : Ev)  (x1 : Int32) (x2 : Int32) (x3 : Int32) (x4 : Int32) (σ : Sto) (post : Int32 → Sto → Prop)  (h : wX11_put  x1 x2 x3 x4 σ post) : V E 2 mX11_put (pI post) 0 [(0, .ref 67), (1, .int x1), (2, .int x2), (3, .int x3), (4, .int x4)] [] σ := by
  unfold wX11_put at h
  refine V_iload_n (pc := 0) 1 dX11_put_0 rfl ?_
  refine V_callS (pc := 1) (M' := mX11_isSheet) dX11_put_1 ml_X11_129 ks_X11_isSheet ko_X11_isSheet (by decide) rfl (Nat.le_of_ble_eq_true rfl) (Nat.le_of_ble_eq_true rfl) (vX11_isSheet E  x1 σ _  h) (kB (fun r1 s1 h => ?_))
  refine V_ifz (pc := 4) (tgt := 16) dX11_put_4 (by decide) (fun hc => ?_) (fun hc => ?_)
  · replace h := h.1 hc
    refine V_bipush (pc := 16) (v := -2) dX11_put_16 (by decide) ?_
    exact V_iret dX11_put_18 rfl h
  · replace h := h.2 hc
    refine V_iload_n (pc := 7) 2 dX11_put_7 rfl ?_
    refine V_iconst (pc := 8) (v := 0) dX11_put_8 (by decide) ?_
    refine V_iconst (pc := 9) (v := 2) dX11_put_9 (by decide) ?_
    refine V_callS (pc := 10) (M' := mX11_in) dX11_put_10 ml_X11_104 ks_X11_in ko_X11_in (by decide) rfl (Nat.le_of_ble_eq_true rfl) (Nat.le_of_ble_eq_true rfl) (vX11_in E  x2 ((0 : Int32)) ((2 : Int32)) s1 _  h) (kB (fun r10 s10 h => ?_))
    refine V_ifnz (pc := 13) (tgt := 19) dX11_put_13 (by decide) (fun hc => ?_) (fun hc => ?_)
    · replace h := h.1 hc
      refine V_aload_n (pc := 19) 0 dX11_put_19 rfl ?_
      refine V_iload_n (pc := 20) 1 dX11_put_20 rfl ?_
      refine V_iload_n (pc := 21) 2 dX11_put_21 rfl ?_
      refine V_iload_n (pc := 22) 3 dX11_put_22 rfl ?_
      refine V_callV (pc := 23) (M' := mX11_lacks) dX11_put_23 ml_X11_345 kv_X11_lacks ko_X11_lacks sh_67 (by decide) (by decide) rfl rfl (Nat.le_of_ble_eq_true rfl) (Nat.le_of_ble_eq_true rfl) (vX11_lacks E  x1 x2 x3 s10 _  h) (kI (fun r23 s23 h => ?_))
      refine V_istore (pc := 26) dX11_put_26 (by decide) ?_
      refine V_iload (pc := 28) 0 dX11_put_28 rfl ?_
      refine V_if_le (pc := 30) (tgt := 40) dX11_put_30 (by decide) (fun hc => ?_) (fun hc => ?_)
      · replace h := h.1 hc
        refine V_aload_n (pc := 40) 1 dX11_put_40 rfl ?_
        refine V_iload_n (pc := 41) 2 dX11_put_41 rfl ?_
        refine V_iload_n (pc := 42) 4 dX11_put_42 rfl ?_
        refine V_iload (pc := 43) 5 dX11_put_43 rfl ?_
        refine V_callV (pc := 45) (M' := mX11_lay) dX11_put_45 ml_X11_349 kv_X11_lay ko_X11_lay sh_67 (by decide) (by decide) rfl rfl (Nat.le_of_ble_eq_true rfl) (Nat.le_of_ble_eq_true rfl) (vX11_lay E  x1 x3 x4 s23 _  h) (kV (fun s45 h => ?_))
        refine V_iconst (pc := 48) (v := 1) dX11_put_48 (by decide) ?_
        exact V_iret dX11_put_49 rfl h
      · replace h := h.2 hc
        refine V_aload_n (pc := 33) 1 dX11_put_33 rfl ?_
        refine V_iload (pc := 34) 0 dX11_put_34 rfl ?_
        refine V_callV (pc := 36) (M' := mX11_meets) dX11_put_36 ml_X11_132 kv_X11_meets ko_X11_meets sh_67 (by decide) (by decide) rfl rfl (Nat.le_of_ble_eq_true rfl) (Nat.le_of_ble_eq_true rfl) (vX11_meets E  r23 s23 _  h) (kI (fun r36 s36 h => ?_))
        exact V_iret dX11_put_39 rfl h
    · replace h := h.2 hc
      refine V_bipush (pc := 16) (v := -2) dX11_put_16 (by decide) ?_
      exact V_iret dX11_put_18 rfl h
theorem dX11_get_0 : decode cX11_get 0 = .ok (.iload_n 1, 1) := by decide +kernel
theorem dX11_get_1 : decode cX11_get 1 = .ok (.invokestatic 129, 3) := by decide +kernel
theorem dX11_get_4 : decode cX11_get 4 = .ok (.ifCond .eq 12, 3) := by decide +kernel
theorem dX11_get_7 : decode cX11_get 7 = .ok (.iload_n 2, 1) := by decide +kernel
theorem dX11_get_8 : decode cX11_get 8 = .ok (.iconst 0, 1) := by decide +kernel
theorem dX11_get_9 : decode cX11_get 9 = .ok (.iconst 2, 1) := by decide +kernel
theorem dX11_get_10 : decode cX11_get 10 = .ok (.invokestatic 104, 3) := by decide +kernel
theorem dX11_get_13 : decode cX11_get 13 = .ok (.ifCond .ne 6, 3) := by decide +kernel
theorem dX11_get_16 : decode cX11_get 16 = .ok (.ldc 156, 2) := by decide +kernel
theorem dX11_get_18 : decode cX11_get 18 = .ok (.ireturn, 1) := by decide +kernel
theorem dX11_get_19 : decode cX11_get 19 = .ok (.aload_n 0, 1) := by decide +kernel
theorem dX11_get_20 : decode cX11_get 20 = .ok (.iload_n 1, 1) := by decide +kernel
theorem dX11_get_21 : decode cX11_get 21 = .ok (.iload_n 2, 1) := by decide +kernel
theorem dX11_get_22 : decode cX11_get 22 = .ok (.iload_n 3, 1) := by decide +kernel
theorem dX11_get_23 : decode cX11_get 23 = .ok (.invokevirtual 345, 3) := by decide +kernel
theorem dX11_get_26 : decode cX11_get 26 = .ok (.istore 4, 2) := by decide +kernel
theorem dX11_get_28 : decode cX11_get 28 = .ok (.iload 4, 2) := by decide +kernel
theorem dX11_get_30 : decode cX11_get 30 = .ok (.ifCond .le 12, 3) := by decide +kernel
theorem dX11_get_33 : decode cX11_get 33 = .ok (.aload_n 0, 1) := by decide +kernel
theorem dX11_get_34 : decode cX11_get 34 = .ok (.iload 4, 2) := by decide +kernel
theorem dX11_get_36 : decode cX11_get 36 = .ok (.putfield 342, 3) := by decide +kernel
theorem dX11_get_39 : decode cX11_get 39 = .ok (.ldc 156, 2) := by decide +kernel
theorem dX11_get_41 : decode cX11_get 41 = .ok (.ireturn, 1) := by decide +kernel
theorem dX11_get_42 : decode cX11_get 42 = .ok (.aload_n 0, 1) := by decide +kernel
theorem dX11_get_43 : decode cX11_get 43 = .ok (.getfield 82, 3) := by decide +kernel
theorem dX11_get_46 : decode cX11_get 46 = .ok (.bipush 60, 2) := by decide +kernel
theorem dX11_get_48 : decode cX11_get 48 = .ok (.iload_n 1, 1) := by decide +kernel
theorem dX11_get_49 : decode cX11_get 49 = .ok (.imul, 1) := by decide +kernel
theorem dX11_get_50 : decode cX11_get 50 = .ok (.iload_n 3, 1) := by decide +kernel
theorem dX11_get_51 : decode cX11_get 51 = .ok (.iadd, 1) := by decide +kernel
theorem dX11_get_52 : decode cX11_get 52 = .ok (.iaload, 1) := by decide +kernel
theorem dX11_get_53 : decode cX11_get 53 = .ok (.ireturn, 1) := by decide +kernel
def wX11_get  (x1 : Int32) (x2 : Int32) (x3 : Int32) (σ : Sto) (post : Int32 → Sto → Prop) : Prop := wX11_isSheet  x1 σ (fun (r1 : Bool) (s1 : Sto) => ((r1 = false) → (post ((-2147483648 : Int32)) s1)) ∧ ((r1 = true) → (wX11_in  x2 ((0 : Int32)) ((2 : Int32)) s1 (fun (r10 : Bool) (s10 : Sto) => ((r10 = true) → (wX11_lacks  x1 x2 x3 s10 (fun (r23 : Int32) (s23 : Sto) => ((r23 ≤ 0) → (vp_in ((((60 : Int32)) * x1) + x3) 240 ∧ (post (s23.1 89 ((((60 : Int32)) * x1) + x3).toNatClampNeg) s23))) ∧ ((¬ (r23 ≤ 0)) → (post ((-2147483648 : Int32)) (wI s23 67 41 r23)))))) ∧ ((r10 = false) → (post ((-2147483648 : Int32)) s10))))))
set_option maxRecDepth 100000 in
set_option maxHeartbeats 4000000 in
theorem vX11_get (E : Ev)  (x1 : Int32) (x2 : Int32) (x3 : Int32) (σ : Sto) (post : Int32 → Sto → Prop)  (h : wX11_get  x1 x2 x3 σ post) : V E 2 mX11_get (pI post) 0 [(0, .ref 67), (1, .int x1), (2, .int x2), (3, .int x3)] [] σ := by
  unfold wX11_get at h
  refine V_iload_n (pc := 0) 1 dX11_get_0 rfl ?_
  refine V_callS (pc := 1) (M' := mX11_isSheet) dX11_get_1 ml_X11_129 ks_X11_isSheet ko_X11_isSheet (by decide) rfl (Nat.le_of_ble_eq_true rfl) (Nat.le_of_ble_eq_true rfl) (vX11_isSheet E  x1 σ _  h) (kB (fun r1 s1 h => ?_))
  refine V_ifz (pc := 4) (tgt := 16) dX11_get_4 (by decide) (fun hc => ?_) (fun hc => ?_)
  · replace h := h.1 hc
    refine V_ldc (pc := 16) dX11_get_16 ci_X11_156 ?_
    exact V_iret dX11_get_18 rfl h
  · replace h := h.2 hc
    refine V_iload_n (pc := 7) 2 dX11_get_7 rfl ?_
    refine V_iconst (pc := 8) (v := 0) dX11_get_8 (by decide) ?_
    refine V_iconst (pc := 9) (v := 2) dX11_get_9 (by decide) ?_
    refine V_callS (pc := 10) (M' := mX11_in) dX11_get_10 ml_X11_104 ks_X11_in ko_X11_in (by decide) rfl (Nat.le_of_ble_eq_true rfl) (Nat.le_of_ble_eq_true rfl) (vX11_in E  x2 ((0 : Int32)) ((2 : Int32)) s1 _  h) (kB (fun r10 s10 h => ?_))
    refine V_ifnz (pc := 13) (tgt := 19) dX11_get_13 (by decide) (fun hc => ?_) (fun hc => ?_)
    · replace h := h.1 hc
      refine V_aload_n (pc := 19) 0 dX11_get_19 rfl ?_
      refine V_iload_n (pc := 20) 1 dX11_get_20 rfl ?_
      refine V_iload_n (pc := 21) 2 dX11_get_21 rfl ?_
      refine V_iload_n (pc := 22) 3 dX11_get_22 rfl ?_
      refine V_callV (pc := 23) (M' := mX11_lacks) dX11_get_23 ml_X11_345 kv_X11_lacks ko_X11_lacks sh_67 (by decide) (by decide) rfl rfl (Nat.le_of_ble_eq_true rfl) (Nat.le_of_ble_eq_true rfl) (vX11_lacks E  x1 x2 x3 s10 _  h) (kI (fun r23 s23 h => ?_))
      refine V_istore (pc := 26) dX11_get_26 (by decide) ?_
      refine V_iload (pc := 28) 0 dX11_get_28 rfl ?_
      refine V_if_le (pc := 30) (tgt := 42) dX11_get_30 (by decide) (fun hc => ?_) (fun hc => ?_)
      · replace h := h.1 hc
        refine V_aload_n (pc := 42) 1 dX11_get_42 rfl ?_
        refine V_getR (pc := 43) dX11_get_43 fl_X11_82 sh_67 rfl ?_
        refine V_bipush (pc := 46) (v := 60) dX11_get_46 (by decide) ?_
        refine V_iload_n (pc := 48) 2 dX11_get_48 rfl ?_
        refine V_imul (pc := 49) dX11_get_49 ?_
        refine V_iload_n (pc := 50) 4 dX11_get_50 rfl ?_
        refine V_iadd (pc := 51) dX11_get_51 ?_
        obtain ⟨i52, h⟩ := h
        refine V_iald (pc := 52) dX11_get_52 sh_89 i52 ?_
        exact V_iret dX11_get_53 rfl h
      · replace h := h.2 hc
        refine V_aload_n (pc := 33) 1 dX11_get_33 rfl ?_
        refine V_iload (pc := 34) 0 dX11_get_34 rfl ?_
        refine V_putI (pc := 36) dX11_get_36 fl_X11_342 po_X11_41 sh_67 rfl rfl rfl ?_
        refine V_ldc (pc := 39) dX11_get_39 ci_X11_156 ?_
        exact V_iret dX11_get_41 rfl h
    · replace h := h.2 hc
      refine V_ldc (pc := 16) dX11_get_16 ci_X11_156 ?_
      exact V_iret dX11_get_18 rfl h
theorem dX11_copy_0 : decode cX11_copy 0 = .ok (.iload_n 1, 1) := by decide +kernel
theorem dX11_copy_1 : decode cX11_copy 1 = .ok (.invokestatic 129, 3) := by decide +kernel
theorem dX11_copy_4 : decode cX11_copy 4 = .ok (.ifCond .eq 10, 3) := by decide +kernel
theorem dX11_copy_7 : decode cX11_copy 7 = .ok (.iload_n 3, 1) := by decide +kernel
theorem dX11_copy_8 : decode cX11_copy 8 = .ok (.invokestatic 129, 3) := by decide +kernel
theorem dX11_copy_11 : decode cX11_copy 11 = .ok (.ifCond .ne 6, 3) := by decide +kernel
theorem dX11_copy_14 : decode cX11_copy 14 = .ok (.bipush (-2), 2) := by decide +kernel
theorem dX11_copy_16 : decode cX11_copy 16 = .ok (.ireturn, 1) := by decide +kernel
theorem dX11_copy_17 : decode cX11_copy 17 = .ok (.aload_n 0, 1) := by decide +kernel
theorem dX11_copy_18 : decode cX11_copy 18 = .ok (.getfield 72, 3) := by decide +kernel
theorem dX11_copy_21 : decode cX11_copy 21 = .ok (.iload_n 1, 1) := by decide +kernel
theorem dX11_copy_22 : decode cX11_copy 22 = .ok (.baload, 1) := by decide +kernel
theorem dX11_copy_23 : decode cX11_copy 23 = .ok (.ifCond .eq 12, 3) := by decide +kernel
theorem dX11_copy_26 : decode cX11_copy 26 = .ok (.aload_n 0, 1) := by decide +kernel
theorem dX11_copy_27 : decode cX11_copy 27 = .ok (.getfield 72, 3) := by decide +kernel
theorem dX11_copy_30 : decode cX11_copy 30 = .ok (.iload_n 3, 1) := by decide +kernel
theorem dX11_copy_31 : decode cX11_copy 31 = .ok (.baload, 1) := by decide +kernel
theorem dX11_copy_32 : decode cX11_copy 32 = .ok (.ifCond .ne 9, 3) := by decide +kernel
theorem dX11_copy_35 : decode cX11_copy 35 = .ok (.aload_n 0, 1) := by decide +kernel
theorem dX11_copy_36 : decode cX11_copy 36 = .ok (.iconst 1, 1) := by decide +kernel
theorem dX11_copy_37 : decode cX11_copy 37 = .ok (.invokevirtual 132, 3) := by decide +kernel
theorem dX11_copy_40 : decode cX11_copy 40 = .ok (.ireturn, 1) := by decide +kernel
theorem dX11_copy_41 : decode cX11_copy 41 = .ok (.aload_n 0, 1) := by decide +kernel
theorem dX11_copy_42 : decode cX11_copy 42 = .ok (.getfield 76, 3) := by decide +kernel
theorem dX11_copy_45 : decode cX11_copy 45 = .ok (.iload_n 1, 1) := by decide +kernel
theorem dX11_copy_46 : decode cX11_copy 46 = .ok (.iaload, 1) := by decide +kernel
theorem dX11_copy_47 : decode cX11_copy 47 = .ok (.aload_n 0, 1) := by decide +kernel
theorem dX11_copy_48 : decode cX11_copy 48 = .ok (.getfield 76, 3) := by decide +kernel
theorem dX11_copy_51 : decode cX11_copy 51 = .ok (.iload_n 3, 1) := by decide +kernel
theorem dX11_copy_52 : decode cX11_copy 52 = .ok (.iaload, 1) := by decide +kernel
theorem dX11_copy_53 : decode cX11_copy 53 = .ok (.if_icmp .eq 9, 3) := by decide +kernel
theorem dX11_copy_56 : decode cX11_copy 56 = .ok (.aload_n 0, 1) := by decide +kernel
theorem dX11_copy_57 : decode cX11_copy 57 = .ok (.iconst 4, 1) := by decide +kernel
theorem dX11_copy_58 : decode cX11_copy 58 = .ok (.invokevirtual 132, 3) := by decide +kernel
theorem dX11_copy_61 : decode cX11_copy 61 = .ok (.ireturn, 1) := by decide +kernel
theorem dX11_copy_62 : decode cX11_copy 62 = .ok (.iload_n 2, 1) := by decide +kernel
theorem dX11_copy_63 : decode cX11_copy 63 = .ok (.ifCond .lt 48, 3) := by decide +kernel
theorem dX11_copy_66 : decode cX11_copy 66 = .ok (.iload 4, 2) := by decide +kernel
theorem dX11_copy_68 : decode cX11_copy 68 = .ok (.ifCond .lt 43, 3) := by decide +kernel
theorem dX11_copy_71 : decode cX11_copy 71 = .ok (.iload 5, 2) := by decide +kernel
theorem dX11_copy_73 : decode cX11_copy 73 = .ok (.ifCond .lt 38, 3) := by decide +kernel
theorem dX11_copy_76 : decode cX11_copy 76 = .ok (.iload_n 2, 1) := by decide +kernel
theorem dX11_copy_77 : decode cX11_copy 77 = .ok (.i2l, 1) := by decide +kernel
theorem dX11_copy_78 : decode cX11_copy 78 = .ok (.iload 5, 2) := by decide +kernel
theorem dX11_copy_80 : decode cX11_copy 80 = .ok (.i2l, 1) := by decide +kernel
theorem dX11_copy_81 : decode cX11_copy 81 = .ok (.ladd, 1) := by decide +kernel
theorem dX11_copy_82 : decode cX11_copy 82 = .ok (.aload_n 0, 1) := by decide +kernel
theorem dX11_copy_83 : decode cX11_copy 83 = .ok (.getfield 79, 3) := by decide +kernel
theorem dX11_copy_86 : decode cX11_copy 86 = .ok (.iload_n 1, 1) := by decide +kernel
theorem dX11_copy_87 : decode cX11_copy 87 = .ok (.iaload, 1) := by decide +kernel
theorem dX11_copy_88 : decode cX11_copy 88 = .ok (.i2l, 1) := by decide +kernel
theorem dX11_copy_89 : decode cX11_copy 89 = .ok (.lcmp, 1) := by decide +kernel
theorem dX11_copy_90 : decode cX11_copy 90 = .ok (.ifCond .gt 21, 3) := by decide +kernel
theorem dX11_copy_93 : decode cX11_copy 93 = .ok (.iload 4, 2) := by decide +kernel
theorem dX11_copy_95 : decode cX11_copy 95 = .ok (.i2l, 1) := by decide +kernel
theorem dX11_copy_96 : decode cX11_copy 96 = .ok (.iload 5, 2) := by decide +kernel
theorem dX11_copy_98 : decode cX11_copy 98 = .ok (.i2l, 1) := by decide +kernel
theorem dX11_copy_99 : decode cX11_copy 99 = .ok (.ladd, 1) := by decide +kernel
theorem dX11_copy_100 : decode cX11_copy 100 = .ok (.aload_n 0, 1) := by decide +kernel
theorem dX11_copy_101 : decode cX11_copy 101 = .ok (.getfield 79, 3) := by decide +kernel
theorem dX11_copy_104 : decode cX11_copy 104 = .ok (.iload_n 3, 1) := by decide +kernel
theorem dX11_copy_105 : decode cX11_copy 105 = .ok (.iaload, 1) := by decide +kernel
theorem dX11_copy_106 : decode cX11_copy 106 = .ok (.i2l, 1) := by decide +kernel
theorem dX11_copy_107 : decode cX11_copy 107 = .ok (.lcmp, 1) := by decide +kernel
theorem dX11_copy_108 : decode cX11_copy 108 = .ok (.ifCond .le 9, 3) := by decide +kernel
theorem dX11_copy_111 : decode cX11_copy 111 = .ok (.aload_n 0, 1) := by decide +kernel
theorem dX11_copy_112 : decode cX11_copy 112 = .ok (.iconst 2, 1) := by decide +kernel
theorem dX11_copy_113 : decode cX11_copy 113 = .ok (.invokevirtual 132, 3) := by decide +kernel
theorem dX11_copy_116 : decode cX11_copy 116 = .ok (.ireturn, 1) := by decide +kernel
theorem dX11_copy_117 : decode cX11_copy 117 = .ok (.iconst 0, 1) := by decide +kernel
theorem dX11_copy_118 : decode cX11_copy 118 = .ok (.istore 6, 2) := by decide +kernel
theorem dX11_copy_120 : decode cX11_copy 120 = .ok (.iload 6, 2) := by decide +kernel
theorem dX11_copy_122 : decode cX11_copy 122 = .ok (.iload 5, 2) := by decide +kernel
theorem dX11_copy_124 : decode cX11_copy 124 = .ok (.if_icmp .ge 30, 3) := by decide +kernel
theorem dX11_copy_127 : decode cX11_copy 127 = .ok (.aload_n 0, 1) := by decide +kernel
theorem dX11_copy_128 : decode cX11_copy 128 = .ok (.getfield 85, 3) := by decide +kernel
theorem dX11_copy_131 : decode cX11_copy 131 = .ok (.iload 6, 2) := by decide +kernel
theorem dX11_copy_133 : decode cX11_copy 133 = .ok (.aload_n 0, 1) := by decide +kernel
theorem dX11_copy_134 : decode cX11_copy 134 = .ok (.getfield 82, 3) := by decide +kernel
theorem dX11_copy_137 : decode cX11_copy 137 = .ok (.bipush 60, 2) := by decide +kernel
theorem dX11_copy_139 : decode cX11_copy 139 = .ok (.iload_n 1, 1) := by decide +kernel
theorem dX11_copy_140 : decode cX11_copy 140 = .ok (.imul, 1) := by decide +kernel
theorem dX11_copy_141 : decode cX11_copy 141 = .ok (.iload_n 2, 1) := by decide +kernel
theorem dX11_copy_142 : decode cX11_copy 142 = .ok (.iadd, 1) := by decide +kernel
theorem dX11_copy_143 : decode cX11_copy 143 = .ok (.iload 6, 2) := by decide +kernel
theorem dX11_copy_145 : decode cX11_copy 145 = .ok (.iadd, 1) := by decide +kernel
theorem dX11_copy_146 : decode cX11_copy 146 = .ok (.iaload, 1) := by decide +kernel
theorem dX11_copy_147 : decode cX11_copy 147 = .ok (.iastore, 1) := by decide +kernel
theorem dX11_copy_148 : decode cX11_copy 148 = .ok (.iinc 6 1, 3) := by decide +kernel
theorem dX11_copy_151 : decode cX11_copy 151 = .ok (.goto (-31), 3) := by decide +kernel
theorem dX11_copy_154 : decode cX11_copy 154 = .ok (.iconst 0, 1) := by decide +kernel
theorem dX11_copy_155 : decode cX11_copy 155 = .ok (.istore 6, 2) := by decide +kernel
theorem dX11_copy_157 : decode cX11_copy 157 = .ok (.iload 6, 2) := by decide +kernel
theorem dX11_copy_159 : decode cX11_copy 159 = .ok (.iload 5, 2) := by decide +kernel
theorem dX11_copy_161 : decode cX11_copy 161 = .ok (.if_icmp .ge 31, 3) := by decide +kernel
theorem dX11_copy_164 : decode cX11_copy 164 = .ok (.aload_n 0, 1) := by decide +kernel
theorem dX11_copy_165 : decode cX11_copy 165 = .ok (.getfield 82, 3) := by decide +kernel
theorem dX11_copy_168 : decode cX11_copy 168 = .ok (.bipush 60, 2) := by decide +kernel
theorem dX11_copy_170 : decode cX11_copy 170 = .ok (.iload_n 3, 1) := by decide +kernel
theorem dX11_copy_171 : decode cX11_copy 171 = .ok (.imul, 1) := by decide +kernel
theorem dX11_copy_172 : decode cX11_copy 172 = .ok (.iload 4, 2) := by decide +kernel
theorem dX11_copy_174 : decode cX11_copy 174 = .ok (.iadd, 1) := by decide +kernel
theorem dX11_copy_175 : decode cX11_copy 175 = .ok (.iload 6, 2) := by decide +kernel
theorem dX11_copy_177 : decode cX11_copy 177 = .ok (.iadd, 1) := by decide +kernel
theorem dX11_copy_178 : decode cX11_copy 178 = .ok (.aload_n 0, 1) := by decide +kernel
theorem dX11_copy_179 : decode cX11_copy 179 = .ok (.getfield 85, 3) := by decide +kernel
theorem dX11_copy_182 : decode cX11_copy 182 = .ok (.iload 6, 2) := by decide +kernel
theorem dX11_copy_184 : decode cX11_copy 184 = .ok (.iaload, 1) := by decide +kernel
theorem dX11_copy_185 : decode cX11_copy 185 = .ok (.iastore, 1) := by decide +kernel
theorem dX11_copy_186 : decode cX11_copy 186 = .ok (.iinc 6 1, 3) := by decide +kernel
theorem dX11_copy_189 : decode cX11_copy 189 = .ok (.goto (-32), 3) := by decide +kernel
theorem dX11_copy_192 : decode cX11_copy 192 = .ok (.iconst 1, 1) := by decide +kernel
theorem dX11_copy_193 : decode cX11_copy 193 = .ok (.ireturn, 1) := by decide +kernel
def wX11_copy_35 (post : Int32 → Sto → Prop)    (σ : Sto) : Prop := wX11_meets  ((1 : Int32)) σ (fun (r37 : Int32) (s37 : Sto) => post r37 s37)
set_option maxRecDepth 100000 in
set_option maxHeartbeats 4000000 in
theorem vX11_copy_35 (E : Ev) (post : Int32 → Sto → Prop)      (σ : Sto) (h : wX11_copy_35 post    σ) : V E 2 mX11_copy (pI post) 35 [(0, .ref 67)] [] σ := by
  unfold wX11_copy_35 at h
  refine V_aload_n (pc := 35) 0 dX11_copy_35 rfl ?_
  refine V_iconst (pc := 36) (v := 1) dX11_copy_36 (by decide) ?_
  refine V_callV (pc := 37) (M' := mX11_meets) dX11_copy_37 ml_X11_132 kv_X11_meets ko_X11_meets sh_67 (by decide) (by decide) rfl rfl (Nat.le_of_ble_eq_true rfl) (Nat.le_of_ble_eq_true rfl) (vX11_meets E  ((1 : Int32)) σ _  h) (kI (fun r37 s37 h => ?_))
  exact V_iret dX11_copy_40 rfl h
def wX11_copy_111 (post : Int32 → Sto → Prop)    (σ : Sto) : Prop := wX11_meets  ((2 : Int32)) σ (fun (r113 : Int32) (s113 : Sto) => post r113 s113)
set_option maxRecDepth 100000 in
set_option maxHeartbeats 4000000 in
theorem vX11_copy_111 (E : Ev) (post : Int32 → Sto → Prop)      (σ : Sto) (h : wX11_copy_111 post    σ) : V E 2 mX11_copy (pI post) 111 [(0, .ref 67)] [] σ := by
  unfold wX11_copy_111 at h
  refine V_aload_n (pc := 111) 0 dX11_copy_111 rfl ?_
  refine V_iconst (pc := 112) (v := 2) dX11_copy_112 (by decide) ?_
  refine V_callV (pc := 113) (M' := mX11_meets) dX11_copy_113 ml_X11_132 kv_X11_meets ko_X11_meets sh_67 (by decide) (by decide) rfl rfl (Nat.le_of_ble_eq_true rfl) (Nat.le_of_ble_eq_true rfl) (vX11_meets E  ((2 : Int32)) σ _  h) (kI (fun r113 s113 h => ?_))
  exact V_iret dX11_copy_116 rfl h
def wX11_copy_120 (post : Int32 → Sto → Prop)  (K154 : Int32 → Int32 → Int32 → Sto → Prop) : Nat → Int32 → Int32 → Int32 → Int32 → Int32 → Int32 → Sto → Prop
  | 0, _, _, _, _, _, _, _ => False
  | n + 1, x1, x2, x3, x4, x5, x6, σ => ((x5 ≤ x6) → (K154 x3 x4 x5 σ)) ∧ ((¬ (x5 ≤ x6)) → (vp_in (((((60 : Int32)) * x1) + x2) + x6) 240 ∧ (vp_in x6 60 ∧ (wX11_copy_120 post  K154 n x1 x2 x3 x4 x5 (x6 + (1 : Int32)) (wI σ 90 x6.toNatClampNeg (σ.1 89 (((((60 : Int32)) * x1) + x2) + x6).toNatClampNeg))))))
set_option maxRecDepth 100000 in
set_option maxHeartbeats 4000000 in
theorem vX11_copy_120 (E : Ev) (post : Int32 → Sto → Prop)   (K154 : Int32 → Int32 → Int32 → Sto → Prop) (HK154 : ∀ (x3 : Int32) (x4 : Int32) (x5 : Int32) (σ : Sto), K154 x3 x4 x5 σ → V E 2 mX11_copy (pI post) 154 [(0, .ref 67), (3, .int x3), (4, .int x4), (5, .int x5)] [] σ) : ∀ (n : Nat) (x1 : Int32) (x2 : Int32) (x3 : Int32) (x4 : Int32) (x5 : Int32) (x6 : Int32) (σ : Sto), wX11_copy_120 post  K154 n x1 x2 x3 x4 x5 x6 σ → V E 2 mX11_copy (pI post) 120 [(0, .ref 67), (1, .int x1), (2, .int x2), (3, .int x3), (4, .int x4), (5, .int x5), (6, .int x6)] [] σ := by
  intro n
  induction n with
  | zero => intro x1 x2 x3 x4 x5 x6 σ h; exact h.elim
  | succ n ih =>
    intro x1 x2 x3 x4 x5 x6 σ h
    unfold wX11_copy_120 at h
    refine V_iload (pc := 120) 6 dX11_copy_120 rfl ?_
    refine V_iload (pc := 122) 5 dX11_copy_122 rfl ?_
    refine V_icmp_ge (pc := 124) (tgt := 154) dX11_copy_124 (by decide) (fun hc => ?_) (fun hc => ?_)
    · replace h := h.1 hc
      exact V_loc [0, 3, 4, 5] rfl (HK154 x3 x4 x5 σ  h)
    · replace h := h.2 hc
      refine V_aload_n (pc := 127) 0 dX11_copy_127 rfl ?_
      refine V_getR (pc := 128) dX11_copy_128 fl_X11_85 sh_67 rfl ?_
      refine V_iload (pc := 131) 6 dX11_copy_131 rfl ?_
      refine V_aload_n (pc := 133) 0 dX11_copy_133 rfl ?_
      refine V_getR (pc := 134) dX11_copy_134 fl_X11_82 sh_67 rfl ?_
      refine V_bipush (pc := 137) (v := 60) dX11_copy_137 (by decide) ?_
      refine V_iload_n (pc := 139) 1 dX11_copy_139 rfl ?_
      refine V_imul (pc := 140) dX11_copy_140 ?_
      refine V_iload_n (pc := 141) 2 dX11_copy_141 rfl ?_
      refine V_iadd (pc := 142) dX11_copy_142 ?_
      refine V_iload (pc := 143) 6 dX11_copy_143 rfl ?_
      refine V_iadd (pc := 145) dX11_copy_145 ?_
      obtain ⟨i146, h⟩ := h
      refine V_iald (pc := 146) dX11_copy_146 sh_89 i146 ?_
      obtain ⟨i147, h⟩ := h
      refine V_iast (pc := 147) dX11_copy_147 sh_90 i147 ?_
      refine V_iinc (pc := 148) 6 (v := 1) dX11_copy_148 rfl (by decide) (by decide) ?_
      refine V_goto (pc := 151) (tgt := 120) dX11_copy_151 (by decide) ?_
      exact V_loc [1, 2, 3, 4, 5, 6, 0] rfl (ih x1 x2 x3 x4 x5 (x6 + (1 : Int32)) (wI σ 90 x6.toNatClampNeg (σ.1 89 (((((60 : Int32)) * x1) + x2) + x6).toNatClampNeg))  h)
def wX11_copy_157 (post : Int32 → Sto → Prop)  (K192 : Sto → Prop) : Nat → Int32 → Int32 → Int32 → Int32 → Sto → Prop
  | 0, _, _, _, _, _ => False
  | n + 1, x3, x4, x5, x6, σ => ((x5 ≤ x6) → (K192  σ)) ∧ ((¬ (x5 ≤ x6)) → (vp_in x6 60 ∧ (vp_in (((((60 : Int32)) * x3) + x4) + x6) 240 ∧ (wX11_copy_157 post  K192 n x3 x4 x5 (x6 + (1 : Int32)) (wI σ 89 (((((60 : Int32)) * x3) + x4) + x6).toNatClampNeg (σ.1 90 x6.toNatClampNeg))))))
set_option maxRecDepth 100000 in
set_option maxHeartbeats 4000000 in
theorem vX11_copy_157 (E : Ev) (post : Int32 → Sto → Prop)   (K192 : Sto → Prop) (HK192 : ∀  (σ : Sto), K192  σ → V E 2 mX11_copy (pI post) 192 [] [] σ) : ∀ (n : Nat) (x3 : Int32) (x4 : Int32) (x5 : Int32) (x6 : Int32) (σ : Sto), wX11_copy_157 post  K192 n x3 x4 x5 x6 σ → V E 2 mX11_copy (pI post) 157 [(0, .ref 67), (3, .int x3), (4, .int x4), (5, .int x5), (6, .int x6)] [] σ := by
  intro n
  induction n with
  | zero => intro x3 x4 x5 x6 σ h; exact h.elim
  | succ n ih =>
    intro x3 x4 x5 x6 σ h
    unfold wX11_copy_157 at h
    refine V_iload (pc := 157) 4 dX11_copy_157 rfl ?_
    refine V_iload (pc := 159) 3 dX11_copy_159 rfl ?_
    refine V_icmp_ge (pc := 161) (tgt := 192) dX11_copy_161 (by decide) (fun hc => ?_) (fun hc => ?_)
    · replace h := h.1 hc
      exact V_loc [] rfl (HK192  σ  h)
    · replace h := h.2 hc
      refine V_aload_n (pc := 164) 0 dX11_copy_164 rfl ?_
      refine V_getR (pc := 165) dX11_copy_165 fl_X11_82 sh_67 rfl ?_
      refine V_bipush (pc := 168) (v := 60) dX11_copy_168 (by decide) ?_
      refine V_iload_n (pc := 170) 1 dX11_copy_170 rfl ?_
      refine V_imul (pc := 171) dX11_copy_171 ?_
      refine V_iload (pc := 172) 2 dX11_copy_172 rfl ?_
      refine V_iadd (pc := 174) dX11_copy_174 ?_
      refine V_iload (pc := 175) 4 dX11_copy_175 rfl ?_
      refine V_iadd (pc := 177) dX11_copy_177 ?_
      refine V_aload_n (pc := 178) 0 dX11_copy_178 rfl ?_
      refine V_getR (pc := 179) dX11_copy_179 fl_X11_85 sh_67 rfl ?_
      refine V_iload (pc := 182) 4 dX11_copy_182 rfl ?_
      obtain ⟨i184, h⟩ := h
      refine V_iald (pc := 184) dX11_copy_184 sh_90 i184 ?_
      obtain ⟨i185, h⟩ := h
      refine V_iast (pc := 185) dX11_copy_185 sh_89 i185 ?_
      refine V_iinc (pc := 186) 4 (v := 1) dX11_copy_186 rfl (by decide) (by decide) ?_
      refine V_goto (pc := 189) (tgt := 157) dX11_copy_189 (by decide) ?_
      exact V_loc [1, 2, 3, 4, 0] rfl (ih x3 x4 x5 (x6 + (1 : Int32)) (wI σ 89 (((((60 : Int32)) * x3) + x4) + x6).toNatClampNeg (σ.1 90 x6.toNatClampNeg))  h)
def wX11_copy  (x1 : Int32) (x2 : Int32) (x3 : Int32) (x4 : Int32) (x5 : Int32) (σ : Sto) (post : Int32 → Sto → Prop) : Prop := wX11_isSheet  x1 σ (fun (r1 : Bool) (s1 : Sto) => ((r1 = false) → (post ((-2 : Int32)) s1)) ∧ ((r1 = true) → (wX11_isSheet  x3 s1 (fun (r8 : Bool) (s8 : Sto) => ((r8 = true) → (vp_in x1 4 ∧ ((((s8.1 86 x1.toNatClampNeg) = 0) → (wX11_copy_35 post    s8)) ∧ ((¬ ((s8.1 86 x1.toNatClampNeg) = 0)) → (vp_in x3 4 ∧ (((¬ (s8.1 86 x3.toNatClampNeg) = 0) → (vp_in x1 4 ∧ (vp_in x3 4 ∧ ((((s8.1 87 x1.toNatClampNeg) = (s8.1 87 x3.toNatClampNeg)) → (((x2 < 0) → (wX11_copy_111 post    s8)) ∧ ((¬ (x2 < 0)) → (((x4 < 0) → (wX11_copy_111 post    s8)) ∧ ((¬ (x4 < 0)) → (((x5 < 0) → (wX11_copy_111 post    s8)) ∧ ((¬ (x5 < 0)) → (vp_in x1 4 ∧ (((((s8.1 88 x1.toNatClampNeg).toInt64) < (x2.toInt64 + x5.toInt64)) → (wX11_copy_111 post    s8)) ∧ ((¬ (((s8.1 88 x1.toNatClampNeg).toInt64) < (x2.toInt64 + x5.toInt64))) → (vp_in x3 4 ∧ ((((x4.toInt64 + x5.toInt64) ≤ ((s8.1 88 x3.toNatClampNeg).toInt64)) → (∃ n120, wX11_copy_120 post  (fun (x3_1 : Int32) (x4_1 : Int32) (x5_1 : Int32) (σ_1 : Sto) => ∃ n157, wX11_copy_157 post  (fun  (σ_2 : Sto) => post ((1 : Int32)) σ_2) n157 x3_1 x4_1 x5_1 ((0 : Int32)) σ_1) n120 x1 x2 x3 x4 x5 ((0 : Int32)) s8)) ∧ ((¬ ((x4.toInt64 + x5.toInt64) ≤ ((s8.1 88 x3.toNatClampNeg).toInt64))) → (wX11_copy_111 post    s8)))))))))))))) ∧ ((¬ ((s8.1 87 x1.toNatClampNeg) = (s8.1 87 x3.toNatClampNeg))) → (wX11_meets  ((4 : Int32)) s8 (fun (r58 : Int32) (s58 : Sto) => post r58 s58))))))) ∧ (((s8.1 86 x3.toNatClampNeg) = 0) → (wX11_copy_35 post    s8)))))))) ∧ ((r8 = false) → (post ((-2 : Int32)) s8))))))
set_option maxRecDepth 100000 in
set_option maxHeartbeats 4000000 in
theorem vX11_copy (E : Ev)  (x1 : Int32) (x2 : Int32) (x3 : Int32) (x4 : Int32) (x5 : Int32) (σ : Sto) (post : Int32 → Sto → Prop)  (h : wX11_copy  x1 x2 x3 x4 x5 σ post) : V E 2 mX11_copy (pI post) 0 [(0, .ref 67), (1, .int x1), (2, .int x2), (3, .int x3), (4, .int x4), (5, .int x5)] [] σ := by
  unfold wX11_copy at h
  refine V_iload_n (pc := 0) 1 dX11_copy_0 rfl ?_
  refine V_callS (pc := 1) (M' := mX11_isSheet) dX11_copy_1 ml_X11_129 ks_X11_isSheet ko_X11_isSheet (by decide) rfl (Nat.le_of_ble_eq_true rfl) (Nat.le_of_ble_eq_true rfl) (vX11_isSheet E  x1 σ _  h) (kB (fun r1 s1 h => ?_))
  refine V_ifz (pc := 4) (tgt := 14) dX11_copy_4 (by decide) (fun hc => ?_) (fun hc => ?_)
  · replace h := h.1 hc
    refine V_bipush (pc := 14) (v := -2) dX11_copy_14 (by decide) ?_
    exact V_iret dX11_copy_16 rfl h
  · replace h := h.2 hc
    refine V_iload_n (pc := 7) 3 dX11_copy_7 rfl ?_
    refine V_callS (pc := 8) (M' := mX11_isSheet) dX11_copy_8 ml_X11_129 ks_X11_isSheet ko_X11_isSheet (by decide) rfl (Nat.le_of_ble_eq_true rfl) (Nat.le_of_ble_eq_true rfl) (vX11_isSheet E  x3 s1 _  h) (kB (fun r8 s8 h => ?_))
    refine V_ifnz (pc := 11) (tgt := 17) dX11_copy_11 (by decide) (fun hc => ?_) (fun hc => ?_)
    · replace h := h.1 hc
      refine V_aload_n (pc := 17) 0 dX11_copy_17 rfl ?_
      refine V_getR (pc := 18) dX11_copy_18 fl_X11_72 sh_67 rfl ?_
      refine V_iload_n (pc := 21) 1 dX11_copy_21 rfl ?_
      obtain ⟨i22, h⟩ := h
      refine V_zald (pc := 22) dX11_copy_22 sh_86 i22 ?_
      refine V_if_eq (pc := 23) (tgt := 35) dX11_copy_23 (by decide) (fun hc => ?_) (fun hc => ?_)
      · replace h := h.1 hc
        refine V_loc [0] rfl (vX11_copy_35 E post      s8  h)
      · replace h := h.2 hc
        refine V_aload_n (pc := 26) 0 dX11_copy_26 rfl ?_
        refine V_getR (pc := 27) dX11_copy_27 fl_X11_72 sh_67 rfl ?_
        refine V_iload_n (pc := 30) 3 dX11_copy_30 rfl ?_
        obtain ⟨i31, h⟩ := h
        refine V_zald (pc := 31) dX11_copy_31 sh_86 i31 ?_
        refine V_if_ne (pc := 32) (tgt := 41) dX11_copy_32 (by decide) (fun hc => ?_) (fun hc => ?_)
        · replace h := h.1 hc
          refine V_aload_n (pc := 41) 0 dX11_copy_41 rfl ?_
          refine V_getR (pc := 42) dX11_copy_42 fl_X11_76 sh_67 rfl ?_
          refine V_iload_n (pc := 45) 1 dX11_copy_45 rfl ?_
          obtain ⟨i46, h⟩ := h
          refine V_iald (pc := 46) dX11_copy_46 sh_87 i46 ?_
          refine V_aload_n (pc := 47) 0 dX11_copy_47 rfl ?_
          refine V_getR (pc := 48) dX11_copy_48 fl_X11_76 sh_67 rfl ?_
          refine V_iload_n (pc := 51) 3 dX11_copy_51 rfl ?_
          obtain ⟨i52, h⟩ := h
          refine V_iald (pc := 52) dX11_copy_52 sh_87 i52 ?_
          refine V_icmp_eq (pc := 53) (tgt := 62) dX11_copy_53 (by decide) (fun hc => ?_) (fun hc => ?_)
          · replace h := h.1 hc
            refine V_iload_n (pc := 62) 2 dX11_copy_62 rfl ?_
            refine V_if_lt (pc := 63) (tgt := 111) dX11_copy_63 (by decide) (fun hc => ?_) (fun hc => ?_)
            · replace h := h.1 hc
              refine V_loc [0] rfl (vX11_copy_111 E post      s8  h)
            · replace h := h.2 hc
              refine V_iload (pc := 66) 4 dX11_copy_66 rfl ?_
              refine V_if_lt (pc := 68) (tgt := 111) dX11_copy_68 (by decide) (fun hc => ?_) (fun hc => ?_)
              · replace h := h.1 hc
                refine V_loc [0] rfl (vX11_copy_111 E post      s8  h)
              · replace h := h.2 hc
                refine V_iload (pc := 71) 5 dX11_copy_71 rfl ?_
                refine V_if_lt (pc := 73) (tgt := 111) dX11_copy_73 (by decide) (fun hc => ?_) (fun hc => ?_)
                · replace h := h.1 hc
                  refine V_loc [0] rfl (vX11_copy_111 E post      s8  h)
                · replace h := h.2 hc
                  refine V_iload_n (pc := 76) 2 dX11_copy_76 rfl ?_
                  refine V_i2l (pc := 77) dX11_copy_77 ?_
                  refine V_iload (pc := 78) 5 dX11_copy_78 rfl ?_
                  refine V_i2l (pc := 80) dX11_copy_80 ?_
                  refine V_ladd (pc := 81) dX11_copy_81 ?_
                  refine V_aload_n (pc := 82) 0 dX11_copy_82 rfl ?_
                  refine V_getR (pc := 83) dX11_copy_83 fl_X11_79 sh_67 rfl ?_
                  refine V_iload_n (pc := 86) 1 dX11_copy_86 rfl ?_
                  obtain ⟨i87, h⟩ := h
                  refine V_iald (pc := 87) dX11_copy_87 sh_88 i87 ?_
                  refine V_i2l (pc := 88) dX11_copy_88 ?_
                  refine V_lc_gt (pc := 89) (tgt := 111) dX11_copy_89 dX11_copy_90 (by decide) (fun hc => ?_) (fun hc => ?_)
                  · replace h := h.1 hc
                    refine V_loc [0] rfl (vX11_copy_111 E post      s8  h)
                  · replace h := h.2 hc
                    refine V_iload (pc := 93) 4 dX11_copy_93 rfl ?_
                    refine V_i2l (pc := 95) dX11_copy_95 ?_
                    refine V_iload (pc := 96) 5 dX11_copy_96 rfl ?_
                    refine V_i2l (pc := 98) dX11_copy_98 ?_
                    refine V_ladd (pc := 99) dX11_copy_99 ?_
                    refine V_aload_n (pc := 100) 0 dX11_copy_100 rfl ?_
                    refine V_getR (pc := 101) dX11_copy_101 fl_X11_79 sh_67 rfl ?_
                    refine V_iload_n (pc := 104) 3 dX11_copy_104 rfl ?_
                    obtain ⟨i105, h⟩ := h
                    refine V_iald (pc := 105) dX11_copy_105 sh_88 i105 ?_
                    refine V_i2l (pc := 106) dX11_copy_106 ?_
                    refine V_lc_le (pc := 107) (tgt := 117) dX11_copy_107 dX11_copy_108 (by decide) (fun hc => ?_) (fun hc => ?_)
                    · replace h := h.1 hc
                      refine V_iconst (pc := 117) (v := 0) dX11_copy_117 (by decide) ?_
                      refine V_istore (pc := 118) dX11_copy_118 (by decide) ?_
                      obtain ⟨n120, h⟩ := h
                      refine V_loc [1, 2, 3, 4, 5, 6, 0] rfl (vX11_copy_120 E post   _ (fun x3_1 x4_1 x5_1 σ_1 h => ?_) n120 x1 x2 x3 x4 x5 ((0 : Int32)) s8  h)
                      · refine V_iconst (pc := 154) (v := 0) dX11_copy_154 (by decide) ?_
                        refine V_istore (pc := 155) dX11_copy_155 (by decide) ?_
                        obtain ⟨n157, h⟩ := h
                        refine V_loc [1, 2, 3, 4, 0] rfl (vX11_copy_157 E post   _ (fun σ_2 h => ?_) n157 x3_1 x4_1 x5_1 ((0 : Int32)) σ_1  h)
                        · refine V_iconst (pc := 192) (v := 1) dX11_copy_192 (by decide) ?_
                          exact V_iret dX11_copy_193 rfl h
                    · replace h := h.2 hc
                      refine V_loc [0] rfl (vX11_copy_111 E post      s8  h)
          · replace h := h.2 hc
            refine V_aload_n (pc := 56) 0 dX11_copy_56 rfl ?_
            refine V_iconst (pc := 57) (v := 4) dX11_copy_57 (by decide) ?_
            refine V_callV (pc := 58) (M' := mX11_meets) dX11_copy_58 ml_X11_132 kv_X11_meets ko_X11_meets sh_67 (by decide) (by decide) rfl rfl (Nat.le_of_ble_eq_true rfl) (Nat.le_of_ble_eq_true rfl) (vX11_meets E  ((4 : Int32)) s8 _  h) (kI (fun r58 s58 h => ?_))
            exact V_iret dX11_copy_61 rfl h
        · replace h := h.2 hc
          refine V_loc [0] rfl (vX11_copy_35 E post      s8  h)
    · replace h := h.2 hc
      refine V_bipush (pc := 14) (v := -2) dX11_copy_14 (by decide) ?_
      exact V_iret dX11_copy_16 rfl h
theorem dX11_write_0 : decode cX11_write 0 = .ok (.iload_n 1, 1) := by decide +kernel
theorem dX11_write_1 : decode cX11_write 1 = .ok (.invokestatic 119, 3) := by decide +kernel
theorem dX11_write_4 : decode cX11_write 4 = .ok (.ifCond .eq 10, 3) := by decide +kernel
theorem dX11_write_7 : decode cX11_write 7 = .ok (.iload_n 2, 1) := by decide +kernel
theorem dX11_write_8 : decode cX11_write 8 = .ok (.invokestatic 129, 3) := by decide +kernel
theorem dX11_write_11 : decode cX11_write 11 = .ok (.ifCond .ne 6, 3) := by decide +kernel
theorem dX11_write_14 : decode cX11_write 14 = .ok (.bipush (-2), 2) := by decide +kernel
theorem dX11_write_16 : decode cX11_write 16 = .ok (.ireturn, 1) := by decide +kernel
theorem dX11_write_17 : decode cX11_write 17 = .ok (.aload_n 0, 1) := by decide +kernel
theorem dX11_write_18 : decode cX11_write 18 = .ok (.getfield 72, 3) := by decide +kernel
theorem dX11_write_21 : decode cX11_write 21 = .ok (.iload_n 2, 1) := by decide +kernel
theorem dX11_write_22 : decode cX11_write 22 = .ok (.baload, 1) := by decide +kernel
theorem dX11_write_23 : decode cX11_write 23 = .ok (.ifCond .ne 9, 3) := by decide +kernel
theorem dX11_write_26 : decode cX11_write 26 = .ok (.aload_n 0, 1) := by decide +kernel
theorem dX11_write_27 : decode cX11_write 27 = .ok (.iconst 1, 1) := by decide +kernel
theorem dX11_write_28 : decode cX11_write 28 = .ok (.invokevirtual 132, 3) := by decide +kernel
theorem dX11_write_31 : decode cX11_write 31 = .ok (.ireturn, 1) := by decide +kernel
theorem dX11_write_32 : decode cX11_write 32 = .ok (.iconst 0, 1) := by decide +kernel
theorem dX11_write_33 : decode cX11_write 33 = .ok (.istore_n 3, 1) := by decide +kernel
theorem dX11_write_34 : decode cX11_write 34 = .ok (.iload_n 3, 1) := by decide +kernel
theorem dX11_write_35 : decode cX11_write 35 = .ok (.aload_n 0, 1) := by decide +kernel
theorem dX11_write_36 : decode cX11_write 36 = .ok (.getfield 101, 3) := by decide +kernel
theorem dX11_write_39 : decode cX11_write 39 = .ok (.if_icmp .ge 45, 3) := by decide +kernel
theorem dX11_write_42 : decode cX11_write 42 = .ok (.iload_n 3, 1) := by decide +kernel
theorem dX11_write_43 : decode cX11_write 43 = .ok (.aload_n 0, 1) := by decide +kernel
theorem dX11_write_44 : decode cX11_write 44 = .ok (.getfield 79, 3) := by decide +kernel
theorem dX11_write_47 : decode cX11_write 47 = .ok (.iload_n 2, 1) := by decide +kernel
theorem dX11_write_48 : decode cX11_write 48 = .ok (.iaload, 1) := by decide +kernel
theorem dX11_write_49 : decode cX11_write 49 = .ok (.if_icmp .ge 35, 3) := by decide +kernel
theorem dX11_write_52 : decode cX11_write 52 = .ok (.aload_n 0, 1) := by decide +kernel
theorem dX11_write_53 : decode cX11_write 53 = .ok (.iload_n 2, 1) := by decide +kernel
theorem dX11_write_54 : decode cX11_write 54 = .ok (.iload_n 3, 1) := by decide +kernel
theorem dX11_write_55 : decode cX11_write 55 = .ok (.aload_n 0, 1) := by decide +kernel
theorem dX11_write_56 : decode cX11_write 56 = .ok (.iload_n 3, 1) := by decide +kernel
theorem dX11_write_57 : decode cX11_write 57 = .ok (.iload_n 1, 1) := by decide +kernel
theorem dX11_write_58 : decode cX11_write 58 = .ok (.invokevirtual 160, 3) := by decide +kernel
theorem dX11_write_61 : decode cX11_write 61 = .ok (.ifCond .eq 13, 3) := by decide +kernel
theorem dX11_write_64 : decode cX11_write 64 = .ok (.aload_n 0, 1) := by decide +kernel
theorem dX11_write_65 : decode cX11_write 65 = .ok (.iload_n 3, 1) := by decide +kernel
theorem dX11_write_66 : decode cX11_write 66 = .ok (.iload_n 1, 1) := by decide +kernel
theorem dX11_write_67 : decode cX11_write 67 = .ok (.invokevirtual 164, 3) := by decide +kernel
theorem dX11_write_70 : decode cX11_write 70 = .ok (.l2i, 1) := by decide +kernel
theorem dX11_write_71 : decode cX11_write 71 = .ok (.goto 4, 3) := by decide +kernel
theorem dX11_write_74 : decode cX11_write 74 = .ok (.iconst 0, 1) := by decide +kernel
theorem dX11_write_75 : decode cX11_write 75 = .ok (.invokevirtual 349, 3) := by decide +kernel
theorem dX11_write_78 : decode cX11_write 78 = .ok (.iinc 3 1, 3) := by decide +kernel
theorem dX11_write_81 : decode cX11_write 81 = .ok (.goto (-47), 3) := by decide +kernel
theorem dX11_write_84 : decode cX11_write 84 = .ok (.iload_n 3, 1) := by decide +kernel
theorem dX11_write_85 : decode cX11_write 85 = .ok (.ireturn, 1) := by decide +kernel
def wX11_write_75 (post : Int32 → Sto → Prop)  (K34 : Int32 → Int32 → Int32 → Sto → Prop) (x1 : Int32) (x2 : Int32) (x3 : Int32) (y0 : Int32) (y1 : Int32) (y2 : Int32) (σ : Sto) : Prop := wX11_lay  y2 y1 y0 σ (fun (s75 : Sto) => K34 x1 x2 (x3 + (1 : Int32)) s75)
set_option maxRecDepth 100000 in
set_option maxHeartbeats 4000000 in
theorem vX11_write_75 (E : Ev) (post : Int32 → Sto → Prop)   (K34 : Int32 → Int32 → Int32 → Sto → Prop) (HK34 : ∀ (x1 : Int32) (x2 : Int32) (x3 : Int32) (σ : Sto), K34 x1 x2 x3 σ → V E 6 mX11_write (pI post) 34 [(0, .ref 67), (1, .int x1), (2, .int x2), (3, .int x3)] [] σ) (x1 : Int32) (x2 : Int32) (x3 : Int32) (y0 : Int32) (y1 : Int32) (y2 : Int32) (σ : Sto) (h : wX11_write_75 post  K34 x1 x2 x3 y0 y1 y2 σ) : V E 6 mX11_write (pI post) 75 [(0, .ref 67), (1, .int x1), (2, .int x2), (3, .int x3)] [.int y0, .int y1, .int y2, .ref 67] σ := by
  unfold wX11_write_75 at h
  refine V_callV (pc := 75) (M' := mX11_lay) dX11_write_75 ml_X11_349 kv_X11_lay ko_X11_lay sh_67 (by decide) (by decide) rfl rfl (Nat.le_of_ble_eq_true rfl) (Nat.le_of_ble_eq_true rfl) (vX11_lay E  y2 y1 y0 σ _  h) (kV (fun s75 h => ?_))
  refine V_iinc (pc := 78) 3 (v := 1) dX11_write_78 rfl (by decide) (by decide) ?_
  refine V_goto (pc := 81) (tgt := 34) dX11_write_81 (by decide) ?_
  exact V_loc [1, 2, 3, 0] rfl (HK34 x1 x2 (x3 + (1 : Int32)) s75  h)
def wX11_write_34 (post : Int32 → Sto → Prop)  (K84 : Int32 → Sto → Prop) : Nat → Int32 → Int32 → Int32 → Sto → Prop
  | 0, _, _, _, _ => False
  | n + 1, x1, x2, x3, σ => (((σ.1 67 1) ≤ x3) → (K84 x3 σ)) ∧ ((¬ ((σ.1 67 1) ≤ x3)) → (vp_in x2 4 ∧ ((((σ.1 88 x2.toNatClampNeg) ≤ x3) → (K84 x3 σ)) ∧ ((¬ ((σ.1 88 x2.toNatClampNeg) ≤ x3)) → (wX11_takes  x3 x1 σ (fun (r58 : Bool) (s58 : Sto) => ((r58 = false) → (wX11_write_75 post  (wX11_write_34 post  K84 n) x1 x2 x3 ((0 : Int32)) x3 x2 s58)) ∧ ((r58 = true) → (wX11_toldOf  x3 x1 s58 (fun (r67 : Int64) (s67 : Sto) => wX11_write_75 post  (wX11_write_34 post  K84 n) x1 x2 x3 r67.toInt32 x3 x2 s67)))))))))
set_option maxRecDepth 100000 in
set_option maxHeartbeats 4000000 in
theorem vX11_write_34 (E : Ev) (post : Int32 → Sto → Prop)   (K84 : Int32 → Sto → Prop) (HK84 : ∀ (x3 : Int32) (σ : Sto), K84 x3 σ → V E 6 mX11_write (pI post) 84 [(3, .int x3)] [] σ) : ∀ (n : Nat) (x1 : Int32) (x2 : Int32) (x3 : Int32) (σ : Sto), wX11_write_34 post  K84 n x1 x2 x3 σ → V E 6 mX11_write (pI post) 34 [(0, .ref 67), (1, .int x1), (2, .int x2), (3, .int x3)] [] σ := by
  intro n
  induction n with
  | zero => intro x1 x2 x3 σ h; exact h.elim
  | succ n ih =>
    intro x1 x2 x3 σ h
    unfold wX11_write_34 at h
    refine V_iload_n (pc := 34) 3 dX11_write_34 rfl ?_
    refine V_aload_n (pc := 35) 0 dX11_write_35 rfl ?_
    refine V_getI (pc := 36) dX11_write_36 fl_X11_101 sh_67 rfl ?_
    refine V_icmp_ge (pc := 39) (tgt := 84) dX11_write_39 (by decide) (fun hc => ?_) (fun hc => ?_)
    · replace h := h.1 hc
      exact V_loc [3] rfl (HK84 x3 σ  h)
    · replace h := h.2 hc
      refine V_iload_n (pc := 42) 3 dX11_write_42 rfl ?_
      refine V_aload_n (pc := 43) 0 dX11_write_43 rfl ?_
      refine V_getR (pc := 44) dX11_write_44 fl_X11_79 sh_67 rfl ?_
      refine V_iload_n (pc := 47) 2 dX11_write_47 rfl ?_
      obtain ⟨i48, h⟩ := h
      refine V_iald (pc := 48) dX11_write_48 sh_88 i48 ?_
      refine V_icmp_ge (pc := 49) (tgt := 84) dX11_write_49 (by decide) (fun hc => ?_) (fun hc => ?_)
      · replace h := h.1 hc
        exact V_loc [3] rfl (HK84 x3 σ  h)
      · replace h := h.2 hc
        refine V_aload_n (pc := 52) 0 dX11_write_52 rfl ?_
        refine V_iload_n (pc := 53) 2 dX11_write_53 rfl ?_
        refine V_iload_n (pc := 54) 3 dX11_write_54 rfl ?_
        refine V_aload_n (pc := 55) 0 dX11_write_55 rfl ?_
        refine V_iload_n (pc := 56) 3 dX11_write_56 rfl ?_
        refine V_iload_n (pc := 57) 1 dX11_write_57 rfl ?_
        refine V_callV (pc := 58) (M' := mX11_takes) dX11_write_58 ml_X11_160 kv_X11_takes ko_X11_takes sh_67 (by decide) (by decide) rfl rfl (Nat.le_of_ble_eq_true rfl) (Nat.le_of_ble_eq_true rfl) (vX11_takes E  x3 x1 σ _  h) (kB (fun r58 s58 h => ?_))
        refine V_ifz (pc := 61) (tgt := 74) dX11_write_61 (by decide) (fun hc => ?_) (fun hc => ?_)
        · replace h := h.1 hc
          refine V_iconst (pc := 74) (v := 0) dX11_write_74 (by decide) ?_
          refine V_loc [0, 1, 2, 3] rfl (vX11_write_75 E post   _ ih x1 x2 x3 ((0 : Int32)) x3 x2 s58  h)
        · replace h := h.2 hc
          refine V_aload_n (pc := 64) 0 dX11_write_64 rfl ?_
          refine V_iload_n (pc := 65) 3 dX11_write_65 rfl ?_
          refine V_iload_n (pc := 66) 1 dX11_write_66 rfl ?_
          refine V_callV (pc := 67) (M' := mX11_toldOf) dX11_write_67 ml_X11_164 kv_X11_toldOf ko_X11_toldOf sh_67 (by decide) (by decide) rfl rfl (Nat.le_of_ble_eq_true rfl) (Nat.le_of_ble_eq_true rfl) (vX11_toldOf E  x3 x1 s58 _  h) (kL (fun r67 s67 h => ?_))
          refine V_l2i (pc := 70) dX11_write_70 ?_
          refine V_goto (pc := 71) (tgt := 75) dX11_write_71 (by decide) ?_
          refine V_loc [0, 1, 2, 3] rfl (vX11_write_75 E post   _ ih x1 x2 x3 r67.toInt32 x3 x2 s67  h)
def wX11_write  (x1 : Int32) (x2 : Int32) (σ : Sto) (post : Int32 → Sto → Prop) : Prop := wX11_isPiece  x1 σ (fun (r1 : Bool) (s1 : Sto) => ((r1 = false) → (post ((-2 : Int32)) s1)) ∧ ((r1 = true) → (wX11_isSheet  x2 s1 (fun (r8 : Bool) (s8 : Sto) => ((r8 = true) → (vp_in x2 4 ∧ (((¬ (s8.1 86 x2.toNatClampNeg) = 0) → (∃ n34, wX11_write_34 post  (fun (x3_1 : Int32) (σ_1 : Sto) => post x3_1 σ_1) n34 x1 x2 ((0 : Int32)) s8)) ∧ (((s8.1 86 x2.toNatClampNeg) = 0) → (wX11_meets  ((1 : Int32)) s8 (fun (r28 : Int32) (s28 : Sto) => post r28 s28)))))) ∧ ((r8 = false) → (post ((-2 : Int32)) s8))))))
set_option maxRecDepth 100000 in
set_option maxHeartbeats 4000000 in
theorem vX11_write (E : Ev)  (x1 : Int32) (x2 : Int32) (σ : Sto) (post : Int32 → Sto → Prop)  (h : wX11_write  x1 x2 σ post) : V E 6 mX11_write (pI post) 0 [(0, .ref 67), (1, .int x1), (2, .int x2)] [] σ := by
  unfold wX11_write at h
  refine V_iload_n (pc := 0) 1 dX11_write_0 rfl ?_
  refine V_callS (pc := 1) (M' := mX11_isPiece) dX11_write_1 ml_X11_119 ks_X11_isPiece ko_X11_isPiece (by decide) rfl (Nat.le_of_ble_eq_true rfl) (Nat.le_of_ble_eq_true rfl) (vX11_isPiece E  x1 σ _  h) (kB (fun r1 s1 h => ?_))
  refine V_ifz (pc := 4) (tgt := 14) dX11_write_4 (by decide) (fun hc => ?_) (fun hc => ?_)
  · replace h := h.1 hc
    refine V_bipush (pc := 14) (v := -2) dX11_write_14 (by decide) ?_
    exact V_iret dX11_write_16 rfl h
  · replace h := h.2 hc
    refine V_iload_n (pc := 7) 2 dX11_write_7 rfl ?_
    refine V_callS (pc := 8) (M' := mX11_isSheet) dX11_write_8 ml_X11_129 ks_X11_isSheet ko_X11_isSheet (by decide) rfl (Nat.le_of_ble_eq_true rfl) (Nat.le_of_ble_eq_true rfl) (vX11_isSheet E  x2 s1 _  h) (kB (fun r8 s8 h => ?_))
    refine V_ifnz (pc := 11) (tgt := 17) dX11_write_11 (by decide) (fun hc => ?_) (fun hc => ?_)
    · replace h := h.1 hc
      refine V_aload_n (pc := 17) 0 dX11_write_17 rfl ?_
      refine V_getR (pc := 18) dX11_write_18 fl_X11_72 sh_67 rfl ?_
      refine V_iload_n (pc := 21) 2 dX11_write_21 rfl ?_
      obtain ⟨i22, h⟩ := h
      refine V_zald (pc := 22) dX11_write_22 sh_86 i22 ?_
      refine V_if_ne (pc := 23) (tgt := 32) dX11_write_23 (by decide) (fun hc => ?_) (fun hc => ?_)
      · replace h := h.1 hc
        refine V_iconst (pc := 32) (v := 0) dX11_write_32 (by decide) ?_
        refine V_istore_n (pc := 33) dX11_write_33 (by decide) ?_
        obtain ⟨n34, h⟩ := h
        refine V_loc [1, 2, 3, 0] rfl (vX11_write_34 E post   _ (fun x3_1 σ_1 h => ?_) n34 x1 x2 ((0 : Int32)) s8  h)
        · refine V_iload_n (pc := 84) 0 dX11_write_84 rfl ?_
          exact V_iret dX11_write_85 rfl h
      · replace h := h.2 hc
        refine V_aload_n (pc := 26) 0 dX11_write_26 rfl ?_
        refine V_iconst (pc := 27) (v := 1) dX11_write_27 (by decide) ?_
        refine V_callV (pc := 28) (M' := mX11_meets) dX11_write_28 ml_X11_132 kv_X11_meets ko_X11_meets sh_67 (by decide) (by decide) rfl rfl (Nat.le_of_ble_eq_true rfl) (Nat.le_of_ble_eq_true rfl) (vX11_meets E  ((1 : Int32)) s8 _  h) (kI (fun r28 s28 h => ?_))
        exact V_iret dX11_write_31 rfl h
    · replace h := h.2 hc
      refine V_bipush (pc := 14) (v := -2) dX11_write_14 (by decide) ?_
      exact V_iret dX11_write_16 rfl h
theorem dX11_knownMany_0 : decode cX11_knownMany 0 = .ok (.iconst 0, 1) := by decide +kernel
theorem dX11_knownMany_1 : decode cX11_knownMany 1 = .ok (.istore_n 1, 1) := by decide +kernel
theorem dX11_knownMany_2 : decode cX11_knownMany 2 = .ok (.iconst 0, 1) := by decide +kernel
theorem dX11_knownMany_3 : decode cX11_knownMany 3 = .ok (.istore_n 2, 1) := by decide +kernel
theorem dX11_knownMany_4 : decode cX11_knownMany 4 = .ok (.iload_n 2, 1) := by decide +kernel
theorem dX11_knownMany_5 : decode cX11_knownMany 5 = .ok (.aload_n 0, 1) := by decide +kernel
theorem dX11_knownMany_6 : decode cX11_knownMany 6 = .ok (.getfield 122, 3) := by decide +kernel
theorem dX11_knownMany_9 : decode cX11_knownMany 9 = .ok (.if_icmp .ge 25, 3) := by decide +kernel
theorem dX11_knownMany_12 : decode cX11_knownMany 12 = .ok (.iload_n 1, 1) := by decide +kernel
theorem dX11_knownMany_13 : decode cX11_knownMany 13 = .ok (.aload_n 0, 1) := by decide +kernel
theorem dX11_knownMany_14 : decode cX11_knownMany 14 = .ok (.iload_n 2, 1) := by decide +kernel
theorem dX11_knownMany_15 : decode cX11_knownMany 15 = .ok (.invokevirtual 136, 3) := by decide +kernel
theorem dX11_knownMany_18 : decode cX11_knownMany 18 = .ok (.ifCond .eq 7, 3) := by decide +kernel
theorem dX11_knownMany_21 : decode cX11_knownMany 21 = .ok (.iconst 1, 1) := by decide +kernel
theorem dX11_knownMany_22 : decode cX11_knownMany 22 = .ok (.goto 4, 3) := by decide +kernel
theorem dX11_knownMany_25 : decode cX11_knownMany 25 = .ok (.iconst 0, 1) := by decide +kernel
theorem dX11_knownMany_26 : decode cX11_knownMany 26 = .ok (.iadd, 1) := by decide +kernel
theorem dX11_knownMany_27 : decode cX11_knownMany 27 = .ok (.istore_n 1, 1) := by decide +kernel
theorem dX11_knownMany_28 : decode cX11_knownMany 28 = .ok (.iinc 2 1, 3) := by decide +kernel
theorem dX11_knownMany_31 : decode cX11_knownMany 31 = .ok (.goto (-27), 3) := by decide +kernel
theorem dX11_knownMany_34 : decode cX11_knownMany 34 = .ok (.iload_n 1, 1) := by decide +kernel
theorem dX11_knownMany_35 : decode cX11_knownMany 35 = .ok (.ireturn, 1) := by decide +kernel
def wX11_knownMany_26 (post : Int32 → Sto → Prop)  (K4 : Int32 → Int32 → Sto → Prop) (x2 : Int32) (y0 : Int32) (y1 : Int32) (σ : Sto) : Prop := K4 (y1 + y0) (x2 + (1 : Int32)) σ
set_option maxRecDepth 100000 in
set_option maxHeartbeats 4000000 in
theorem vX11_knownMany_26 (E : Ev) (post : Int32 → Sto → Prop)   (K4 : Int32 → Int32 → Sto → Prop) (HK4 : ∀ (x1 : Int32) (x2 : Int32) (σ : Sto), K4 x1 x2 σ → V E 1 mX11_knownMany (pI post) 4 [(0, .ref 67), (1, .int x1), (2, .int x2)] [] σ) (x2 : Int32) (y0 : Int32) (y1 : Int32) (σ : Sto) (h : wX11_knownMany_26 post  K4 x2 y0 y1 σ) : V E 1 mX11_knownMany (pI post) 26 [(0, .ref 67), (2, .int x2)] [.int y0, .int y1] σ := by
  unfold wX11_knownMany_26 at h
  refine V_iadd (pc := 26) dX11_knownMany_26 ?_
  refine V_istore_n (pc := 27) dX11_knownMany_27 (by decide) ?_
  refine V_iinc (pc := 28) 2 (v := 1) dX11_knownMany_28 rfl (by decide) (by decide) ?_
  refine V_goto (pc := 31) (tgt := 4) dX11_knownMany_31 (by decide) ?_
  exact V_loc [2, 1, 0] rfl (HK4 (y1 + y0) (x2 + (1 : Int32)) σ  h)
def wX11_knownMany_4 (post : Int32 → Sto → Prop)  (K34 : Int32 → Sto → Prop) : Nat → Int32 → Int32 → Sto → Prop
  | 0, _, _, _ => False
  | n + 1, x1, x2, σ => (((σ.1 67 4) ≤ x2) → (K34 x1 σ)) ∧ ((¬ ((σ.1 67 4) ≤ x2)) → (wX11_isKnown  x2 σ (fun (r15 : Bool) (s15 : Sto) => ((r15 = false) → (wX11_knownMany_26 post  (wX11_knownMany_4 post  K34 n) x2 ((0 : Int32)) x1 s15)) ∧ ((r15 = true) → (wX11_knownMany_26 post  (wX11_knownMany_4 post  K34 n) x2 ((1 : Int32)) x1 s15)))))
set_option maxRecDepth 100000 in
set_option maxHeartbeats 4000000 in
theorem vX11_knownMany_4 (E : Ev) (post : Int32 → Sto → Prop)   (K34 : Int32 → Sto → Prop) (HK34 : ∀ (x1 : Int32) (σ : Sto), K34 x1 σ → V E 1 mX11_knownMany (pI post) 34 [(1, .int x1)] [] σ) : ∀ (n : Nat) (x1 : Int32) (x2 : Int32) (σ : Sto), wX11_knownMany_4 post  K34 n x1 x2 σ → V E 1 mX11_knownMany (pI post) 4 [(0, .ref 67), (1, .int x1), (2, .int x2)] [] σ := by
  intro n
  induction n with
  | zero => intro x1 x2 σ h; exact h.elim
  | succ n ih =>
    intro x1 x2 σ h
    unfold wX11_knownMany_4 at h
    refine V_iload_n (pc := 4) 2 dX11_knownMany_4 rfl ?_
    refine V_aload_n (pc := 5) 0 dX11_knownMany_5 rfl ?_
    refine V_getI (pc := 6) dX11_knownMany_6 fl_X11_122 sh_67 rfl ?_
    refine V_icmp_ge (pc := 9) (tgt := 34) dX11_knownMany_9 (by decide) (fun hc => ?_) (fun hc => ?_)
    · replace h := h.1 hc
      exact V_loc [1] rfl (HK34 x1 σ  h)
    · replace h := h.2 hc
      refine V_iload_n (pc := 12) 1 dX11_knownMany_12 rfl ?_
      refine V_aload_n (pc := 13) 0 dX11_knownMany_13 rfl ?_
      refine V_iload_n (pc := 14) 2 dX11_knownMany_14 rfl ?_
      refine V_callV (pc := 15) (M' := mX11_isKnown) dX11_knownMany_15 ml_X11_136 kv_X11_isKnown ko_X11_isKnown sh_67 (by decide) (by decide) rfl rfl (Nat.le_of_ble_eq_true rfl) (Nat.le_of_ble_eq_true rfl) (vX11_isKnown E  x2 σ _  h) (kB (fun r15 s15 h => ?_))
      refine V_ifz (pc := 18) (tgt := 25) dX11_knownMany_18 (by decide) (fun hc => ?_) (fun hc => ?_)
      · replace h := h.1 hc
        refine V_iconst (pc := 25) (v := 0) dX11_knownMany_25 (by decide) ?_
        refine V_loc [0, 2] rfl (vX11_knownMany_26 E post   _ ih x2 ((0 : Int32)) x1 s15  h)
      · replace h := h.2 hc
        refine V_iconst (pc := 21) (v := 1) dX11_knownMany_21 (by decide) ?_
        refine V_goto (pc := 22) (tgt := 26) dX11_knownMany_22 (by decide) ?_
        refine V_loc [0, 2] rfl (vX11_knownMany_26 E post   _ ih x2 ((1 : Int32)) x1 s15  h)
def wX11_knownMany   (σ : Sto) (post : Int32 → Sto → Prop) : Prop := ∃ n4, wX11_knownMany_4 post  (fun (x1_1 : Int32) (σ_1 : Sto) => post x1_1 σ_1) n4 ((0 : Int32)) ((0 : Int32)) σ
set_option maxRecDepth 100000 in
set_option maxHeartbeats 4000000 in
theorem vX11_knownMany (E : Ev)   (σ : Sto) (post : Int32 → Sto → Prop)  (h : wX11_knownMany   σ post) : V E 1 mX11_knownMany (pI post) 0 [(0, .ref 67)] [] σ := by
  unfold wX11_knownMany at h
  refine V_iconst (pc := 0) (v := 0) dX11_knownMany_0 (by decide) ?_
  refine V_istore_n (pc := 1) dX11_knownMany_1 (by decide) ?_
  refine V_iconst (pc := 2) (v := 0) dX11_knownMany_2 (by decide) ?_
  refine V_istore_n (pc := 3) dX11_knownMany_3 (by decide) ?_
  obtain ⟨n4, h⟩ := h
  refine V_loc [2, 1, 0] rfl (vX11_knownMany_4 E post   _ (fun x1_1 σ_1 h => ?_) n4 ((0 : Int32)) ((0 : Int32)) σ  h)
  · refine V_iload_n (pc := 34) 0 dX11_knownMany_34 rfl ?_
    exact V_iret dX11_knownMany_35 rfl h
theorem dX11_count_0 : decode cX11_count 0 = .ok (.iload_n 1, 1) := by decide +kernel
theorem dX11_count_1 : decode cX11_count 1 = .ok (.tableswitch 112 0 10 #[59, 64, 69, 74, 79, 79, 79, 79, 97, 102, 107], 59) := by decide +kernel
theorem dX11_count_60 : decode cX11_count 60 = .ok (.aload_n 0, 1) := by decide +kernel
theorem dX11_count_61 : decode cX11_count 61 = .ok (.getfield 108, 3) := by decide +kernel
theorem dX11_count_64 : decode cX11_count 64 = .ok (.ireturn, 1) := by decide +kernel
theorem dX11_count_65 : decode cX11_count 65 = .ok (.aload_n 0, 1) := by decide +kernel
theorem dX11_count_66 : decode cX11_count 66 = .ok (.getfield 101, 3) := by decide +kernel
theorem dX11_count_69 : decode cX11_count 69 = .ok (.ireturn, 1) := by decide +kernel
theorem dX11_count_70 : decode cX11_count 70 = .ok (.aload_n 0, 1) := by decide +kernel
theorem dX11_count_71 : decode cX11_count 71 = .ok (.getfield 122, 3) := by decide +kernel
theorem dX11_count_74 : decode cX11_count 74 = .ok (.ireturn, 1) := by decide +kernel
theorem dX11_count_75 : decode cX11_count 75 = .ok (.aload_n 0, 1) := by decide +kernel
theorem dX11_count_76 : decode cX11_count 76 = .ok (.invokevirtual 353, 3) := by decide +kernel
theorem dX11_count_79 : decode cX11_count 79 = .ok (.ireturn, 1) := by decide +kernel
theorem dX11_count_80 : decode cX11_count 80 = .ok (.aload_n 0, 1) := by decide +kernel
theorem dX11_count_81 : decode cX11_count 81 = .ok (.iload_n 1, 1) := by decide +kernel
theorem dX11_count_82 : decode cX11_count 82 = .ok (.iconst 4, 1) := by decide +kernel
theorem dX11_count_83 : decode cX11_count 83 = .ok (.isub, 1) := by decide +kernel
theorem dX11_count_84 : decode cX11_count 84 = .ok (.iconst 0, 1) := by decide +kernel
theorem dX11_count_85 : decode cX11_count 85 = .ok (.invokevirtual 298, 3) := by decide +kernel
theorem dX11_count_88 : decode cX11_count 88 = .ok (.aload_n 0, 1) := by decide +kernel
theorem dX11_count_89 : decode cX11_count 89 = .ok (.iload_n 1, 1) := by decide +kernel
theorem dX11_count_90 : decode cX11_count 90 = .ok (.iconst 4, 1) := by decide +kernel
theorem dX11_count_91 : decode cX11_count 91 = .ok (.isub, 1) := by decide +kernel
theorem dX11_count_92 : decode cX11_count 92 = .ok (.iconst 1, 1) := by decide +kernel
theorem dX11_count_93 : decode cX11_count 93 = .ok (.invokevirtual 298, 3) := by decide +kernel
theorem dX11_count_96 : decode cX11_count 96 = .ok (.iadd, 1) := by decide +kernel
theorem dX11_count_97 : decode cX11_count 97 = .ok (.ireturn, 1) := by decide +kernel
theorem dX11_count_98 : decode cX11_count 98 = .ok (.aload_n 0, 1) := by decide +kernel
theorem dX11_count_99 : decode cX11_count 99 = .ok (.getfield 342, 3) := by decide +kernel
theorem dX11_count_102 : decode cX11_count 102 = .ok (.ireturn, 1) := by decide +kernel
theorem dX11_count_103 : decode cX11_count 103 = .ok (.aload_n 0, 1) := by decide +kernel
theorem dX11_count_104 : decode cX11_count 104 = .ok (.getfield 304, 3) := by decide +kernel
theorem dX11_count_107 : decode cX11_count 107 = .ok (.ireturn, 1) := by decide +kernel
theorem dX11_count_108 : decode cX11_count 108 = .ok (.aload_n 0, 1) := by decide +kernel
theorem dX11_count_109 : decode cX11_count 109 = .ok (.getfield 38, 3) := by decide +kernel
theorem dX11_count_112 : decode cX11_count 112 = .ok (.ireturn, 1) := by decide +kernel
theorem dX11_count_113 : decode cX11_count 113 = .ok (.bipush (-2), 2) := by decide +kernel
theorem dX11_count_115 : decode cX11_count 115 = .ok (.ireturn, 1) := by decide +kernel
def wX11_count  (x1 : Int32) (σ : Sto) (post : Int32 → Sto → Prop) : Prop := ((x1 = 0) → (post (σ.1 67 0) σ)) ∧ ((¬ x1 = 0) → (((x1 = 1) → (post (σ.1 67 1) σ)) ∧ ((¬ x1 = 1) → (((x1 = 2) → (post (σ.1 67 4) σ)) ∧ ((¬ x1 = 2) → (((x1 = 3) → (wX11_knownMany   σ (fun (r76 : Int32) (s76 : Sto) => post r76 s76))) ∧ ((¬ x1 = 3) → (((x1 = 4) → (wX11_wayMany  (x1 - ((4 : Int32))) ((0 : Int32)) σ (fun (r85 : Int32) (s85 : Sto) => wX11_wayMany  (x1 - ((4 : Int32))) ((1 : Int32)) s85 (fun (r93 : Int32) (s93 : Sto) => post (r85 + r93) s93)))) ∧ ((¬ x1 = 4) → (((x1 = 5) → (wX11_wayMany  (x1 - ((4 : Int32))) ((0 : Int32)) σ (fun (r85 : Int32) (s85 : Sto) => wX11_wayMany  (x1 - ((4 : Int32))) ((1 : Int32)) s85 (fun (r93 : Int32) (s93 : Sto) => post (r85 + r93) s93)))) ∧ ((¬ x1 = 5) → (((x1 = 6) → (wX11_wayMany  (x1 - ((4 : Int32))) ((0 : Int32)) σ (fun (r85 : Int32) (s85 : Sto) => wX11_wayMany  (x1 - ((4 : Int32))) ((1 : Int32)) s85 (fun (r93 : Int32) (s93 : Sto) => post (r85 + r93) s93)))) ∧ ((¬ x1 = 6) → (((x1 = 7) → (wX11_wayMany  (x1 - ((4 : Int32))) ((0 : Int32)) σ (fun (r85 : Int32) (s85 : Sto) => wX11_wayMany  (x1 - ((4 : Int32))) ((1 : Int32)) s85 (fun (r93 : Int32) (s93 : Sto) => post (r85 + r93) s93)))) ∧ ((¬ x1 = 7) → (((x1 = 8) → (post (σ.1 67 41) σ)) ∧ ((¬ x1 = 8) → (((x1 = 9) → (post (σ.1 67 29) σ)) ∧ ((¬ x1 = 9) → (((x1 = 10) → (post (σ.1 67 12) σ)) ∧ ((¬ x1 = 10) → (post ((-2 : Int32)) σ))))))))))))))))))))))
set_option maxRecDepth 100000 in
set_option maxHeartbeats 4000000 in
theorem vX11_count (E : Ev)  (x1 : Int32) (σ : Sto) (post : Int32 → Sto → Prop)  (h : wX11_count  x1 σ post) : V E 7 mX11_count (pI post) 0 [(0, .ref 67), (1, .int x1)] [] σ := by
  unfold wX11_count at h
  refine V_iload_n (pc := 0) 1 dX11_count_0 rfl ?_
  by_cases e0 : x1 = 0
  · replace h := h.1 e0
    refine V_tabIn (pc := 1) (tgt := 60) (off := 59) dX11_count_1 (by rw [e0]; decide) (by rw [e0]; decide) (by rw [e0]; rfl) (by decide) ?_
    refine V_aload_n (pc := 60) 0 dX11_count_60 rfl ?_
    refine V_getI (pc := 61) dX11_count_61 fl_X11_108 sh_67 rfl ?_
    exact V_iret dX11_count_64 rfl h
  · replace h := h.2 e0
    by_cases e1 : x1 = 1
    · replace h := h.1 e1
      refine V_tabIn (pc := 1) (tgt := 65) (off := 64) dX11_count_1 (by rw [e1]; decide) (by rw [e1]; decide) (by rw [e1]; rfl) (by decide) ?_
      refine V_aload_n (pc := 65) 0 dX11_count_65 rfl ?_
      refine V_getI (pc := 66) dX11_count_66 fl_X11_101 sh_67 rfl ?_
      exact V_iret dX11_count_69 rfl h
    · replace h := h.2 e1
      by_cases e2 : x1 = 2
      · replace h := h.1 e2
        refine V_tabIn (pc := 1) (tgt := 70) (off := 69) dX11_count_1 (by rw [e2]; decide) (by rw [e2]; decide) (by rw [e2]; rfl) (by decide) ?_
        refine V_aload_n (pc := 70) 0 dX11_count_70 rfl ?_
        refine V_getI (pc := 71) dX11_count_71 fl_X11_122 sh_67 rfl ?_
        exact V_iret dX11_count_74 rfl h
      · replace h := h.2 e2
        by_cases e3 : x1 = 3
        · replace h := h.1 e3
          refine V_tabIn (pc := 1) (tgt := 75) (off := 74) dX11_count_1 (by rw [e3]; decide) (by rw [e3]; decide) (by rw [e3]; rfl) (by decide) ?_
          refine V_aload_n (pc := 75) 0 dX11_count_75 rfl ?_
          refine V_callV (pc := 76) (M' := mX11_knownMany) dX11_count_76 ml_X11_353 kv_X11_knownMany ko_X11_knownMany sh_67 (by decide) (by decide) rfl rfl (Nat.le_of_ble_eq_true rfl) (Nat.le_of_ble_eq_true rfl) (vX11_knownMany E   σ _  h) (kI (fun r76 s76 h => ?_))
          exact V_iret dX11_count_79 rfl h
        · replace h := h.2 e3
          by_cases e4 : x1 = 4
          · replace h := h.1 e4
            refine V_tabIn (pc := 1) (tgt := 80) (off := 79) dX11_count_1 (by rw [e4]; decide) (by rw [e4]; decide) (by rw [e4]; rfl) (by decide) ?_
            refine V_aload_n (pc := 80) 0 dX11_count_80 rfl ?_
            refine V_iload_n (pc := 81) 1 dX11_count_81 rfl ?_
            refine V_iconst (pc := 82) (v := 4) dX11_count_82 (by decide) ?_
            refine V_isub (pc := 83) dX11_count_83 ?_
            refine V_iconst (pc := 84) (v := 0) dX11_count_84 (by decide) ?_
            refine V_callV (pc := 85) (M' := mX11_wayMany) dX11_count_85 ml_X11_298 kv_X11_wayMany ko_X11_wayMany sh_67 (by decide) (by decide) rfl rfl (Nat.le_of_ble_eq_true rfl) (Nat.le_of_ble_eq_true rfl) (vX11_wayMany E  (x1 - ((4 : Int32))) ((0 : Int32)) σ _  h) (kI (fun r85 s85 h => ?_))
            refine V_aload_n (pc := 88) 0 dX11_count_88 rfl ?_
            refine V_iload_n (pc := 89) 1 dX11_count_89 rfl ?_
            refine V_iconst (pc := 90) (v := 4) dX11_count_90 (by decide) ?_
            refine V_isub (pc := 91) dX11_count_91 ?_
            refine V_iconst (pc := 92) (v := 1) dX11_count_92 (by decide) ?_
            refine V_callV (pc := 93) (M' := mX11_wayMany) dX11_count_93 ml_X11_298 kv_X11_wayMany ko_X11_wayMany sh_67 (by decide) (by decide) rfl rfl (Nat.le_of_ble_eq_true rfl) (Nat.le_of_ble_eq_true rfl) (vX11_wayMany E  (x1 - ((4 : Int32))) ((1 : Int32)) s85 _  h) (kI (fun r93 s93 h => ?_))
            refine V_iadd (pc := 96) dX11_count_96 ?_
            exact V_iret dX11_count_97 rfl h
          · replace h := h.2 e4
            by_cases e5 : x1 = 5
            · replace h := h.1 e5
              refine V_tabIn (pc := 1) (tgt := 80) (off := 79) dX11_count_1 (by rw [e5]; decide) (by rw [e5]; decide) (by rw [e5]; rfl) (by decide) ?_
              refine V_aload_n (pc := 80) 0 dX11_count_80 rfl ?_
              refine V_iload_n (pc := 81) 1 dX11_count_81 rfl ?_
              refine V_iconst (pc := 82) (v := 4) dX11_count_82 (by decide) ?_
              refine V_isub (pc := 83) dX11_count_83 ?_
              refine V_iconst (pc := 84) (v := 0) dX11_count_84 (by decide) ?_
              refine V_callV (pc := 85) (M' := mX11_wayMany) dX11_count_85 ml_X11_298 kv_X11_wayMany ko_X11_wayMany sh_67 (by decide) (by decide) rfl rfl (Nat.le_of_ble_eq_true rfl) (Nat.le_of_ble_eq_true rfl) (vX11_wayMany E  (x1 - ((4 : Int32))) ((0 : Int32)) σ _  h) (kI (fun r85 s85 h => ?_))
              refine V_aload_n (pc := 88) 0 dX11_count_88 rfl ?_
              refine V_iload_n (pc := 89) 1 dX11_count_89 rfl ?_
              refine V_iconst (pc := 90) (v := 4) dX11_count_90 (by decide) ?_
              refine V_isub (pc := 91) dX11_count_91 ?_
              refine V_iconst (pc := 92) (v := 1) dX11_count_92 (by decide) ?_
              refine V_callV (pc := 93) (M' := mX11_wayMany) dX11_count_93 ml_X11_298 kv_X11_wayMany ko_X11_wayMany sh_67 (by decide) (by decide) rfl rfl (Nat.le_of_ble_eq_true rfl) (Nat.le_of_ble_eq_true rfl) (vX11_wayMany E  (x1 - ((4 : Int32))) ((1 : Int32)) s85 _  h) (kI (fun r93 s93 h => ?_))
              refine V_iadd (pc := 96) dX11_count_96 ?_
              exact V_iret dX11_count_97 rfl h
            · replace h := h.2 e5
              by_cases e6 : x1 = 6
              · replace h := h.1 e6
                refine V_tabIn (pc := 1) (tgt := 80) (off := 79) dX11_count_1 (by rw [e6]; decide) (by rw [e6]; decide) (by rw [e6]; rfl) (by decide) ?_
                refine V_aload_n (pc := 80) 0 dX11_count_80 rfl ?_
                refine V_iload_n (pc := 81) 1 dX11_count_81 rfl ?_
                refine V_iconst (pc := 82) (v := 4) dX11_count_82 (by decide) ?_
                refine V_isub (pc := 83) dX11_count_83 ?_
                refine V_iconst (pc := 84) (v := 0) dX11_count_84 (by decide) ?_
                refine V_callV (pc := 85) (M' := mX11_wayMany) dX11_count_85 ml_X11_298 kv_X11_wayMany ko_X11_wayMany sh_67 (by decide) (by decide) rfl rfl (Nat.le_of_ble_eq_true rfl) (Nat.le_of_ble_eq_true rfl) (vX11_wayMany E  (x1 - ((4 : Int32))) ((0 : Int32)) σ _  h) (kI (fun r85 s85 h => ?_))
                refine V_aload_n (pc := 88) 0 dX11_count_88 rfl ?_
                refine V_iload_n (pc := 89) 1 dX11_count_89 rfl ?_
                refine V_iconst (pc := 90) (v := 4) dX11_count_90 (by decide) ?_
                refine V_isub (pc := 91) dX11_count_91 ?_
                refine V_iconst (pc := 92) (v := 1) dX11_count_92 (by decide) ?_
                refine V_callV (pc := 93) (M' := mX11_wayMany) dX11_count_93 ml_X11_298 kv_X11_wayMany ko_X11_wayMany sh_67 (by decide) (by decide) rfl rfl (Nat.le_of_ble_eq_true rfl) (Nat.le_of_ble_eq_true rfl) (vX11_wayMany E  (x1 - ((4 : Int32))) ((1 : Int32)) s85 _  h) (kI (fun r93 s93 h => ?_))
                refine V_iadd (pc := 96) dX11_count_96 ?_
                exact V_iret dX11_count_97 rfl h
              · replace h := h.2 e6
                by_cases e7 : x1 = 7
                · replace h := h.1 e7
                  refine V_tabIn (pc := 1) (tgt := 80) (off := 79) dX11_count_1 (by rw [e7]; decide) (by rw [e7]; decide) (by rw [e7]; rfl) (by decide) ?_
                  refine V_aload_n (pc := 80) 0 dX11_count_80 rfl ?_
                  refine V_iload_n (pc := 81) 1 dX11_count_81 rfl ?_
                  refine V_iconst (pc := 82) (v := 4) dX11_count_82 (by decide) ?_
                  refine V_isub (pc := 83) dX11_count_83 ?_
                  refine V_iconst (pc := 84) (v := 0) dX11_count_84 (by decide) ?_
                  refine V_callV (pc := 85) (M' := mX11_wayMany) dX11_count_85 ml_X11_298 kv_X11_wayMany ko_X11_wayMany sh_67 (by decide) (by decide) rfl rfl (Nat.le_of_ble_eq_true rfl) (Nat.le_of_ble_eq_true rfl) (vX11_wayMany E  (x1 - ((4 : Int32))) ((0 : Int32)) σ _  h) (kI (fun r85 s85 h => ?_))
                  refine V_aload_n (pc := 88) 0 dX11_count_88 rfl ?_
                  refine V_iload_n (pc := 89) 1 dX11_count_89 rfl ?_
                  refine V_iconst (pc := 90) (v := 4) dX11_count_90 (by decide) ?_
                  refine V_isub (pc := 91) dX11_count_91 ?_
                  refine V_iconst (pc := 92) (v := 1) dX11_count_92 (by decide) ?_
                  refine V_callV (pc := 93) (M' := mX11_wayMany) dX11_count_93 ml_X11_298 kv_X11_wayMany ko_X11_wayMany sh_67 (by decide) (by decide) rfl rfl (Nat.le_of_ble_eq_true rfl) (Nat.le_of_ble_eq_true rfl) (vX11_wayMany E  (x1 - ((4 : Int32))) ((1 : Int32)) s85 _  h) (kI (fun r93 s93 h => ?_))
                  refine V_iadd (pc := 96) dX11_count_96 ?_
                  exact V_iret dX11_count_97 rfl h
                · replace h := h.2 e7
                  by_cases e8 : x1 = 8
                  · replace h := h.1 e8
                    refine V_tabIn (pc := 1) (tgt := 98) (off := 97) dX11_count_1 (by rw [e8]; decide) (by rw [e8]; decide) (by rw [e8]; rfl) (by decide) ?_
                    refine V_aload_n (pc := 98) 0 dX11_count_98 rfl ?_
                    refine V_getI (pc := 99) dX11_count_99 fl_X11_342 sh_67 rfl ?_
                    exact V_iret dX11_count_102 rfl h
                  · replace h := h.2 e8
                    by_cases e9 : x1 = 9
                    · replace h := h.1 e9
                      refine V_tabIn (pc := 1) (tgt := 103) (off := 102) dX11_count_1 (by rw [e9]; decide) (by rw [e9]; decide) (by rw [e9]; rfl) (by decide) ?_
                      refine V_aload_n (pc := 103) 0 dX11_count_103 rfl ?_
                      refine V_getI (pc := 104) dX11_count_104 fl_X11_304 sh_67 rfl ?_
                      exact V_iret dX11_count_107 rfl h
                    · replace h := h.2 e9
                      by_cases e10 : x1 = 10
                      · replace h := h.1 e10
                        refine V_tabIn (pc := 1) (tgt := 108) (off := 107) dX11_count_1 (by rw [e10]; decide) (by rw [e10]; decide) (by rw [e10]; rfl) (by decide) ?_
                        refine V_aload_n (pc := 108) 0 dX11_count_108 rfl ?_
                        refine V_getI (pc := 109) dX11_count_109 fl_X11_38 sh_67 rfl ?_
                        exact V_iret dX11_count_112 rfl h
                      · replace h := h.2 e10
                        refine V_tabOut (pc := 1) (tgt := 113) dX11_count_1 ?_ (by decide) ?_
                        · have z0 := lv_neT (a := 0) e0 (by decide); have z1 := lv_neT (a := 1) e1 (by decide); have z2 := lv_neT (a := 2) e2 (by decide); have z3 := lv_neT (a := 3) e3 (by decide); have z4 := lv_neT (a := 4) e4 (by decide); have z5 := lv_neT (a := 5) e5 (by decide); have z6 := lv_neT (a := 6) e6 (by decide); have z7 := lv_neT (a := 7) e7 (by decide); have z8 := lv_neT (a := 8) e8 (by decide); have z9 := lv_neT (a := 9) e9 (by decide); have z10 := lv_neT (a := 10) e10 (by decide); omega
                        refine V_bipush (pc := 113) (v := -2) dX11_count_113 (by decide) ?_
                        exact V_iret dX11_count_115 rfl h
theorem dX11_digest_0 : decode cX11_digest 0 = .ok (.ldc2_w 356, 3) := by decide +kernel
theorem dX11_digest_3 : decode cX11_digest 3 = .ok (.lstore_n 1, 1) := by decide +kernel
theorem dX11_digest_4 : decode cX11_digest 4 = .ok (.iconst 0, 1) := by decide +kernel
theorem dX11_digest_5 : decode cX11_digest 5 = .ok (.istore_n 3, 1) := by decide +kernel
theorem dX11_digest_6 : decode cX11_digest 6 = .ok (.iload_n 3, 1) := by decide +kernel
theorem dX11_digest_7 : decode cX11_digest 7 = .ok (.bipush 11, 2) := by decide +kernel
theorem dX11_digest_9 : decode cX11_digest 9 = .ok (.if_icmp .ge 32, 3) := by decide +kernel
theorem dX11_digest_12 : decode cX11_digest 12 = .ok (.iload_n 3, 1) := by decide +kernel
theorem dX11_digest_13 : decode cX11_digest 13 = .ok (.bipush 8, 2) := by decide +kernel
theorem dX11_digest_15 : decode cX11_digest 15 = .ok (.if_icmp .ne 7, 3) := by decide +kernel
theorem dX11_digest_18 : decode cX11_digest 18 = .ok (.lload_n 1, 1) := by decide +kernel
theorem dX11_digest_19 : decode cX11_digest 19 = .ok (.goto 15, 3) := by decide +kernel
theorem dX11_digest_22 : decode cX11_digest 22 = .ok (.ldc2_w 358, 3) := by decide +kernel
theorem dX11_digest_25 : decode cX11_digest 25 = .ok (.lload_n 1, 1) := by decide +kernel
theorem dX11_digest_26 : decode cX11_digest 26 = .ok (.lmul, 1) := by decide +kernel
theorem dX11_digest_27 : decode cX11_digest 27 = .ok (.aload_n 0, 1) := by decide +kernel
theorem dX11_digest_28 : decode cX11_digest 28 = .ok (.iload_n 3, 1) := by decide +kernel
theorem dX11_digest_29 : decode cX11_digest 29 = .ok (.invokevirtual 360, 3) := by decide +kernel
theorem dX11_digest_32 : decode cX11_digest 32 = .ok (.i2l, 1) := by decide +kernel
theorem dX11_digest_33 : decode cX11_digest 33 = .ok (.ladd, 1) := by decide +kernel
theorem dX11_digest_34 : decode cX11_digest 34 = .ok (.lstore_n 1, 1) := by decide +kernel
theorem dX11_digest_35 : decode cX11_digest 35 = .ok (.iinc 3 1, 3) := by decide +kernel
theorem dX11_digest_38 : decode cX11_digest 38 = .ok (.goto (-32), 3) := by decide +kernel
theorem dX11_digest_41 : decode cX11_digest 41 = .ok (.iconst 0, 1) := by decide +kernel
theorem dX11_digest_42 : decode cX11_digest 42 = .ok (.istore_n 3, 1) := by decide +kernel
theorem dX11_digest_43 : decode cX11_digest 43 = .ok (.iload_n 3, 1) := by decide +kernel
theorem dX11_digest_44 : decode cX11_digest 44 = .ok (.aload_n 0, 1) := by decide +kernel
theorem dX11_digest_45 : decode cX11_digest 45 = .ok (.getfield 101, 3) := by decide +kernel
theorem dX11_digest_48 : decode cX11_digest 48 = .ok (.if_icmp .ge 53, 3) := by decide +kernel
theorem dX11_digest_51 : decode cX11_digest 51 = .ok (.ldc2_w 358, 3) := by decide +kernel
theorem dX11_digest_54 : decode cX11_digest 54 = .ok (.lload_n 1, 1) := by decide +kernel
theorem dX11_digest_55 : decode cX11_digest 55 = .ok (.lmul, 1) := by decide +kernel
theorem dX11_digest_56 : decode cX11_digest 56 = .ok (.aload_n 0, 1) := by decide +kernel
theorem dX11_digest_57 : decode cX11_digest 57 = .ok (.getfield 13, 3) := by decide +kernel
theorem dX11_digest_60 : decode cX11_digest 60 = .ok (.iload_n 3, 1) := by decide +kernel
theorem dX11_digest_61 : decode cX11_digest 61 = .ok (.iaload, 1) := by decide +kernel
theorem dX11_digest_62 : decode cX11_digest 62 = .ok (.i2l, 1) := by decide +kernel
theorem dX11_digest_63 : decode cX11_digest 63 = .ok (.ladd, 1) := by decide +kernel
theorem dX11_digest_64 : decode cX11_digest 64 = .ok (.lstore_n 1, 1) := by decide +kernel
theorem dX11_digest_65 : decode cX11_digest 65 = .ok (.iconst 0, 1) := by decide +kernel
theorem dX11_digest_66 : decode cX11_digest 66 = .ok (.istore 4, 2) := by decide +kernel
theorem dX11_digest_68 : decode cX11_digest 68 = .ok (.iload 4, 2) := by decide +kernel
theorem dX11_digest_70 : decode cX11_digest 70 = .ok (.iconst 4, 1) := by decide +kernel
theorem dX11_digest_71 : decode cX11_digest 71 = .ok (.if_icmp .ge 24, 3) := by decide +kernel
theorem dX11_digest_74 : decode cX11_digest 74 = .ok (.ldc2_w 358, 3) := by decide +kernel
theorem dX11_digest_77 : decode cX11_digest 77 = .ok (.lload_n 1, 1) := by decide +kernel
theorem dX11_digest_78 : decode cX11_digest 78 = .ok (.lmul, 1) := by decide +kernel
theorem dX11_digest_79 : decode cX11_digest 79 = .ok (.aload_n 0, 1) := by decide +kernel
theorem dX11_digest_80 : decode cX11_digest 80 = .ok (.iload_n 3, 1) := by decide +kernel
theorem dX11_digest_81 : decode cX11_digest 81 = .ok (.iload 4, 2) := by decide +kernel
theorem dX11_digest_83 : decode cX11_digest 83 = .ok (.invokevirtual 169, 3) := by decide +kernel
theorem dX11_digest_86 : decode cX11_digest 86 = .ok (.i2l, 1) := by decide +kernel
theorem dX11_digest_87 : decode cX11_digest 87 = .ok (.ladd, 1) := by decide +kernel
theorem dX11_digest_88 : decode cX11_digest 88 = .ok (.lstore_n 1, 1) := by decide +kernel
theorem dX11_digest_89 : decode cX11_digest 89 = .ok (.iinc 4 1, 3) := by decide +kernel
theorem dX11_digest_92 : decode cX11_digest 92 = .ok (.goto (-24), 3) := by decide +kernel
theorem dX11_digest_95 : decode cX11_digest 95 = .ok (.iinc 3 1, 3) := by decide +kernel
theorem dX11_digest_98 : decode cX11_digest 98 = .ok (.goto (-55), 3) := by decide +kernel
theorem dX11_digest_101 : decode cX11_digest 101 = .ok (.iconst 0, 1) := by decide +kernel
theorem dX11_digest_102 : decode cX11_digest 102 = .ok (.istore_n 3, 1) := by decide +kernel
theorem dX11_digest_103 : decode cX11_digest 103 = .ok (.iload_n 3, 1) := by decide +kernel
theorem dX11_digest_104 : decode cX11_digest 104 = .ok (.iconst 4, 1) := by decide +kernel
theorem dX11_digest_105 : decode cX11_digest 105 = .ok (.if_icmp .ge 132, 3) := by decide +kernel
theorem dX11_digest_108 : decode cX11_digest 108 = .ok (.ldc2_w 358, 3) := by decide +kernel
theorem dX11_digest_111 : decode cX11_digest 111 = .ok (.lload_n 1, 1) := by decide +kernel
theorem dX11_digest_112 : decode cX11_digest 112 = .ok (.lmul, 1) := by decide +kernel
theorem dX11_digest_113 : decode cX11_digest 113 = .ok (.aload_n 0, 1) := by decide +kernel
theorem dX11_digest_114 : decode cX11_digest 114 = .ok (.iload_n 3, 1) := by decide +kernel
theorem dX11_digest_115 : decode cX11_digest 115 = .ok (.invokevirtual 183, 3) := by decide +kernel
theorem dX11_digest_118 : decode cX11_digest 118 = .ok (.i2l, 1) := by decide +kernel
theorem dX11_digest_119 : decode cX11_digest 119 = .ok (.ladd, 1) := by decide +kernel
theorem dX11_digest_120 : decode cX11_digest 120 = .ok (.lstore_n 1, 1) := by decide +kernel
theorem dX11_digest_121 : decode cX11_digest 121 = .ok (.ldc2_w 358, 3) := by decide +kernel
theorem dX11_digest_124 : decode cX11_digest 124 = .ok (.lload_n 1, 1) := by decide +kernel
theorem dX11_digest_125 : decode cX11_digest 125 = .ok (.lmul, 1) := by decide +kernel
theorem dX11_digest_126 : decode cX11_digest 126 = .ok (.aload_n 0, 1) := by decide +kernel
theorem dX11_digest_127 : decode cX11_digest 127 = .ok (.iload_n 3, 1) := by decide +kernel
theorem dX11_digest_128 : decode cX11_digest 128 = .ok (.invokevirtual 190, 3) := by decide +kernel
theorem dX11_digest_131 : decode cX11_digest 131 = .ok (.i2l, 1) := by decide +kernel
theorem dX11_digest_132 : decode cX11_digest 132 = .ok (.ladd, 1) := by decide +kernel
theorem dX11_digest_133 : decode cX11_digest 133 = .ok (.lstore_n 1, 1) := by decide +kernel
theorem dX11_digest_134 : decode cX11_digest 134 = .ok (.iconst 0, 1) := by decide +kernel
theorem dX11_digest_135 : decode cX11_digest 135 = .ok (.istore 4, 2) := by decide +kernel
theorem dX11_digest_137 : decode cX11_digest 137 = .ok (.iload 4, 2) := by decide +kernel
theorem dX11_digest_139 : decode cX11_digest 139 = .ok (.iconst 4, 1) := by decide +kernel
theorem dX11_digest_140 : decode cX11_digest 140 = .ok (.if_icmp .ge 78, 3) := by decide +kernel
theorem dX11_digest_143 : decode cX11_digest 143 = .ok (.aload_n 0, 1) := by decide +kernel
theorem dX11_digest_144 : decode cX11_digest 144 = .ok (.iload_n 3, 1) := by decide +kernel
theorem dX11_digest_145 : decode cX11_digest 145 = .ok (.iload 4, 2) := by decide +kernel
theorem dX11_digest_147 : decode cX11_digest 147 = .ok (.invokevirtual 251, 3) := by decide +kernel
theorem dX11_digest_150 : decode cX11_digest 150 = .ok (.istore 5, 2) := by decide +kernel
theorem dX11_digest_152 : decode cX11_digest 152 = .ok (.ldc2_w 358, 3) := by decide +kernel
theorem dX11_digest_155 : decode cX11_digest 155 = .ok (.lload_n 1, 1) := by decide +kernel
theorem dX11_digest_156 : decode cX11_digest 156 = .ok (.lmul, 1) := by decide +kernel
theorem dX11_digest_157 : decode cX11_digest 157 = .ok (.iload 5, 2) := by decide +kernel
theorem dX11_digest_159 : decode cX11_digest 159 = .ok (.ifCond .eq 18, 3) := by decide +kernel
theorem dX11_digest_162 : decode cX11_digest 162 = .ok (.aload_n 0, 1) := by decide +kernel
theorem dX11_digest_163 : decode cX11_digest 163 = .ok (.getfield 207, 3) := by decide +kernel
theorem dX11_digest_166 : decode cX11_digest 166 = .ok (.aload_n 0, 1) := by decide +kernel
theorem dX11_digest_167 : decode cX11_digest 167 = .ok (.getfield 210, 3) := by decide +kernel
theorem dX11_digest_170 : decode cX11_digest 170 = .ok (.iconst 0, 1) := by decide +kernel
theorem dX11_digest_171 : decode cX11_digest 171 = .ok (.invokestatic 254, 3) := by decide +kernel
theorem dX11_digest_174 : decode cX11_digest 174 = .ok (.goto 6, 3) := by decide +kernel
theorem dX11_digest_177 : decode cX11_digest 177 = .ok (.ldc2_w 363, 3) := by decide +kernel
theorem dX11_digest_180 : decode cX11_digest 180 = .ok (.ladd, 1) := by decide +kernel
theorem dX11_digest_181 : decode cX11_digest 181 = .ok (.lstore_n 1, 1) := by decide +kernel
theorem dX11_digest_182 : decode cX11_digest 182 = .ok (.ldc2_w 358, 3) := by decide +kernel
theorem dX11_digest_185 : decode cX11_digest 185 = .ok (.lload_n 1, 1) := by decide +kernel
theorem dX11_digest_186 : decode cX11_digest 186 = .ok (.lmul, 1) := by decide +kernel
theorem dX11_digest_187 : decode cX11_digest 187 = .ok (.iload 5, 2) := by decide +kernel
theorem dX11_digest_189 : decode cX11_digest 189 = .ok (.ifCond .eq 18, 3) := by decide +kernel
theorem dX11_digest_192 : decode cX11_digest 192 = .ok (.aload_n 0, 1) := by decide +kernel
theorem dX11_digest_193 : decode cX11_digest 193 = .ok (.getfield 207, 3) := by decide +kernel
theorem dX11_digest_196 : decode cX11_digest 196 = .ok (.aload_n 0, 1) := by decide +kernel
theorem dX11_digest_197 : decode cX11_digest 197 = .ok (.getfield 210, 3) := by decide +kernel
theorem dX11_digest_200 : decode cX11_digest 200 = .ok (.iconst 1, 1) := by decide +kernel
theorem dX11_digest_201 : decode cX11_digest 201 = .ok (.invokestatic 254, 3) := by decide +kernel
theorem dX11_digest_204 : decode cX11_digest 204 = .ok (.goto 6, 3) := by decide +kernel
theorem dX11_digest_207 : decode cX11_digest 207 = .ok (.ldc2_w 363, 3) := by decide +kernel
theorem dX11_digest_210 : decode cX11_digest 210 = .ok (.ladd, 1) := by decide +kernel
theorem dX11_digest_211 : decode cX11_digest 211 = .ok (.lstore_n 1, 1) := by decide +kernel
theorem dX11_digest_212 : decode cX11_digest 212 = .ok (.iinc 4 1, 3) := by decide +kernel
theorem dX11_digest_215 : decode cX11_digest 215 = .ok (.goto (-78), 3) := by decide +kernel
theorem dX11_digest_218 : decode cX11_digest 218 = .ok (.ldc2_w 358, 3) := by decide +kernel
theorem dX11_digest_221 : decode cX11_digest 221 = .ok (.lload_n 1, 1) := by decide +kernel
theorem dX11_digest_222 : decode cX11_digest 222 = .ok (.lmul, 1) := by decide +kernel
theorem dX11_digest_223 : decode cX11_digest 223 = .ok (.aload_n 0, 1) := by decide +kernel
theorem dX11_digest_224 : decode cX11_digest 224 = .ok (.iload_n 3, 1) := by decide +kernel
theorem dX11_digest_225 : decode cX11_digest 225 = .ok (.invokevirtual 288, 3) := by decide +kernel
theorem dX11_digest_228 : decode cX11_digest 228 = .ok (.i2l, 1) := by decide +kernel
theorem dX11_digest_229 : decode cX11_digest 229 = .ok (.ladd, 1) := by decide +kernel
theorem dX11_digest_230 : decode cX11_digest 230 = .ok (.lstore_n 1, 1) := by decide +kernel
theorem dX11_digest_231 : decode cX11_digest 231 = .ok (.iinc 3 1, 3) := by decide +kernel
theorem dX11_digest_234 : decode cX11_digest 234 = .ok (.goto (-131), 3) := by decide +kernel
theorem dX11_digest_237 : decode cX11_digest 237 = .ok (.ldc2_w 358, 3) := by decide +kernel
theorem dX11_digest_240 : decode cX11_digest 240 = .ok (.lload_n 1, 1) := by decide +kernel
theorem dX11_digest_241 : decode cX11_digest 241 = .ok (.lmul, 1) := by decide +kernel
theorem dX11_digest_242 : decode cX11_digest 242 = .ok (.aload_n 0, 1) := by decide +kernel
theorem dX11_digest_243 : decode cX11_digest 243 = .ok (.invokevirtual 336, 3) := by decide +kernel
theorem dX11_digest_246 : decode cX11_digest 246 = .ok (.i2l, 1) := by decide +kernel
theorem dX11_digest_247 : decode cX11_digest 247 = .ok (.ladd, 1) := by decide +kernel
theorem dX11_digest_248 : decode cX11_digest 248 = .ok (.lreturn, 1) := by decide +kernel
def wX11_digest_34 (post : Int64 → Sto → Prop)  (K6 : Int64 → Int32 → Sto → Prop) (x3 : Int32) (y0 : Int64) (σ : Sto) : Prop := K6 y0 (x3 + (1 : Int32)) σ
set_option maxRecDepth 100000 in
set_option maxHeartbeats 4000000 in
theorem vX11_digest_34 (E : Ev) (post : Int64 → Sto → Prop)   (K6 : Int64 → Int32 → Sto → Prop) (HK6 : ∀ (x1 : Int64) (x3 : Int32) (σ : Sto), K6 x1 x3 σ → V E 9 mX11_digest (pL post) 6 [(0, .ref 67), (1, .long x1), (3, .int x3)] [] σ) (x3 : Int32) (y0 : Int64) (σ : Sto) (h : wX11_digest_34 post  K6 x3 y0 σ) : V E 9 mX11_digest (pL post) 34 [(0, .ref 67), (3, .int x3)] [.long y0] σ := by
  unfold wX11_digest_34 at h
  refine V_lstore_n (pc := 34) dX11_digest_34 (by decide) ?_
  refine V_iinc (pc := 35) 2 (v := 1) dX11_digest_35 rfl (by decide) (by decide) ?_
  refine V_goto (pc := 38) (tgt := 6) dX11_digest_38 (by decide) ?_
  exact V_loc [2, 1, 0] rfl (HK6 y0 (x3 + (1 : Int32)) σ  h)
def wX11_digest_6 (post : Int64 → Sto → Prop)  (K41 : Int64 → Sto → Prop) : Nat → Int64 → Int32 → Sto → Prop
  | 0, _, _, _ => False
  | n + 1, x1, x3, σ => ((((11 : Int32)) ≤ x3) → (K41 x1 σ)) ∧ ((¬ (((11 : Int32)) ≤ x3)) → (((¬ x3 = ((8 : Int32))) → (wX11_count  x3 σ (fun (r29 : Int32) (s29 : Sto) => wX11_digest_34 post  (wX11_digest_6 post  K41 n) x3 ((((31 : Int64)) * x1) + r29.toInt64) s29))) ∧ ((x3 = ((8 : Int32))) → (wX11_digest_34 post  (wX11_digest_6 post  K41 n) x3 x1 σ))))
set_option maxRecDepth 100000 in
set_option maxHeartbeats 4000000 in
theorem vX11_digest_6 (E : Ev) (post : Int64 → Sto → Prop)   (K41 : Int64 → Sto → Prop) (HK41 : ∀ (x1 : Int64) (σ : Sto), K41 x1 σ → V E 9 mX11_digest (pL post) 41 [(0, .ref 67), (1, .long x1)] [] σ) : ∀ (n : Nat) (x1 : Int64) (x3 : Int32) (σ : Sto), wX11_digest_6 post  K41 n x1 x3 σ → V E 9 mX11_digest (pL post) 6 [(0, .ref 67), (1, .long x1), (3, .int x3)] [] σ := by
  intro n
  induction n with
  | zero => intro x1 x3 σ h; exact h.elim
  | succ n ih =>
    intro x1 x3 σ h
    unfold wX11_digest_6 at h
    refine V_iload_n (pc := 6) 2 dX11_digest_6 rfl ?_
    refine V_bipush (pc := 7) (v := 11) dX11_digest_7 (by decide) ?_
    refine V_icmp_ge (pc := 9) (tgt := 41) dX11_digest_9 (by decide) (fun hc => ?_) (fun hc => ?_)
    · replace h := h.1 hc
      exact V_loc [0, 1] rfl (HK41 x1 σ  h)
    · replace h := h.2 hc
      refine V_iload_n (pc := 12) 2 dX11_digest_12 rfl ?_
      refine V_bipush (pc := 13) (v := 8) dX11_digest_13 (by decide) ?_
      refine V_icmp_ne (pc := 15) (tgt := 22) dX11_digest_15 (by decide) (fun hc => ?_) (fun hc => ?_)
      · replace h := h.1 hc
        refine V_ldc2 (pc := 22) dX11_digest_22 cl_X11_358 ?_
        refine V_lload_n (pc := 25) 1 dX11_digest_25 rfl ?_
        refine V_lmul (pc := 26) dX11_digest_26 ?_
        refine V_aload_n (pc := 27) 0 dX11_digest_27 rfl ?_
        refine V_iload_n (pc := 28) 2 dX11_digest_28 rfl ?_
        refine V_callV (pc := 29) (M' := mX11_count) dX11_digest_29 ml_X11_360 kv_X11_count ko_X11_count sh_67 (by decide) (by decide) rfl rfl (Nat.le_of_ble_eq_true rfl) (Nat.le_of_ble_eq_true rfl) (vX11_count E  x3 σ _  h) (kI (fun r29 s29 h => ?_))
        refine V_i2l (pc := 32) dX11_digest_32 ?_
        refine V_ladd (pc := 33) dX11_digest_33 ?_
        refine V_loc [0, 2] rfl (vX11_digest_34 E post   _ ih x3 ((((31 : Int64)) * x1) + r29.toInt64) s29  h)
      · replace h := h.2 hc
        refine V_lload_n (pc := 18) 1 dX11_digest_18 rfl ?_
        refine V_goto (pc := 19) (tgt := 34) dX11_digest_19 (by decide) ?_
        refine V_loc [0, 2] rfl (vX11_digest_34 E post   _ ih x3 x1 σ  h)
def wX11_digest_68 (post : Int64 → Sto → Prop)  (K95 : Int64 → Int32 → Sto → Prop) : Nat → Int64 → Int32 → Int32 → Sto → Prop
  | 0, _, _, _, _ => False
  | n + 1, x1, x3, x4, σ => ((((4 : Int32)) ≤ x4) → (K95 x1 x3 σ)) ∧ ((¬ (((4 : Int32)) ≤ x4)) → (wX11_toldOrNot  x3 x4 σ (fun (r83 : Int32) (s83 : Sto) => wX11_digest_68 post  K95 n ((((31 : Int64)) * x1) + r83.toInt64) x3 (x4 + (1 : Int32)) s83)))
set_option maxRecDepth 100000 in
set_option maxHeartbeats 4000000 in
theorem vX11_digest_68 (E : Ev) (post : Int64 → Sto → Prop)   (K95 : Int64 → Int32 → Sto → Prop) (HK95 : ∀ (x1 : Int64) (x3 : Int32) (σ : Sto), K95 x1 x3 σ → V E 9 mX11_digest (pL post) 95 [(0, .ref 67), (1, .long x1), (3, .int x3)] [] σ) : ∀ (n : Nat) (x1 : Int64) (x3 : Int32) (x4 : Int32) (σ : Sto), wX11_digest_68 post  K95 n x1 x3 x4 σ → V E 9 mX11_digest (pL post) 68 [(0, .ref 67), (1, .long x1), (3, .int x3), (4, .int x4)] [] σ := by
  intro n
  induction n with
  | zero => intro x1 x3 x4 σ h; exact h.elim
  | succ n ih =>
    intro x1 x3 x4 σ h
    unfold wX11_digest_68 at h
    refine V_iload (pc := 68) 3 dX11_digest_68 rfl ?_
    refine V_iconst (pc := 70) (v := 4) dX11_digest_70 (by decide) ?_
    refine V_icmp_ge (pc := 71) (tgt := 95) dX11_digest_71 (by decide) (fun hc => ?_) (fun hc => ?_)
    · replace h := h.1 hc
      exact V_loc [0, 1, 2] rfl (HK95 x1 x3 σ  h)
    · replace h := h.2 hc
      refine V_ldc2 (pc := 74) dX11_digest_74 cl_X11_358 ?_
      refine V_lload_n (pc := 77) 1 dX11_digest_77 rfl ?_
      refine V_lmul (pc := 78) dX11_digest_78 ?_
      refine V_aload_n (pc := 79) 0 dX11_digest_79 rfl ?_
      refine V_iload_n (pc := 80) 2 dX11_digest_80 rfl ?_
      refine V_iload (pc := 81) 3 dX11_digest_81 rfl ?_
      refine V_callV (pc := 83) (M' := mX11_toldOrNot) dX11_digest_83 ml_X11_169 kv_X11_toldOrNot ko_X11_toldOrNot sh_67 (by decide) (by decide) rfl rfl (Nat.le_of_ble_eq_true rfl) (Nat.le_of_ble_eq_true rfl) (vX11_toldOrNot E  x3 x4 σ _  h) (kI (fun r83 s83 h => ?_))
      refine V_i2l (pc := 86) dX11_digest_86 ?_
      refine V_ladd (pc := 87) dX11_digest_87 ?_
      refine V_lstore_n (pc := 88) dX11_digest_88 (by decide) ?_
      refine V_iinc (pc := 89) 3 (v := 1) dX11_digest_89 rfl (by decide) (by decide) ?_
      refine V_goto (pc := 92) (tgt := 68) dX11_digest_92 (by decide) ?_
      exact V_loc [2, 1, 3, 0] rfl (ih ((((31 : Int64)) * x1) + r83.toInt64) x3 (x4 + (1 : Int32)) s83  h)
def wX11_digest_43 (post : Int64 → Sto → Prop)  (K101 : Int64 → Sto → Prop) : Nat → Int64 → Int32 → Sto → Prop
  | 0, _, _, _ => False
  | n + 1, x1, x3, σ => (((σ.1 67 1) ≤ x3) → (K101 x1 σ)) ∧ ((¬ ((σ.1 67 1) ≤ x3)) → (vp_in x3 14 ∧ (∃ n68, wX11_digest_68 post  (fun (x1_2 : Int64) (x3_2 : Int32) (σ_2 : Sto) => wX11_digest_43 post  K101 n x1_2 (x3_2 + (1 : Int32)) σ_2) n68 ((((31 : Int64)) * x1) + ((σ.1 69 x3.toNatClampNeg).toInt64)) x3 ((0 : Int32)) σ)))
set_option maxRecDepth 100000 in
set_option maxHeartbeats 4000000 in
theorem vX11_digest_43 (E : Ev) (post : Int64 → Sto → Prop)   (K101 : Int64 → Sto → Prop) (HK101 : ∀ (x1 : Int64) (σ : Sto), K101 x1 σ → V E 9 mX11_digest (pL post) 101 [(0, .ref 67), (1, .long x1)] [] σ) : ∀ (n : Nat) (x1 : Int64) (x3 : Int32) (σ : Sto), wX11_digest_43 post  K101 n x1 x3 σ → V E 9 mX11_digest (pL post) 43 [(0, .ref 67), (1, .long x1), (3, .int x3)] [] σ := by
  intro n
  induction n with
  | zero => intro x1 x3 σ h; exact h.elim
  | succ n ih =>
    intro x1 x3 σ h
    unfold wX11_digest_43 at h
    refine V_iload_n (pc := 43) 2 dX11_digest_43 rfl ?_
    refine V_aload_n (pc := 44) 0 dX11_digest_44 rfl ?_
    refine V_getI (pc := 45) dX11_digest_45 fl_X11_101 sh_67 rfl ?_
    refine V_icmp_ge (pc := 48) (tgt := 101) dX11_digest_48 (by decide) (fun hc => ?_) (fun hc => ?_)
    · replace h := h.1 hc
      exact V_loc [0, 1] rfl (HK101 x1 σ  h)
    · replace h := h.2 hc
      refine V_ldc2 (pc := 51) dX11_digest_51 cl_X11_358 ?_
      refine V_lload_n (pc := 54) 1 dX11_digest_54 rfl ?_
      refine V_lmul (pc := 55) dX11_digest_55 ?_
      refine V_aload_n (pc := 56) 0 dX11_digest_56 rfl ?_
      refine V_getR (pc := 57) dX11_digest_57 fl_X11_13 sh_67 rfl ?_
      refine V_iload_n (pc := 60) 2 dX11_digest_60 rfl ?_
      obtain ⟨i61, h⟩ := h
      refine V_iald (pc := 61) dX11_digest_61 sh_69 i61 ?_
      refine V_i2l (pc := 62) dX11_digest_62 ?_
      refine V_ladd (pc := 63) dX11_digest_63 ?_
      refine V_lstore_n (pc := 64) dX11_digest_64 (by decide) ?_
      refine V_iconst (pc := 65) (v := 0) dX11_digest_65 (by decide) ?_
      refine V_istore (pc := 66) dX11_digest_66 (by decide) ?_
      obtain ⟨n68, h⟩ := h
      refine V_loc [2, 1, 3, 0] rfl (vX11_digest_68 E post   _ (fun x1_2 x3_2 σ_2 h => ?_) n68 ((((31 : Int64)) * x1) + ((σ.1 69 x3.toNatClampNeg).toInt64)) x3 ((0 : Int32)) σ  h)
      · refine V_iinc (pc := 95) 2 (v := 1) dX11_digest_95 rfl (by decide) (by decide) ?_
        refine V_goto (pc := 98) (tgt := 43) dX11_digest_98 (by decide) ?_
        exact V_loc [1, 2, 0] rfl (ih x1_2 (x3_2 + (1 : Int32)) σ_2  h)
def wX11_digest_210 (post : Int64 → Sto → Prop)  (K137 : Int64 → Int32 → Int32 → Sto → Prop) (x3 : Int32) (x4 : Int32) (y0 : Int64) (y1 : Int64) (σ : Sto) : Prop := K137 (y1 + y0) x3 (x4 + (1 : Int32)) σ
set_option maxRecDepth 100000 in
set_option maxHeartbeats 4000000 in
theorem vX11_digest_210 (E : Ev) (post : Int64 → Sto → Prop)   (K137 : Int64 → Int32 → Int32 → Sto → Prop) (HK137 : ∀ (x1 : Int64) (x3 : Int32) (x4 : Int32) (σ : Sto), K137 x1 x3 x4 σ → V E 9 mX11_digest (pL post) 137 [(0, .ref 67), (1, .long x1), (3, .int x3), (4, .int x4)] [] σ) (x3 : Int32) (x4 : Int32) (y0 : Int64) (y1 : Int64) (σ : Sto) (h : wX11_digest_210 post  K137 x3 x4 y0 y1 σ) : V E 9 mX11_digest (pL post) 210 [(0, .ref 67), (3, .int x3), (4, .int x4)] [.long y0, .long y1] σ := by
  unfold wX11_digest_210 at h
  refine V_ladd (pc := 210) dX11_digest_210 ?_
  refine V_lstore_n (pc := 211) dX11_digest_211 (by decide) ?_
  refine V_iinc (pc := 212) 3 (v := 1) dX11_digest_212 rfl (by decide) (by decide) ?_
  refine V_goto (pc := 215) (tgt := 137) dX11_digest_215 (by decide) ?_
  exact V_loc [2, 1, 3, 0] rfl (HK137 (y1 + y0) x3 (x4 + (1 : Int32)) σ  h)
def wX11_digest_180 (post : Int64 → Sto → Prop)  (K137 : Int64 → Int32 → Int32 → Sto → Prop) (x3 : Int32) (x4 : Int32) (x5 : Int32) (y0 : Int64) (y1 : Int64) (σ : Sto) : Prop := ((x5 = 0) → (wX11_digest_210 post  K137 x3 x4 ((-3 : Int64)) (((31 : Int64)) * (y1 + y0)) σ)) ∧ ((¬ (x5 = 0)) → (wX11_lowest  (σ.2 67 25) (σ.2 67 26) ((1 : Int32)) σ (fun (r201 : Int64) (s201 : Sto) => wX11_digest_210 post  K137 x3 x4 r201 (((31 : Int64)) * (y1 + y0)) s201)))
set_option maxRecDepth 100000 in
set_option maxHeartbeats 4000000 in
theorem vX11_digest_180 (E : Ev) (post : Int64 → Sto → Prop)   (K137 : Int64 → Int32 → Int32 → Sto → Prop) (HK137 : ∀ (x1 : Int64) (x3 : Int32) (x4 : Int32) (σ : Sto), K137 x1 x3 x4 σ → V E 9 mX11_digest (pL post) 137 [(0, .ref 67), (1, .long x1), (3, .int x3), (4, .int x4)] [] σ) (x3 : Int32) (x4 : Int32) (x5 : Int32) (y0 : Int64) (y1 : Int64) (σ : Sto) (h : wX11_digest_180 post  K137 x3 x4 x5 y0 y1 σ) : V E 9 mX11_digest (pL post) 180 [(0, .ref 67), (3, .int x3), (4, .int x4), (5, .int x5)] [.long y0, .long y1] σ := by
  unfold wX11_digest_180 at h
  refine V_ladd (pc := 180) dX11_digest_180 ?_
  refine V_lstore_n (pc := 181) dX11_digest_181 (by decide) ?_
  refine V_ldc2 (pc := 182) dX11_digest_182 cl_X11_358 ?_
  refine V_lload_n (pc := 185) 0 dX11_digest_185 rfl ?_
  refine V_lmul (pc := 186) dX11_digest_186 ?_
  refine V_iload (pc := 187) 4 dX11_digest_187 rfl ?_
  refine V_if_eq (pc := 189) (tgt := 207) dX11_digest_189 (by decide) (fun hc => ?_) (fun hc => ?_)
  · replace h := h.1 hc
    refine V_ldc2 (pc := 207) dX11_digest_207 cl_X11_363 ?_
    refine V_loc [1, 2, 3] rfl (vX11_digest_210 E post   K137 HK137 x3 x4 ((-3 : Int64)) (((31 : Int64)) * (y1 + y0)) σ  h)
  · replace h := h.2 hc
    refine V_aload_n (pc := 192) 1 dX11_digest_192 rfl ?_
    refine V_getL (pc := 193) dX11_digest_193 fl_X11_207 sh_67 rfl ?_
    refine V_aload_n (pc := 196) 1 dX11_digest_196 rfl ?_
    refine V_getL (pc := 197) dX11_digest_197 fl_X11_210 sh_67 rfl ?_
    refine V_iconst (pc := 200) (v := 1) dX11_digest_200 (by decide) ?_
    refine V_callS (pc := 201) (M' := mX11_lowest) dX11_digest_201 ml_X11_254 ks_X11_lowest ko_X11_lowest (by decide) rfl (Nat.le_of_ble_eq_true rfl) (Nat.le_of_ble_eq_true rfl) (vX11_lowest E  (σ.2 67 25) (σ.2 67 26) ((1 : Int32)) σ _  h) (kL (fun r201 s201 h => ?_))
    refine V_goto (pc := 204) (tgt := 210) dX11_digest_204 (by decide) ?_
    refine V_loc [1, 2, 3] rfl (vX11_digest_210 E post   K137 HK137 x3 x4 r201 (((31 : Int64)) * (y1 + y0)) s201  h)
def wX11_digest_137 (post : Int64 → Sto → Prop)  (K218 : Int64 → Int32 → Sto → Prop) : Nat → Int64 → Int32 → Int32 → Sto → Prop
  | 0, _, _, _, _ => False
  | n + 1, x1, x3, x4, σ => ((((4 : Int32)) ≤ x4) → (K218 x1 x3 σ)) ∧ ((¬ (((4 : Int32)) ≤ x4)) → (wX11_finds  x3 x4 σ (fun (r147 : Bool) (s147 : Sto) => ((r147 = false) → (wX11_digest_180 post  (wX11_digest_137 post  K218 n) x3 x4 (b2i r147) ((-3 : Int64)) (((31 : Int64)) * x1) s147)) ∧ ((r147 = true) → (wX11_lowest  (s147.2 67 25) (s147.2 67 26) ((0 : Int32)) s147 (fun (r171 : Int64) (s171 : Sto) => wX11_digest_180 post  (wX11_digest_137 post  K218 n) x3 x4 (b2i r147) r171 (((31 : Int64)) * x1) s171))))))
set_option maxRecDepth 100000 in
set_option maxHeartbeats 4000000 in
theorem vX11_digest_137 (E : Ev) (post : Int64 → Sto → Prop)   (K218 : Int64 → Int32 → Sto → Prop) (HK218 : ∀ (x1 : Int64) (x3 : Int32) (σ : Sto), K218 x1 x3 σ → V E 9 mX11_digest (pL post) 218 [(0, .ref 67), (1, .long x1), (3, .int x3)] [] σ) : ∀ (n : Nat) (x1 : Int64) (x3 : Int32) (x4 : Int32) (σ : Sto), wX11_digest_137 post  K218 n x1 x3 x4 σ → V E 9 mX11_digest (pL post) 137 [(0, .ref 67), (1, .long x1), (3, .int x3), (4, .int x4)] [] σ := by
  intro n
  induction n with
  | zero => intro x1 x3 x4 σ h; exact h.elim
  | succ n ih =>
    intro x1 x3 x4 σ h
    unfold wX11_digest_137 at h
    refine V_iload (pc := 137) 3 dX11_digest_137 rfl ?_
    refine V_iconst (pc := 139) (v := 4) dX11_digest_139 (by decide) ?_
    refine V_icmp_ge (pc := 140) (tgt := 218) dX11_digest_140 (by decide) (fun hc => ?_) (fun hc => ?_)
    · replace h := h.1 hc
      exact V_loc [0, 1, 2] rfl (HK218 x1 x3 σ  h)
    · replace h := h.2 hc
      refine V_aload_n (pc := 143) 0 dX11_digest_143 rfl ?_
      refine V_iload_n (pc := 144) 2 dX11_digest_144 rfl ?_
      refine V_iload (pc := 145) 3 dX11_digest_145 rfl ?_
      refine V_callV (pc := 147) (M' := mX11_finds) dX11_digest_147 ml_X11_251 kv_X11_finds ko_X11_finds sh_67 (by decide) (by decide) rfl rfl (Nat.le_of_ble_eq_true rfl) (Nat.le_of_ble_eq_true rfl) (vX11_finds E  x3 x4 σ _  h) (kB (fun r147 s147 h => ?_))
      refine V_istore (pc := 150) dX11_digest_150 (by decide) ?_
      refine V_ldc2 (pc := 152) dX11_digest_152 cl_X11_358 ?_
      refine V_lload_n (pc := 155) 2 dX11_digest_155 rfl ?_
      refine V_lmul (pc := 156) dX11_digest_156 ?_
      refine V_iload (pc := 157) 0 dX11_digest_157 rfl ?_
      refine V_ifz (pc := 159) (tgt := 177) dX11_digest_159 (by decide) (fun hc => ?_) (fun hc => ?_)
      · replace h := h.1 hc
        refine V_ldc2 (pc := 177) dX11_digest_177 cl_X11_363 ?_
        refine V_loc [1, 3, 4, 0] rfl (vX11_digest_180 E post   _ ih x3 x4 (b2i r147) ((-3 : Int64)) (((31 : Int64)) * x1) s147  h)
      · replace h := h.2 hc
        refine V_aload_n (pc := 162) 1 dX11_digest_162 rfl ?_
        refine V_getL (pc := 163) dX11_digest_163 fl_X11_207 sh_67 rfl ?_
        refine V_aload_n (pc := 166) 1 dX11_digest_166 rfl ?_
        refine V_getL (pc := 167) dX11_digest_167 fl_X11_210 sh_67 rfl ?_
        refine V_iconst (pc := 170) (v := 0) dX11_digest_170 (by decide) ?_
        refine V_callS (pc := 171) (M' := mX11_lowest) dX11_digest_171 ml_X11_254 ks_X11_lowest ko_X11_lowest (by decide) rfl (Nat.le_of_ble_eq_true rfl) (Nat.le_of_ble_eq_true rfl) (vX11_lowest E  (s147.2 67 25) (s147.2 67 26) ((0 : Int32)) s147 _  h) (kL (fun r171 s171 h => ?_))
        refine V_goto (pc := 174) (tgt := 180) dX11_digest_174 (by decide) ?_
        refine V_loc [1, 3, 4, 0] rfl (vX11_digest_180 E post   _ ih x3 x4 (b2i r147) r171 (((31 : Int64)) * x1) s171  h)
def wX11_digest_103 (post : Int64 → Sto → Prop)  (K237 : Int64 → Sto → Prop) : Nat → Int64 → Int32 → Sto → Prop
  | 0, _, _, _ => False
  | n + 1, x1, x3, σ => ((((4 : Int32)) ≤ x3) → (K237 x1 σ)) ∧ ((¬ (((4 : Int32)) ≤ x3)) → (wX11_agreeingOf  x3 σ (fun (r115 : Int32) (s115 : Sto) => wX11_commonOf  x3 s115 (fun (r128 : Int32) (s128 : Sto) => ∃ n137, wX11_digest_137 post  (fun (x1_4 : Int64) (x3_4 : Int32) (σ_4 : Sto) => wX11_widestOf  x3_4 σ_4 (fun (r225 : Int32) (s225 : Sto) => wX11_digest_103 post  K237 n ((((31 : Int64)) * x1_4) + r225.toInt64) (x3_4 + (1 : Int32)) s225)) n137 ((((31 : Int64)) * ((((31 : Int64)) * x1) + r115.toInt64)) + r128.toInt64) x3 ((0 : Int32)) s128))))
set_option maxRecDepth 100000 in
set_option maxHeartbeats 4000000 in
theorem vX11_digest_103 (E : Ev) (post : Int64 → Sto → Prop)   (K237 : Int64 → Sto → Prop) (HK237 : ∀ (x1 : Int64) (σ : Sto), K237 x1 σ → V E 9 mX11_digest (pL post) 237 [(0, .ref 67), (1, .long x1)] [] σ) : ∀ (n : Nat) (x1 : Int64) (x3 : Int32) (σ : Sto), wX11_digest_103 post  K237 n x1 x3 σ → V E 9 mX11_digest (pL post) 103 [(0, .ref 67), (1, .long x1), (3, .int x3)] [] σ := by
  intro n
  induction n with
  | zero => intro x1 x3 σ h; exact h.elim
  | succ n ih =>
    intro x1 x3 σ h
    unfold wX11_digest_103 at h
    refine V_iload_n (pc := 103) 2 dX11_digest_103 rfl ?_
    refine V_iconst (pc := 104) (v := 4) dX11_digest_104 (by decide) ?_
    refine V_icmp_ge (pc := 105) (tgt := 237) dX11_digest_105 (by decide) (fun hc => ?_) (fun hc => ?_)
    · replace h := h.1 hc
      exact V_loc [0, 1] rfl (HK237 x1 σ  h)
    · replace h := h.2 hc
      refine V_ldc2 (pc := 108) dX11_digest_108 cl_X11_358 ?_
      refine V_lload_n (pc := 111) 1 dX11_digest_111 rfl ?_
      refine V_lmul (pc := 112) dX11_digest_112 ?_
      refine V_aload_n (pc := 113) 0 dX11_digest_113 rfl ?_
      refine V_iload_n (pc := 114) 2 dX11_digest_114 rfl ?_
      refine V_callV (pc := 115) (M' := mX11_agreeingOf) dX11_digest_115 ml_X11_183 kv_X11_agreeingOf ko_X11_agreeingOf sh_67 (by decide) (by decide) rfl rfl (Nat.le_of_ble_eq_true rfl) (Nat.le_of_ble_eq_true rfl) (vX11_agreeingOf E  x3 σ _  h) (kI (fun r115 s115 h => ?_))
      refine V_i2l (pc := 118) dX11_digest_118 ?_
      refine V_ladd (pc := 119) dX11_digest_119 ?_
      refine V_lstore_n (pc := 120) dX11_digest_120 (by decide) ?_
      refine V_ldc2 (pc := 121) dX11_digest_121 cl_X11_358 ?_
      refine V_lload_n (pc := 124) 0 dX11_digest_124 rfl ?_
      refine V_lmul (pc := 125) dX11_digest_125 ?_
      refine V_aload_n (pc := 126) 1 dX11_digest_126 rfl ?_
      refine V_iload_n (pc := 127) 2 dX11_digest_127 rfl ?_
      refine V_callV (pc := 128) (M' := mX11_commonOf) dX11_digest_128 ml_X11_190 kv_X11_commonOf ko_X11_commonOf sh_67 (by decide) (by decide) rfl rfl (Nat.le_of_ble_eq_true rfl) (Nat.le_of_ble_eq_true rfl) (vX11_commonOf E  x3 s115 _  h) (kI (fun r128 s128 h => ?_))
      refine V_i2l (pc := 131) dX11_digest_131 ?_
      refine V_ladd (pc := 132) dX11_digest_132 ?_
      refine V_lstore_n (pc := 133) dX11_digest_133 (by decide) ?_
      refine V_iconst (pc := 134) (v := 0) dX11_digest_134 (by decide) ?_
      refine V_istore (pc := 135) dX11_digest_135 (by decide) ?_
      obtain ⟨n137, h⟩ := h
      refine V_loc [2, 1, 3, 0] rfl (vX11_digest_137 E post   _ (fun x1_4 x3_4 σ_4 h => ?_) n137 ((((31 : Int64)) * ((((31 : Int64)) * x1) + r115.toInt64)) + r128.toInt64) x3 ((0 : Int32)) s128  h)
      · refine V_ldc2 (pc := 218) dX11_digest_218 cl_X11_358 ?_
        refine V_lload_n (pc := 221) 1 dX11_digest_221 rfl ?_
        refine V_lmul (pc := 222) dX11_digest_222 ?_
        refine V_aload_n (pc := 223) 0 dX11_digest_223 rfl ?_
        refine V_iload_n (pc := 224) 2 dX11_digest_224 rfl ?_
        refine V_callV (pc := 225) (M' := mX11_widestOf) dX11_digest_225 ml_X11_288 kv_X11_widestOf ko_X11_widestOf sh_67 (by decide) (by decide) rfl rfl (Nat.le_of_ble_eq_true rfl) (Nat.le_of_ble_eq_true rfl) (vX11_widestOf E  x3_4 σ_4 _  h) (kI (fun r225 s225 h => ?_))
        refine V_i2l (pc := 228) dX11_digest_228 ?_
        refine V_ladd (pc := 229) dX11_digest_229 ?_
        refine V_lstore_n (pc := 230) dX11_digest_230 (by decide) ?_
        refine V_iinc (pc := 231) 2 (v := 1) dX11_digest_231 rfl (by decide) (by decide) ?_
        refine V_goto (pc := 234) (tgt := 103) dX11_digest_234 (by decide) ?_
        exact V_loc [2, 1, 0] rfl (ih ((((31 : Int64)) * x1_4) + r225.toInt64) (x3_4 + (1 : Int32)) s225  h)
def wX11_digest   (σ : Sto) (post : Int64 → Sto → Prop) : Prop := ∃ n6, wX11_digest_6 post  (fun (x1_1 : Int64) (σ_1 : Sto) => ∃ n43, wX11_digest_43 post  (fun (x1_3 : Int64) (σ_3 : Sto) => ∃ n103, wX11_digest_103 post  (fun (x1_5 : Int64) (σ_5 : Sto) => wX11_faultNow   σ_5 (fun (r243 : Int32) (s243 : Sto) => post ((((31 : Int64)) * x1_5) + r243.toInt64) s243)) n103 x1_3 ((0 : Int32)) σ_3) n43 x1_1 ((0 : Int32)) σ_1) n6 ((17 : Int64)) ((0 : Int32)) σ
set_option maxRecDepth 100000 in
set_option maxHeartbeats 4000000 in
theorem vX11_digest (E : Ev)   (σ : Sto) (post : Int64 → Sto → Prop)  (h : wX11_digest   σ post) : V E 9 mX11_digest (pL post) 0 [(0, .ref 67)] [] σ := by
  unfold wX11_digest at h
  refine V_ldc2 (pc := 0) dX11_digest_0 cl_X11_356 ?_
  refine V_lstore_n (pc := 3) dX11_digest_3 (by decide) ?_
  refine V_iconst (pc := 4) (v := 0) dX11_digest_4 (by decide) ?_
  refine V_istore_n (pc := 5) dX11_digest_5 (by decide) ?_
  obtain ⟨n6, h⟩ := h
  refine V_loc [2, 1, 0] rfl (vX11_digest_6 E post   _ (fun x1_1 σ_1 h => ?_) n6 ((17 : Int64)) ((0 : Int32)) σ  h)
  · refine V_iconst (pc := 41) (v := 0) dX11_digest_41 (by decide) ?_
    refine V_istore_n (pc := 42) dX11_digest_42 (by decide) ?_
    obtain ⟨n43, h⟩ := h
    refine V_loc [1, 2, 0] rfl (vX11_digest_43 E post   _ (fun x1_3 σ_3 h => ?_) n43 x1_1 ((0 : Int32)) σ_1  h)
    · refine V_iconst (pc := 101) (v := 0) dX11_digest_101 (by decide) ?_
      refine V_istore_n (pc := 102) dX11_digest_102 (by decide) ?_
      obtain ⟨n103, h⟩ := h
      refine V_loc [1, 2, 0] rfl (vX11_digest_103 E post   _ (fun x1_5 σ_5 h => ?_) n103 x1_3 ((0 : Int32)) σ_3  h)
      · refine V_ldc2 (pc := 237) dX11_digest_237 cl_X11_358 ?_
        refine V_lload_n (pc := 240) 1 dX11_digest_240 rfl ?_
        refine V_lmul (pc := 241) dX11_digest_241 ?_
        refine V_aload_n (pc := 242) 0 dX11_digest_242 rfl ?_
        refine V_callV (pc := 243) (M' := mX11_faultNow) dX11_digest_243 ml_X11_336 kv_X11_faultNow ko_X11_faultNow sh_67 (by decide) (by decide) rfl rfl (Nat.le_of_ble_eq_true rfl) (Nat.le_of_ble_eq_true rfl) (vX11_faultNow E   σ_5 _  h) (kI (fun r243 s243 h => ?_))
        refine V_i2l (pc := 246) dX11_digest_246 ?_
        refine V_ladd (pc := 247) dX11_digest_247 ?_
        exact V_lret dX11_digest_248 rfl h

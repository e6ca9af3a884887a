theorem dX6_gather_0 : decode cX6_gather 0 = .ok (.aload_n 0, 1) := by decide +kernel
theorem dX6_gather_1 : decode cX6_gather 1 = .ok (.iconst 0, 1) := by decide +kernel
theorem dX6_gather_2 : decode cX6_gather 2 = .ok (.putfield 40, 3) := by decide +kernel
theorem dX6_gather_5 : decode cX6_gather 5 = .ok (.iconst 0, 1) := by decide +kernel
theorem dX6_gather_6 : decode cX6_gather 6 = .ok (.istore_n 2, 1) := by decide +kernel
theorem dX6_gather_7 : decode cX6_gather 7 = .ok (.iload_n 2, 1) := by decide +kernel
theorem dX6_gather_8 : decode cX6_gather 8 = .ok (.aload_n 0, 1) := by decide +kernel
theorem dX6_gather_9 : decode cX6_gather 9 = .ok (.getfield 28, 3) := by decide +kernel
theorem dX6_gather_12 : decode cX6_gather 12 = .ok (.getfield 64, 3) := by decide +kernel
theorem dX6_gather_15 : decode cX6_gather 15 = .ok (.if_icmp .ge 54, 3) := by decide +kernel
theorem dX6_gather_18 : decode cX6_gather 18 = .ok (.aload_n 0, 1) := by decide +kernel
theorem dX6_gather_19 : decode cX6_gather 19 = .ok (.getfield 32, 3) := by decide +kernel
theorem dX6_gather_22 : decode cX6_gather 22 = .ok (.iload_n 2, 1) := by decide +kernel
theorem dX6_gather_23 : decode cX6_gather 23 = .ok (.iload_n 1, 1) := by decide +kernel
theorem dX6_gather_24 : decode cX6_gather 24 = .ok (.invokevirtual 69, 3) := by decide +kernel
theorem dX6_gather_27 : decode cX6_gather 27 = .ok (.ifCond .eq 36, 3) := by decide +kernel
theorem dX6_gather_30 : decode cX6_gather 30 = .ok (.aload_n 0, 1) := by decide +kernel
theorem dX6_gather_31 : decode cX6_gather 31 = .ok (.getfield 9, 3) := by decide +kernel
theorem dX6_gather_34 : decode cX6_gather 34 = .ok (.aload_n 0, 1) := by decide +kernel
theorem dX6_gather_35 : decode cX6_gather 35 = .ok (.getfield 40, 3) := by decide +kernel
theorem dX6_gather_38 : decode cX6_gather 38 = .ok (.aload_n 0, 1) := by decide +kernel
theorem dX6_gather_39 : decode cX6_gather 39 = .ok (.getfield 32, 3) := by decide +kernel
theorem dX6_gather_42 : decode cX6_gather 42 = .ok (.getfield 75, 3) := by decide +kernel
theorem dX6_gather_45 : decode cX6_gather 45 = .ok (.iload_n 1, 1) := by decide +kernel
theorem dX6_gather_46 : decode cX6_gather 46 = .ok (.aaload, 1) := by decide +kernel
theorem dX6_gather_47 : decode cX6_gather 47 = .ok (.iload_n 2, 1) := by decide +kernel
theorem dX6_gather_48 : decode cX6_gather 48 = .ok (.iaload, 1) := by decide +kernel
theorem dX6_gather_49 : decode cX6_gather 49 = .ok (.i2l, 1) := by decide +kernel
theorem dX6_gather_50 : decode cX6_gather 50 = .ok (.invokestatic 79, 3) := by decide +kernel
theorem dX6_gather_53 : decode cX6_gather 53 = .ok (.aload_n 0, 1) := by decide +kernel
theorem dX6_gather_54 : decode cX6_gather 54 = .ok (.dup, 1) := by decide +kernel
theorem dX6_gather_55 : decode cX6_gather 55 = .ok (.getfield 40, 3) := by decide +kernel
theorem dX6_gather_58 : decode cX6_gather 58 = .ok (.iconst 1, 1) := by decide +kernel
theorem dX6_gather_59 : decode cX6_gather 59 = .ok (.iadd, 1) := by decide +kernel
theorem dX6_gather_60 : decode cX6_gather 60 = .ok (.putfield 40, 3) := by decide +kernel
theorem dX6_gather_63 : decode cX6_gather 63 = .ok (.iinc 2 1, 3) := by decide +kernel
theorem dX6_gather_66 : decode cX6_gather 66 = .ok (.goto (-59), 3) := by decide +kernel
theorem dX6_gather_69 : decode cX6_gather 69 = .ok (.return_, 1) := by decide +kernel
def wX6_gather_7 (post : Sto → Prop)  (K69 : Sto → Prop) : Nat → Int32 → Int32 → Sto → Prop
  | 0, _, _, _ => False
  | n + 1, x1, x2, σ => (((σ.1 1 2) ≤ x2) → (K69  σ)) ∧ ((¬ ((σ.1 1 2) ≤ x2)) → (wX7_takesPart  x2 x1 σ (fun (r24 : Bool) (s24 : Sto) => ((r24 = false) → (wX6_gather_7 post  K69 n x1 (x2 + (1 : Int32)) s24)) ∧ ((r24 = true) → (vp_in x1 4 ∧ (vp_in x2 14 ∧ (wX10_putInOrder 52 14 (s24.1 5 5) ((s24.1 (45 + x1.toNatClampNeg) x2.toNatClampNeg).toInt64) s24 (fun (s50 : Sto) => wX6_gather_7 post  K69 n x1 (x2 + (1 : Int32)) (wI s50 5 5 ((s50.1 5 5) + ((1 : Int32))))))))))))
set_option maxRecDepth 100000 in
set_option maxHeartbeats 4000000 in
theorem vX6_gather_7 (E : Ev) (post : Sto → Prop)   (K69 : Sto → Prop) (HK69 : ∀  (σ : Sto), K69  σ → V E 1 mX6_gather (pV post) 69 [] [] σ) : ∀ (n : Nat) (x1 : Int32) (x2 : Int32) (σ : Sto), wX6_gather_7 post  K69 n x1 x2 σ → V E 1 mX6_gather (pV post) 7 [(0, .ref 5), (1, .int x1), (2, .int x2)] [] σ := by
  intro n
  induction n with
  | zero => intro x1 x2 σ h; exact h.elim
  | succ n ih =>
    intro x1 x2 σ h
    unfold wX6_gather_7 at h
    refine V_iload_n (pc := 7) 2 dX6_gather_7 rfl ?_
    refine V_aload_n (pc := 8) 0 dX6_gather_8 rfl ?_
    refine V_getR (pc := 9) dX6_gather_9 fl_X6_28 sh_5 rfl ?_
    refine V_getI (pc := 12) dX6_gather_12 fl_X6_64 sh_1 rfl ?_
    refine V_icmp_ge (pc := 15) (tgt := 69) dX6_gather_15 (by decide) (fun hc => ?_) (fun hc => ?_)
    · replace h := h.1 hc
      exact V_loc [] rfl (HK69  σ  h)
    · replace h := h.2 hc
      refine V_aload_n (pc := 18) 0 dX6_gather_18 rfl ?_
      refine V_getR (pc := 19) dX6_gather_19 fl_X6_32 sh_5 rfl ?_
      refine V_iload_n (pc := 22) 2 dX6_gather_22 rfl ?_
      refine V_iload_n (pc := 23) 1 dX6_gather_23 rfl ?_
      refine V_callV (pc := 24) (M' := mX7_takesPart) dX6_gather_24 ml_X6_69 kv_X7_takesPart ko_X7_takesPart sh_2 (by decide) (by decide) rfl rfl (Nat.le_of_ble_eq_true rfl) (Nat.le_of_ble_eq_true rfl) (vX7_takesPart E  x2 x1 σ _  h) (kB (fun r24 s24 h => ?_))
      refine V_ifz (pc := 27) (tgt := 63) dX6_gather_27 (by decide) (fun hc => ?_) (fun hc => ?_)
      · replace h := h.1 hc
        refine V_iinc (pc := 63) 2 (v := 1) dX6_gather_63 rfl (by decide) (by decide) ?_
        refine V_goto (pc := 66) (tgt := 7) dX6_gather_66 (by decide) ?_
        exact V_loc [1, 2, 0] rfl (ih x1 (x2 + (1 : Int32)) s24  h)
      · replace h := h.2 hc
        refine V_aload_n (pc := 30) 0 dX6_gather_30 rfl ?_
        refine V_getR (pc := 31) dX6_gather_31 fl_X6_9 sh_5 rfl ?_
        refine V_aload_n (pc := 34) 0 dX6_gather_34 rfl ?_
        refine V_getI (pc := 35) dX6_gather_35 fl_X6_40 sh_5 rfl ?_
        refine V_aload_n (pc := 38) 0 dX6_gather_38 rfl ?_
        refine V_getR (pc := 39) dX6_gather_39 fl_X6_32 sh_5 rfl ?_
        refine V_getR (pc := 42) dX6_gather_42 fl_X6_75 sh_2 rfl ?_
        refine V_iload_n (pc := 45) 1 dX6_gather_45 rfl ?_
        obtain ⟨i46, h⟩ := h
        refine V_aald (pc := 46) dX6_gather_46 sh_44 i46 ?_
        refine V_iload_n (pc := 47) 2 dX6_gather_47 rfl ?_
        obtain ⟨i48, h⟩ := h
        refine V_iald (pc := 48) dX6_gather_48 (sr_45 (vp_lt i46)) i48 ?_
        refine V_i2l (pc := 49) dX6_gather_49 ?_
        refine V_callN (pc := 50) (M' := mX10_putInOrder) dX6_gather_50 mn_X6_79 ks_X10_putInOrder ko_X10_putInOrder (by decide) rfl (Nat.le_of_ble_eq_true rfl) (Nat.le_of_ble_eq_true rfl) (vX10_putInOrder E 52 14 (s24.1 5 5) ((s24.1 (45 + x1.toNatClampNeg) x2.toNatClampNeg).toInt64) s24 _ sh_52 h) (kV (fun s50 h => ?_))
        refine V_aload_n (pc := 53) 0 dX6_gather_53 rfl ?_
        refine V_dup (pc := 54) dX6_gather_54 rfl ?_
        refine V_getI (pc := 55) dX6_gather_55 fl_X6_40 sh_5 rfl ?_
        refine V_iconst (pc := 58) (v := 1) dX6_gather_58 (by decide) ?_
        refine V_iadd (pc := 59) dX6_gather_59 ?_
        refine V_putI (pc := 60) dX6_gather_60 fl_X6_40 po_X6_5 sh_5 rfl rfl rfl ?_
        refine V_iinc (pc := 63) 2 (v := 1) dX6_gather_63 rfl (by decide) (by decide) ?_
        refine V_goto (pc := 66) (tgt := 7) dX6_gather_66 (by decide) ?_
        exact V_loc [1, 2, 0] rfl (ih x1 (x2 + (1 : Int32)) (wI s50 5 5 ((s50.1 5 5) + ((1 : Int32))))  h)
def wX6_gather  (x1 : Int32) (σ : Sto) (post : Sto → Prop) : Prop := ∃ n7, wX6_gather_7 post  (fun  (σ_1 : Sto) => post σ_1) n7 x1 ((0 : Int32)) (wI σ 5 5 ((0 : Int32)))
set_option maxRecDepth 100000 in
set_option maxHeartbeats 4000000 in
theorem vX6_gather (E : Ev)  (x1 : Int32) (σ : Sto) (post : Sto → Prop)  (h : wX6_gather  x1 σ post) : V E 1 mX6_gather (pV post) 0 [(0, .ref 5), (1, .int x1)] [] σ := by
  unfold wX6_gather at h
  refine V_aload_n (pc := 0) 0 dX6_gather_0 rfl ?_
  refine V_iconst (pc := 1) (v := 0) dX6_gather_1 (by decide) ?_
  refine V_putI (pc := 2) dX6_gather_2 fl_X6_40 po_X6_5 sh_5 rfl rfl rfl ?_
  refine V_iconst (pc := 5) (v := 0) dX6_gather_5 (by decide) ?_
  refine V_istore_n (pc := 6) dX6_gather_6 (by decide) ?_
  obtain ⟨n7, h⟩ := h
  refine V_loc [1, 2, 0] rfl (vX6_gather_7 E post   _ (fun σ_1 h => ?_) n7 x1 ((0 : Int32)) (wI σ 5 5 ((0 : Int32)))  h)
  · exact V_vret dX6_gather_69 rfl h
theorem dX6_twiceMiddle_0 : decode cX6_twiceMiddle 0 = .ok (.iload_n 1, 1) := by decide +kernel
theorem dX6_twiceMiddle_1 : decode cX6_twiceMiddle 1 = .ok (.ifCond .le 19, 3) := by decide +kernel
theorem dX6_twiceMiddle_4 : decode cX6_twiceMiddle 4 = .ok (.aload_n 0, 1) := by decide +kernel
theorem dX6_twiceMiddle_5 : decode cX6_twiceMiddle 5 = .ok (.iload_n 1, 1) := by decide +kernel
theorem dX6_twiceMiddle_6 : decode cX6_twiceMiddle 6 = .ok (.iconst 1, 1) := by decide +kernel
theorem dX6_twiceMiddle_7 : decode cX6_twiceMiddle 7 = .ok (.isub, 1) := by decide +kernel
theorem dX6_twiceMiddle_8 : decode cX6_twiceMiddle 8 = .ok (.iconst 2, 1) := by decide +kernel
theorem dX6_twiceMiddle_9 : decode cX6_twiceMiddle 9 = .ok (.idiv, 1) := by decide +kernel
theorem dX6_twiceMiddle_10 : decode cX6_twiceMiddle 10 = .ok (.laload, 1) := by decide +kernel
theorem dX6_twiceMiddle_11 : decode cX6_twiceMiddle 11 = .ok (.aload_n 0, 1) := by decide +kernel
theorem dX6_twiceMiddle_12 : decode cX6_twiceMiddle 12 = .ok (.iload_n 1, 1) := by decide +kernel
theorem dX6_twiceMiddle_13 : decode cX6_twiceMiddle 13 = .ok (.iconst 2, 1) := by decide +kernel
theorem dX6_twiceMiddle_14 : decode cX6_twiceMiddle 14 = .ok (.idiv, 1) := by decide +kernel
theorem dX6_twiceMiddle_15 : decode cX6_twiceMiddle 15 = .ok (.laload, 1) := by decide +kernel
theorem dX6_twiceMiddle_16 : decode cX6_twiceMiddle 16 = .ok (.ladd, 1) := by decide +kernel
theorem dX6_twiceMiddle_17 : decode cX6_twiceMiddle 17 = .ok (.goto 4, 3) := by decide +kernel
theorem dX6_twiceMiddle_20 : decode cX6_twiceMiddle 20 = .ok (.lconst 0, 1) := by decide +kernel
theorem dX6_twiceMiddle_21 : decode cX6_twiceMiddle 21 = .ok (.lreturn, 1) := by decide +kernel
def wX6_twiceMiddle (c0 : Nat) (n0 : Nat) (x1 : Int32) (σ : Sto) (post : Int64 → Sto → Prop) : Prop := ((x1 ≤ 0) → (post ((0 : Int64)) σ)) ∧ ((¬ (x1 ≤ 0)) → (vp_in ((x1 - ((1 : Int32))) / ((2 : Int32))) n0 ∧ (vp_in (x1 / ((2 : Int32))) n0 ∧ (post ((σ.2 c0 ((x1 - ((1 : Int32))) / ((2 : Int32))).toNatClampNeg) + (σ.2 c0 (x1 / ((2 : Int32))).toNatClampNeg)) σ))))
set_option maxRecDepth 100000 in
set_option maxHeartbeats 4000000 in
theorem vX6_twiceMiddle (E : Ev) (c0 : Nat) (n0 : Nat) (x1 : Int32) (σ : Sto) (post : Int64 → Sto → Prop) (hs_c0 : gs c0 = .inl (1, n0, 0)) (h : wX6_twiceMiddle c0 n0 x1 σ post) : V E 0 mX6_twiceMiddle (pL post) 0 [(0, .ref c0), (1, .int x1)] [] σ := by
  unfold wX6_twiceMiddle at h
  refine V_iload_n (pc := 0) 1 dX6_twiceMiddle_0 rfl ?_
  refine V_if_le (pc := 1) (tgt := 20) dX6_twiceMiddle_1 (by decide) (fun hc => ?_) (fun hc => ?_)
  · replace h := h.1 hc
    refine V_lconst (pc := 20) (v := 0) dX6_twiceMiddle_20 (by decide) ?_
    exact V_lret dX6_twiceMiddle_21 rfl h
  · replace h := h.2 hc
    refine V_aload_n (pc := 4) 0 dX6_twiceMiddle_4 rfl ?_
    refine V_iload_n (pc := 5) 1 dX6_twiceMiddle_5 rfl ?_
    refine V_iconst (pc := 6) (v := 1) dX6_twiceMiddle_6 (by decide) ?_
    refine V_isub (pc := 7) dX6_twiceMiddle_7 ?_
    refine V_iconst (pc := 8) (v := 2) dX6_twiceMiddle_8 (by decide) ?_
    refine V_idiv (pc := 9) dX6_twiceMiddle_9 (by decide) ?_
    obtain ⟨i10, h⟩ := h
    refine V_lald (pc := 10) dX6_twiceMiddle_10 hs_c0 i10 ?_
    refine V_aload_n (pc := 11) 0 dX6_twiceMiddle_11 rfl ?_
    refine V_iload_n (pc := 12) 1 dX6_twiceMiddle_12 rfl ?_
    refine V_iconst (pc := 13) (v := 2) dX6_twiceMiddle_13 (by decide) ?_
    refine V_idiv (pc := 14) dX6_twiceMiddle_14 (by decide) ?_
    obtain ⟨i15, h⟩ := h
    refine V_lald (pc := 15) dX6_twiceMiddle_15 hs_c0 i15 ?_
    refine V_ladd (pc := 16) dX6_twiceMiddle_16 ?_
    refine V_goto (pc := 17) (tgt := 21) dX6_twiceMiddle_17 (by decide) ?_
    exact V_lret dX6_twiceMiddle_21 rfl h
theorem dX6_clippedMean_0 : decode cX6_clippedMean 0 = .ok (.lconst 0, 1) := by decide +kernel
theorem dX6_clippedMean_1 : decode cX6_clippedMean 1 = .ok (.lstore 5, 2) := by decide +kernel
theorem dX6_clippedMean_3 : decode cX6_clippedMean 3 = .ok (.iconst 0, 1) := by decide +kernel
theorem dX6_clippedMean_4 : decode cX6_clippedMean 4 = .ok (.istore 7, 2) := by decide +kernel
theorem dX6_clippedMean_6 : decode cX6_clippedMean 6 = .ok (.iload 7, 2) := by decide +kernel
theorem dX6_clippedMean_8 : decode cX6_clippedMean 8 = .ok (.aload_n 0, 1) := by decide +kernel
theorem dX6_clippedMean_9 : decode cX6_clippedMean 9 = .ok (.getfield 40, 3) := by decide +kernel
theorem dX6_clippedMean_12 : decode cX6_clippedMean 12 = .ok (.if_icmp .ge 47, 3) := by decide +kernel
theorem dX6_clippedMean_15 : decode cX6_clippedMean 15 = .ok (.aload_n 0, 1) := by decide +kernel
theorem dX6_clippedMean_16 : decode cX6_clippedMean 16 = .ok (.getfield 15, 3) := by decide +kernel
theorem dX6_clippedMean_19 : decode cX6_clippedMean 19 = .ok (.iload 7, 2) := by decide +kernel
theorem dX6_clippedMean_21 : decode cX6_clippedMean 21 = .ok (.lload_n 1, 1) := by decide +kernel
theorem dX6_clippedMean_22 : decode cX6_clippedMean 22 = .ok (.lload_n 3, 1) := by decide +kernel
theorem dX6_clippedMean_23 : decode cX6_clippedMean 23 = .ok (.lsub, 1) := by decide +kernel
theorem dX6_clippedMean_24 : decode cX6_clippedMean 24 = .ok (.lload_n 1, 1) := by decide +kernel
theorem dX6_clippedMean_25 : decode cX6_clippedMean 25 = .ok (.lload_n 3, 1) := by decide +kernel
theorem dX6_clippedMean_26 : decode cX6_clippedMean 26 = .ok (.ladd, 1) := by decide +kernel
theorem dX6_clippedMean_27 : decode cX6_clippedMean 27 = .ok (.aload_n 0, 1) := by decide +kernel
theorem dX6_clippedMean_28 : decode cX6_clippedMean 28 = .ok (.getfield 9, 3) := by decide +kernel
theorem dX6_clippedMean_31 : decode cX6_clippedMean 31 = .ok (.iload 7, 2) := by decide +kernel
theorem dX6_clippedMean_33 : decode cX6_clippedMean 33 = .ok (.laload, 1) := by decide +kernel
theorem dX6_clippedMean_34 : decode cX6_clippedMean 34 = .ok (.invokestatic 116, 3) := by decide +kernel
theorem dX6_clippedMean_37 : decode cX6_clippedMean 37 = .ok (.invokestatic 119, 3) := by decide +kernel
theorem dX6_clippedMean_40 : decode cX6_clippedMean 40 = .ok (.lastore, 1) := by decide +kernel
theorem dX6_clippedMean_41 : decode cX6_clippedMean 41 = .ok (.lload 5, 2) := by decide +kernel
theorem dX6_clippedMean_43 : decode cX6_clippedMean 43 = .ok (.aload_n 0, 1) := by decide +kernel
theorem dX6_clippedMean_44 : decode cX6_clippedMean 44 = .ok (.getfield 15, 3) := by decide +kernel
theorem dX6_clippedMean_47 : decode cX6_clippedMean 47 = .ok (.iload 7, 2) := by decide +kernel
theorem dX6_clippedMean_49 : decode cX6_clippedMean 49 = .ok (.laload, 1) := by decide +kernel
theorem dX6_clippedMean_50 : decode cX6_clippedMean 50 = .ok (.ladd, 1) := by decide +kernel
theorem dX6_clippedMean_51 : decode cX6_clippedMean 51 = .ok (.lstore 5, 2) := by decide +kernel
theorem dX6_clippedMean_53 : decode cX6_clippedMean 53 = .ok (.iinc 7 1, 3) := by decide +kernel
theorem dX6_clippedMean_56 : decode cX6_clippedMean 56 = .ok (.goto (-50), 3) := by decide +kernel
theorem dX6_clippedMean_59 : decode cX6_clippedMean 59 = .ok (.aload_n 0, 1) := by decide +kernel
theorem dX6_clippedMean_60 : decode cX6_clippedMean 60 = .ok (.getfield 40, 3) := by decide +kernel
theorem dX6_clippedMean_63 : decode cX6_clippedMean 63 = .ok (.ifCond .le 16, 3) := by decide +kernel
theorem dX6_clippedMean_66 : decode cX6_clippedMean 66 = .ok (.lload 5, 2) := by decide +kernel
theorem dX6_clippedMean_68 : decode cX6_clippedMean 68 = .ok (.aload_n 0, 1) := by decide +kernel
theorem dX6_clippedMean_69 : decode cX6_clippedMean 69 = .ok (.getfield 40, 3) := by decide +kernel
theorem dX6_clippedMean_72 : decode cX6_clippedMean 72 = .ok (.i2l, 1) := by decide +kernel
theorem dX6_clippedMean_73 : decode cX6_clippedMean 73 = .ok (.invokestatic 91, 3) := by decide +kernel
theorem dX6_clippedMean_76 : decode cX6_clippedMean 76 = .ok (.goto 4, 3) := by decide +kernel
theorem dX6_clippedMean_79 : decode cX6_clippedMean 79 = .ok (.lconst 0, 1) := by decide +kernel
theorem dX6_clippedMean_80 : decode cX6_clippedMean 80 = .ok (.lreturn, 1) := by decide +kernel
def wX6_clippedMean_6 (post : Int64 → Sto → Prop)  (K59 : Int64 → Sto → Prop) : Nat → Int64 → Int64 → Int64 → Int32 → Sto → Prop
  | 0, _, _, _, _, _ => False
  | n + 1, x1, x3, x5, x7, σ => (((σ.1 5 5) ≤ x7) → (K59 x5 σ)) ∧ ((¬ ((σ.1 5 5) ≤ x7)) → (vp_in x7 14 ∧ (wJ9_min_f86c9  (x1 + x3) (σ.2 52 x7.toNatClampNeg) σ (fun (r34 : Int64) (s34 : Sto) => wJ9_max_f86c9  (x1 - x3) r34 s34 (fun (r37 : Int64) (s37 : Sto) => vp_in x7 14 ∧ (vp_in x7 14 ∧ (wX6_clippedMean_6 post  K59 n x1 x3 (x5 + ((wL s37 53 x7.toNatClampNeg r37).2 53 x7.toNatClampNeg)) (x7 + (1 : Int32)) (wL s37 53 x7.toNatClampNeg r37))))))))
set_option maxRecDepth 100000 in
set_option maxHeartbeats 4000000 in
theorem vX6_clippedMean_6 (E : Ev) (post : Int64 → Sto → Prop)   (K59 : Int64 → Sto → Prop) (HK59 : ∀ (x5 : Int64) (σ : Sto), K59 x5 σ → V E 1 mX6_clippedMean (pL post) 59 [(0, .ref 5), (5, .long x5)] [] σ) : ∀ (n : Nat) (x1 : Int64) (x3 : Int64) (x5 : Int64) (x7 : Int32) (σ : Sto), wX6_clippedMean_6 post  K59 n x1 x3 x5 x7 σ → V E 1 mX6_clippedMean (pL post) 6 [(0, .ref 5), (1, .long x1), (3, .long x3), (5, .long x5), (7, .int x7)] [] σ := by
  intro n
  induction n with
  | zero => intro x1 x3 x5 x7 σ h; exact h.elim
  | succ n ih =>
    intro x1 x3 x5 x7 σ h
    unfold wX6_clippedMean_6 at h
    refine V_iload (pc := 6) 4 dX6_clippedMean_6 rfl ?_
    refine V_aload_n (pc := 8) 0 dX6_clippedMean_8 rfl ?_
    refine V_getI (pc := 9) dX6_clippedMean_9 fl_X6_40 sh_5 rfl ?_
    refine V_icmp_ge (pc := 12) (tgt := 59) dX6_clippedMean_12 (by decide) (fun hc => ?_) (fun hc => ?_)
    · replace h := h.1 hc
      exact V_loc [0, 3] rfl (HK59 x5 σ  h)
    · replace h := h.2 hc
      refine V_aload_n (pc := 15) 0 dX6_clippedMean_15 rfl ?_
      refine V_getR (pc := 16) dX6_clippedMean_16 fl_X6_15 sh_5 rfl ?_
      refine V_iload (pc := 19) 4 dX6_clippedMean_19 rfl ?_
      refine V_lload_n (pc := 21) 1 dX6_clippedMean_21 rfl ?_
      refine V_lload_n (pc := 22) 2 dX6_clippedMean_22 rfl ?_
      refine V_lsub (pc := 23) dX6_clippedMean_23 ?_
      refine V_lload_n (pc := 24) 1 dX6_clippedMean_24 rfl ?_
      refine V_lload_n (pc := 25) 2 dX6_clippedMean_25 rfl ?_
      refine V_ladd (pc := 26) dX6_clippedMean_26 ?_
      refine V_aload_n (pc := 27) 0 dX6_clippedMean_27 rfl ?_
      refine V_getR (pc := 28) dX6_clippedMean_28 fl_X6_9 sh_5 rfl ?_
      refine V_iload (pc := 31) 4 dX6_clippedMean_31 rfl ?_
      obtain ⟨i33, h⟩ := h
      refine V_lald (pc := 33) dX6_clippedMean_33 sh_52 i33 ?_
      refine V_callS (pc := 34) (M' := mJ9_min_f86c9) dX6_clippedMean_34 ml_X6_116 ks_J9_min_f86c9 ko_J9_min_f86c9 (by decide) rfl (Nat.le_of_ble_eq_true rfl) (Nat.le_of_ble_eq_true rfl) (vJ9_min_f86c9 E  (x1 + x3) (σ.2 52 x7.toNatClampNeg) σ _  h) (kL (fun r34 s34 h => ?_))
      refine V_callS (pc := 37) (M' := mJ9_max_f86c9) dX6_clippedMean_37 ml_X6_119 ks_J9_max_f86c9 ko_J9_max_f86c9 (by decide) rfl (Nat.le_of_ble_eq_true rfl) (Nat.le_of_ble_eq_true rfl) (vJ9_max_f86c9 E  (x1 - x3) r34 s34 _  h) (kL (fun r37 s37 h => ?_))
      obtain ⟨i40, h⟩ := h
      refine V_last (pc := 40) dX6_clippedMean_40 sh_53 i40 ?_
      refine V_lload (pc := 41) 3 dX6_clippedMean_41 rfl ?_
      refine V_aload_n (pc := 43) 0 dX6_clippedMean_43 rfl ?_
      refine V_getR (pc := 44) dX6_clippedMean_44 fl_X6_15 sh_5 rfl ?_
      refine V_iload (pc := 47) 4 dX6_clippedMean_47 rfl ?_
      obtain ⟨i49, h⟩ := h
      refine V_lald (pc := 49) dX6_clippedMean_49 sh_53 i49 ?_
      refine V_ladd (pc := 50) dX6_clippedMean_50 ?_
      refine V_lstore (pc := 51) dX6_clippedMean_51 (by decide) ?_
      refine V_iinc (pc := 53) 4 (v := 1) dX6_clippedMean_53 rfl (by decide) (by decide) ?_
      refine V_goto (pc := 56) (tgt := 6) dX6_clippedMean_56 (by decide) ?_
      exact V_loc [2, 3, 4, 1, 0] rfl (ih x1 x3 (x5 + ((wL s37 53 x7.toNatClampNeg r37).2 53 x7.toNatClampNeg)) (x7 + (1 : Int32)) (wL s37 53 x7.toNatClampNeg r37)  h)
def wX6_clippedMean  (x1 : Int64) (x3 : Int64) (σ : Sto) (post : Int64 → Sto → Prop) : Prop := ∃ n6, wX6_clippedMean_6 post  (fun (x5_1 : Int64) (σ_1 : Sto) => (((σ_1.1 5 5) ≤ 0) → (post ((0 : Int64)) σ_1)) ∧ ((¬ ((σ_1.1 5 5) ≤ 0)) → (wJ9_floorDiv_f86c9  x5_1 ((σ_1.1 5 5).toInt64) σ_1 (fun (r73 : Int64) (s73 : Sto) => post r73 s73)))) n6 x1 x3 ((0 : Int64)) ((0 : Int32)) σ
set_option maxRecDepth 100000 in
set_option maxHeartbeats 4000000 in
theorem vX6_clippedMean (E : Ev)  (x1 : Int64) (x3 : Int64) (σ : Sto) (post : Int64 → Sto → Prop)  (h : wX6_clippedMean  x1 x3 σ post) : V E 1 mX6_clippedMean (pL post) 0 [(0, .ref 5), (1, .long x1), (3, .long x3)] [] σ := by
  unfold wX6_clippedMean at h
  refine V_lconst (pc := 0) (v := 0) dX6_clippedMean_0 (by decide) ?_
  refine V_lstore (pc := 1) dX6_clippedMean_1 (by decide) ?_
  refine V_iconst (pc := 3) (v := 0) dX6_clippedMean_3 (by decide) ?_
  refine V_istore (pc := 4) dX6_clippedMean_4 (by decide) ?_
  obtain ⟨n6, h⟩ := h
  refine V_loc [2, 3, 4, 1, 0] rfl (vX6_clippedMean_6 E post   _ (fun x5_1 σ_1 h => ?_) n6 x1 x3 ((0 : Int64)) ((0 : Int32)) σ  h)
  · refine V_aload_n (pc := 59) 0 dX6_clippedMean_59 rfl ?_
    refine V_getI (pc := 60) dX6_clippedMean_60 fl_X6_40 sh_5 rfl ?_
    refine V_if_le (pc := 63) (tgt := 79) dX6_clippedMean_63 (by decide) (fun hc => ?_) (fun hc => ?_)
    · replace h := h.1 hc
      refine V_lconst (pc := 79) (v := 0) dX6_clippedMean_79 (by decide) ?_
      exact V_lret dX6_clippedMean_80 rfl h
    · replace h := h.2 hc
      refine V_lload (pc := 66) 1 dX6_clippedMean_66 rfl ?_
      refine V_aload_n (pc := 68) 0 dX6_clippedMean_68 rfl ?_
      refine V_getI (pc := 69) dX6_clippedMean_69 fl_X6_40 sh_5 rfl ?_
      refine V_i2l (pc := 72) dX6_clippedMean_72 ?_
      refine V_callS (pc := 73) (M' := mJ9_floorDiv_f86c9) dX6_clippedMean_73 ml_X6_91 ks_J9_floorDiv_f86c9 ko_J9_floorDiv_f86c9 (by decide) rfl (Nat.le_of_ble_eq_true rfl) (Nat.le_of_ble_eq_true rfl) (vJ9_floorDiv_f86c9 E  x5_1 ((σ_1.1 5 5).toInt64) σ_1 _  h) (kL (fun r73 s73 h => ?_))
      refine V_goto (pc := 76) (tgt := 80) dX6_clippedMean_76 (by decide) ?_
      exact V_lret dX6_clippedMean_80 rfl h
theorem dX6_clippedSpread_0 : decode cX6_clippedSpread 0 = .ok (.aload_n 0, 1) := by decide +kernel
theorem dX6_clippedSpread_1 : decode cX6_clippedSpread 1 = .ok (.getfield 40, 3) := by decide +kernel
theorem dX6_clippedSpread_4 : decode cX6_clippedSpread 4 = .ok (.iconst 2, 1) := by decide +kernel
theorem dX6_clippedSpread_5 : decode cX6_clippedSpread 5 = .ok (.if_icmp .ge 5, 3) := by decide +kernel
theorem dX6_clippedSpread_8 : decode cX6_clippedSpread 8 = .ok (.lconst 0, 1) := by decide +kernel
theorem dX6_clippedSpread_9 : decode cX6_clippedSpread 9 = .ok (.lreturn, 1) := by decide +kernel
theorem dX6_clippedSpread_10 : decode cX6_clippedSpread 10 = .ok (.lconst 0, 1) := by decide +kernel
theorem dX6_clippedSpread_11 : decode cX6_clippedSpread 11 = .ok (.lstore_n 3, 1) := by decide +kernel
theorem dX6_clippedSpread_12 : decode cX6_clippedSpread 12 = .ok (.iconst 0, 1) := by decide +kernel
theorem dX6_clippedSpread_13 : decode cX6_clippedSpread 13 = .ok (.istore 5, 2) := by decide +kernel
theorem dX6_clippedSpread_15 : decode cX6_clippedSpread 15 = .ok (.iload 5, 2) := by decide +kernel
theorem dX6_clippedSpread_17 : decode cX6_clippedSpread 17 = .ok (.aload_n 0, 1) := by decide +kernel
theorem dX6_clippedSpread_18 : decode cX6_clippedSpread 18 = .ok (.getfield 40, 3) := by decide +kernel
theorem dX6_clippedSpread_21 : decode cX6_clippedSpread 21 = .ok (.if_icmp .ge 31, 3) := by decide +kernel
theorem dX6_clippedSpread_24 : decode cX6_clippedSpread 24 = .ok (.lload_n 3, 1) := by decide +kernel
theorem dX6_clippedSpread_25 : decode cX6_clippedSpread 25 = .ok (.aload_n 0, 1) := by decide +kernel
theorem dX6_clippedSpread_26 : decode cX6_clippedSpread 26 = .ok (.getfield 15, 3) := by decide +kernel
theorem dX6_clippedSpread_29 : decode cX6_clippedSpread 29 = .ok (.iload 5, 2) := by decide +kernel
theorem dX6_clippedSpread_31 : decode cX6_clippedSpread 31 = .ok (.laload, 1) := by decide +kernel
theorem dX6_clippedSpread_32 : decode cX6_clippedSpread 32 = .ok (.lload_n 1, 1) := by decide +kernel
theorem dX6_clippedSpread_33 : decode cX6_clippedSpread 33 = .ok (.lsub, 1) := by decide +kernel
theorem dX6_clippedSpread_34 : decode cX6_clippedSpread 34 = .ok (.aload_n 0, 1) := by decide +kernel
theorem dX6_clippedSpread_35 : decode cX6_clippedSpread 35 = .ok (.getfield 15, 3) := by decide +kernel
theorem dX6_clippedSpread_38 : decode cX6_clippedSpread 38 = .ok (.iload 5, 2) := by decide +kernel
theorem dX6_clippedSpread_40 : decode cX6_clippedSpread 40 = .ok (.laload, 1) := by decide +kernel
theorem dX6_clippedSpread_41 : decode cX6_clippedSpread 41 = .ok (.lload_n 1, 1) := by decide +kernel
theorem dX6_clippedSpread_42 : decode cX6_clippedSpread 42 = .ok (.lsub, 1) := by decide +kernel
theorem dX6_clippedSpread_43 : decode cX6_clippedSpread 43 = .ok (.lmul, 1) := by decide +kernel
theorem dX6_clippedSpread_44 : decode cX6_clippedSpread 44 = .ok (.ladd, 1) := by decide +kernel
theorem dX6_clippedSpread_45 : decode cX6_clippedSpread 45 = .ok (.lstore_n 3, 1) := by decide +kernel
theorem dX6_clippedSpread_46 : decode cX6_clippedSpread 46 = .ok (.iinc 5 1, 3) := by decide +kernel
theorem dX6_clippedSpread_49 : decode cX6_clippedSpread 49 = .ok (.goto (-34), 3) := by decide +kernel
theorem dX6_clippedSpread_52 : decode cX6_clippedSpread 52 = .ok (.lload_n 3, 1) := by decide +kernel
theorem dX6_clippedSpread_53 : decode cX6_clippedSpread 53 = .ok (.aload_n 0, 1) := by decide +kernel
theorem dX6_clippedSpread_54 : decode cX6_clippedSpread 54 = .ok (.getfield 40, 3) := by decide +kernel
theorem dX6_clippedSpread_57 : decode cX6_clippedSpread 57 = .ok (.iconst 1, 1) := by decide +kernel
theorem dX6_clippedSpread_58 : decode cX6_clippedSpread 58 = .ok (.isub, 1) := by decide +kernel
theorem dX6_clippedSpread_59 : decode cX6_clippedSpread 59 = .ok (.i2l, 1) := by decide +kernel
theorem dX6_clippedSpread_60 : decode cX6_clippedSpread 60 = .ok (.ldiv, 1) := by decide +kernel
theorem dX6_clippedSpread_61 : decode cX6_clippedSpread 61 = .ok (.ldc2_w 122, 3) := by decide +kernel
theorem dX6_clippedSpread_64 : decode cX6_clippedSpread 64 = .ok (.lmul, 1) := by decide +kernel
theorem dX6_clippedSpread_65 : decode cX6_clippedSpread 65 = .ok (.ldc2_w 124, 3) := by decide +kernel
theorem dX6_clippedSpread_68 : decode cX6_clippedSpread 68 = .ok (.ldiv, 1) := by decide +kernel
theorem dX6_clippedSpread_69 : decode cX6_clippedSpread 69 = .ok (.lreturn, 1) := by decide +kernel
def wX6_clippedSpread_15 (post : Int64 → Sto → Prop)  (K52 : Int64 → Sto → Prop) : Nat → Int64 → Int64 → Int32 → Sto → Prop
  | 0, _, _, _, _ => False
  | n + 1, x1, x3, x5, σ => (((σ.1 5 5) ≤ x5) → (K52 x3 σ)) ∧ ((¬ ((σ.1 5 5) ≤ x5)) → (vp_in x5 14 ∧ (vp_in x5 14 ∧ (wX6_clippedSpread_15 post  K52 n x1 (x3 + (((σ.2 53 x5.toNatClampNeg) - x1) * ((σ.2 53 x5.toNatClampNeg) - x1))) (x5 + (1 : Int32)) σ))))
set_option maxRecDepth 100000 in
set_option maxHeartbeats 4000000 in
theorem vX6_clippedSpread_15 (E : Ev) (post : Int64 → Sto → Prop)   (K52 : Int64 → Sto → Prop) (HK52 : ∀ (x3 : Int64) (σ : Sto), K52 x3 σ → V E 0 mX6_clippedSpread (pL post) 52 [(0, .ref 5), (3, .long x3)] [] σ) : ∀ (n : Nat) (x1 : Int64) (x3 : Int64) (x5 : Int32) (σ : Sto), wX6_clippedSpread_15 post  K52 n x1 x3 x5 σ → V E 0 mX6_clippedSpread (pL post) 15 [(0, .ref 5), (1, .long x1), (3, .long x3), (5, .int x5)] [] σ := by
  intro n
  induction n with
  | zero => intro x1 x3 x5 σ h; exact h.elim
  | succ n ih =>
    intro x1 x3 x5 σ h
    unfold wX6_clippedSpread_15 at h
    refine V_iload (pc := 15) 3 dX6_clippedSpread_15 rfl ?_
    refine V_aload_n (pc := 17) 0 dX6_clippedSpread_17 rfl ?_
    refine V_getI (pc := 18) dX6_clippedSpread_18 fl_X6_40 sh_5 rfl ?_
    refine V_icmp_ge (pc := 21) (tgt := 52) dX6_clippedSpread_21 (by decide) (fun hc => ?_) (fun hc => ?_)
    · replace h := h.1 hc
      exact V_loc [0, 2] rfl (HK52 x3 σ  h)
    · replace h := h.2 hc
      refine V_lload_n (pc := 24) 2 dX6_clippedSpread_24 rfl ?_
      refine V_aload_n (pc := 25) 0 dX6_clippedSpread_25 rfl ?_
      refine V_getR (pc := 26) dX6_clippedSpread_26 fl_X6_15 sh_5 rfl ?_
      refine V_iload (pc := 29) 3 dX6_clippedSpread_29 rfl ?_
      obtain ⟨i31, h⟩ := h
      refine V_lald (pc := 31) dX6_clippedSpread_31 sh_53 i31 ?_
      refine V_lload_n (pc := 32) 1 dX6_clippedSpread_32 rfl ?_
      refine V_lsub (pc := 33) dX6_clippedSpread_33 ?_
      refine V_aload_n (pc := 34) 0 dX6_clippedSpread_34 rfl ?_
      refine V_getR (pc := 35) dX6_clippedSpread_35 fl_X6_15 sh_5 rfl ?_
      refine V_iload (pc := 38) 3 dX6_clippedSpread_38 rfl ?_
      obtain ⟨i40, h⟩ := h
      refine V_lald (pc := 40) dX6_clippedSpread_40 sh_53 i40 ?_
      refine V_lload_n (pc := 41) 1 dX6_clippedSpread_41 rfl ?_
      refine V_lsub (pc := 42) dX6_clippedSpread_42 ?_
      refine V_lmul (pc := 43) dX6_clippedSpread_43 ?_
      refine V_ladd (pc := 44) dX6_clippedSpread_44 ?_
      refine V_lstore_n (pc := 45) dX6_clippedSpread_45 (by decide) ?_
      refine V_iinc (pc := 46) 3 (v := 1) dX6_clippedSpread_46 rfl (by decide) (by decide) ?_
      refine V_goto (pc := 49) (tgt := 15) dX6_clippedSpread_49 (by decide) ?_
      exact V_loc [2, 3, 1, 0] rfl (ih x1 (x3 + (((σ.2 53 x5.toNatClampNeg) - x1) * ((σ.2 53 x5.toNatClampNeg) - x1))) (x5 + (1 : Int32)) σ  h)
def wX6_clippedSpread  (x1 : Int64) (σ : Sto) (post : Int64 → Sto → Prop) : Prop := ((((2 : Int32)) ≤ (σ.1 5 5)) → (∃ n15, wX6_clippedSpread_15 post  (fun (x3_1 : Int64) (σ_1 : Sto) => (¬ (((σ_1.1 5 5) - ((1 : Int32))).toInt64) = 0) ∧ (post (((x3_1 / (((σ_1.1 5 5) - ((1 : Int32))).toInt64)) * ((1286 : Int64))) / ((1000 : Int64))) σ_1)) n15 x1 ((0 : Int64)) ((0 : Int32)) σ)) ∧ ((¬ (((2 : Int32)) ≤ (σ.1 5 5))) → (post ((0 : Int64)) σ))
set_option maxRecDepth 100000 in
set_option maxHeartbeats 4000000 in
theorem vX6_clippedSpread (E : Ev)  (x1 : Int64) (σ : Sto) (post : Int64 → Sto → Prop)  (h : wX6_clippedSpread  x1 σ post) : V E 0 mX6_clippedSpread (pL post) 0 [(0, .ref 5), (1, .long x1)] [] σ := by
  unfold wX6_clippedSpread at h
  refine V_aload_n (pc := 0) 0 dX6_clippedSpread_0 rfl ?_
  refine V_getI (pc := 1) dX6_clippedSpread_1 fl_X6_40 sh_5 rfl ?_
  refine V_iconst (pc := 4) (v := 2) dX6_clippedSpread_4 (by decide) ?_
  refine V_icmp_ge (pc := 5) (tgt := 10) dX6_clippedSpread_5 (by decide) (fun hc => ?_) (fun hc => ?_)
  · replace h := h.1 hc
    refine V_lconst (pc := 10) (v := 0) dX6_clippedSpread_10 (by decide) ?_
    refine V_lstore_n (pc := 11) dX6_clippedSpread_11 (by decide) ?_
    refine V_iconst (pc := 12) (v := 0) dX6_clippedSpread_12 (by decide) ?_
    refine V_istore (pc := 13) dX6_clippedSpread_13 (by decide) ?_
    obtain ⟨n15, h⟩ := h
    refine V_loc [2, 3, 1, 0] rfl (vX6_clippedSpread_15 E post   _ (fun x3_1 σ_1 h => ?_) n15 x1 ((0 : Int64)) ((0 : Int32)) σ  h)
    · refine V_lload_n (pc := 52) 1 dX6_clippedSpread_52 rfl ?_
      refine V_aload_n (pc := 53) 0 dX6_clippedSpread_53 rfl ?_
      refine V_getI (pc := 54) dX6_clippedSpread_54 fl_X6_40 sh_5 rfl ?_
      refine V_iconst (pc := 57) (v := 1) dX6_clippedSpread_57 (by decide) ?_
      refine V_isub (pc := 58) dX6_clippedSpread_58 ?_
      refine V_i2l (pc := 59) dX6_clippedSpread_59 ?_
      obtain ⟨z60, h⟩ := h
      refine V_ldiv (pc := 60) dX6_clippedSpread_60 z60 ?_
      refine V_ldc2 (pc := 61) dX6_clippedSpread_61 cl_X6_122 ?_
      refine V_lmul (pc := 64) dX6_clippedSpread_64 ?_
      refine V_ldc2 (pc := 65) dX6_clippedSpread_65 cl_X6_124 ?_
      refine V_ldiv (pc := 68) dX6_clippedSpread_68 (by decide) ?_
      exact V_lret dX6_clippedSpread_69 rfl h
  · replace h := h.2 hc
    refine V_lconst (pc := 8) (v := 0) dX6_clippedSpread_8 (by decide) ?_
    exact V_lret dX6_clippedSpread_9 rfl h
theorem dX6_root_0 : decode cX6_root 0 = .ok (.lconst 0, 1) := by decide +kernel
theorem dX6_root_1 : decode cX6_root 1 = .ok (.lstore_n 2, 1) := by decide +kernel
theorem dX6_root_2 : decode cX6_root 2 = .ok (.bipush 31, 2) := by decide +kernel
theorem dX6_root_4 : decode cX6_root 4 = .ok (.istore 4, 2) := by decide +kernel
theorem dX6_root_6 : decode cX6_root 6 = .ok (.iload 4, 2) := by decide +kernel
theorem dX6_root_8 : decode cX6_root 8 = .ok (.ifCond .lt 37, 3) := by decide +kernel
theorem dX6_root_11 : decode cX6_root 11 = .ok (.lload_n 2, 1) := by decide +kernel
theorem dX6_root_12 : decode cX6_root 12 = .ok (.lconst 1, 1) := by decide +kernel
theorem dX6_root_13 : decode cX6_root 13 = .ok (.iload 4, 2) := by decide +kernel
theorem dX6_root_15 : decode cX6_root 15 = .ok (.lshl, 1) := by decide +kernel
theorem dX6_root_16 : decode cX6_root 16 = .ok (.lor, 1) := by decide +kernel
theorem dX6_root_17 : decode cX6_root 17 = .ok (.lstore 5, 2) := by decide +kernel
theorem dX6_root_19 : decode cX6_root 19 = .ok (.lload 5, 2) := by decide +kernel
theorem dX6_root_21 : decode cX6_root 21 = .ok (.lconst 0, 1) := by decide +kernel
theorem dX6_root_22 : decode cX6_root 22 = .ok (.lcmp, 1) := by decide +kernel
theorem dX6_root_23 : decode cX6_root 23 = .ok (.ifCond .le 16, 3) := by decide +kernel
theorem dX6_root_26 : decode cX6_root 26 = .ok (.lload 5, 2) := by decide +kernel
theorem dX6_root_28 : decode cX6_root 28 = .ok (.lload_n 0, 1) := by decide +kernel
theorem dX6_root_29 : decode cX6_root 29 = .ok (.lload 5, 2) := by decide +kernel
theorem dX6_root_31 : decode cX6_root 31 = .ok (.ldiv, 1) := by decide +kernel
theorem dX6_root_32 : decode cX6_root 32 = .ok (.lcmp, 1) := by decide +kernel
theorem dX6_root_33 : decode cX6_root 33 = .ok (.ifCond .gt 6, 3) := by decide +kernel
theorem dX6_root_36 : decode cX6_root 36 = .ok (.lload 5, 2) := by decide +kernel
theorem dX6_root_38 : decode cX6_root 38 = .ok (.lstore_n 2, 1) := by decide +kernel
theorem dX6_root_39 : decode cX6_root 39 = .ok (.iinc 4 (-1), 3) := by decide +kernel
theorem dX6_root_42 : decode cX6_root 42 = .ok (.goto (-36), 3) := by decide +kernel
theorem dX6_root_45 : decode cX6_root 45 = .ok (.lload_n 2, 1) := by decide +kernel
theorem dX6_root_46 : decode cX6_root 46 = .ok (.lreturn, 1) := by decide +kernel
def wX6_root_6 (post : Int64 → Sto → Prop)  (K45 : Int64 → Sto → Prop) : Nat → Int64 → Int64 → Int32 → Sto → Prop
  | 0, _, _, _, _ => False
  | n + 1, x0, x2, x4, σ => ((x4 < 0) → (K45 x2 σ)) ∧ ((¬ (x4 < 0)) → ((((x2 ||| (((1 : Int64)) <<< (x4.toInt64 &&& 63))) ≤ ((0 : Int64))) → (wX6_root_6 post  K45 n x0 x2 (x4 + (-1 : Int32)) σ)) ∧ ((¬ ((x2 ||| (((1 : Int64)) <<< (x4.toInt64 &&& 63))) ≤ ((0 : Int64)))) → ((¬ (x2 ||| (((1 : Int64)) <<< (x4.toInt64 &&& 63))) = 0) ∧ ((((x0 / (x2 ||| (((1 : Int64)) <<< (x4.toInt64 &&& 63)))) < (x2 ||| (((1 : Int64)) <<< (x4.toInt64 &&& 63)))) → (wX6_root_6 post  K45 n x0 x2 (x4 + (-1 : Int32)) σ)) ∧ ((¬ ((x0 / (x2 ||| (((1 : Int64)) <<< (x4.toInt64 &&& 63)))) < (x2 ||| (((1 : Int64)) <<< (x4.toInt64 &&& 63))))) → (wX6_root_6 post  K45 n x0 (x2 ||| (((1 : Int64)) <<< (x4.toInt64 &&& 63))) (x4 + (-1 : Int32)) σ)))))))
set_option maxRecDepth 100000 in
set_option maxHeartbeats 4000000 in
theorem vX6_root_6 (E : Ev) (post : Int64 → Sto → Prop)   (K45 : Int64 → Sto → Prop) (HK45 : ∀ (x2 : Int64) (σ : Sto), K45 x2 σ → V E 0 mX6_root (pL post) 45 [(2, .long x2)] [] σ) : ∀ (n : Nat) (x0 : Int64) (x2 : Int64) (x4 : Int32) (σ : Sto), wX6_root_6 post  K45 n x0 x2 x4 σ → V E 0 mX6_root (pL post) 6 [(0, .long x0), (2, .long x2), (4, .int x4)] [] σ := by
  intro n
  induction n with
  | zero => intro x0 x2 x4 σ h; exact h.elim
  | succ n ih =>
    intro x0 x2 x4 σ h
    unfold wX6_root_6 at h
    refine V_iload (pc := 6) 2 dX6_root_6 rfl ?_
    refine V_if_lt (pc := 8) (tgt := 45) dX6_root_8 (by decide) (fun hc => ?_) (fun hc => ?_)
    · replace h := h.1 hc
      exact V_loc [1] rfl (HK45 x2 σ  h)
    · replace h := h.2 hc
      refine V_lload_n (pc := 11) 1 dX6_root_11 rfl ?_
      refine V_lconst (pc := 12) (v := 1) dX6_root_12 (by decide) ?_
      refine V_iload (pc := 13) 2 dX6_root_13 rfl ?_
      refine V_lshl (pc := 15) dX6_root_15 ?_
      refine V_lor (pc := 16) dX6_root_16 ?_
      refine V_lstore (pc := 17) dX6_root_17 (by decide) ?_
      refine V_lload (pc := 19) 0 dX6_root_19 rfl ?_
      refine V_lconst (pc := 21) (v := 0) dX6_root_21 (by decide) ?_
      refine V_lc_le (pc := 22) (tgt := 39) dX6_root_22 dX6_root_23 (by decide) (fun hc => ?_) (fun hc => ?_)
      · replace h := h.1 hc
        refine V_iinc (pc := 39) 3 (v := -1) dX6_root_39 rfl (by decide) (by decide) ?_
        refine V_goto (pc := 42) (tgt := 6) dX6_root_42 (by decide) ?_
        exact V_loc [2, 3, 0] rfl (ih x0 x2 (x4 + (-1 : Int32)) σ  h)
      · replace h := h.2 hc
        refine V_lload (pc := 26) 0 dX6_root_26 rfl ?_
        refine V_lload_n (pc := 28) 1 dX6_root_28 rfl ?_
        refine V_lload (pc := 29) 0 dX6_root_29 rfl ?_
        obtain ⟨z31, h⟩ := h
        refine V_ldiv (pc := 31) dX6_root_31 z31 ?_
        refine V_lc_gt (pc := 32) (tgt := 39) dX6_root_32 dX6_root_33 (by decide) (fun hc => ?_) (fun hc => ?_)
        · replace h := h.1 hc
          refine V_iinc (pc := 39) 3 (v := -1) dX6_root_39 rfl (by decide) (by decide) ?_
          refine V_goto (pc := 42) (tgt := 6) dX6_root_42 (by decide) ?_
          exact V_loc [2, 3, 0] rfl (ih x0 x2 (x4 + (-1 : Int32)) σ  h)
        · replace h := h.2 hc
          refine V_lload (pc := 36) 0 dX6_root_36 rfl ?_
          refine V_lstore_n (pc := 38) dX6_root_38 (by decide) ?_
          refine V_iinc (pc := 39) 3 (v := -1) dX6_root_39 rfl (by decide) (by decide) ?_
          refine V_goto (pc := 42) (tgt := 6) dX6_root_42 (by decide) ?_
          exact V_loc [3, 1, 0] rfl (ih x0 (x2 ||| (((1 : Int64)) <<< (x4.toInt64 &&& 63))) (x4 + (-1 : Int32)) σ  h)
def wX6_root  (x0 : Int64) (σ : Sto) (post : Int64 → Sto → Prop) : Prop := ∃ n6, wX6_root_6 post  (fun (x2_1 : Int64) (σ_1 : Sto) => post x2_1 σ_1) n6 x0 ((0 : Int64)) ((31 : Int32)) σ
set_option maxRecDepth 100000 in
set_option maxHeartbeats 4000000 in
theorem vX6_root (E : Ev)  (x0 : Int64) (σ : Sto) (post : Int64 → Sto → Prop)  (h : wX6_root  x0 σ post) : V E 0 mX6_root (pL post) 0 [(0, .long x0)] [] σ := by
  unfold wX6_root at h
  refine V_lconst (pc := 0) (v := 0) dX6_root_0 (by decide) ?_
  refine V_lstore_n (pc := 1) dX6_root_1 (by decide) ?_
  refine V_bipush (pc := 2) (v := 31) dX6_root_2 (by decide) ?_
  refine V_istore (pc := 4) dX6_root_4 (by decide) ?_
  obtain ⟨n6, h⟩ := h
  refine V_loc [2, 1, 0] rfl (vX6_root_6 E post   _ (fun x2_1 σ_1 h => ?_) n6 x0 ((0 : Int64)) ((31 : Int32)) σ  h)
  · refine V_lload_n (pc := 45) 0 dX6_root_45 rfl ?_
    exact V_lret dX6_root_46 rfl h
theorem dX6_bySteps_0 : decode cX6_bySteps 0 = .ok (.aload_n 0, 1) := by decide +kernel
theorem dX6_bySteps_1 : decode cX6_bySteps 1 = .ok (.getfield 9, 3) := by decide +kernel
theorem dX6_bySteps_4 : decode cX6_bySteps 4 = .ok (.aload_n 0, 1) := by decide +kernel
theorem dX6_bySteps_5 : decode cX6_bySteps 5 = .ok (.getfield 40, 3) := by decide +kernel
theorem dX6_bySteps_8 : decode cX6_bySteps 8 = .ok (.invokestatic 44, 3) := by decide +kernel
theorem dX6_bySteps_11 : decode cX6_bySteps 11 = .ok (.ldc2_w 48, 3) := by decide +kernel
theorem dX6_bySteps_14 : decode cX6_bySteps 14 = .ok (.invokestatic 91, 3) := by decide +kernel
theorem dX6_bySteps_17 : decode cX6_bySteps 17 = .ok (.lstore_n 1, 1) := by decide +kernel
theorem dX6_bySteps_18 : decode cX6_bySteps 18 = .ok (.iconst 0, 1) := by decide +kernel
theorem dX6_bySteps_19 : decode cX6_bySteps 19 = .ok (.istore_n 3, 1) := by decide +kernel
theorem dX6_bySteps_20 : decode cX6_bySteps 20 = .ok (.iload_n 3, 1) := by decide +kernel
theorem dX6_bySteps_21 : decode cX6_bySteps 21 = .ok (.aload_n 0, 1) := by decide +kernel
theorem dX6_bySteps_22 : decode cX6_bySteps 22 = .ok (.getfield 40, 3) := by decide +kernel
theorem dX6_bySteps_25 : decode cX6_bySteps 25 = .ok (.if_icmp .ge 28, 3) := by decide +kernel
theorem dX6_bySteps_28 : decode cX6_bySteps 28 = .ok (.aload_n 0, 1) := by decide +kernel
theorem dX6_bySteps_29 : decode cX6_bySteps 29 = .ok (.getfield 15, 3) := by decide +kernel
theorem dX6_bySteps_32 : decode cX6_bySteps 32 = .ok (.iload_n 3, 1) := by decide +kernel
theorem dX6_bySteps_33 : decode cX6_bySteps 33 = .ok (.aload_n 0, 1) := by decide +kernel
theorem dX6_bySteps_34 : decode cX6_bySteps 34 = .ok (.getfield 9, 3) := by decide +kernel
theorem dX6_bySteps_37 : decode cX6_bySteps 37 = .ok (.iload_n 3, 1) := by decide +kernel
theorem dX6_bySteps_38 : decode cX6_bySteps 38 = .ok (.laload, 1) := by decide +kernel
theorem dX6_bySteps_39 : decode cX6_bySteps 39 = .ok (.lload_n 1, 1) := by decide +kernel
theorem dX6_bySteps_40 : decode cX6_bySteps 40 = .ok (.lsub, 1) := by decide +kernel
theorem dX6_bySteps_41 : decode cX6_bySteps 41 = .ok (.invokestatic 97, 3) := by decide +kernel
theorem dX6_bySteps_44 : decode cX6_bySteps 44 = .ok (.invokestatic 79, 3) := by decide +kernel
theorem dX6_bySteps_47 : decode cX6_bySteps 47 = .ok (.iinc 3 1, 3) := by decide +kernel
theorem dX6_bySteps_50 : decode cX6_bySteps 50 = .ok (.goto (-30), 3) := by decide +kernel
theorem dX6_bySteps_53 : decode cX6_bySteps 53 = .ok (.aload_n 0, 1) := by decide +kernel
theorem dX6_bySteps_54 : decode cX6_bySteps 54 = .ok (.getfield 15, 3) := by decide +kernel
theorem dX6_bySteps_57 : decode cX6_bySteps 57 = .ok (.aload_n 0, 1) := by decide +kernel
theorem dX6_bySteps_58 : decode cX6_bySteps 58 = .ok (.getfield 40, 3) := by decide +kernel
theorem dX6_bySteps_61 : decode cX6_bySteps 61 = .ok (.invokestatic 44, 3) := by decide +kernel
theorem dX6_bySteps_64 : decode cX6_bySteps 64 = .ok (.ldc2_w 101, 3) := by decide +kernel
theorem dX6_bySteps_67 : decode cX6_bySteps 67 = .ok (.lmul, 1) := by decide +kernel
theorem dX6_bySteps_68 : decode cX6_bySteps 68 = .ok (.ldc2_w 103, 3) := by decide +kernel
theorem dX6_bySteps_71 : decode cX6_bySteps 71 = .ok (.ldiv, 1) := by decide +kernel
theorem dX6_bySteps_72 : decode cX6_bySteps 72 = .ok (.lstore_n 3, 1) := by decide +kernel
theorem dX6_bySteps_73 : decode cX6_bySteps 73 = .ok (.iconst 0, 1) := by decide +kernel
theorem dX6_bySteps_74 : decode cX6_bySteps 74 = .ok (.istore 5, 2) := by decide +kernel
theorem dX6_bySteps_76 : decode cX6_bySteps 76 = .ok (.iload 5, 2) := by decide +kernel
theorem dX6_bySteps_78 : decode cX6_bySteps 78 = .ok (.bipush 10, 2) := by decide +kernel
theorem dX6_bySteps_80 : decode cX6_bySteps 80 = .ok (.if_icmp .ge 33, 3) := by decide +kernel
theorem dX6_bySteps_83 : decode cX6_bySteps 83 = .ok (.aload_n 0, 1) := by decide +kernel
theorem dX6_bySteps_84 : decode cX6_bySteps 84 = .ok (.lload_n 1, 1) := by decide +kernel
theorem dX6_bySteps_85 : decode cX6_bySteps 85 = .ok (.ldc2_w 105, 3) := by decide +kernel
theorem dX6_bySteps_88 : decode cX6_bySteps 88 = .ok (.lload_n 3, 1) := by decide +kernel
theorem dX6_bySteps_89 : decode cX6_bySteps 89 = .ok (.lmul, 1) := by decide +kernel
theorem dX6_bySteps_90 : decode cX6_bySteps 90 = .ok (.ldc2_w 48, 3) := by decide +kernel
theorem dX6_bySteps_93 : decode cX6_bySteps 93 = .ok (.ldiv, 1) := by decide +kernel
theorem dX6_bySteps_94 : decode cX6_bySteps 94 = .ok (.invokevirtual 107, 3) := by decide +kernel
theorem dX6_bySteps_97 : decode cX6_bySteps 97 = .ok (.lstore_n 1, 1) := by decide +kernel
theorem dX6_bySteps_98 : decode cX6_bySteps 98 = .ok (.aload_n 0, 1) := by decide +kernel
theorem dX6_bySteps_99 : decode cX6_bySteps 99 = .ok (.lload_n 1, 1) := by decide +kernel
theorem dX6_bySteps_100 : decode cX6_bySteps 100 = .ok (.invokevirtual 110, 3) := by decide +kernel
theorem dX6_bySteps_103 : decode cX6_bySteps 103 = .ok (.invokestatic 113, 3) := by decide +kernel
theorem dX6_bySteps_106 : decode cX6_bySteps 106 = .ok (.lstore_n 3, 1) := by decide +kernel
theorem dX6_bySteps_107 : decode cX6_bySteps 107 = .ok (.iinc 5 1, 3) := by decide +kernel
theorem dX6_bySteps_110 : decode cX6_bySteps 110 = .ok (.goto (-34), 3) := by decide +kernel
theorem dX6_bySteps_113 : decode cX6_bySteps 113 = .ok (.lload_n 1, 1) := by decide +kernel
theorem dX6_bySteps_114 : decode cX6_bySteps 114 = .ok (.lreturn, 1) := by decide +kernel
def wX6_bySteps_20 (post : Int64 → Sto → Prop)  (K53 : Int64 → Sto → Prop) : Nat → Int64 → Int32 → Sto → Prop
  | 0, _, _, _ => False
  | n + 1, x1, x3, σ => (((σ.1 5 5) ≤ x3) → (K53 x1 σ)) ∧ ((¬ ((σ.1 5 5) ≤ x3)) → (vp_in x3 14 ∧ (wJ9_abs_067f4  ((σ.2 52 x3.toNatClampNeg) - x1) σ (fun (r41 : Int64) (s41 : Sto) => wX10_putInOrder 53 14 x3 r41 s41 (fun (s44 : Sto) => wX6_bySteps_20 post  K53 n x1 (x3 + (1 : Int32)) s44)))))
set_option maxRecDepth 100000 in
set_option maxHeartbeats 4000000 in
theorem vX6_bySteps_20 (E : Ev) (post : Int64 → Sto → Prop)   (K53 : Int64 → Sto → Prop) (HK53 : ∀ (x1 : Int64) (σ : Sto), K53 x1 σ → V E 2 mX6_bySteps (pL post) 53 [(0, .ref 5), (1, .long x1)] [] σ) : ∀ (n : Nat) (x1 : Int64) (x3 : Int32) (σ : Sto), wX6_bySteps_20 post  K53 n x1 x3 σ → V E 2 mX6_bySteps (pL post) 20 [(0, .ref 5), (1, .long x1), (3, .int x3)] [] σ := by
  intro n
  induction n with
  | zero => intro x1 x3 σ h; exact h.elim
  | succ n ih =>
    intro x1 x3 σ h
    unfold wX6_bySteps_20 at h
    refine V_iload_n (pc := 20) 2 dX6_bySteps_20 rfl ?_
    refine V_aload_n (pc := 21) 0 dX6_bySteps_21 rfl ?_
    refine V_getI (pc := 22) dX6_bySteps_22 fl_X6_40 sh_5 rfl ?_
    refine V_icmp_ge (pc := 25) (tgt := 53) dX6_bySteps_25 (by decide) (fun hc => ?_) (fun hc => ?_)
    · replace h := h.1 hc
      exact V_loc [0, 1] rfl (HK53 x1 σ  h)
    · replace h := h.2 hc
      refine V_aload_n (pc := 28) 0 dX6_bySteps_28 rfl ?_
      refine V_getR (pc := 29) dX6_bySteps_29 fl_X6_15 sh_5 rfl ?_
      refine V_iload_n (pc := 32) 2 dX6_bySteps_32 rfl ?_
      refine V_aload_n (pc := 33) 0 dX6_bySteps_33 rfl ?_
      refine V_getR (pc := 34) dX6_bySteps_34 fl_X6_9 sh_5 rfl ?_
      refine V_iload_n (pc := 37) 2 dX6_bySteps_37 rfl ?_
      obtain ⟨i38, h⟩ := h
      refine V_lald (pc := 38) dX6_bySteps_38 sh_52 i38 ?_
      refine V_lload_n (pc := 39) 1 dX6_bySteps_39 rfl ?_
      refine V_lsub (pc := 40) dX6_bySteps_40 ?_
      refine V_callS (pc := 41) (M' := mJ9_abs_067f4) dX6_bySteps_41 ml_X6_97 ks_J9_abs_067f4 ko_J9_abs_067f4 (by decide) rfl (Nat.le_of_ble_eq_true rfl) (Nat.le_of_ble_eq_true rfl) (vJ9_abs_067f4 E  ((σ.2 52 x3.toNatClampNeg) - x1) σ _  h) (kL (fun r41 s41 h => ?_))
      refine V_callN (pc := 44) (M' := mX10_putInOrder) dX6_bySteps_44 mn_X6_79 ks_X10_putInOrder ko_X10_putInOrder (by decide) rfl (Nat.le_of_ble_eq_true rfl) (Nat.le_of_ble_eq_true rfl) (vX10_putInOrder E 53 14 x3 r41 s41 _ sh_53 h) (kV (fun s44 h => ?_))
      refine V_iinc (pc := 47) 2 (v := 1) dX6_bySteps_47 rfl (by decide) (by decide) ?_
      refine V_goto (pc := 50) (tgt := 20) dX6_bySteps_50 (by decide) ?_
      exact V_loc [1, 2, 0] rfl (ih x1 (x3 + (1 : Int32)) s44  h)
def wX6_bySteps_76 (post : Int64 → Sto → Prop)  (K113 : Int64 → Sto → Prop) : Nat → Int64 → Int64 → Int32 → Sto → Prop
  | 0, _, _, _, _ => False
  | n + 1, x1, x3, x5, σ => ((((10 : Int32)) ≤ x5) → (K113 x1 σ)) ∧ ((¬ (((10 : Int32)) ≤ x5)) → (wX6_clippedMean  x1 ((((3 : Int64)) * x3) / ((2 : Int64))) σ (fun (r94 : Int64) (s94 : Sto) => wX6_clippedSpread  r94 s94 (fun (r100 : Int64) (s100 : Sto) => wX6_root  r100 s100 (fun (r103 : Int64) (s103 : Sto) => wX6_bySteps_76 post  K113 n r94 r103 (x5 + (1 : Int32)) s103)))))
set_option maxRecDepth 100000 in
set_option maxHeartbeats 4000000 in
theorem vX6_bySteps_76 (E : Ev) (post : Int64 → Sto → Prop)   (K113 : Int64 → Sto → Prop) (HK113 : ∀ (x1 : Int64) (σ : Sto), K113 x1 σ → V E 2 mX6_bySteps (pL post) 113 [(1, .long x1)] [] σ) : ∀ (n : Nat) (x1 : Int64) (x3 : Int64) (x5 : Int32) (σ : Sto), wX6_bySteps_76 post  K113 n x1 x3 x5 σ → V E 2 mX6_bySteps (pL post) 76 [(0, .ref 5), (1, .long x1), (3, .long x3), (5, .int x5)] [] σ := by
  intro n
  induction n with
  | zero => intro x1 x3 x5 σ h; exact h.elim
  | succ n ih =>
    intro x1 x3 x5 σ h
    unfold wX6_bySteps_76 at h
    refine V_iload (pc := 76) 3 dX6_bySteps_76 rfl ?_
    refine V_bipush (pc := 78) (v := 10) dX6_bySteps_78 (by decide) ?_
    refine V_icmp_ge (pc := 80) (tgt := 113) dX6_bySteps_80 (by decide) (fun hc => ?_) (fun hc => ?_)
    · replace h := h.1 hc
      exact V_loc [1] rfl (HK113 x1 σ  h)
    · replace h := h.2 hc
      refine V_aload_n (pc := 83) 0 dX6_bySteps_83 rfl ?_
      refine V_lload_n (pc := 84) 1 dX6_bySteps_84 rfl ?_
      refine V_ldc2 (pc := 85) dX6_bySteps_85 cl_X6_105 ?_
      refine V_lload_n (pc := 88) 2 dX6_bySteps_88 rfl ?_
      refine V_lmul (pc := 89) dX6_bySteps_89 ?_
      refine V_ldc2 (pc := 90) dX6_bySteps_90 cl_X6_48 ?_
      refine V_ldiv (pc := 93) dX6_bySteps_93 (by decide) ?_
      refine V_callV (pc := 94) (M' := mX6_clippedMean) dX6_bySteps_94 ml_X6_107 kv_X6_clippedMean ko_X6_clippedMean sh_5 (by decide) (by decide) rfl rfl (Nat.le_of_ble_eq_true rfl) (Nat.le_of_ble_eq_true rfl) (vX6_clippedMean E  x1 ((((3 : Int64)) * x3) / ((2 : Int64))) σ _  h) (kL (fun r94 s94 h => ?_))
      refine V_lstore_n (pc := 97) dX6_bySteps_97 (by decide) ?_
      refine V_aload_n (pc := 98) 1 dX6_bySteps_98 rfl ?_
      refine V_lload_n (pc := 99) 0 dX6_bySteps_99 rfl ?_
      refine V_callV (pc := 100) (M' := mX6_clippedSpread) dX6_bySteps_100 ml_X6_110 kv_X6_clippedSpread ko_X6_clippedSpread sh_5 (by decide) (by decide) rfl rfl (Nat.le_of_ble_eq_true rfl) (Nat.le_of_ble_eq_true rfl) (vX6_clippedSpread E  r94 s94 _  h) (kL (fun r100 s100 h => ?_))
      refine V_callS (pc := 103) (M' := mX6_root) dX6_bySteps_103 ml_X6_113 ks_X6_root ko_X6_root (by decide) rfl (Nat.le_of_ble_eq_true rfl) (Nat.le_of_ble_eq_true rfl) (vX6_root E  r100 s100 _  h) (kL (fun r103 s103 h => ?_))
      refine V_lstore_n (pc := 106) dX6_bySteps_106 (by decide) ?_
      refine V_iinc (pc := 107) 3 (v := 1) dX6_bySteps_107 rfl (by decide) (by decide) ?_
      refine V_goto (pc := 110) (tgt := 76) dX6_bySteps_110 (by decide) ?_
      exact V_loc [3, 2, 1, 0] rfl (ih r94 r103 (x5 + (1 : Int32)) s103  h)
def wX6_bySteps   (σ : Sto) (post : Int64 → Sto → Prop) : Prop := wX6_twiceMiddle 52 14 (σ.1 5 5) σ (fun (r8 : Int64) (s8 : Sto) => wJ9_floorDiv_f86c9  r8 ((2 : Int64)) s8 (fun (r14 : Int64) (s14 : Sto) => ∃ n20, wX6_bySteps_20 post  (fun (x1_1 : Int64) (σ_1 : Sto) => wX6_twiceMiddle 53 14 (σ_1.1 5 5) σ_1 (fun (r61 : Int64) (s61 : Sto) => ∃ n76, wX6_bySteps_76 post  (fun (x1_2 : Int64) (σ_2 : Sto) => post x1_2 σ_2) n76 x1_1 ((r61 * ((1483 : Int64))) / ((2000 : Int64))) ((0 : Int32)) s61)) n20 r14 ((0 : Int32)) s14))
set_option maxRecDepth 100000 in
set_option maxHeartbeats 4000000 in
theorem vX6_bySteps (E : Ev)   (σ : Sto) (post : Int64 → Sto → Prop)  (h : wX6_bySteps   σ post) : V E 2 mX6_bySteps (pL post) 0 [(0, .ref 5)] [] σ := by
  unfold wX6_bySteps at h
  refine V_aload_n (pc := 0) 0 dX6_bySteps_0 rfl ?_
  refine V_getR (pc := 1) dX6_bySteps_1 fl_X6_9 sh_5 rfl ?_
  refine V_aload_n (pc := 4) 0 dX6_bySteps_4 rfl ?_
  refine V_getI (pc := 5) dX6_bySteps_5 fl_X6_40 sh_5 rfl ?_
  refine V_callS (pc := 8) (M' := mX6_twiceMiddle) dX6_bySteps_8 ml_X6_44 ks_X6_twiceMiddle ko_X6_twiceMiddle (by decide) rfl (Nat.le_of_ble_eq_true rfl) (Nat.le_of_ble_eq_true rfl) (vX6_twiceMiddle E 52 14 (σ.1 5 5) σ _ sh_52 h) (kL (fun r8 s8 h => ?_))
  refine V_ldc2 (pc := 11) dX6_bySteps_11 cl_X6_48 ?_
  refine V_callS (pc := 14) (M' := mJ9_floorDiv_f86c9) dX6_bySteps_14 ml_X6_91 ks_J9_floorDiv_f86c9 ko_J9_floorDiv_f86c9 (by decide) rfl (Nat.le_of_ble_eq_true rfl) (Nat.le_of_ble_eq_true rfl) (vJ9_floorDiv_f86c9 E  r8 ((2 : Int64)) s8 _  h) (kL (fun r14 s14 h => ?_))
  refine V_lstore_n (pc := 17) dX6_bySteps_17 (by decide) ?_
  refine V_iconst (pc := 18) (v := 0) dX6_bySteps_18 (by decide) ?_
  refine V_istore_n (pc := 19) dX6_bySteps_19 (by decide) ?_
  obtain ⟨n20, h⟩ := h
  refine V_loc [2, 1, 0] rfl (vX6_bySteps_20 E post   _ (fun x1_1 σ_1 h => ?_) n20 r14 ((0 : Int32)) s14  h)
  · refine V_aload_n (pc := 53) 0 dX6_bySteps_53 rfl ?_
    refine V_getR (pc := 54) dX6_bySteps_54 fl_X6_15 sh_5 rfl ?_
    refine V_aload_n (pc := 57) 0 dX6_bySteps_57 rfl ?_
    refine V_getI (pc := 58) dX6_bySteps_58 fl_X6_40 sh_5 rfl ?_
    refine V_callS (pc := 61) (M' := mX6_twiceMiddle) dX6_bySteps_61 ml_X6_44 ks_X6_twiceMiddle ko_X6_twiceMiddle (by decide) rfl (Nat.le_of_ble_eq_true rfl) (Nat.le_of_ble_eq_true rfl) (vX6_twiceMiddle E 53 14 (σ_1.1 5 5) σ_1 _ sh_53 h) (kL (fun r61 s61 h => ?_))
    refine V_ldc2 (pc := 64) dX6_bySteps_64 cl_X6_101 ?_
    refine V_lmul (pc := 67) dX6_bySteps_67 ?_
    refine V_ldc2 (pc := 68) dX6_bySteps_68 cl_X6_103 ?_
    refine V_ldiv (pc := 71) dX6_bySteps_71 (by decide) ?_
    refine V_lstore_n (pc := 72) dX6_bySteps_72 (by decide) ?_
    refine V_iconst (pc := 73) (v := 0) dX6_bySteps_73 (by decide) ?_
    refine V_istore (pc := 74) dX6_bySteps_74 (by decide) ?_
    obtain ⟨n76, h⟩ := h
    refine V_loc [2, 3, 1, 0] rfl (vX6_bySteps_76 E post   _ (fun x1_2 σ_2 h => ?_) n76 x1_1 ((r61 * ((1483 : Int64))) / ((2000 : Int64))) ((0 : Int32)) s61  h)
    · refine V_lload_n (pc := 113) 0 dX6_bySteps_113 rfl ?_
      exact V_lret dX6_bySteps_114 rfl h
theorem dX6_byWeights_0 : decode cX6_byWeights 0 = .ok (.lconst 0, 1) := by decide +kernel
theorem dX6_byWeights_1 : decode cX6_byWeights 1 = .ok (.lstore_n 2, 1) := by decide +kernel
theorem dX6_byWeights_2 : decode cX6_byWeights 2 = .ok (.lconst 0, 1) := by decide +kernel
theorem dX6_byWeights_3 : decode cX6_byWeights 3 = .ok (.lstore 4, 2) := by decide +kernel
theorem dX6_byWeights_5 : decode cX6_byWeights 5 = .ok (.iconst 0, 1) := by decide +kernel
theorem dX6_byWeights_6 : decode cX6_byWeights 6 = .ok (.istore 6, 2) := by decide +kernel
theorem dX6_byWeights_8 : decode cX6_byWeights 8 = .ok (.iload 6, 2) := by decide +kernel
theorem dX6_byWeights_10 : decode cX6_byWeights 10 = .ok (.aload_n 0, 1) := by decide +kernel
theorem dX6_byWeights_11 : decode cX6_byWeights 11 = .ok (.getfield 28, 3) := by decide +kernel
theorem dX6_byWeights_14 : decode cX6_byWeights 14 = .ok (.getfield 64, 3) := by decide +kernel
theorem dX6_byWeights_17 : decode cX6_byWeights 17 = .ok (.if_icmp .ge 73, 3) := by decide +kernel
theorem dX6_byWeights_20 : decode cX6_byWeights 20 = .ok (.aload_n 0, 1) := by decide +kernel
theorem dX6_byWeights_21 : decode cX6_byWeights 21 = .ok (.getfield 28, 3) := by decide +kernel
theorem dX6_byWeights_24 : decode cX6_byWeights 24 = .ok (.iload 6, 2) := by decide +kernel
theorem dX6_byWeights_26 : decode cX6_byWeights 26 = .ok (.invokevirtual 85, 3) := by decide +kernel
theorem dX6_byWeights_29 : decode cX6_byWeights 29 = .ok (.istore 7, 2) := by decide +kernel
theorem dX6_byWeights_31 : decode cX6_byWeights 31 = .ok (.iload 7, 2) := by decide +kernel
theorem dX6_byWeights_33 : decode cX6_byWeights 33 = .ok (.ifCond .le 51, 3) := by decide +kernel
theorem dX6_byWeights_36 : decode cX6_byWeights 36 = .ok (.aload_n 0, 1) := by decide +kernel
theorem dX6_byWeights_37 : decode cX6_byWeights 37 = .ok (.getfield 32, 3) := by decide +kernel
theorem dX6_byWeights_40 : decode cX6_byWeights 40 = .ok (.iload 6, 2) := by decide +kernel
theorem dX6_byWeights_42 : decode cX6_byWeights 42 = .ok (.iload_n 1, 1) := by decide +kernel
theorem dX6_byWeights_43 : decode cX6_byWeights 43 = .ok (.invokevirtual 69, 3) := by decide +kernel
theorem dX6_byWeights_46 : decode cX6_byWeights 46 = .ok (.ifCond .eq 38, 3) := by decide +kernel
theorem dX6_byWeights_49 : decode cX6_byWeights 49 = .ok (.ldc2_w 89, 3) := by decide +kernel
theorem dX6_byWeights_52 : decode cX6_byWeights 52 = .ok (.iload 7, 2) := by decide +kernel
theorem dX6_byWeights_54 : decode cX6_byWeights 54 = .ok (.i2l, 1) := by decide +kernel
theorem dX6_byWeights_55 : decode cX6_byWeights 55 = .ok (.ldiv, 1) := by decide +kernel
theorem dX6_byWeights_56 : decode cX6_byWeights 56 = .ok (.lstore 8, 2) := by decide +kernel
theorem dX6_byWeights_58 : decode cX6_byWeights 58 = .ok (.lload_n 2, 1) := by decide +kernel
theorem dX6_byWeights_59 : decode cX6_byWeights 59 = .ok (.lload 8, 2) := by decide +kernel
theorem dX6_byWeights_61 : decode cX6_byWeights 61 = .ok (.aload_n 0, 1) := by decide +kernel
theorem dX6_byWeights_62 : decode cX6_byWeights 62 = .ok (.getfield 32, 3) := by decide +kernel
theorem dX6_byWeights_65 : decode cX6_byWeights 65 = .ok (.getfield 75, 3) := by decide +kernel
theorem dX6_byWeights_68 : decode cX6_byWeights 68 = .ok (.iload_n 1, 1) := by decide +kernel
theorem dX6_byWeights_69 : decode cX6_byWeights 69 = .ok (.aaload, 1) := by decide +kernel
theorem dX6_byWeights_70 : decode cX6_byWeights 70 = .ok (.iload 6, 2) := by decide +kernel
theorem dX6_byWeights_72 : decode cX6_byWeights 72 = .ok (.iaload, 1) := by decide +kernel
theorem dX6_byWeights_73 : decode cX6_byWeights 73 = .ok (.i2l, 1) := by decide +kernel
theorem dX6_byWeights_74 : decode cX6_byWeights 74 = .ok (.lmul, 1) := by decide +kernel
theorem dX6_byWeights_75 : decode cX6_byWeights 75 = .ok (.ladd, 1) := by decide +kernel
theorem dX6_byWeights_76 : decode cX6_byWeights 76 = .ok (.lstore_n 2, 1) := by decide +kernel
theorem dX6_byWeights_77 : decode cX6_byWeights 77 = .ok (.lload 4, 2) := by decide +kernel
theorem dX6_byWeights_79 : decode cX6_byWeights 79 = .ok (.lload 8, 2) := by decide +kernel
theorem dX6_byWeights_81 : decode cX6_byWeights 81 = .ok (.ladd, 1) := by decide +kernel
theorem dX6_byWeights_82 : decode cX6_byWeights 82 = .ok (.lstore 4, 2) := by decide +kernel
theorem dX6_byWeights_84 : decode cX6_byWeights 84 = .ok (.iinc 6 1, 3) := by decide +kernel
theorem dX6_byWeights_87 : decode cX6_byWeights 87 = .ok (.goto (-79), 3) := by decide +kernel
theorem dX6_byWeights_90 : decode cX6_byWeights 90 = .ok (.aload_n 0, 1) := by decide +kernel
theorem dX6_byWeights_91 : decode cX6_byWeights 91 = .ok (.getfield 24, 3) := by decide +kernel
theorem dX6_byWeights_94 : decode cX6_byWeights 94 = .ok (.lload_n 2, 1) := by decide +kernel
theorem dX6_byWeights_95 : decode cX6_byWeights 95 = .ok (.lload 4, 2) := by decide +kernel
theorem dX6_byWeights_97 : decode cX6_byWeights 97 = .ok (.invokevirtual 50, 3) := by decide +kernel
theorem dX6_byWeights_100 : decode cX6_byWeights 100 = .ok (.return_, 1) := by decide +kernel
def wX6_byWeights_8 (post : Sto → Prop)  (K90 : Int64 → Int64 → Sto → Prop) : Nat → Int32 → Int64 → Int64 → Int32 → Sto → Prop
  | 0, _, _, _, _, _ => False
  | n + 1, x1, x2, x4, x6, σ => (((σ.1 1 2) ≤ x6) → (K90 x2 x4 σ)) ∧ ((¬ ((σ.1 1 2) ≤ x6)) → (wX1_squaredDoubt  x6 σ (fun (r26 : Int32) (s26 : Sto) => ((r26 ≤ 0) → (wX6_byWeights_8 post  K90 n x1 x2 x4 (x6 + (1 : Int32)) s26)) ∧ ((¬ (r26 ≤ 0)) → (wX7_takesPart  x6 x1 s26 (fun (r43 : Bool) (s43 : Sto) => ((r43 = false) → (wX6_byWeights_8 post  K90 n x1 x2 x4 (x6 + (1 : Int32)) s43)) ∧ ((r43 = true) → ((¬ r26.toInt64 = 0) ∧ (vp_in x1 4 ∧ (vp_in x6 14 ∧ (wX6_byWeights_8 post  K90 n x1 (x2 + ((((100000000 : Int64)) / r26.toInt64) * ((s43.1 (45 + x1.toNatClampNeg) x6.toNatClampNeg).toInt64))) (x4 + (((100000000 : Int64)) / r26.toInt64)) (x6 + (1 : Int32)) s43)))))))))))
set_option maxRecDepth 100000 in
set_option maxHeartbeats 4000000 in
theorem vX6_byWeights_8 (E : Ev) (post : Sto → Prop)   (K90 : Int64 → Int64 → Sto → Prop) (HK90 : ∀ (x2 : Int64) (x4 : Int64) (σ : Sto), K90 x2 x4 σ → V E 2 mX6_byWeights (pV post) 90 [(0, .ref 5), (2, .long x2), (4, .long x4)] [] σ) : ∀ (n : Nat) (x1 : Int32) (x2 : Int64) (x4 : Int64) (x6 : Int32) (σ : Sto), wX6_byWeights_8 post  K90 n x1 x2 x4 x6 σ → V E 2 mX6_byWeights (pV post) 8 [(0, .ref 5), (1, .int x1), (2, .long x2), (4, .long x4), (6, .int x6)] [] σ := by
  intro n
  induction n with
  | zero => intro x1 x2 x4 x6 σ h; exact h.elim
  | succ n ih =>
    intro x1 x2 x4 x6 σ h
    unfold wX6_byWeights_8 at h
    refine V_iload (pc := 8) 4 dX6_byWeights_8 rfl ?_
    refine V_aload_n (pc := 10) 0 dX6_byWeights_10 rfl ?_
    refine V_getR (pc := 11) dX6_byWeights_11 fl_X6_28 sh_5 rfl ?_
    refine V_getI (pc := 14) dX6_byWeights_14 fl_X6_64 sh_1 rfl ?_
    refine V_icmp_ge (pc := 17) (tgt := 90) dX6_byWeights_17 (by decide) (fun hc => ?_) (fun hc => ?_)
    · replace h := h.1 hc
      exact V_loc [0, 2, 3] rfl (HK90 x2 x4 σ  h)
    · replace h := h.2 hc
      refine V_aload_n (pc := 20) 0 dX6_byWeights_20 rfl ?_
      refine V_getR (pc := 21) dX6_byWeights_21 fl_X6_28 sh_5 rfl ?_
      refine V_iload (pc := 24) 4 dX6_byWeights_24 rfl ?_
      refine V_callV (pc := 26) (M' := mX1_squaredDoubt) dX6_byWeights_26 ml_X6_85 kv_X1_squaredDoubt ko_X1_squaredDoubt sh_1 (by decide) (by decide) rfl rfl (Nat.le_of_ble_eq_true rfl) (Nat.le_of_ble_eq_true rfl) (vX1_squaredDoubt E  x6 σ _  h) (kI (fun r26 s26 h => ?_))
      refine V_istore (pc := 29) dX6_byWeights_29 (by decide) ?_
      refine V_iload (pc := 31) 0 dX6_byWeights_31 rfl ?_
      refine V_if_le (pc := 33) (tgt := 84) dX6_byWeights_33 (by decide) (fun hc => ?_) (fun hc => ?_)
      · replace h := h.1 hc
        refine V_iinc (pc := 84) 5 (v := 1) dX6_byWeights_84 rfl (by decide) (by decide) ?_
        refine V_goto (pc := 87) (tgt := 8) dX6_byWeights_87 (by decide) ?_
        exact V_loc [2, 3, 4, 5, 0] rfl (ih x1 x2 x4 (x6 + (1 : Int32)) s26  h)
      · replace h := h.2 hc
        refine V_aload_n (pc := 36) 1 dX6_byWeights_36 rfl ?_
        refine V_getR (pc := 37) dX6_byWeights_37 fl_X6_32 sh_5 rfl ?_
        refine V_iload (pc := 40) 5 dX6_byWeights_40 rfl ?_
        refine V_iload_n (pc := 42) 2 dX6_byWeights_42 rfl ?_
        refine V_callV (pc := 43) (M' := mX7_takesPart) dX6_byWeights_43 ml_X6_69 kv_X7_takesPart ko_X7_takesPart sh_2 (by decide) (by decide) rfl rfl (Nat.le_of_ble_eq_true rfl) (Nat.le_of_ble_eq_true rfl) (vX7_takesPart E  x6 x1 s26 _  h) (kB (fun r43 s43 h => ?_))
        refine V_ifz (pc := 46) (tgt := 84) dX6_byWeights_46 (by decide) (fun hc => ?_) (fun hc => ?_)
        · replace h := h.1 hc
          refine V_iinc (pc := 84) 5 (v := 1) dX6_byWeights_84 rfl (by decide) (by decide) ?_
          refine V_goto (pc := 87) (tgt := 8) dX6_byWeights_87 (by decide) ?_
          exact V_loc [2, 3, 4, 5, 0] rfl (ih x1 x2 x4 (x6 + (1 : Int32)) s43  h)
        · replace h := h.2 hc
          refine V_ldc2 (pc := 49) dX6_byWeights_49 cl_X6_89 ?_
          refine V_iload (pc := 52) 0 dX6_byWeights_52 rfl ?_
          refine V_i2l (pc := 54) dX6_byWeights_54 ?_
          obtain ⟨z55, h⟩ := h
          refine V_ldiv (pc := 55) dX6_byWeights_55 z55 ?_
          refine V_lstore (pc := 56) dX6_byWeights_56 (by decide) ?_
          refine V_lload_n (pc := 58) 4 dX6_byWeights_58 rfl ?_
          refine V_lload (pc := 59) 0 dX6_byWeights_59 rfl ?_
          refine V_aload_n (pc := 61) 2 dX6_byWeights_61 rfl ?_
          refine V_getR (pc := 62) dX6_byWeights_62 fl_X6_32 sh_5 rfl ?_
          refine V_getR (pc := 65) dX6_byWeights_65 fl_X6_75 sh_2 rfl ?_
          refine V_iload_n (pc := 68) 3 dX6_byWeights_68 rfl ?_
          obtain ⟨i69, h⟩ := h
          refine V_aald (pc := 69) dX6_byWeights_69 sh_44 i69 ?_
          refine V_iload (pc := 70) 6 dX6_byWeights_70 rfl ?_
          obtain ⟨i72, h⟩ := h
          refine V_iald (pc := 72) dX6_byWeights_72 (sr_45 (vp_lt i69)) i72 ?_
          refine V_i2l (pc := 73) dX6_byWeights_73 ?_
          refine V_lmul (pc := 74) dX6_byWeights_74 ?_
          refine V_ladd (pc := 75) dX6_byWeights_75 ?_
          refine V_lstore_n (pc := 76) dX6_byWeights_76 (by decide) ?_
          refine V_lload (pc := 77) 5 dX6_byWeights_77 rfl ?_
          refine V_lload (pc := 79) 1 dX6_byWeights_79 rfl ?_
          refine V_ladd (pc := 81) dX6_byWeights_81 ?_
          refine V_lstore (pc := 82) dX6_byWeights_82 (by decide) ?_
          refine V_iinc (pc := 84) 6 (v := 1) dX6_byWeights_84 rfl (by decide) (by decide) ?_
          refine V_goto (pc := 87) (tgt := 8) dX6_byWeights_87 (by decide) ?_
          exact V_loc [5, 6, 2, 1, 0] rfl (ih x1 (x2 + ((((100000000 : Int64)) / r26.toInt64) * ((s43.1 (45 + x1.toNatClampNeg) x6.toNatClampNeg).toInt64))) (x4 + (((100000000 : Int64)) / r26.toInt64)) (x6 + (1 : Int32)) s43  h)
def wX6_byWeights  (x1 : Int32) (σ : Sto) (post : Sto → Prop) : Prop := ∃ n8, wX6_byWeights_8 post  (fun (x2_1 : Int64) (x4_1 : Int64) (σ_1 : Sto) => wX5_become 10 x2_1 x4_1 σ_1 (fun (s97 : Sto) => post s97)) n8 x1 ((0 : Int64)) ((0 : Int64)) ((0 : Int32)) σ
set_option maxRecDepth 100000 in
set_option maxHeartbeats 4000000 in
theorem vX6_byWeights (E : Ev)  (x1 : Int32) (σ : Sto) (post : Sto → Prop)  (h : wX6_byWeights  x1 σ post) : V E 2 mX6_byWeights (pV post) 0 [(0, .ref 5), (1, .int x1)] [] σ := by
  unfold wX6_byWeights at h
  refine V_lconst (pc := 0) (v := 0) dX6_byWeights_0 (by decide) ?_
  refine V_lstore_n (pc := 1) dX6_byWeights_1 (by decide) ?_
  refine V_lconst (pc := 2) (v := 0) dX6_byWeights_2 (by decide) ?_
  refine V_lstore (pc := 3) dX6_byWeights_3 (by decide) ?_
  refine V_iconst (pc := 5) (v := 0) dX6_byWeights_5 (by decide) ?_
  refine V_istore (pc := 6) dX6_byWeights_6 (by decide) ?_
  obtain ⟨n8, h⟩ := h
  refine V_loc [3, 4, 2, 1, 0] rfl (vX6_byWeights_8 E post   _ (fun x2_1 x4_1 σ_1 h => ?_) n8 x1 ((0 : Int64)) ((0 : Int64)) ((0 : Int32)) σ  h)
  · refine V_aload_n (pc := 90) 0 dX6_byWeights_90 rfl ?_
    refine V_getR (pc := 91) dX6_byWeights_91 fl_X6_24 sh_5 rfl ?_
    refine V_lload_n (pc := 94) 1 dX6_byWeights_94 rfl ?_
    refine V_lload (pc := 95) 2 dX6_byWeights_95 rfl ?_
    refine V_callV (pc := 97) (M' := mX5_become) dX6_byWeights_97 ml_X6_50 kv_X5_become ko_X5_become sh_10 (by decide) (by decide) rfl rfl (Nat.le_of_ble_eq_true rfl) (Nat.le_of_ble_eq_true rfl) (vX5_become E 10 x2_1 x4_1 σ_1 _ sh_10 h) (kV (fun s97 h => ?_))
    exact V_vret dX6_byWeights_100 rfl h
theorem dX6_byPairs_0 : decode cX6_byPairs 0 = .ok (.iconst 0, 1) := by decide +kernel
theorem dX6_byPairs_1 : decode cX6_byPairs 1 = .ok (.istore_n 1, 1) := by decide +kernel
theorem dX6_byPairs_2 : decode cX6_byPairs 2 = .ok (.iconst 0, 1) := by decide +kernel
theorem dX6_byPairs_3 : decode cX6_byPairs 3 = .ok (.istore_n 2, 1) := by decide +kernel
theorem dX6_byPairs_4 : decode cX6_byPairs 4 = .ok (.iload_n 2, 1) := by decide +kernel
theorem dX6_byPairs_5 : decode cX6_byPairs 5 = .ok (.aload_n 0, 1) := by decide +kernel
theorem dX6_byPairs_6 : decode cX6_byPairs 6 = .ok (.getfield 40, 3) := by decide +kernel
theorem dX6_byPairs_9 : decode cX6_byPairs 9 = .ok (.if_icmp .ge 46, 3) := by decide +kernel
theorem dX6_byPairs_12 : decode cX6_byPairs 12 = .ok (.iconst 0, 1) := by decide +kernel
theorem dX6_byPairs_13 : decode cX6_byPairs 13 = .ok (.istore_n 3, 1) := by decide +kernel
theorem dX6_byPairs_14 : decode cX6_byPairs 14 = .ok (.iload_n 3, 1) := by decide +kernel
theorem dX6_byPairs_15 : decode cX6_byPairs 15 = .ok (.iload_n 2, 1) := by decide +kernel
theorem dX6_byPairs_16 : decode cX6_byPairs 16 = .ok (.if_icmp .gt 33, 3) := by decide +kernel
theorem dX6_byPairs_19 : decode cX6_byPairs 19 = .ok (.aload_n 0, 1) := by decide +kernel
theorem dX6_byPairs_20 : decode cX6_byPairs 20 = .ok (.getfield 18, 3) := by decide +kernel
theorem dX6_byPairs_23 : decode cX6_byPairs 23 = .ok (.iload_n 1, 1) := by decide +kernel
theorem dX6_byPairs_24 : decode cX6_byPairs 24 = .ok (.aload_n 0, 1) := by decide +kernel
theorem dX6_byPairs_25 : decode cX6_byPairs 25 = .ok (.getfield 9, 3) := by decide +kernel
theorem dX6_byPairs_28 : decode cX6_byPairs 28 = .ok (.iload_n 2, 1) := by decide +kernel
theorem dX6_byPairs_29 : decode cX6_byPairs 29 = .ok (.laload, 1) := by decide +kernel
theorem dX6_byPairs_30 : decode cX6_byPairs 30 = .ok (.aload_n 0, 1) := by decide +kernel
theorem dX6_byPairs_31 : decode cX6_byPairs 31 = .ok (.getfield 9, 3) := by decide +kernel
theorem dX6_byPairs_34 : decode cX6_byPairs 34 = .ok (.iload_n 3, 1) := by decide +kernel
theorem dX6_byPairs_35 : decode cX6_byPairs 35 = .ok (.laload, 1) := by decide +kernel
theorem dX6_byPairs_36 : decode cX6_byPairs 36 = .ok (.ladd, 1) := by decide +kernel
theorem dX6_byPairs_37 : decode cX6_byPairs 37 = .ok (.invokestatic 79, 3) := by decide +kernel
theorem dX6_byPairs_40 : decode cX6_byPairs 40 = .ok (.iinc 1 1, 3) := by decide +kernel
theorem dX6_byPairs_43 : decode cX6_byPairs 43 = .ok (.iinc 3 1, 3) := by decide +kernel
theorem dX6_byPairs_46 : decode cX6_byPairs 46 = .ok (.goto (-32), 3) := by decide +kernel
theorem dX6_byPairs_49 : decode cX6_byPairs 49 = .ok (.iinc 2 1, 3) := by decide +kernel
theorem dX6_byPairs_52 : decode cX6_byPairs 52 = .ok (.goto (-48), 3) := by decide +kernel
theorem dX6_byPairs_55 : decode cX6_byPairs 55 = .ok (.aload_n 0, 1) := by decide +kernel
theorem dX6_byPairs_56 : decode cX6_byPairs 56 = .ok (.getfield 24, 3) := by decide +kernel
theorem dX6_byPairs_59 : decode cX6_byPairs 59 = .ok (.aload_n 0, 1) := by decide +kernel
theorem dX6_byPairs_60 : decode cX6_byPairs 60 = .ok (.getfield 18, 3) := by decide +kernel
theorem dX6_byPairs_63 : decode cX6_byPairs 63 = .ok (.iload_n 1, 1) := by decide +kernel
theorem dX6_byPairs_64 : decode cX6_byPairs 64 = .ok (.invokestatic 44, 3) := by decide +kernel
theorem dX6_byPairs_67 : decode cX6_byPairs 67 = .ok (.ldc2_w 83, 3) := by decide +kernel
theorem dX6_byPairs_70 : decode cX6_byPairs 70 = .ok (.invokevirtual 50, 3) := by decide +kernel
theorem dX6_byPairs_73 : decode cX6_byPairs 73 = .ok (.return_, 1) := by decide +kernel
def wX6_byPairs_14 (post : Sto → Prop)  (K49 : Int32 → Int32 → Sto → Prop) : Nat → Int32 → Int32 → Int32 → Sto → Prop
  | 0, _, _, _, _ => False
  | n + 1, x1, x2, x3, σ => ((x2 < x3) → (K49 x1 x2 σ)) ∧ ((¬ (x2 < x3)) → (vp_in x2 14 ∧ (vp_in x3 14 ∧ (wX10_putInOrder 54 105 x1 ((σ.2 52 x2.toNatClampNeg) + (σ.2 52 x3.toNatClampNeg)) σ (fun (s37 : Sto) => wX6_byPairs_14 post  K49 n (x1 + (1 : Int32)) x2 (x3 + (1 : Int32)) s37)))))
set_option maxRecDepth 100000 in
set_option maxHeartbeats 4000000 in
theorem vX6_byPairs_14 (E : Ev) (post : Sto → Prop)   (K49 : Int32 → Int32 → Sto → Prop) (HK49 : ∀ (x1 : Int32) (x2 : Int32) (σ : Sto), K49 x1 x2 σ → V E 2 mX6_byPairs (pV post) 49 [(0, .ref 5), (1, .int x1), (2, .int x2)] [] σ) : ∀ (n : Nat) (x1 : Int32) (x2 : Int32) (x3 : Int32) (σ : Sto), wX6_byPairs_14 post  K49 n x1 x2 x3 σ → V E 2 mX6_byPairs (pV post) 14 [(0, .ref 5), (1, .int x1), (2, .int x2), (3, .int x3)] [] σ := by
  intro n
  induction n with
  | zero => intro x1 x2 x3 σ h; exact h.elim
  | succ n ih =>
    intro x1 x2 x3 σ h
    unfold wX6_byPairs_14 at h
    refine V_iload_n (pc := 14) 3 dX6_byPairs_14 rfl ?_
    refine V_iload_n (pc := 15) 2 dX6_byPairs_15 rfl ?_
    refine V_icmp_gt (pc := 16) (tgt := 49) dX6_byPairs_16 (by decide) (fun hc => ?_) (fun hc => ?_)
    · replace h := h.1 hc
      exact V_loc [0, 1, 2] rfl (HK49 x1 x2 σ  h)
    · replace h := h.2 hc
      refine V_aload_n (pc := 19) 0 dX6_byPairs_19 rfl ?_
      refine V_getR (pc := 20) dX6_byPairs_20 fl_X6_18 sh_5 rfl ?_
      refine V_iload_n (pc := 23) 1 dX6_byPairs_23 rfl ?_
      refine V_aload_n (pc := 24) 0 dX6_byPairs_24 rfl ?_
      refine V_getR (pc := 25) dX6_byPairs_25 fl_X6_9 sh_5 rfl ?_
      refine V_iload_n (pc := 28) 2 dX6_byPairs_28 rfl ?_
      obtain ⟨i29, h⟩ := h
      refine V_lald (pc := 29) dX6_byPairs_29 sh_52 i29 ?_
      refine V_aload_n (pc := 30) 0 dX6_byPairs_30 rfl ?_
      refine V_getR (pc := 31) dX6_byPairs_31 fl_X6_9 sh_5 rfl ?_
      refine V_iload_n (pc := 34) 3 dX6_byPairs_34 rfl ?_
      obtain ⟨i35, h⟩ := h
      refine V_lald (pc := 35) dX6_byPairs_35 sh_52 i35 ?_
      refine V_ladd (pc := 36) dX6_byPairs_36 ?_
      refine V_callN (pc := 37) (M' := mX10_putInOrder) dX6_byPairs_37 mn_X6_79 ks_X10_putInOrder ko_X10_putInOrder (by decide) rfl (Nat.le_of_ble_eq_true rfl) (Nat.le_of_ble_eq_true rfl) (vX10_putInOrder E 54 105 x1 ((σ.2 52 x2.toNatClampNeg) + (σ.2 52 x3.toNatClampNeg)) σ _ sh_54 h) (kV (fun s37 h => ?_))
      refine V_iinc (pc := 40) 1 (v := 1) dX6_byPairs_40 rfl (by decide) (by decide) ?_
      refine V_iinc (pc := 43) 3 (v := 1) dX6_byPairs_43 rfl (by decide) (by decide) ?_
      refine V_goto (pc := 46) (tgt := 14) dX6_byPairs_46 (by decide) ?_
      exact V_loc [2, 1, 3, 0] rfl (ih (x1 + (1 : Int32)) x2 (x3 + (1 : Int32)) s37  h)
def wX6_byPairs_4 (post : Sto → Prop)  (K55 : Int32 → Sto → Prop) : Nat → Int32 → Int32 → Sto → Prop
  | 0, _, _, _ => False
  | n + 1, x1, x2, σ => (((σ.1 5 5) ≤ x2) → (K55 x1 σ)) ∧ ((¬ ((σ.1 5 5) ≤ x2)) → (∃ n14, wX6_byPairs_14 post  (fun (x1_1 : Int32) (x2_1 : Int32) (σ_1 : Sto) => wX6_byPairs_4 post  K55 n x1_1 (x2_1 + (1 : Int32)) σ_1) n14 x1 x2 ((0 : Int32)) σ))
set_option maxRecDepth 100000 in
set_option maxHeartbeats 4000000 in
theorem vX6_byPairs_4 (E : Ev) (post : Sto → Prop)   (K55 : Int32 → Sto → Prop) (HK55 : ∀ (x1 : Int32) (σ : Sto), K55 x1 σ → V E 2 mX6_byPairs (pV post) 55 [(0, .ref 5), (1, .int x1)] [] σ) : ∀ (n : Nat) (x1 : Int32) (x2 : Int32) (σ : Sto), wX6_byPairs_4 post  K55 n x1 x2 σ → V E 2 mX6_byPairs (pV post) 4 [(0, .ref 5), (1, .int x1), (2, .int x2)] [] σ := by
  intro n
  induction n with
  | zero => intro x1 x2 σ h; exact h.elim
  | succ n ih =>
    intro x1 x2 σ h
    unfold wX6_byPairs_4 at h
    refine V_iload_n (pc := 4) 2 dX6_byPairs_4 rfl ?_
    refine V_aload_n (pc := 5) 0 dX6_byPairs_5 rfl ?_
    refine V_getI (pc := 6) dX6_byPairs_6 fl_X6_40 sh_5 rfl ?_
    refine V_icmp_ge (pc := 9) (tgt := 55) dX6_byPairs_9 (by decide) (fun hc => ?_) (fun hc => ?_)
    · replace h := h.1 hc
      exact V_loc [0, 1] rfl (HK55 x1 σ  h)
    · replace h := h.2 hc
      refine V_iconst (pc := 12) (v := 0) dX6_byPairs_12 (by decide) ?_
      refine V_istore_n (pc := 13) dX6_byPairs_13 (by decide) ?_
      obtain ⟨n14, h⟩ := h
      refine V_loc [1, 2, 3, 0] rfl (vX6_byPairs_14 E post   _ (fun x1_1 x2_1 σ_1 h => ?_) n14 x1 x2 ((0 : Int32)) σ  h)
      · refine V_iinc (pc := 49) 2 (v := 1) dX6_byPairs_49 rfl (by decide) (by decide) ?_
        refine V_goto (pc := 52) (tgt := 4) dX6_byPairs_52 (by decide) ?_
        exact V_loc [1, 2, 0] rfl (ih x1_1 (x2_1 + (1 : Int32)) σ_1  h)
def wX6_byPairs   (σ : Sto) (post : Sto → Prop) : Prop := ∃ n4, wX6_byPairs_4 post  (fun (x1_2 : Int32) (σ_2 : Sto) => wX6_twiceMiddle 54 105 x1_2 σ_2 (fun (r64 : Int64) (s64 : Sto) => wX5_become 10 r64 ((4 : Int64)) s64 (fun (s70 : Sto) => post s70))) n4 ((0 : Int32)) ((0 : Int32)) σ
set_option maxRecDepth 100000 in
set_option maxHeartbeats 4000000 in
theorem vX6_byPairs (E : Ev)   (σ : Sto) (post : Sto → Prop)  (h : wX6_byPairs   σ post) : V E 2 mX6_byPairs (pV post) 0 [(0, .ref 5)] [] σ := by
  unfold wX6_byPairs at h
  refine V_iconst (pc := 0) (v := 0) dX6_byPairs_0 (by decide) ?_
  refine V_istore_n (pc := 1) dX6_byPairs_1 (by decide) ?_
  refine V_iconst (pc := 2) (v := 0) dX6_byPairs_2 (by decide) ?_
  refine V_istore_n (pc := 3) dX6_byPairs_3 (by decide) ?_
  obtain ⟨n4, h⟩ := h
  refine V_loc [2, 1, 0] rfl (vX6_byPairs_4 E post   _ (fun x1_2 σ_2 h => ?_) n4 ((0 : Int32)) ((0 : Int32)) σ  h)
  · refine V_aload_n (pc := 55) 0 dX6_byPairs_55 rfl ?_
    refine V_getR (pc := 56) dX6_byPairs_56 fl_X6_24 sh_5 rfl ?_
    refine V_aload_n (pc := 59) 0 dX6_byPairs_59 rfl ?_
    refine V_getR (pc := 60) dX6_byPairs_60 fl_X6_18 sh_5 rfl ?_
    refine V_iload_n (pc := 63) 1 dX6_byPairs_63 rfl ?_
    refine V_callS (pc := 64) (M' := mX6_twiceMiddle) dX6_byPairs_64 ml_X6_44 ks_X6_twiceMiddle ko_X6_twiceMiddle (by decide) rfl (Nat.le_of_ble_eq_true rfl) (Nat.le_of_ble_eq_true rfl) (vX6_twiceMiddle E 54 105 x1_2 σ_2 _ sh_54 h) (kL (fun r64 s64 h => ?_))
    refine V_ldc2 (pc := 67) dX6_byPairs_67 cl_X6_83 ?_
    refine V_callV (pc := 70) (M' := mX5_become) dX6_byPairs_70 ml_X6_50 kv_X5_become ko_X5_become sh_10 (by decide) (by decide) rfl rfl (Nat.le_of_ble_eq_true rfl) (Nat.le_of_ble_eq_true rfl) (vX5_become E 10 r64 ((4 : Int64)) s64 _ sh_10 h) (kV (fun s70 h => ?_))
    exact V_vret dX6_byPairs_73 rfl h
theorem dX6_reckonBy_0 : decode cX6_reckonBy 0 = .ok (.aload_n 0, 1) := by decide +kernel
theorem dX6_reckonBy_1 : decode cX6_reckonBy 1 = .ok (.iload_n 2, 1) := by decide +kernel
theorem dX6_reckonBy_2 : decode cX6_reckonBy 2 = .ok (.invokevirtual 36, 3) := by decide +kernel
theorem dX6_reckonBy_5 : decode cX6_reckonBy 5 = .ok (.aload_n 0, 1) := by decide +kernel
theorem dX6_reckonBy_6 : decode cX6_reckonBy 6 = .ok (.getfield 40, 3) := by decide +kernel
theorem dX6_reckonBy_9 : decode cX6_reckonBy 9 = .ok (.ifCond .ne 5, 3) := by decide +kernel
theorem dX6_reckonBy_12 : decode cX6_reckonBy 12 = .ok (.iconst 0, 1) := by decide +kernel
theorem dX6_reckonBy_13 : decode cX6_reckonBy 13 = .ok (.ireturn, 1) := by decide +kernel
theorem dX6_reckonBy_14 : decode cX6_reckonBy 14 = .ok (.iload_n 1, 1) := by decide +kernel
theorem dX6_reckonBy_15 : decode cX6_reckonBy 15 = .ok (.ifCond .ne 27, 3) := by decide +kernel
theorem dX6_reckonBy_18 : decode cX6_reckonBy 18 = .ok (.aload_n 0, 1) := by decide +kernel
theorem dX6_reckonBy_19 : decode cX6_reckonBy 19 = .ok (.getfield 24, 3) := by decide +kernel
theorem dX6_reckonBy_22 : decode cX6_reckonBy 22 = .ok (.aload_n 0, 1) := by decide +kernel
theorem dX6_reckonBy_23 : decode cX6_reckonBy 23 = .ok (.getfield 9, 3) := by decide +kernel
theorem dX6_reckonBy_26 : decode cX6_reckonBy 26 = .ok (.aload_n 0, 1) := by decide +kernel
theorem dX6_reckonBy_27 : decode cX6_reckonBy 27 = .ok (.getfield 40, 3) := by decide +kernel
theorem dX6_reckonBy_30 : decode cX6_reckonBy 30 = .ok (.invokestatic 44, 3) := by decide +kernel
theorem dX6_reckonBy_33 : decode cX6_reckonBy 33 = .ok (.ldc2_w 48, 3) := by decide +kernel
theorem dX6_reckonBy_36 : decode cX6_reckonBy 36 = .ok (.invokevirtual 50, 3) := by decide +kernel
theorem dX6_reckonBy_39 : decode cX6_reckonBy 39 = .ok (.goto 40, 3) := by decide +kernel
theorem dX6_reckonBy_42 : decode cX6_reckonBy 42 = .ok (.iload_n 1, 1) := by decide +kernel
theorem dX6_reckonBy_43 : decode cX6_reckonBy 43 = .ok (.iconst 1, 1) := by decide +kernel
theorem dX6_reckonBy_44 : decode cX6_reckonBy 44 = .ok (.if_icmp .ne 10, 3) := by decide +kernel
theorem dX6_reckonBy_47 : decode cX6_reckonBy 47 = .ok (.aload_n 0, 1) := by decide +kernel
theorem dX6_reckonBy_48 : decode cX6_reckonBy 48 = .ok (.invokevirtual 54, 3) := by decide +kernel
theorem dX6_reckonBy_51 : decode cX6_reckonBy 51 = .ok (.goto 28, 3) := by decide +kernel
theorem dX6_reckonBy_54 : decode cX6_reckonBy 54 = .ok (.iload_n 1, 1) := by decide +kernel
theorem dX6_reckonBy_55 : decode cX6_reckonBy 55 = .ok (.iconst 2, 1) := by decide +kernel
theorem dX6_reckonBy_56 : decode cX6_reckonBy 56 = .ok (.if_icmp .ne 11, 3) := by decide +kernel
theorem dX6_reckonBy_59 : decode cX6_reckonBy 59 = .ok (.aload_n 0, 1) := by decide +kernel
theorem dX6_reckonBy_60 : decode cX6_reckonBy 60 = .ok (.iload_n 2, 1) := by decide +kernel
theorem dX6_reckonBy_61 : decode cX6_reckonBy 61 = .ok (.invokevirtual 57, 3) := by decide +kernel
theorem dX6_reckonBy_64 : decode cX6_reckonBy 64 = .ok (.goto 15, 3) := by decide +kernel
theorem dX6_reckonBy_67 : decode cX6_reckonBy 67 = .ok (.aload_n 0, 1) := by decide +kernel
theorem dX6_reckonBy_68 : decode cX6_reckonBy 68 = .ok (.getfield 24, 3) := by decide +kernel
theorem dX6_reckonBy_71 : decode cX6_reckonBy 71 = .ok (.aload_n 0, 1) := by decide +kernel
theorem dX6_reckonBy_72 : decode cX6_reckonBy 72 = .ok (.invokevirtual 60, 3) := by decide +kernel
theorem dX6_reckonBy_75 : decode cX6_reckonBy 75 = .ok (.lconst 1, 1) := by decide +kernel
theorem dX6_reckonBy_76 : decode cX6_reckonBy 76 = .ok (.invokevirtual 50, 3) := by decide +kernel
theorem dX6_reckonBy_79 : decode cX6_reckonBy 79 = .ok (.iconst 1, 1) := by decide +kernel
theorem dX6_reckonBy_80 : decode cX6_reckonBy 80 = .ok (.ireturn, 1) := by decide +kernel
def wX6_reckonBy  (x1 : Int32) (x2 : Int32) (σ : Sto) (post : Bool → Sto → Prop) : Prop := wX6_gather  x2 σ (fun (s2 : Sto) => ((¬ (s2.1 5 5) = 0) → (((¬ x1 = 0) → (((¬ x1 = ((1 : Int32))) → (((¬ x1 = ((2 : Int32))) → (wX6_bySteps   s2 (fun (r72 : Int64) (s72 : Sto) => wX5_become 10 r72 ((1 : Int64)) s72 (fun (s76 : Sto) => post true s76)))) ∧ ((x1 = ((2 : Int32))) → (wX6_byWeights  x2 s2 (fun (s61 : Sto) => post true s61))))) ∧ ((x1 = ((1 : Int32))) → (wX6_byPairs   s2 (fun (s48 : Sto) => post true s48))))) ∧ ((x1 = 0) → (wX6_twiceMiddle 52 14 (s2.1 5 5) s2 (fun (r30 : Int64) (s30 : Sto) => wX5_become 10 r30 ((2 : Int64)) s30 (fun (s36 : Sto) => post true s36)))))) ∧ (((s2.1 5 5) = 0) → (post false s2)))
set_option maxRecDepth 100000 in
set_option maxHeartbeats 4000000 in
theorem vX6_reckonBy (E : Ev)  (x1 : Int32) (x2 : Int32) (σ : Sto) (post : Bool → Sto → Prop)  (h : wX6_reckonBy  x1 x2 σ post) : V E 3 mX6_reckonBy (pB post) 0 [(0, .ref 5), (1, .int x1), (2, .int x2)] [] σ := by
  unfold wX6_reckonBy at h
  refine V_aload_n (pc := 0) 0 dX6_reckonBy_0 rfl ?_
  refine V_iload_n (pc := 1) 2 dX6_reckonBy_1 rfl ?_
  refine V_callV (pc := 2) (M' := mX6_gather) dX6_reckonBy_2 ml_X6_36 kv_X6_gather ko_X6_gather sh_5 (by decide) (by decide) rfl rfl (Nat.le_of_ble_eq_true rfl) (Nat.le_of_ble_eq_true rfl) (vX6_gather E  x2 σ _  h) (kV (fun s2 h => ?_))
  refine V_aload_n (pc := 5) 0 dX6_reckonBy_5 rfl ?_
  refine V_getI (pc := 6) dX6_reckonBy_6 fl_X6_40 sh_5 rfl ?_
  refine V_if_ne (pc := 9) (tgt := 14) dX6_reckonBy_9 (by decide) (fun hc => ?_) (fun hc => ?_)
  · replace h := h.1 hc
    refine V_iload_n (pc := 14) 1 dX6_reckonBy_14 rfl ?_
    refine V_if_ne (pc := 15) (tgt := 42) dX6_reckonBy_15 (by decide) (fun hc => ?_) (fun hc => ?_)
    · replace h := h.1 hc
      refine V_iload_n (pc := 42) 1 dX6_reckonBy_42 rfl ?_
      refine V_iconst (pc := 43) (v := 1) dX6_reckonBy_43 (by decide) ?_
      refine V_icmp_ne (pc := 44) (tgt := 54) dX6_reckonBy_44 (by decide) (fun hc => ?_) (fun hc => ?_)
      · replace h := h.1 hc
        refine V_iload_n (pc := 54) 1 dX6_reckonBy_54 rfl ?_
        refine V_iconst (pc := 55) (v := 2) dX6_reckonBy_55 (by decide) ?_
        refine V_icmp_ne (pc := 56) (tgt := 67) dX6_reckonBy_56 (by decide) (fun hc => ?_) (fun hc => ?_)
        · replace h := h.1 hc
          refine V_aload_n (pc := 67) 0 dX6_reckonBy_67 rfl ?_
          refine V_getR (pc := 68) dX6_reckonBy_68 fl_X6_24 sh_5 rfl ?_
          refine V_aload_n (pc := 71) 0 dX6_reckonBy_71 rfl ?_
          refine V_callV (pc := 72) (M' := mX6_bySteps) dX6_reckonBy_72 ml_X6_60 kv_X6_bySteps ko_X6_bySteps sh_5 (by decide) (by decide) rfl rfl (Nat.le_of_ble_eq_true rfl) (Nat.le_of_ble_eq_true rfl) (vX6_bySteps E   s2 _  h) (kL (fun r72 s72 h => ?_))
          refine V_lconst (pc := 75) (v := 1) dX6_reckonBy_75 (by decide) ?_
          refine V_callV (pc := 76) (M' := mX5_become) dX6_reckonBy_76 ml_X6_50 kv_X5_become ko_X5_become sh_10 (by decide) (by decide) rfl rfl (Nat.le_of_ble_eq_true rfl) (Nat.le_of_ble_eq_true rfl) (vX5_become E 10 r72 ((1 : Int64)) s72 _ sh_10 h) (kV (fun s76 h => ?_))
          refine V_iconst (pc := 79) (v := 1) dX6_reckonBy_79 (by decide) ?_
          exact V_zret true rfl dX6_reckonBy_80 rfl h
        · replace h := h.2 hc
          refine V_aload_n (pc := 59) 0 dX6_reckonBy_59 rfl ?_
          refine V_iload_n (pc := 60) 2 dX6_reckonBy_60 rfl ?_
          refine V_callV (pc := 61) (M' := mX6_byWeights) dX6_reckonBy_61 ml_X6_57 kv_X6_byWeights ko_X6_byWeights sh_5 (by decide) (by decide) rfl rfl (Nat.le_of_ble_eq_true rfl) (Nat.le_of_ble_eq_true rfl) (vX6_byWeights E  x2 s2 _  h) (kV (fun s61 h => ?_))
          refine V_goto (pc := 64) (tgt := 79) dX6_reckonBy_64 (by decide) ?_
          refine V_iconst (pc := 79) (v := 1) dX6_reckonBy_79 (by decide) ?_
          exact V_zret true rfl dX6_reckonBy_80 rfl h
      · replace h := h.2 hc
        refine V_aload_n (pc := 47) 0 dX6_reckonBy_47 rfl ?_
        refine V_callV (pc := 48) (M' := mX6_byPairs) dX6_reckonBy_48 ml_X6_54 kv_X6_byPairs ko_X6_byPairs sh_5 (by decide) (by decide) rfl rfl (Nat.le_of_ble_eq_true rfl) (Nat.le_of_ble_eq_true rfl) (vX6_byPairs E   s2 _  h) (kV (fun s48 h => ?_))
        refine V_goto (pc := 51) (tgt := 79) dX6_reckonBy_51 (by decide) ?_
        refine V_iconst (pc := 79) (v := 1) dX6_reckonBy_79 (by decide) ?_
        exact V_zret true rfl dX6_reckonBy_80 rfl h
    · replace h := h.2 hc
      refine V_aload_n (pc := 18) 0 dX6_reckonBy_18 rfl ?_
      refine V_getR (pc := 19) dX6_reckonBy_19 fl_X6_24 sh_5 rfl ?_
      refine V_aload_n (pc := 22) 0 dX6_reckonBy_22 rfl ?_
      refine V_getR (pc := 23) dX6_reckonBy_23 fl_X6_9 sh_5 rfl ?_
      refine V_aload_n (pc := 26) 0 dX6_reckonBy_26 rfl ?_
      refine V_getI (pc := 27) dX6_reckonBy_27 fl_X6_40 sh_5 rfl ?_
      refine V_callS (pc := 30) (M' := mX6_twiceMiddle) dX6_reckonBy_30 ml_X6_44 ks_X6_twiceMiddle ko_X6_twiceMiddle (by decide) rfl (Nat.le_of_ble_eq_true rfl) (Nat.le_of_ble_eq_true rfl) (vX6_twiceMiddle E 52 14 (s2.1 5 5) s2 _ sh_52 h) (kL (fun r30 s30 h => ?_))
      refine V_ldc2 (pc := 33) dX6_reckonBy_33 cl_X6_48 ?_
      refine V_callV (pc := 36) (M' := mX5_become) dX6_reckonBy_36 ml_X6_50 kv_X5_become ko_X5_become sh_10 (by decide) (by decide) rfl rfl (Nat.le_of_ble_eq_true rfl) (Nat.le_of_ble_eq_true rfl) (vX5_become E 10 r30 ((2 : Int64)) s30 _ sh_10 h) (kV (fun s36 h => ?_))
      refine V_goto (pc := 39) (tgt := 79) dX6_reckonBy_39 (by decide) ?_
      refine V_iconst (pc := 79) (v := 1) dX6_reckonBy_79 (by decide) ?_
      exact V_zret true rfl dX6_reckonBy_80 rfl h
  · replace h := h.2 hc
    refine V_iconst (pc := 12) (v := 0) dX6_reckonBy_12 (by decide) ?_
    exact V_zret false rfl dX6_reckonBy_13 rfl h
theorem dX6_markOf_0 : decode cX6_markOf 0 = .ok (.aload_n 0, 1) := by decide +kernel
theorem dX6_markOf_1 : decode cX6_markOf 1 = .ok (.iload_n 2, 1) := by decide +kernel
theorem dX6_markOf_2 : decode cX6_markOf 2 = .ok (.invokevirtual 36, 3) := by decide +kernel
theorem dX6_markOf_5 : decode cX6_markOf 5 = .ok (.ldc2_w 124, 3) := by decide +kernel
theorem dX6_markOf_8 : decode cX6_markOf 8 = .ok (.aload_n 0, 1) := by decide +kernel
theorem dX6_markOf_9 : decode cX6_markOf 9 = .ok (.getfield 28, 3) := by decide +kernel
theorem dX6_markOf_12 : decode cX6_markOf 12 = .ok (.getfield 126, 3) := by decide +kernel
theorem dX6_markOf_15 : decode cX6_markOf 15 = .ok (.iload_n 1, 1) := by decide +kernel
theorem dX6_markOf_16 : decode cX6_markOf 16 = .ok (.iaload, 1) := by decide +kernel
theorem dX6_markOf_17 : decode cX6_markOf 17 = .ok (.i2l, 1) := by decide +kernel
theorem dX6_markOf_18 : decode cX6_markOf 18 = .ok (.lmul, 1) := by decide +kernel
theorem dX6_markOf_19 : decode cX6_markOf 19 = .ok (.lstore_n 3, 1) := by decide +kernel
theorem dX6_markOf_20 : decode cX6_markOf 20 = .ok (.lload_n 3, 1) := by decide +kernel
theorem dX6_markOf_21 : decode cX6_markOf 21 = .ok (.lconst 0, 1) := by decide +kernel
theorem dX6_markOf_22 : decode cX6_markOf 22 = .ok (.lcmp, 1) := by decide +kernel
theorem dX6_markOf_23 : decode cX6_markOf 23 = .ok (.ifCond .le 30, 3) := by decide +kernel
theorem dX6_markOf_26 : decode cX6_markOf 26 = .ok (.aload_n 0, 1) := by decide +kernel
theorem dX6_markOf_27 : decode cX6_markOf 27 = .ok (.getfield 32, 3) := by decide +kernel
theorem dX6_markOf_30 : decode cX6_markOf 30 = .ok (.getfield 75, 3) := by decide +kernel
theorem dX6_markOf_33 : decode cX6_markOf 33 = .ok (.iload_n 2, 1) := by decide +kernel
theorem dX6_markOf_34 : decode cX6_markOf 34 = .ok (.aaload, 1) := by decide +kernel
theorem dX6_markOf_35 : decode cX6_markOf 35 = .ok (.iload_n 1, 1) := by decide +kernel
theorem dX6_markOf_36 : decode cX6_markOf 36 = .ok (.iaload, 1) := by decide +kernel
theorem dX6_markOf_37 : decode cX6_markOf 37 = .ok (.i2l, 1) := by decide +kernel
theorem dX6_markOf_38 : decode cX6_markOf 38 = .ok (.aload_n 0, 1) := by decide +kernel
theorem dX6_markOf_39 : decode cX6_markOf 39 = .ok (.invokevirtual 60, 3) := by decide +kernel
theorem dX6_markOf_42 : decode cX6_markOf 42 = .ok (.lsub, 1) := by decide +kernel
theorem dX6_markOf_43 : decode cX6_markOf 43 = .ok (.ldc2_w 130, 3) := by decide +kernel
theorem dX6_markOf_46 : decode cX6_markOf 46 = .ok (.lmul, 1) := by decide +kernel
theorem dX6_markOf_47 : decode cX6_markOf 47 = .ok (.lload_n 3, 1) := by decide +kernel
theorem dX6_markOf_48 : decode cX6_markOf 48 = .ok (.ldiv, 1) := by decide +kernel
theorem dX6_markOf_49 : decode cX6_markOf 49 = .ok (.l2i, 1) := by decide +kernel
theorem dX6_markOf_50 : decode cX6_markOf 50 = .ok (.goto 4, 3) := by decide +kernel
theorem dX6_markOf_53 : decode cX6_markOf 53 = .ok (.iconst 0, 1) := by decide +kernel
theorem dX6_markOf_54 : decode cX6_markOf 54 = .ok (.ireturn, 1) := by decide +kernel
def wX6_markOf  (x1 : Int32) (x2 : Int32) (σ : Sto) (post : Int32 → Sto → Prop) : Prop := wX6_gather  x2 σ (fun (s2 : Sto) => vp_in x1 14 ∧ ((((((1000 : Int64)) * ((s2.1 14 x1.toNatClampNeg).toInt64)) ≤ ((0 : Int64))) → (post ((0 : Int32)) s2)) ∧ ((¬ ((((1000 : Int64)) * ((s2.1 14 x1.toNatClampNeg).toInt64)) ≤ ((0 : Int64)))) → (vp_in x2 4 ∧ (vp_in x1 14 ∧ (wX6_bySteps   s2 (fun (r39 : Int64) (s39 : Sto) => (¬ (((1000 : Int64)) * ((s2.1 14 x1.toNatClampNeg).toInt64)) = 0) ∧ (post ((((((s2.1 (45 + x2.toNatClampNeg) x1.toNatClampNeg).toInt64) - r39) * ((100 : Int64))) / (((1000 : Int64)) * ((s2.1 14 x1.toNatClampNeg).toInt64))).toInt32) s39))))))))
set_option maxRecDepth 100000 in
set_option maxHeartbeats 4000000 in
theorem vX6_markOf (E : Ev)  (x1 : Int32) (x2 : Int32) (σ : Sto) (post : Int32 → Sto → Prop)  (h : wX6_markOf  x1 x2 σ post) : V E 3 mX6_markOf (pI post) 0 [(0, .ref 5), (1, .int x1), (2, .int x2)] [] σ := by
  unfold wX6_markOf at h
  refine V_aload_n (pc := 0) 0 dX6_markOf_0 rfl ?_
  refine V_iload_n (pc := 1) 2 dX6_markOf_1 rfl ?_
  refine V_callV (pc := 2) (M' := mX6_gather) dX6_markOf_2 ml_X6_36 kv_X6_gather ko_X6_gather sh_5 (by decide) (by decide) rfl rfl (Nat.le_of_ble_eq_true rfl) (Nat.le_of_ble_eq_true rfl) (vX6_gather E  x2 σ _  h) (kV (fun s2 h => ?_))
  refine V_ldc2 (pc := 5) dX6_markOf_5 cl_X6_124 ?_
  refine V_aload_n (pc := 8) 0 dX6_markOf_8 rfl ?_
  refine V_getR (pc := 9) dX6_markOf_9 fl_X6_28 sh_5 rfl ?_
  refine V_getR (pc := 12) dX6_markOf_12 fl_X6_126 sh_1 rfl ?_
  refine V_iload_n (pc := 15) 1 dX6_markOf_15 rfl ?_
  obtain ⟨i16, h⟩ := h
  refine V_iald (pc := 16) dX6_markOf_16 sh_14 i16 ?_
  refine V_i2l (pc := 17) dX6_markOf_17 ?_
  refine V_lmul (pc := 18) dX6_markOf_18 ?_
  refine V_lstore_n (pc := 19) dX6_markOf_19 (by decide) ?_
  refine V_lload_n (pc := 20) 0 dX6_markOf_20 rfl ?_
  refine V_lconst (pc := 21) (v := 0) dX6_markOf_21 (by decide) ?_
  refine V_lc_le (pc := 22) (tgt := 53) dX6_markOf_22 dX6_markOf_23 (by decide) (fun hc => ?_) (fun hc => ?_)
  · replace h := h.1 hc
    refine V_iconst (pc := 53) (v := 0) dX6_markOf_53 (by decide) ?_
    exact V_iret dX6_markOf_54 rfl h
  · replace h := h.2 hc
    refine V_aload_n (pc := 26) 1 dX6_markOf_26 rfl ?_
    refine V_getR (pc := 27) dX6_markOf_27 fl_X6_32 sh_5 rfl ?_
    refine V_getR (pc := 30) dX6_markOf_30 fl_X6_75 sh_2 rfl ?_
    refine V_iload_n (pc := 33) 3 dX6_markOf_33 rfl ?_
    obtain ⟨i34, h⟩ := h
    refine V_aald (pc := 34) dX6_markOf_34 sh_44 i34 ?_
    refine V_iload_n (pc := 35) 2 dX6_markOf_35 rfl ?_
    obtain ⟨i36, h⟩ := h
    refine V_iald (pc := 36) dX6_markOf_36 (sr_45 (vp_lt i34)) i36 ?_
    refine V_i2l (pc := 37) dX6_markOf_37 ?_
    refine V_aload_n (pc := 38) 1 dX6_markOf_38 rfl ?_
    refine V_callV (pc := 39) (M' := mX6_bySteps) dX6_markOf_39 ml_X6_60 kv_X6_bySteps ko_X6_bySteps sh_5 (by decide) (by decide) rfl rfl (Nat.le_of_ble_eq_true rfl) (Nat.le_of_ble_eq_true rfl) (vX6_bySteps E   s2 _  h) (kL (fun r39 s39 h => ?_))
    refine V_lsub (pc := 42) dX6_markOf_42 ?_
    refine V_ldc2 (pc := 43) dX6_markOf_43 cl_X6_130 ?_
    refine V_lmul (pc := 46) dX6_markOf_46 ?_
    refine V_lload_n (pc := 47) 0 dX6_markOf_47 rfl ?_
    obtain ⟨z48, h⟩ := h
    refine V_ldiv (pc := 48) dX6_markOf_48 z48 ?_
    refine V_l2i (pc := 49) dX6_markOf_49 ?_
    refine V_goto (pc := 50) (tgt := 54) dX6_markOf_50 (by decide) ?_
    exact V_iret dX6_markOf_54 rfl h
theorem dX6_longestRun_0 : decode cX6_longestRun 0 = .ok (.iconst 0, 1) := by decide +kernel
theorem dX6_longestRun_1 : decode cX6_longestRun 1 = .ok (.istore_n 2, 1) := by decide +kernel
theorem dX6_longestRun_2 : decode cX6_longestRun 2 = .ok (.iconst 0, 1) := by decide +kernel
theorem dX6_longestRun_3 : decode cX6_longestRun 3 = .ok (.istore_n 3, 1) := by decide +kernel
theorem dX6_longestRun_4 : decode cX6_longestRun 4 = .ok (.iconst 0, 1) := by decide +kernel
theorem dX6_longestRun_5 : decode cX6_longestRun 5 = .ok (.istore 4, 2) := by decide +kernel
theorem dX6_longestRun_7 : decode cX6_longestRun 7 = .ok (.iconst 0, 1) := by decide +kernel
theorem dX6_longestRun_8 : decode cX6_longestRun 8 = .ok (.istore 5, 2) := by decide +kernel
theorem dX6_longestRun_10 : decode cX6_longestRun 10 = .ok (.iload 5, 2) := by decide +kernel
theorem dX6_longestRun_12 : decode cX6_longestRun 12 = .ok (.iconst 4, 1) := by decide +kernel
theorem dX6_longestRun_13 : decode cX6_longestRun 13 = .ok (.if_icmp .ge 68, 3) := by decide +kernel
theorem dX6_longestRun_16 : decode cX6_longestRun 16 = .ok (.aload_n 0, 1) := by decide +kernel
theorem dX6_longestRun_17 : decode cX6_longestRun 17 = .ok (.getfield 32, 3) := by decide +kernel
theorem dX6_longestRun_20 : decode cX6_longestRun 20 = .ok (.iload_n 1, 1) := by decide +kernel
theorem dX6_longestRun_21 : decode cX6_longestRun 21 = .ok (.iload 5, 2) := by decide +kernel
theorem dX6_longestRun_23 : decode cX6_longestRun 23 = .ok (.invokevirtual 69, 3) := by decide +kernel
theorem dX6_longestRun_26 : decode cX6_longestRun 26 = .ok (.ifCond .eq 49, 3) := by decide +kernel
theorem dX6_longestRun_29 : decode cX6_longestRun 29 = .ok (.aload_n 0, 1) := by decide +kernel
theorem dX6_longestRun_30 : decode cX6_longestRun 30 = .ok (.iload_n 1, 1) := by decide +kernel
theorem dX6_longestRun_31 : decode cX6_longestRun 31 = .ok (.iload 5, 2) := by decide +kernel
theorem dX6_longestRun_33 : decode cX6_longestRun 33 = .ok (.invokevirtual 132, 3) := by decide +kernel
theorem dX6_longestRun_36 : decode cX6_longestRun 36 = .ok (.invokestatic 136, 3) := by decide +kernel
theorem dX6_longestRun_39 : decode cX6_longestRun 39 = .ok (.istore 6, 2) := by decide +kernel
theorem dX6_longestRun_41 : decode cX6_longestRun 41 = .ok (.iload 6, 2) := by decide +kernel
theorem dX6_longestRun_43 : decode cX6_longestRun 43 = .ok (.ifCond .ne 7, 3) := by decide +kernel
theorem dX6_longestRun_46 : decode cX6_longestRun 46 = .ok (.iconst 0, 1) := by decide +kernel
theorem dX6_longestRun_47 : decode cX6_longestRun 47 = .ok (.goto 17, 3) := by decide +kernel
theorem dX6_longestRun_50 : decode cX6_longestRun 50 = .ok (.iload 6, 2) := by decide +kernel
theorem dX6_longestRun_52 : decode cX6_longestRun 52 = .ok (.iload 4, 2) := by decide +kernel
theorem dX6_longestRun_54 : decode cX6_longestRun 54 = .ok (.if_icmp .ne 9, 3) := by decide +kernel
theorem dX6_longestRun_57 : decode cX6_longestRun 57 = .ok (.iload_n 3, 1) := by decide +kernel
theorem dX6_longestRun_58 : decode cX6_longestRun 58 = .ok (.iconst 1, 1) := by decide +kernel
theorem dX6_longestRun_59 : decode cX6_longestRun 59 = .ok (.iadd, 1) := by decide +kernel
theorem dX6_longestRun_60 : decode cX6_longestRun 60 = .ok (.goto 4, 3) := by decide +kernel
theorem dX6_longestRun_63 : decode cX6_longestRun 63 = .ok (.iconst 1, 1) := by decide +kernel
theorem dX6_longestRun_64 : decode cX6_longestRun 64 = .ok (.istore_n 3, 1) := by decide +kernel
theorem dX6_longestRun_65 : decode cX6_longestRun 65 = .ok (.iload 6, 2) := by decide +kernel
theorem dX6_longestRun_67 : decode cX6_longestRun 67 = .ok (.istore 4, 2) := by decide +kernel
theorem dX6_longestRun_69 : decode cX6_longestRun 69 = .ok (.iload_n 2, 1) := by decide +kernel
theorem dX6_longestRun_70 : decode cX6_longestRun 70 = .ok (.iload_n 3, 1) := by decide +kernel
theorem dX6_longestRun_71 : decode cX6_longestRun 71 = .ok (.invokestatic 141, 3) := by decide +kernel
theorem dX6_longestRun_74 : decode cX6_longestRun 74 = .ok (.istore_n 2, 1) := by decide +kernel
theorem dX6_longestRun_75 : decode cX6_longestRun 75 = .ok (.iinc 5 1, 3) := by decide +kernel
theorem dX6_longestRun_78 : decode cX6_longestRun 78 = .ok (.goto (-68), 3) := by decide +kernel
theorem dX6_longestRun_81 : decode cX6_longestRun 81 = .ok (.iload_n 2, 1) := by decide +kernel
theorem dX6_longestRun_82 : decode cX6_longestRun 82 = .ok (.ireturn, 1) := by decide +kernel
def wX6_longestRun_64 (post : Int32 → Sto → Prop)  (K10 : Int32 → Int32 → Int32 → Int32 → Int32 → Sto → Prop) (x1 : Int32) (x2 : Int32) (x5 : Int32) (x6 : Int32) (y0 : Int32) (σ : Sto) : Prop := wJ9_max_7cf53  x2 y0 σ (fun (r71 : Int32) (s71 : Sto) => K10 x1 r71 y0 x6 (x5 + (1 : Int32)) s71)
set_option maxRecDepth 100000 in
set_option maxHeartbeats 4000000 in
theorem vX6_longestRun_64 (E : Ev) (post : Int32 → Sto → Prop)   (K10 : Int32 → Int32 → Int32 → Int32 → Int32 → Sto → Prop) (HK10 : ∀ (x1 : Int32) (x2 : Int32) (x3 : Int32) (x4 : Int32) (x5 : Int32) (σ : Sto), K10 x1 x2 x3 x4 x5 σ → V E 4 mX6_longestRun (pI post) 10 [(0, .ref 5), (1, .int x1), (2, .int x2), (3, .int x3), (4, .int x4), (5, .int x5)] [] σ) (x1 : Int32) (x2 : Int32) (x5 : Int32) (x6 : Int32) (y0 : Int32) (σ : Sto) (h : wX6_longestRun_64 post  K10 x1 x2 x5 x6 y0 σ) : V E 4 mX6_longestRun (pI post) 64 [(0, .ref 5), (1, .int x1), (2, .int x2), (5, .int x5), (6, .int x6)] [.int y0] σ := by
  unfold wX6_longestRun_64 at h
  refine V_istore_n (pc := 64) dX6_longestRun_64 (by decide) ?_
  refine V_iload (pc := 65) 5 dX6_longestRun_65 rfl ?_
  refine V_istore (pc := 67) dX6_longestRun_67 (by decide) ?_
  refine V_iload_n (pc := 69) 4 dX6_longestRun_69 rfl ?_
  refine V_iload_n (pc := 70) 1 dX6_longestRun_70 rfl ?_
  refine V_callS (pc := 71) (M' := mJ9_max_7cf53) dX6_longestRun_71 ml_X6_141 ks_J9_max_7cf53 ko_J9_max_7cf53 (by decide) rfl (Nat.le_of_ble_eq_true rfl) (Nat.le_of_ble_eq_true rfl) (vJ9_max_7cf53 E  x2 y0 σ _  h) (kI (fun r71 s71 h => ?_))
  refine V_istore_n (pc := 74) dX6_longestRun_74 (by decide) ?_
  refine V_iinc (pc := 75) 5 (v := 1) dX6_longestRun_75 rfl (by decide) (by decide) ?_
  refine V_goto (pc := 78) (tgt := 10) dX6_longestRun_78 (by decide) ?_
  exact V_loc [4, 5, 1, 3, 2, 0] rfl (HK10 x1 r71 y0 x6 (x5 + (1 : Int32)) s71  h)
def wX6_longestRun_10 (post : Int32 → Sto → Prop)  (K81 : Int32 → Sto → Prop) : Nat → Int32 → Int32 → Int32 → Int32 → Int32 → Sto → Prop
  | 0, _, _, _, _, _, _ => False
  | n + 1, x1, x2, x3, x4, x5, σ => ((((4 : Int32)) ≤ x5) → (K81 x2 σ)) ∧ ((¬ (((4 : Int32)) ≤ x5)) → (wX7_takesPart  x1 x5 σ (fun (r23 : Bool) (s23 : Sto) => ((r23 = false) → (wX6_longestRun_10 post  K81 n x1 x2 x3 x4 (x5 + (1 : Int32)) s23)) ∧ ((r23 = true) → (wX6_markOf  x1 x5 s23 (fun (r33 : Int32) (s33 : Sto) => wJ6_signum_0f7a4  r33 s33 (fun (r36 : Int32) (s36 : Sto) => ((¬ r36 = 0) → (((¬ r36 = x4) → (wX6_longestRun_64 post  (wX6_longestRun_10 post  K81 n) x1 x2 x5 r36 ((1 : Int32)) s36)) ∧ ((r36 = x4) → (wX6_longestRun_64 post  (wX6_longestRun_10 post  K81 n) x1 x2 x5 r36 (x3 + ((1 : Int32))) s36)))) ∧ ((r36 = 0) → (wX6_longestRun_64 post  (wX6_longestRun_10 post  K81 n) x1 x2 x5 r36 ((0 : Int32)) s36)))))))))
set_option maxRecDepth 100000 in
set_option maxHeartbeats 4000000 in
theorem vX6_longestRun_10 (E : Ev) (post : Int32 → Sto → Prop)   (K81 : Int32 → Sto → Prop) (HK81 : ∀ (x2 : Int32) (σ : Sto), K81 x2 σ → V E 4 mX6_longestRun (pI post) 81 [(2, .int x2)] [] σ) : ∀ (n : Nat) (x1 : Int32) (x2 : Int32) (x3 : Int32) (x4 : Int32) (x5 : Int32) (σ : Sto), wX6_longestRun_10 post  K81 n x1 x2 x3 x4 x5 σ → V E 4 mX6_longestRun (pI post) 10 [(0, .ref 5), (1, .int x1), (2, .int x2), (3, .int x3), (4, .int x4), (5, .int x5)] [] σ := by
  intro n
  induction n with
  | zero => intro x1 x2 x3 x4 x5 σ h; exact h.elim
  | succ n ih =>
    intro x1 x2 x3 x4 x5 σ h
    unfold wX6_longestRun_10 at h
    refine V_iload (pc := 10) 5 dX6_longestRun_10 rfl ?_
    refine V_iconst (pc := 12) (v := 4) dX6_longestRun_12 (by decide) ?_
    refine V_icmp_ge (pc := 13) (tgt := 81) dX6_longestRun_13 (by decide) (fun hc => ?_) (fun hc => ?_)
    · replace h := h.1 hc
      exact V_loc [2] rfl (HK81 x2 σ  h)
    · replace h := h.2 hc
      refine V_aload_n (pc := 16) 0 dX6_longestRun_16 rfl ?_
      refine V_getR (pc := 17) dX6_longestRun_17 fl_X6_32 sh_5 rfl ?_
      refine V_iload_n (pc := 20) 1 dX6_longestRun_20 rfl ?_
      refine V_iload (pc := 21) 5 dX6_longestRun_21 rfl ?_
      refine V_callV (pc := 23) (M' := mX7_takesPart) dX6_longestRun_23 ml_X6_69 kv_X7_takesPart ko_X7_takesPart sh_2 (by decide) (by decide) rfl rfl (Nat.le_of_ble_eq_true rfl) (Nat.le_of_ble_eq_true rfl) (vX7_takesPart E  x1 x5 σ _  h) (kB (fun r23 s23 h => ?_))
      refine V_ifz (pc := 26) (tgt := 75) dX6_longestRun_26 (by decide) (fun hc => ?_) (fun hc => ?_)
      · replace h := h.1 hc
        refine V_iinc (pc := 75) 5 (v := 1) dX6_longestRun_75 rfl (by decide) (by decide) ?_
        refine V_goto (pc := 78) (tgt := 10) dX6_longestRun_78 (by decide) ?_
        exact V_loc [1, 2, 3, 4, 5, 0] rfl (ih x1 x2 x3 x4 (x5 + (1 : Int32)) s23  h)
      · replace h := h.2 hc
        refine V_aload_n (pc := 29) 0 dX6_longestRun_29 rfl ?_
        refine V_iload_n (pc := 30) 1 dX6_longestRun_30 rfl ?_
        refine V_iload (pc := 31) 5 dX6_longestRun_31 rfl ?_
        refine V_callV (pc := 33) (M' := mX6_markOf) dX6_longestRun_33 ml_X6_132 kv_X6_markOf ko_X6_markOf sh_5 (by decide) (by decide) rfl rfl (Nat.le_of_ble_eq_true rfl) (Nat.le_of_ble_eq_true rfl) (vX6_markOf E  x1 x5 s23 _  h) (kI (fun r33 s33 h => ?_))
        refine V_callS (pc := 36) (M' := mJ6_signum_0f7a4) dX6_longestRun_36 ml_X6_136 ks_J6_signum_0f7a4 ko_J6_signum_0f7a4 (by decide) rfl (Nat.le_of_ble_eq_true rfl) (Nat.le_of_ble_eq_true rfl) (vJ6_signum_0f7a4 E  r33 s33 _  h) (kI (fun r36 s36 h => ?_))
        refine V_istore (pc := 39) dX6_longestRun_39 (by decide) ?_
        refine V_iload (pc := 41) 0 dX6_longestRun_41 rfl ?_
        refine V_if_ne (pc := 43) (tgt := 50) dX6_longestRun_43 (by decide) (fun hc => ?_) (fun hc => ?_)
        · replace h := h.1 hc
          refine V_iload (pc := 50) 0 dX6_longestRun_50 rfl ?_
          refine V_iload (pc := 52) 5 dX6_longestRun_52 rfl ?_
          refine V_icmp_ne (pc := 54) (tgt := 63) dX6_longestRun_54 (by decide) (fun hc => ?_) (fun hc => ?_)
          · replace h := h.1 hc
            refine V_iconst (pc := 63) (v := 1) dX6_longestRun_63 (by decide) ?_
            refine V_loc [1, 2, 3, 6, 0] rfl (vX6_longestRun_64 E post   _ ih x1 x2 x5 r36 ((1 : Int32)) s36  h)
          · replace h := h.2 hc
            refine V_iload_n (pc := 57) 4 dX6_longestRun_57 rfl ?_
            refine V_iconst (pc := 58) (v := 1) dX6_longestRun_58 (by decide) ?_
            refine V_iadd (pc := 59) dX6_longestRun_59 ?_
            refine V_goto (pc := 60) (tgt := 64) dX6_longestRun_60 (by decide) ?_
            refine V_loc [1, 2, 3, 6, 0] rfl (vX6_longestRun_64 E post   _ ih x1 x2 x5 r36 (x3 + ((1 : Int32))) s36  h)
        · replace h := h.2 hc
          refine V_iconst (pc := 46) (v := 0) dX6_longestRun_46 (by decide) ?_
          refine V_goto (pc := 47) (tgt := 64) dX6_longestRun_47 (by decide) ?_
          refine V_loc [1, 2, 3, 6, 0] rfl (vX6_longestRun_64 E post   _ ih x1 x2 x5 r36 ((0 : Int32)) s36  h)
def wX6_longestRun  (x1 : Int32) (σ : Sto) (post : Int32 → Sto → Prop) : Prop := ∃ n10, wX6_longestRun_10 post  (fun (x2_1 : Int32) (σ_1 : Sto) => post x2_1 σ_1) n10 x1 ((0 : Int32)) ((0 : Int32)) ((0 : Int32)) ((0 : Int32)) σ
set_option maxRecDepth 100000 in
set_option maxHeartbeats 4000000 in
theorem vX6_longestRun (E : Ev)  (x1 : Int32) (σ : Sto) (post : Int32 → Sto → Prop)  (h : wX6_longestRun  x1 σ post) : V E 4 mX6_longestRun (pI post) 0 [(0, .ref 5), (1, .int x1)] [] σ := by
  unfold wX6_longestRun at h
  refine V_iconst (pc := 0) (v := 0) dX6_longestRun_0 (by decide) ?_
  refine V_istore_n (pc := 1) dX6_longestRun_1 (by decide) ?_
  refine V_iconst (pc := 2) (v := 0) dX6_longestRun_2 (by decide) ?_
  refine V_istore_n (pc := 3) dX6_longestRun_3 (by decide) ?_
  refine V_iconst (pc := 4) (v := 0) dX6_longestRun_4 (by decide) ?_
  refine V_istore (pc := 5) dX6_longestRun_5 (by decide) ?_
  refine V_iconst (pc := 7) (v := 0) dX6_longestRun_7 (by decide) ?_
  refine V_istore (pc := 8) dX6_longestRun_8 (by decide) ?_
  obtain ⟨n10, h⟩ := h
  refine V_loc [4, 5, 3, 2, 1, 0] rfl (vX6_longestRun_10 E post   _ (fun x2_1 σ_1 h => ?_) n10 x1 ((0 : Int32)) ((0 : Int32)) ((0 : Int32)) ((0 : Int32)) σ  h)
  · refine V_iload_n (pc := 81) 0 dX6_longestRun_81 rfl ?_
    exact V_iret dX6_longestRun_82 rfl h

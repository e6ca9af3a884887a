theorem dX11_in_0 : decode cX11_in 0 = .ok (.iload_n 0, 1) := by decide +kernel
theorem dX11_in_1 : decode cX11_in 1 = .ok (.iload_n 1, 1) := by decide +kernel
theorem dX11_in_2 : decode cX11_in 2 = .ok (.if_icmp .lt 12, 3) := by decide +kernel
theorem dX11_in_5 : decode cX11_in 5 = .ok (.iload_n 0, 1) := by decide +kernel
theorem dX11_in_6 : decode cX11_in 6 = .ok (.iload_n 2, 1) := by decide +kernel
theorem dX11_in_7 : decode cX11_in 7 = .ok (.if_icmp .gt 7, 3) := by decide +kernel
theorem dX11_in_10 : decode cX11_in 10 = .ok (.iconst 1, 1) := by decide +kernel
theorem dX11_in_11 : decode cX11_in 11 = .ok (.goto 4, 3) := by decide +kernel
theorem dX11_in_14 : decode cX11_in 14 = .ok (.iconst 0, 1) := by decide +kernel
theorem dX11_in_15 : decode cX11_in 15 = .ok (.ireturn, 1) := by decide +kernel
def wX11_in  (x0 : Int32) (x1 : Int32) (x2 : Int32) (σ : Sto) (post : Bool → Sto → Prop) : Prop := ((x0 < x1) → (post false σ)) ∧ ((¬ (x0 < x1)) → (((x2 < x0) → (post false σ)) ∧ ((¬ (x2 < x0)) → (post true σ))))
set_option maxRecDepth 100000 in
set_option maxHeartbeats 4000000 in
theorem vX11_in (E : Ev)  (x0 : Int32) (x1 : Int32) (x2 : Int32) (σ : Sto) (post : Bool → Sto → Prop)  (h : wX11_in  x0 x1 x2 σ post) : V E 0 mX11_in (pB post) 0 [(0, .int x0), (1, .int x1), (2, .int x2)] [] σ := by
  unfold wX11_in at h
  refine V_iload_n (pc := 0) 0 dX11_in_0 rfl ?_
  refine V_iload_n (pc := 1) 1 dX11_in_1 rfl ?_
  refine V_icmp_lt (pc := 2) (tgt := 14) dX11_in_2 (by decide) (fun hc => ?_) (fun hc => ?_)
  · replace h := h.1 hc
    refine V_iconst (pc := 14) (v := 0) dX11_in_14 (by decide) ?_
    exact V_zret false rfl dX11_in_15 rfl h
  · replace h := h.2 hc
    refine V_iload_n (pc := 5) 0 dX11_in_5 rfl ?_
    refine V_iload_n (pc := 6) 2 dX11_in_6 rfl ?_
    refine V_icmp_gt (pc := 7) (tgt := 14) dX11_in_7 (by decide) (fun hc => ?_) (fun hc => ?_)
    · replace h := h.1 hc
      refine V_iconst (pc := 14) (v := 0) dX11_in_14 (by decide) ?_
      exact V_zret false rfl dX11_in_15 rfl h
    · replace h := h.2 hc
      refine V_iconst (pc := 10) (v := 1) dX11_in_10 (by decide) ?_
      refine V_goto (pc := 11) (tgt := 15) dX11_in_11 (by decide) ?_
      exact V_zret true rfl dX11_in_15 rfl h
theorem dX11_amount_0 : decode cX11_amount 0 = .ok (.lload_n 0, 1) := by decide +kernel
theorem dX11_amount_1 : decode cX11_amount 1 = .ok (.lconst 0, 1) := by decide +kernel
theorem dX11_amount_2 : decode cX11_amount 2 = .ok (.lcmp, 1) := by decide +kernel
theorem dX11_amount_3 : decode cX11_amount 3 = .ok (.ifCond .ge 8, 3) := by decide +kernel
theorem dX11_amount_6 : decode cX11_amount 6 = .ok (.lload_n 0, 1) := by decide +kernel
theorem dX11_amount_7 : decode cX11_amount 7 = .ok (.lneg, 1) := by decide +kernel
theorem dX11_amount_8 : decode cX11_amount 8 = .ok (.goto 4, 3) := by decide +kernel
theorem dX11_amount_11 : decode cX11_amount 11 = .ok (.lload_n 0, 1) := by decide +kernel
theorem dX11_amount_12 : decode cX11_amount 12 = .ok (.lreturn, 1) := by decide +kernel
def wX11_amount  (x0 : Int64) (σ : Sto) (post : Int64 → Sto → Prop) : Prop := ((((0 : Int64)) ≤ x0) → (post x0 σ)) ∧ ((¬ (((0 : Int64)) ≤ x0)) → (post (-x0) σ))
set_option maxRecDepth 100000 in
set_option maxHeartbeats 4000000 in
theorem vX11_amount (E : Ev)  (x0 : Int64) (σ : Sto) (post : Int64 → Sto → Prop)  (h : wX11_amount  x0 σ post) : V E 0 mX11_amount (pL post) 0 [(0, .long x0)] [] σ := by
  unfold wX11_amount at h
  refine V_lload_n (pc := 0) 0 dX11_amount_0 rfl ?_
  refine V_lconst (pc := 1) (v := 0) dX11_amount_1 (by decide) ?_
  refine V_lc_ge (pc := 2) (tgt := 11) dX11_amount_2 dX11_amount_3 (by decide) (fun hc => ?_) (fun hc => ?_)
  · replace h := h.1 hc
    refine V_lload_n (pc := 11) 0 dX11_amount_11 rfl ?_
    exact V_lret dX11_amount_12 rfl h
  · replace h := h.2 hc
    refine V_lload_n (pc := 6) 0 dX11_amount_6 rfl ?_
    refine V_lneg (pc := 7) dX11_amount_7 ?_
    refine V_goto (pc := 8) (tgt := 12) dX11_amount_8 (by decide) ?_
    exact V_lret dX11_amount_12 rfl h
theorem dX11_down_0 : decode cX11_down 0 = .ok (.lload_n 0, 1) := by decide +kernel
theorem dX11_down_1 : decode cX11_down 1 = .ok (.lload_n 2, 1) := by decide +kernel
theorem dX11_down_2 : decode cX11_down 2 = .ok (.ldiv, 1) := by decide +kernel
theorem dX11_down_3 : decode cX11_down 3 = .ok (.lstore 4, 2) := by decide +kernel
theorem dX11_down_5 : decode cX11_down 5 = .ok (.lload_n 0, 1) := by decide +kernel
theorem dX11_down_6 : decode cX11_down 6 = .ok (.lload_n 2, 1) := by decide +kernel
theorem dX11_down_7 : decode cX11_down 7 = .ok (.lrem, 1) := by decide +kernel
theorem dX11_down_8 : decode cX11_down 8 = .ok (.lconst 0, 1) := by decide +kernel
theorem dX11_down_9 : decode cX11_down 9 = .ok (.lcmp, 1) := by decide +kernel
theorem dX11_down_10 : decode cX11_down 10 = .ok (.ifCond .ge 10, 3) := by decide +kernel
theorem dX11_down_13 : decode cX11_down 13 = .ok (.lload 4, 2) := by decide +kernel
theorem dX11_down_15 : decode cX11_down 15 = .ok (.lconst 1, 1) := by decide +kernel
theorem dX11_down_16 : decode cX11_down 16 = .ok (.lsub, 1) := by decide +kernel
theorem dX11_down_17 : decode cX11_down 17 = .ok (.goto 5, 3) := by decide +kernel
theorem dX11_down_20 : decode cX11_down 20 = .ok (.lload 4, 2) := by decide +kernel
theorem dX11_down_22 : decode cX11_down 22 = .ok (.lreturn, 1) := by decide +kernel
def wX11_down  (x0 : Int64) (x2 : Int64) (σ : Sto) (post : Int64 → Sto → Prop) : Prop := (¬ x2 = 0) ∧ ((¬ x2 = 0) ∧ (((((0 : Int64)) ≤ (x0 - x0 / x2 * x2)) → (post (x0 / x2) σ)) ∧ ((¬ (((0 : Int64)) ≤ (x0 - x0 / x2 * x2))) → (post ((x0 / x2) - ((1 : Int64))) σ))))
set_option maxRecDepth 100000 in
set_option maxHeartbeats 4000000 in
theorem vX11_down (E : Ev)  (x0 : Int64) (x2 : Int64) (σ : Sto) (post : Int64 → Sto → Prop)  (h : wX11_down  x0 x2 σ post) : V E 0 mX11_down (pL post) 0 [(0, .long x0), (2, .long x2)] [] σ := by
  unfold wX11_down at h
  refine V_lload_n (pc := 0) 0 dX11_down_0 rfl ?_
  refine V_lload_n (pc := 1) 1 dX11_down_1 rfl ?_
  obtain ⟨z2, h⟩ := h
  refine V_ldiv (pc := 2) dX11_down_2 z2 ?_
  refine V_lstore (pc := 3) dX11_down_3 (by decide) ?_
  refine V_lload_n (pc := 5) 1 dX11_down_5 rfl ?_
  refine V_lload_n (pc := 6) 2 dX11_down_6 rfl ?_
  obtain ⟨z7, h⟩ := h
  refine V_lrem (pc := 7) dX11_down_7 z7 ?_
  refine V_lconst (pc := 8) (v := 0) dX11_down_8 (by decide) ?_
  refine V_lc_ge (pc := 9) (tgt := 20) dX11_down_9 dX11_down_10 (by decide) (fun hc => ?_) (fun hc => ?_)
  · replace h := h.1 hc
    refine V_lload (pc := 20) 0 dX11_down_20 rfl ?_
    exact V_lret dX11_down_22 rfl h
  · replace h := h.2 hc
    refine V_lload (pc := 13) 0 dX11_down_13 rfl ?_
    refine V_lconst (pc := 15) (v := 1) dX11_down_15 (by decide) ?_
    refine V_lsub (pc := 16) dX11_down_16 ?_
    refine V_goto (pc := 17) (tgt := 22) dX11_down_17 (by decide) ?_
    exact V_lret dX11_down_22 rfl h
theorem dX11_near_0 : decode cX11_near 0 = .ok (.ldc2_w 88, 3) := by decide +kernel
theorem dX11_near_3 : decode cX11_near 3 = .ok (.lload_n 0, 1) := by decide +kernel
theorem dX11_near_4 : decode cX11_near 4 = .ok (.lmul, 1) := by decide +kernel
theorem dX11_near_5 : decode cX11_near 5 = .ok (.lload_n 2, 1) := by decide +kernel
theorem dX11_near_6 : decode cX11_near 6 = .ok (.ladd, 1) := by decide +kernel
theorem dX11_near_7 : decode cX11_near 7 = .ok (.ldc2_w 88, 3) := by decide +kernel
theorem dX11_near_10 : decode cX11_near 10 = .ok (.lload_n 2, 1) := by decide +kernel
theorem dX11_near_11 : decode cX11_near 11 = .ok (.lmul, 1) := by decide +kernel
theorem dX11_near_12 : decode cX11_near 12 = .ok (.invokestatic 90, 3) := by decide +kernel
theorem dX11_near_15 : decode cX11_near 15 = .ok (.lreturn, 1) := by decide +kernel
def wX11_near  (x0 : Int64) (x2 : Int64) (σ : Sto) (post : Int64 → Sto → Prop) : Prop := wX11_down  ((((2 : Int64)) * x0) + x2) (((2 : Int64)) * x2) σ (fun (r12 : Int64) (s12 : Sto) => post r12 s12)
set_option maxRecDepth 100000 in
set_option maxHeartbeats 4000000 in
theorem vX11_near (E : Ev)  (x0 : Int64) (x2 : Int64) (σ : Sto) (post : Int64 → Sto → Prop)  (h : wX11_near  x0 x2 σ post) : V E 1 mX11_near (pL post) 0 [(0, .long x0), (2, .long x2)] [] σ := by
  unfold wX11_near at h
  refine V_ldc2 (pc := 0) dX11_near_0 cl_X11_88 ?_
  refine V_lload_n (pc := 3) 0 dX11_near_3 rfl ?_
  refine V_lmul (pc := 4) dX11_near_4 ?_
  refine V_lload_n (pc := 5) 1 dX11_near_5 rfl ?_
  refine V_ladd (pc := 6) dX11_near_6 ?_
  refine V_ldc2 (pc := 7) dX11_near_7 cl_X11_88 ?_
  refine V_lload_n (pc := 10) 1 dX11_near_10 rfl ?_
  refine V_lmul (pc := 11) dX11_near_11 ?_
  refine V_callS (pc := 12) (M' := mX11_down) dX11_near_12 ml_X11_90 ks_X11_down ko_X11_down (by decide) rfl (Nat.le_of_ble_eq_true rfl) (Nat.le_of_ble_eq_true rfl) (vX11_down E  ((((2 : Int64)) * x0) + x2) (((2 : Int64)) * x2) σ _  h) (kL (fun r12 s12 h => ?_))
  exact V_lret dX11_near_15 rfl h
theorem dX11_divisor_0 : decode cX11_divisor 0 = .ok (.lload_n 0, 1) := by decide +kernel
theorem dX11_divisor_1 : decode cX11_divisor 1 = .ok (.invokestatic 94, 3) := by decide +kernel
theorem dX11_divisor_4 : decode cX11_divisor 4 = .ok (.lstore 4, 2) := by decide +kernel
theorem dX11_divisor_6 : decode cX11_divisor 6 = .ok (.lload_n 2, 1) := by decide +kernel
theorem dX11_divisor_7 : decode cX11_divisor 7 = .ok (.invokestatic 94, 3) := by decide +kernel
theorem dX11_divisor_10 : decode cX11_divisor 10 = .ok (.lstore 6, 2) := by decide +kernel
theorem dX11_divisor_12 : decode cX11_divisor 12 = .ok (.lload 6, 2) := by decide +kernel
theorem dX11_divisor_14 : decode cX11_divisor 14 = .ok (.lconst 0, 1) := by decide +kernel
theorem dX11_divisor_15 : decode cX11_divisor 15 = .ok (.lcmp, 1) := by decide +kernel
theorem dX11_divisor_16 : decode cX11_divisor 16 = .ok (.ifCond .eq 21, 3) := by decide +kernel
theorem dX11_divisor_19 : decode cX11_divisor 19 = .ok (.lload 4, 2) := by decide +kernel
theorem dX11_divisor_21 : decode cX11_divisor 21 = .ok (.lload 6, 2) := by decide +kernel
theorem dX11_divisor_23 : decode cX11_divisor 23 = .ok (.lrem, 1) := by decide +kernel
theorem dX11_divisor_24 : decode cX11_divisor 24 = .ok (.lstore 8, 2) := by decide +kernel
theorem dX11_divisor_26 : decode cX11_divisor 26 = .ok (.lload 6, 2) := by decide +kernel
theorem dX11_divisor_28 : decode cX11_divisor 28 = .ok (.lstore 4, 2) := by decide +kernel
theorem dX11_divisor_30 : decode cX11_divisor 30 = .ok (.lload 8, 2) := by decide +kernel
theorem dX11_divisor_32 : decode cX11_divisor 32 = .ok (.lstore 6, 2) := by decide +kernel
theorem dX11_divisor_34 : decode cX11_divisor 34 = .ok (.goto (-22), 3) := by decide +kernel
theorem dX11_divisor_37 : decode cX11_divisor 37 = .ok (.lload 4, 2) := by decide +kernel
theorem dX11_divisor_39 : decode cX11_divisor 39 = .ok (.lreturn, 1) := by decide +kernel
def wX11_divisor_12 (post : Int64 → Sto → Prop)  (K37 : Int64 → Sto → Prop) : Nat → Int64 → Int64 → Sto → Prop
  | 0, _, _, _ => False
  | n + 1, x4, x6, σ => ((x6 = ((0 : Int64))) → (K37 x4 σ)) ∧ ((¬ (x6 = ((0 : Int64)))) → ((¬ x6 = 0) ∧ (wX11_divisor_12 post  K37 n x6 (x4 - x4 / x6 * x6) σ)))
set_option maxRecDepth 100000 in
set_option maxHeartbeats 4000000 in
theorem vX11_divisor_12 (E : Ev) (post : Int64 → Sto → Prop)   (K37 : Int64 → Sto → Prop) (HK37 : ∀ (x4 : Int64) (σ : Sto), K37 x4 σ → V E 1 mX11_divisor (pL post) 37 [(4, .long x4)] [] σ) : ∀ (n : Nat) (x4 : Int64) (x6 : Int64) (σ : Sto), wX11_divisor_12 post  K37 n x4 x6 σ → V E 1 mX11_divisor (pL post) 12 [(4, .long x4), (6, .long x6)] [] σ := by
  intro n
  induction n with
  | zero => intro x4 x6 σ h; exact h.elim
  | succ n ih =>
    intro x4 x6 σ h
    unfold wX11_divisor_12 at h
    refine V_lload (pc := 12) 1 dX11_divisor_12 rfl ?_
    refine V_lconst (pc := 14) (v := 0) dX11_divisor_14 (by decide) ?_
    refine V_lc_eq (pc := 15) (tgt := 37) dX11_divisor_15 dX11_divisor_16 (by decide) (fun hc => ?_) (fun hc => ?_)
    · replace h := h.1 hc
      exact V_loc [0] rfl (HK37 x4 σ  h)
    · replace h := h.2 hc
      refine V_lload (pc := 19) 0 dX11_divisor_19 rfl ?_
      refine V_lload (pc := 21) 1 dX11_divisor_21 rfl ?_
      obtain ⟨z23, h⟩ := h
      refine V_lrem (pc := 23) dX11_divisor_23 z23 ?_
      refine V_lstore (pc := 24) dX11_divisor_24 (by decide) ?_
      refine V_lload (pc := 26) 2 dX11_divisor_26 rfl ?_
      refine V_lstore (pc := 28) dX11_divisor_28 (by decide) ?_
      refine V_lload (pc := 30) 1 dX11_divisor_30 rfl ?_
      refine V_lstore (pc := 32) dX11_divisor_32 (by decide) ?_
      refine V_goto (pc := 34) (tgt := 12) dX11_divisor_34 (by decide) ?_
      exact V_loc [1, 0] rfl (ih x6 (x4 - x4 / x6 * x6) σ  h)
def wX11_divisor  (x0 : Int64) (x2 : Int64) (σ : Sto) (post : Int64 → Sto → Prop) : Prop := wX11_amount  x0 σ (fun (r1 : Int64) (s1 : Sto) => wX11_amount  x2 s1 (fun (r7 : Int64) (s7 : Sto) => ∃ n12, wX11_divisor_12 post  (fun (x4_1 : Int64) (σ_1 : Sto) => post x4_1 σ_1) n12 r1 r7 s7))
set_option maxRecDepth 100000 in
set_option maxHeartbeats 4000000 in
theorem vX11_divisor (E : Ev)  (x0 : Int64) (x2 : Int64) (σ : Sto) (post : Int64 → Sto → Prop)  (h : wX11_divisor  x0 x2 σ post) : V E 1 mX11_divisor (pL post) 0 [(0, .long x0), (2, .long x2)] [] σ := by
  unfold wX11_divisor at h
  refine V_lload_n (pc := 0) 0 dX11_divisor_0 rfl ?_
  refine V_callS (pc := 1) (M' := mX11_amount) dX11_divisor_1 ml_X11_94 ks_X11_amount ko_X11_amount (by decide) rfl (Nat.le_of_ble_eq_true rfl) (Nat.le_of_ble_eq_true rfl) (vX11_amount E  x0 σ _  h) (kL (fun r1 s1 h => ?_))
  refine V_lstore (pc := 4) dX11_divisor_4 (by decide) ?_
  refine V_lload_n (pc := 6) 2 dX11_divisor_6 rfl ?_
  refine V_callS (pc := 7) (M' := mX11_amount) dX11_divisor_7 ml_X11_94 ks_X11_amount ko_X11_amount (by decide) rfl (Nat.le_of_ble_eq_true rfl) (Nat.le_of_ble_eq_true rfl) (vX11_amount E  x2 s1 _  h) (kL (fun r7 s7 h => ?_))
  refine V_lstore (pc := 10) dX11_divisor_10 (by decide) ?_
  obtain ⟨n12, h⟩ := h
  refine V_loc [1, 0] rfl (vX11_divisor_12 E post   _ (fun x4_1 σ_1 h => ?_) n12 r1 r7 s7  h)
  · refine V_lload (pc := 37) 0 dX11_divisor_37 rfl ?_
    exact V_lret dX11_divisor_39 rfl h
theorem dX11_lowest_0 : decode cX11_lowest 0 = .ok (.lload_n 0, 1) := by decide +kernel
theorem dX11_lowest_1 : decode cX11_lowest 1 = .ok (.lload_n 2, 1) := by decide +kernel
theorem dX11_lowest_2 : decode cX11_lowest 2 = .ok (.invokestatic 98, 3) := by decide +kernel
theorem dX11_lowest_5 : decode cX11_lowest 5 = .ok (.lstore 5, 2) := by decide +kernel
theorem dX11_lowest_7 : decode cX11_lowest 7 = .ok (.iload 4, 2) := by decide +kernel
theorem dX11_lowest_9 : decode cX11_lowest 9 = .ok (.ifCond .ne 7, 3) := by decide +kernel
theorem dX11_lowest_12 : decode cX11_lowest 12 = .ok (.lload_n 0, 1) := by decide +kernel
theorem dX11_lowest_13 : decode cX11_lowest 13 = .ok (.goto 4, 3) := by decide +kernel
theorem dX11_lowest_16 : decode cX11_lowest 16 = .ok (.lload_n 2, 1) := by decide +kernel
theorem dX11_lowest_17 : decode cX11_lowest 17 = .ok (.lload 5, 2) := by decide +kernel
theorem dX11_lowest_19 : decode cX11_lowest 19 = .ok (.ldiv, 1) := by decide +kernel
theorem dX11_lowest_20 : decode cX11_lowest 20 = .ok (.lreturn, 1) := by decide +kernel
def wX11_lowest  (x0 : Int64) (x2 : Int64) (x4 : Int32) (σ : Sto) (post : Int64 → Sto → Prop) : Prop := wX11_divisor  x0 x2 σ (fun (r2 : Int64) (s2 : Sto) => ((¬ x4 = 0) → ((¬ r2 = 0) ∧ (post (x2 / r2) s2))) ∧ ((x4 = 0) → ((¬ r2 = 0) ∧ (post (x0 / r2) s2))))
set_option maxRecDepth 100000 in
set_option maxHeartbeats 4000000 in
theorem vX11_lowest (E : Ev)  (x0 : Int64) (x2 : Int64) (x4 : Int32) (σ : Sto) (post : Int64 → Sto → Prop)  (h : wX11_lowest  x0 x2 x4 σ post) : V E 2 mX11_lowest (pL post) 0 [(0, .long x0), (2, .long x2), (4, .int x4)] [] σ := by
  unfold wX11_lowest at h
  refine V_lload_n (pc := 0) 0 dX11_lowest_0 rfl ?_
  refine V_lload_n (pc := 1) 1 dX11_lowest_1 rfl ?_
  refine V_callS (pc := 2) (M' := mX11_divisor) dX11_lowest_2 ml_X11_98 ks_X11_divisor ko_X11_divisor (by decide) rfl (Nat.le_of_ble_eq_true rfl) (Nat.le_of_ble_eq_true rfl) (vX11_divisor E  x0 x2 σ _  h) (kL (fun r2 s2 h => ?_))
  refine V_lstore (pc := 5) dX11_lowest_5 (by decide) ?_
  refine V_iload (pc := 7) 3 dX11_lowest_7 rfl ?_
  refine V_if_ne (pc := 9) (tgt := 16) dX11_lowest_9 (by decide) (fun hc => ?_) (fun hc => ?_)
  · replace h := h.1 hc
    refine V_lload_n (pc := 16) 2 dX11_lowest_16 rfl ?_
    refine V_lload (pc := 17) 0 dX11_lowest_17 rfl ?_
    obtain ⟨z19, h⟩ := h
    refine V_ldiv (pc := 19) dX11_lowest_19 z19 ?_
    exact V_lret dX11_lowest_20 rfl h
  · replace h := h.2 hc
    refine V_lload_n (pc := 12) 1 dX11_lowest_12 rfl ?_
    refine V_goto (pc := 13) (tgt := 17) dX11_lowest_13 (by decide) ?_
    refine V_lload (pc := 17) 0 dX11_lowest_17 rfl ?_
    obtain ⟨z19, h⟩ := h
    refine V_ldiv (pc := 19) dX11_lowest_19 z19 ?_
    exact V_lret dX11_lowest_20 rfl h
theorem dX11_isHouse_0 : decode cX11_isHouse 0 = .ok (.iload_n 1, 1) := by decide +kernel
theorem dX11_isHouse_1 : decode cX11_isHouse 1 = .ok (.iconst 0, 1) := by decide +kernel
theorem dX11_isHouse_2 : decode cX11_isHouse 2 = .ok (.aload_n 0, 1) := by decide +kernel
theorem dX11_isHouse_3 : decode cX11_isHouse 3 = .ok (.getfield 101, 3) := by decide +kernel
theorem dX11_isHouse_6 : decode cX11_isHouse 6 = .ok (.iconst 1, 1) := by decide +kernel
theorem dX11_isHouse_7 : decode cX11_isHouse 7 = .ok (.isub, 1) := by decide +kernel
theorem dX11_isHouse_8 : decode cX11_isHouse 8 = .ok (.invokestatic 104, 3) := by decide +kernel
theorem dX11_isHouse_11 : decode cX11_isHouse 11 = .ok (.ireturn, 1) := by decide +kernel
def wX11_isHouse  (x1 : Int32) (σ : Sto) (post : Bool → Sto → Prop) : Prop := wX11_in  x1 ((0 : Int32)) ((σ.1 67 1) - ((1 : Int32))) σ (fun (r8 : Bool) (s8 : Sto) => post r8 s8)
set_option maxRecDepth 100000 in
set_option maxHeartbeats 4000000 in
theorem vX11_isHouse (E : Ev)  (x1 : Int32) (σ : Sto) (post : Bool → Sto → Prop)  (h : wX11_isHouse  x1 σ post) : V E 1 mX11_isHouse (pB post) 0 [(0, .ref 67), (1, .int x1)] [] σ := by
  unfold wX11_isHouse at h
  refine V_iload_n (pc := 0) 1 dX11_isHouse_0 rfl ?_
  refine V_iconst (pc := 1) (v := 0) dX11_isHouse_1 (by decide) ?_
  refine V_aload_n (pc := 2) 0 dX11_isHouse_2 rfl ?_
  refine V_getI (pc := 3) dX11_isHouse_3 fl_X11_101 sh_67 rfl ?_
  refine V_iconst (pc := 6) (v := 1) dX11_isHouse_6 (by decide) ?_
  refine V_isub (pc := 7) dX11_isHouse_7 ?_
  refine V_callS (pc := 8) (M' := mX11_in) dX11_isHouse_8 ml_X11_104 ks_X11_in ko_X11_in (by decide) rfl (Nat.le_of_ble_eq_true rfl) (Nat.le_of_ble_eq_true rfl) (vX11_in E  x1 ((0 : Int32)) ((σ.1 67 1) - ((1 : Int32))) σ _  h) (kB (fun r8 s8 h => ?_))
  exact V_zret r8 rfl dX11_isHouse_11 rfl h
theorem dX11_isPiece_0 : decode cX11_isPiece 0 = .ok (.iload_n 0, 1) := by decide +kernel
theorem dX11_isPiece_1 : decode cX11_isPiece 1 = .ok (.iconst 0, 1) := by decide +kernel
theorem dX11_isPiece_2 : decode cX11_isPiece 2 = .ok (.iconst 3, 1) := by decide +kernel
theorem dX11_isPiece_3 : decode cX11_isPiece 3 = .ok (.invokestatic 104, 3) := by decide +kernel
theorem dX11_isPiece_6 : decode cX11_isPiece 6 = .ok (.ireturn, 1) := by decide +kernel
def wX11_isPiece  (x0 : Int32) (σ : Sto) (post : Bool → Sto → Prop) : Prop := wX11_in  x0 ((0 : Int32)) ((3 : Int32)) σ (fun (r3 : Bool) (s3 : Sto) => post r3 s3)
set_option maxRecDepth 100000 in
set_option maxHeartbeats 4000000 in
theorem vX11_isPiece (E : Ev)  (x0 : Int32) (σ : Sto) (post : Bool → Sto → Prop)  (h : wX11_isPiece  x0 σ post) : V E 1 mX11_isPiece (pB post) 0 [(0, .int x0)] [] σ := by
  unfold wX11_isPiece at h
  refine V_iload_n (pc := 0) 0 dX11_isPiece_0 rfl ?_
  refine V_iconst (pc := 1) (v := 0) dX11_isPiece_1 (by decide) ?_
  refine V_iconst (pc := 2) (v := 3) dX11_isPiece_2 (by decide) ?_
  refine V_callS (pc := 3) (M' := mX11_in) dX11_isPiece_3 ml_X11_104 ks_X11_in ko_X11_in (by decide) rfl (Nat.le_of_ble_eq_true rfl) (Nat.le_of_ble_eq_true rfl) (vX11_in E  x0 ((0 : Int32)) ((3 : Int32)) σ _  h) (kB (fun r3 s3 h => ?_))
  exact V_zret r3 rfl dX11_isPiece_6 rfl h
theorem dX11_isKnown_0 : decode cX11_isKnown 0 = .ok (.aload_n 0, 1) := by decide +kernel
theorem dX11_isKnown_1 : decode cX11_isKnown 1 = .ok (.getfield 34, 3) := by decide +kernel
theorem dX11_isKnown_4 : decode cX11_isKnown 4 = .ok (.iconst (-1), 1) := by decide +kernel
theorem dX11_isKnown_5 : decode cX11_isKnown 5 = .ok (.if_icmp .ne 10, 3) := by decide +kernel
theorem dX11_isKnown_8 : decode cX11_isKnown 8 = .ok (.aload_n 0, 1) := by decide +kernel
theorem dX11_isKnown_9 : decode cX11_isKnown 9 = .ok (.getfield 108, 3) := by decide +kernel
theorem dX11_isKnown_12 : decode cX11_isKnown 12 = .ok (.goto 7, 3) := by decide +kernel
theorem dX11_isKnown_15 : decode cX11_isKnown 15 = .ok (.aload_n 0, 1) := by decide +kernel
theorem dX11_isKnown_16 : decode cX11_isKnown 16 = .ok (.getfield 34, 3) := by decide +kernel
theorem dX11_isKnown_19 : decode cX11_isKnown 19 = .ok (.istore_n 2, 1) := by decide +kernel
theorem dX11_isKnown_20 : decode cX11_isKnown 20 = .ok (.aload_n 0, 1) := by decide +kernel
theorem dX11_isKnown_21 : decode cX11_isKnown 21 = .ok (.getfield 28, 3) := by decide +kernel
theorem dX11_isKnown_24 : decode cX11_isKnown 24 = .ok (.iload_n 1, 1) := by decide +kernel
theorem dX11_isKnown_25 : decode cX11_isKnown 25 = .ok (.iaload, 1) := by decide +kernel
theorem dX11_isKnown_26 : decode cX11_isKnown 26 = .ok (.iload_n 2, 1) := by decide +kernel
theorem dX11_isKnown_27 : decode cX11_isKnown 27 = .ok (.if_icmp .gt 27, 3) := by decide +kernel
theorem dX11_isKnown_30 : decode cX11_isKnown 30 = .ok (.aload_n 0, 1) := by decide +kernel
theorem dX11_isKnown_31 : decode cX11_isKnown 31 = .ok (.getfield 31, 3) := by decide +kernel
theorem dX11_isKnown_34 : decode cX11_isKnown 34 = .ok (.iload_n 1, 1) := by decide +kernel
theorem dX11_isKnown_35 : decode cX11_isKnown 35 = .ok (.iaload, 1) := by decide +kernel
theorem dX11_isKnown_36 : decode cX11_isKnown 36 = .ok (.iconst (-1), 1) := by decide +kernel
theorem dX11_isKnown_37 : decode cX11_isKnown 37 = .ok (.if_icmp .eq 13, 3) := by decide +kernel
theorem dX11_isKnown_40 : decode cX11_isKnown 40 = .ok (.aload_n 0, 1) := by decide +kernel
theorem dX11_isKnown_41 : decode cX11_isKnown 41 = .ok (.getfield 31, 3) := by decide +kernel
theorem dX11_isKnown_44 : decode cX11_isKnown 44 = .ok (.iload_n 1, 1) := by decide +kernel
theorem dX11_isKnown_45 : decode cX11_isKnown 45 = .ok (.iaload, 1) := by decide +kernel
theorem dX11_isKnown_46 : decode cX11_isKnown 46 = .ok (.iload_n 2, 1) := by decide +kernel
theorem dX11_isKnown_47 : decode cX11_isKnown 47 = .ok (.if_icmp .le 7, 3) := by decide +kernel
theorem dX11_isKnown_50 : decode cX11_isKnown 50 = .ok (.iconst 1, 1) := by decide +kernel
theorem dX11_isKnown_51 : decode cX11_isKnown 51 = .ok (.goto 4, 3) := by decide +kernel
theorem dX11_isKnown_54 : decode cX11_isKnown 54 = .ok (.iconst 0, 1) := by decide +kernel
theorem dX11_isKnown_55 : decode cX11_isKnown 55 = .ok (.ireturn, 1) := by decide +kernel
def wX11_isKnown_19 (post : Bool → Sto → Prop)   (x1 : Int32) (y0 : Int32) (σ : Sto) : Prop := vp_in x1 150 ∧ (((y0 < (σ.1 74 x1.toNatClampNeg)) → (post false σ)) ∧ ((¬ (y0 < (σ.1 74 x1.toNatClampNeg))) → (vp_in x1 150 ∧ ((((σ.1 75 x1.toNatClampNeg) = ((-1 : Int32))) → (post true σ)) ∧ ((¬ ((σ.1 75 x1.toNatClampNeg) = ((-1 : Int32)))) → (vp_in x1 150 ∧ ((((σ.1 75 x1.toNatClampNeg) ≤ y0) → (post false σ)) ∧ ((¬ ((σ.1 75 x1.toNatClampNeg) ≤ y0)) → (post true σ)))))))))
set_option maxRecDepth 100000 in
set_option maxHeartbeats 4000000 in
theorem vX11_isKnown_19 (E : Ev) (post : Bool → Sto → Prop)     (x1 : Int32) (y0 : Int32) (σ : Sto) (h : wX11_isKnown_19 post   x1 y0 σ) : V E 0 mX11_isKnown (pB post) 19 [(0, .ref 67), (1, .int x1)] [.int y0] σ := by
  unfold wX11_isKnown_19 at h
  refine V_istore_n (pc := 19) dX11_isKnown_19 (by decide) ?_
  refine V_aload_n (pc := 20) 1 dX11_isKnown_20 rfl ?_
  refine V_getR (pc := 21) dX11_isKnown_21 fl_X11_28 sh_67 rfl ?_
  refine V_iload_n (pc := 24) 2 dX11_isKnown_24 rfl ?_
  obtain ⟨i25, h⟩ := h
  refine V_iald (pc := 25) dX11_isKnown_25 sh_74 i25 ?_
  refine V_iload_n (pc := 26) 0 dX11_isKnown_26 rfl ?_
  refine V_icmp_gt (pc := 27) (tgt := 54) dX11_isKnown_27 (by decide) (fun hc => ?_) (fun hc => ?_)
  · replace h := h.1 hc
    refine V_iconst (pc := 54) (v := 0) dX11_isKnown_54 (by decide) ?_
    exact V_zret false rfl dX11_isKnown_55 rfl h
  · replace h := h.2 hc
    refine V_aload_n (pc := 30) 1 dX11_isKnown_30 rfl ?_
    refine V_getR (pc := 31) dX11_isKnown_31 fl_X11_31 sh_67 rfl ?_
    refine V_iload_n (pc := 34) 2 dX11_isKnown_34 rfl ?_
    obtain ⟨i35, h⟩ := h
    refine V_iald (pc := 35) dX11_isKnown_35 sh_75 i35 ?_
    refine V_iconst (pc := 36) (v := -1) dX11_isKnown_36 (by decide) ?_
    refine V_icmp_eq (pc := 37) (tgt := 50) dX11_isKnown_37 (by decide) (fun hc => ?_) (fun hc => ?_)
    · replace h := h.1 hc
      refine V_iconst (pc := 50) (v := 1) dX11_isKnown_50 (by decide) ?_
      refine V_goto (pc := 51) (tgt := 55) dX11_isKnown_51 (by decide) ?_
      exact V_zret true rfl dX11_isKnown_55 rfl h
    · replace h := h.2 hc
      refine V_aload_n (pc := 40) 1 dX11_isKnown_40 rfl ?_
      refine V_getR (pc := 41) dX11_isKnown_41 fl_X11_31 sh_67 rfl ?_
      refine V_iload_n (pc := 44) 2 dX11_isKnown_44 rfl ?_
      obtain ⟨i45, h⟩ := h
      refine V_iald (pc := 45) dX11_isKnown_45 sh_75 i45 ?_
      refine V_iload_n (pc := 46) 0 dX11_isKnown_46 rfl ?_
      refine V_icmp_le (pc := 47) (tgt := 54) dX11_isKnown_47 (by decide) (fun hc => ?_) (fun hc => ?_)
      · replace h := h.1 hc
        refine V_iconst (pc := 54) (v := 0) dX11_isKnown_54 (by decide) ?_
        exact V_zret false rfl dX11_isKnown_55 rfl h
      · replace h := h.2 hc
        refine V_iconst (pc := 50) (v := 1) dX11_isKnown_50 (by decide) ?_
        refine V_goto (pc := 51) (tgt := 55) dX11_isKnown_51 (by decide) ?_
        exact V_zret true rfl dX11_isKnown_55 rfl h
def wX11_isKnown  (x1 : Int32) (σ : Sto) (post : Bool → Sto → Prop) : Prop := ((¬ (σ.1 67 11) = ((-1 : Int32))) → (wX11_isKnown_19 post   x1 (σ.1 67 11) σ)) ∧ (((σ.1 67 11) = ((-1 : Int32))) → (wX11_isKnown_19 post   x1 (σ.1 67 0) σ))
set_option maxRecDepth 100000 in
set_option maxHeartbeats 4000000 in
theorem vX11_isKnown (E : Ev)  (x1 : Int32) (σ : Sto) (post : Bool → Sto → Prop)  (h : wX11_isKnown  x1 σ post) : V E 0 mX11_isKnown (pB post) 0 [(0, .ref 67), (1, .int x1)] [] σ := by
  unfold wX11_isKnown at h
  refine V_aload_n (pc := 0) 0 dX11_isKnown_0 rfl ?_
  refine V_getI (pc := 1) dX11_isKnown_1 fl_X11_34 sh_67 rfl ?_
  refine V_iconst (pc := 4) (v := -1) dX11_isKnown_4 (by decide) ?_
  refine V_icmp_ne (pc := 5) (tgt := 15) dX11_isKnown_5 (by decide) (fun hc => ?_) (fun hc => ?_)
  · replace h := h.1 hc
    refine V_aload_n (pc := 15) 0 dX11_isKnown_15 rfl ?_
    refine V_getI (pc := 16) dX11_isKnown_16 fl_X11_34 sh_67 rfl ?_
    refine V_loc [0, 1] rfl (vX11_isKnown_19 E post     x1 (σ.1 67 11) σ  h)
  · replace h := h.2 hc
    refine V_aload_n (pc := 8) 0 dX11_isKnown_8 rfl ?_
    refine V_getI (pc := 9) dX11_isKnown_9 fl_X11_108 sh_67 rfl ?_
    refine V_goto (pc := 12) (tgt := 19) dX11_isKnown_12 (by decide) ?_
    refine V_loc [0, 1] rfl (vX11_isKnown_19 E post     x1 (σ.1 67 0) σ  h)
theorem dX11_pass_0 : decode cX11_pass 0 = .ok (.iload_n 1, 1) := by decide +kernel
theorem dX11_pass_1 : decode cX11_pass 1 = .ok (.iconst 1, 1) := by decide +kernel
theorem dX11_pass_2 : decode cX11_pass 2 = .ok (.bipush 100, 2) := by decide +kernel
theorem dX11_pass_4 : decode cX11_pass 4 = .ok (.invokestatic 104, 3) := by decide +kernel
theorem dX11_pass_7 : decode cX11_pass 7 = .ok (.ifCond .eq 15, 3) := by decide +kernel
theorem dX11_pass_10 : decode cX11_pass 10 = .ok (.aload_n 0, 1) := by decide +kernel
theorem dX11_pass_11 : decode cX11_pass 11 = .ok (.getfield 108, 3) := by decide +kernel
theorem dX11_pass_14 : decode cX11_pass 14 = .ok (.iload_n 1, 1) := by decide +kernel
theorem dX11_pass_15 : decode cX11_pass 15 = .ok (.iadd, 1) := by decide +kernel
theorem dX11_pass_16 : decode cX11_pass 16 = .ok (.sipush 399, 3) := by decide +kernel
theorem dX11_pass_19 : decode cX11_pass 19 = .ok (.if_icmp .le 6, 3) := by decide +kernel
theorem dX11_pass_22 : decode cX11_pass 22 = .ok (.bipush (-2), 2) := by decide +kernel
theorem dX11_pass_24 : decode cX11_pass 24 = .ok (.ireturn, 1) := by decide +kernel
theorem dX11_pass_25 : decode cX11_pass 25 = .ok (.aload_n 0, 1) := by decide +kernel
theorem dX11_pass_26 : decode cX11_pass 26 = .ok (.dup, 1) := by decide +kernel
theorem dX11_pass_27 : decode cX11_pass 27 = .ok (.getfield 108, 3) := by decide +kernel
theorem dX11_pass_30 : decode cX11_pass 30 = .ok (.iload_n 1, 1) := by decide +kernel
theorem dX11_pass_31 : decode cX11_pass 31 = .ok (.iadd, 1) := by decide +kernel
theorem dX11_pass_32 : decode cX11_pass 32 = .ok (.putfield 108, 3) := by decide +kernel
theorem dX11_pass_35 : decode cX11_pass 35 = .ok (.aload_n 0, 1) := by decide +kernel
theorem dX11_pass_36 : decode cX11_pass 36 = .ok (.iconst 0, 1) := by decide +kernel
theorem dX11_pass_37 : decode cX11_pass 37 = .ok (.putfield 111, 3) := by decide +kernel
theorem dX11_pass_40 : decode cX11_pass 40 = .ok (.aload_n 0, 1) := by decide +kernel
theorem dX11_pass_41 : decode cX11_pass 41 = .ok (.getfield 108, 3) := by decide +kernel
theorem dX11_pass_44 : decode cX11_pass 44 = .ok (.ireturn, 1) := by decide +kernel
def wX11_pass  (x1 : Int32) (σ : Sto) (post : Int32 → Sto → Prop) : Prop := wX11_in  x1 ((1 : Int32)) ((100 : Int32)) σ (fun (r4 : Bool) (s4 : Sto) => ((r4 = false) → (post ((-2 : Int32)) s4)) ∧ ((r4 = true) → (((((s4.1 67 0) + x1) ≤ ((399 : Int32))) → (post ((s4.1 67 0) + x1) (wI (wI s4 67 0 ((s4.1 67 0) + x1)) 67 13 ((0 : Int32))))) ∧ ((¬ (((s4.1 67 0) + x1) ≤ ((399 : Int32)))) → (post ((-2 : Int32)) s4)))))
set_option maxRecDepth 100000 in
set_option maxHeartbeats 4000000 in
theorem vX11_pass (E : Ev)  (x1 : Int32) (σ : Sto) (post : Int32 → Sto → Prop)  (h : wX11_pass  x1 σ post) : V E 1 mX11_pass (pI post) 0 [(0, .ref 67), (1, .int x1)] [] σ := by
  unfold wX11_pass at h
  refine V_iload_n (pc := 0) 1 dX11_pass_0 rfl ?_
  refine V_iconst (pc := 1) (v := 1) dX11_pass_1 (by decide) ?_
  refine V_bipush (pc := 2) (v := 100) dX11_pass_2 (by decide) ?_
  refine V_callS (pc := 4) (M' := mX11_in) dX11_pass_4 ml_X11_104 ks_X11_in ko_X11_in (by decide) rfl (Nat.le_of_ble_eq_true rfl) (Nat.le_of_ble_eq_true rfl) (vX11_in E  x1 ((1 : Int32)) ((100 : Int32)) σ _  h) (kB (fun r4 s4 h => ?_))
  refine V_ifz (pc := 7) (tgt := 22) dX11_pass_7 (by decide) (fun hc => ?_) (fun hc => ?_)
  · replace h := h.1 hc
    refine V_bipush (pc := 22) (v := -2) dX11_pass_22 (by decide) ?_
    exact V_iret dX11_pass_24 rfl h
  · replace h := h.2 hc
    refine V_aload_n (pc := 10) 0 dX11_pass_10 rfl ?_
    refine V_getI (pc := 11) dX11_pass_11 fl_X11_108 sh_67 rfl ?_
    refine V_iload_n (pc := 14) 1 dX11_pass_14 rfl ?_
    refine V_iadd (pc := 15) dX11_pass_15 ?_
    refine V_sipush (pc := 16) (v := 399) dX11_pass_16 (by decide) ?_
    refine V_icmp_le (pc := 19) (tgt := 25) dX11_pass_19 (by decide) (fun hc => ?_) (fun hc => ?_)
    · replace h := h.1 hc
      refine V_aload_n (pc := 25) 0 dX11_pass_25 rfl ?_
      refine V_dup (pc := 26) dX11_pass_26 rfl ?_
      refine V_getI (pc := 27) dX11_pass_27 fl_X11_108 sh_67 rfl ?_
      refine V_iload_n (pc := 30) 1 dX11_pass_30 rfl ?_
      refine V_iadd (pc := 31) dX11_pass_31 ?_
      refine V_putI (pc := 32) dX11_pass_32 fl_X11_108 po_X11_0 sh_67 rfl rfl rfl ?_
      refine V_aload_n (pc := 35) 0 dX11_pass_35 rfl ?_
      refine V_iconst (pc := 36) (v := 0) dX11_pass_36 (by decide) ?_
      refine V_putI (pc := 37) dX11_pass_37 fl_X11_111 po_X11_13 sh_67 rfl (by decide) (by decide) ?_
      refine V_aload_n (pc := 40) 0 dX11_pass_40 rfl ?_
      refine V_getI (pc := 41) dX11_pass_41 fl_X11_108 sh_67 rfl ?_
      exact V_iret dX11_pass_44 rfl h
    · replace h := h.2 hc
      refine V_bipush (pc := 22) (v := -2) dX11_pass_22 (by decide) ?_
      exact V_iret dX11_pass_24 rfl h
theorem dX11_house_0 : decode cX11_house 0 = .ok (.iload_n 1, 1) := by decide +kernel
theorem dX11_house_1 : decode cX11_house 1 = .ok (.iconst 0, 1) := by decide +kernel
theorem dX11_house_2 : decode cX11_house 2 = .ok (.iconst 1, 1) := by decide +kernel
theorem dX11_house_3 : decode cX11_house 3 = .ok (.invokestatic 104, 3) := by decide +kernel
theorem dX11_house_6 : decode cX11_house 6 = .ok (.ifCond .ne 6, 3) := by decide +kernel
theorem dX11_house_9 : decode cX11_house 9 = .ok (.bipush (-2), 2) := by decide +kernel
theorem dX11_house_11 : decode cX11_house 11 = .ok (.ireturn, 1) := by decide +kernel
theorem dX11_house_12 : decode cX11_house 12 = .ok (.aload_n 0, 1) := by decide +kernel
theorem dX11_house_13 : decode cX11_house 13 = .ok (.getfield 101, 3) := by decide +kernel
theorem dX11_house_16 : decode cX11_house 16 = .ok (.bipush 14, 2) := by decide +kernel
theorem dX11_house_18 : decode cX11_house 18 = .ok (.if_icmp .ne 6, 3) := by decide +kernel
theorem dX11_house_21 : decode cX11_house 21 = .ok (.bipush (-4), 2) := by decide +kernel
theorem dX11_house_23 : decode cX11_house 23 = .ok (.ireturn, 1) := by decide +kernel
theorem dX11_house_24 : decode cX11_house 24 = .ok (.aload_n 0, 1) := by decide +kernel
theorem dX11_house_25 : decode cX11_house 25 = .ok (.getfield 9, 3) := by decide +kernel
theorem dX11_house_28 : decode cX11_house 28 = .ok (.aload_n 0, 1) := by decide +kernel
theorem dX11_house_29 : decode cX11_house 29 = .ok (.getfield 101, 3) := by decide +kernel
theorem dX11_house_32 : decode cX11_house 32 = .ok (.iload_n 1, 1) := by decide +kernel
theorem dX11_house_33 : decode cX11_house 33 = .ok (.iastore, 1) := by decide +kernel
theorem dX11_house_34 : decode cX11_house 34 = .ok (.aload_n 0, 1) := by decide +kernel
theorem dX11_house_35 : decode cX11_house 35 = .ok (.getfield 13, 3) := by decide +kernel
theorem dX11_house_38 : decode cX11_house 38 = .ok (.aload_n 0, 1) := by decide +kernel
theorem dX11_house_39 : decode cX11_house 39 = .ok (.getfield 101, 3) := by decide +kernel
theorem dX11_house_42 : decode cX11_house 42 = .ok (.bipush 10, 2) := by decide +kernel
theorem dX11_house_44 : decode cX11_house 44 = .ok (.iastore, 1) := by decide +kernel
theorem dX11_house_45 : decode cX11_house 45 = .ok (.aload_n 0, 1) := by decide +kernel
theorem dX11_house_46 : decode cX11_house 46 = .ok (.dup, 1) := by decide +kernel
theorem dX11_house_47 : decode cX11_house 47 = .ok (.getfield 101, 3) := by decide +kernel
theorem dX11_house_50 : decode cX11_house 50 = .ok (.iconst 1, 1) := by decide +kernel
theorem dX11_house_51 : decode cX11_house 51 = .ok (.iadd, 1) := by decide +kernel
theorem dX11_house_52 : decode cX11_house 52 = .ok (.putfield 101, 3) := by decide +kernel
theorem dX11_house_55 : decode cX11_house 55 = .ok (.aload_n 0, 1) := by decide +kernel
theorem dX11_house_56 : decode cX11_house 56 = .ok (.iconst 0, 1) := by decide +kernel
theorem dX11_house_57 : decode cX11_house 57 = .ok (.putfield 111, 3) := by decide +kernel
theorem dX11_house_60 : decode cX11_house 60 = .ok (.aload_n 0, 1) := by decide +kernel
theorem dX11_house_61 : decode cX11_house 61 = .ok (.getfield 101, 3) := by decide +kernel
theorem dX11_house_64 : decode cX11_house 64 = .ok (.iconst 1, 1) := by decide +kernel
theorem dX11_house_65 : decode cX11_house 65 = .ok (.isub, 1) := by decide +kernel
theorem dX11_house_66 : decode cX11_house 66 = .ok (.ireturn, 1) := by decide +kernel
def wX11_house  (x1 : Int32) (σ : Sto) (post : Int32 → Sto → Prop) : Prop := wX11_in  x1 ((0 : Int32)) ((1 : Int32)) σ (fun (r3 : Bool) (s3 : Sto) => ((r3 = true) → (((¬ (s3.1 67 1) = ((14 : Int32))) → (vp_in (s3.1 67 1) 14 ∧ (vp_in (s3.1 67 1) 14 ∧ (post (((s3.1 67 1) + ((1 : Int32))) - ((1 : Int32))) (wI (wI (wI (wI s3 68 (s3.1 67 1).toNatClampNeg x1) 69 (s3.1 67 1).toNatClampNeg ((10 : Int32))) 67 1 ((s3.1 67 1) + ((1 : Int32)))) 67 13 ((0 : Int32))))))) ∧ (((s3.1 67 1) = ((14 : Int32))) → (post ((-4 : Int32)) s3)))) ∧ ((r3 = false) → (post ((-2 : Int32)) s3)))
set_option maxRecDepth 100000 in
set_option maxHeartbeats 4000000 in
theorem vX11_house (E : Ev)  (x1 : Int32) (σ : Sto) (post : Int32 → Sto → Prop)  (h : wX11_house  x1 σ post) : V E 1 mX11_house (pI post) 0 [(0, .ref 67), (1, .int x1)] [] σ := by
  unfold wX11_house at h
  refine V_iload_n (pc := 0) 1 dX11_house_0 rfl ?_
  refine V_iconst (pc := 1) (v := 0) dX11_house_1 (by decide) ?_
  refine V_iconst (pc := 2) (v := 1) dX11_house_2 (by decide) ?_
  refine V_callS (pc := 3) (M' := mX11_in) dX11_house_3 ml_X11_104 ks_X11_in ko_X11_in (by decide) rfl (Nat.le_of_ble_eq_true rfl) (Nat.le_of_ble_eq_true rfl) (vX11_in E  x1 ((0 : Int32)) ((1 : Int32)) σ _  h) (kB (fun r3 s3 h => ?_))
  refine V_ifnz (pc := 6) (tgt := 12) dX11_house_6 (by decide) (fun hc => ?_) (fun hc => ?_)
  · replace h := h.1 hc
    refine V_aload_n (pc := 12) 0 dX11_house_12 rfl ?_
    refine V_getI (pc := 13) dX11_house_13 fl_X11_101 sh_67 rfl ?_
    refine V_bipush (pc := 16) (v := 14) dX11_house_16 (by decide) ?_
    refine V_icmp_ne (pc := 18) (tgt := 24) dX11_house_18 (by decide) (fun hc => ?_) (fun hc => ?_)
    · replace h := h.1 hc
      refine V_aload_n (pc := 24) 0 dX11_house_24 rfl ?_
      refine V_getR (pc := 25) dX11_house_25 fl_X11_9 sh_67 rfl ?_
      refine V_aload_n (pc := 28) 0 dX11_house_28 rfl ?_
      refine V_getI (pc := 29) dX11_house_29 fl_X11_101 sh_67 rfl ?_
      refine V_iload_n (pc := 32) 1 dX11_house_32 rfl ?_
      obtain ⟨i33, h⟩ := h
      refine V_iast (pc := 33) dX11_house_33 sh_68 i33 ?_
      refine V_aload_n (pc := 34) 0 dX11_house_34 rfl ?_
      refine V_getR (pc := 35) dX11_house_35 fl_X11_13 sh_67 rfl ?_
      refine V_aload_n (pc := 38) 0 dX11_house_38 rfl ?_
      refine V_getI (pc := 39) dX11_house_39 fl_X11_101 sh_67 rfl ?_
      refine V_bipush (pc := 42) (v := 10) dX11_house_42 (by decide) ?_
      obtain ⟨i44, h⟩ := h
      refine V_iast (pc := 44) dX11_house_44 sh_69 i44 ?_
      refine V_aload_n (pc := 45) 0 dX11_house_45 rfl ?_
      refine V_dup (pc := 46) dX11_house_46 rfl ?_
      refine V_getI (pc := 47) dX11_house_47 fl_X11_101 sh_67 rfl ?_
      refine V_iconst (pc := 50) (v := 1) dX11_house_50 (by decide) ?_
      refine V_iadd (pc := 51) dX11_house_51 ?_
      refine V_putI (pc := 52) dX11_house_52 fl_X11_101 po_X11_1 sh_67 rfl rfl rfl ?_
      refine V_aload_n (pc := 55) 0 dX11_house_55 rfl ?_
      refine V_iconst (pc := 56) (v := 0) dX11_house_56 (by decide) ?_
      refine V_putI (pc := 57) dX11_house_57 fl_X11_111 po_X11_13 sh_67 rfl (by decide) (by decide) ?_
      refine V_aload_n (pc := 60) 0 dX11_house_60 rfl ?_
      refine V_getI (pc := 61) dX11_house_61 fl_X11_101 sh_67 rfl ?_
      refine V_iconst (pc := 64) (v := 1) dX11_house_64 (by decide) ?_
      refine V_isub (pc := 65) dX11_house_65 ?_
      exact V_iret dX11_house_66 rfl h
    · replace h := h.2 hc
      refine V_bipush (pc := 21) (v := -4) dX11_house_21 (by decide) ?_
      exact V_iret dX11_house_23 rfl h
  · replace h := h.2 hc
    refine V_bipush (pc := 9) (v := -2) dX11_house_9 (by decide) ?_
    exact V_iret dX11_house_11 rfl h
theorem dX11_doubt_0 : decode cX11_doubt 0 = .ok (.aload_n 0, 1) := by decide +kernel
theorem dX11_doubt_1 : decode cX11_doubt 1 = .ok (.iload_n 1, 1) := by decide +kernel
theorem dX11_doubt_2 : decode cX11_doubt 2 = .ok (.invokevirtual 115, 3) := by decide +kernel
theorem dX11_doubt_5 : decode cX11_doubt 5 = .ok (.ifCond .eq 14, 3) := by decide +kernel
theorem dX11_doubt_8 : decode cX11_doubt 8 = .ok (.iload_n 2, 1) := by decide +kernel
theorem dX11_doubt_9 : decode cX11_doubt 9 = .ok (.iconst 1, 1) := by decide +kernel
theorem dX11_doubt_10 : decode cX11_doubt 10 = .ok (.sipush 1000, 3) := by decide +kernel
theorem dX11_doubt_13 : decode cX11_doubt 13 = .ok (.invokestatic 104, 3) := by decide +kernel
theorem dX11_doubt_16 : decode cX11_doubt 16 = .ok (.ifCond .ne 6, 3) := by decide +kernel
theorem dX11_doubt_19 : decode cX11_doubt 19 = .ok (.bipush (-2), 2) := by decide +kernel
theorem dX11_doubt_21 : decode cX11_doubt 21 = .ok (.ireturn, 1) := by decide +kernel
theorem dX11_doubt_22 : decode cX11_doubt 22 = .ok (.aload_n 0, 1) := by decide +kernel
theorem dX11_doubt_23 : decode cX11_doubt 23 = .ok (.getfield 13, 3) := by decide +kernel
theorem dX11_doubt_26 : decode cX11_doubt 26 = .ok (.iload_n 1, 1) := by decide +kernel
theorem dX11_doubt_27 : decode cX11_doubt 27 = .ok (.iaload, 1) := by decide +kernel
theorem dX11_doubt_28 : decode cX11_doubt 28 = .ok (.istore_n 3, 1) := by decide +kernel
theorem dX11_doubt_29 : decode cX11_doubt 29 = .ok (.aload_n 0, 1) := by decide +kernel
theorem dX11_doubt_30 : decode cX11_doubt 30 = .ok (.getfield 13, 3) := by decide +kernel
theorem dX11_doubt_33 : decode cX11_doubt 33 = .ok (.iload_n 1, 1) := by decide +kernel
theorem dX11_doubt_34 : decode cX11_doubt 34 = .ok (.iload_n 2, 1) := by decide +kernel
theorem dX11_doubt_35 : decode cX11_doubt 35 = .ok (.iastore, 1) := by decide +kernel
theorem dX11_doubt_36 : decode cX11_doubt 36 = .ok (.iload_n 3, 1) := by decide +kernel
theorem dX11_doubt_37 : decode cX11_doubt 37 = .ok (.ireturn, 1) := by decide +kernel
def wX11_doubt  (x1 : Int32) (x2 : Int32) (σ : Sto) (post : Int32 → Sto → Prop) : Prop := wX11_isHouse  x1 σ (fun (r2 : Bool) (s2 : Sto) => ((r2 = false) → (post ((-2 : Int32)) s2)) ∧ ((r2 = true) → (wX11_in  x2 ((1 : Int32)) ((1000 : Int32)) s2 (fun (r13 : Bool) (s13 : Sto) => ((r13 = true) → (vp_in x1 14 ∧ (vp_in x1 14 ∧ (post (s13.1 69 x1.toNatClampNeg) (wI s13 69 x1.toNatClampNeg x2))))) ∧ ((r13 = false) → (post ((-2 : Int32)) s13))))))
set_option maxRecDepth 100000 in
set_option maxHeartbeats 4000000 in
theorem vX11_doubt (E : Ev)  (x1 : Int32) (x2 : Int32) (σ : Sto) (post : Int32 → Sto → Prop)  (h : wX11_doubt  x1 x2 σ post) : V E 2 mX11_doubt (pI post) 0 [(0, .ref 67), (1, .int x1), (2, .int x2)] [] σ := by
  unfold wX11_doubt at h
  refine V_aload_n (pc := 0) 0 dX11_doubt_0 rfl ?_
  refine V_iload_n (pc := 1) 1 dX11_doubt_1 rfl ?_
  refine V_callV (pc := 2) (M' := mX11_isHouse) dX11_doubt_2 ml_X11_115 kv_X11_isHouse ko_X11_isHouse sh_67 (by decide) (by decide) rfl rfl (Nat.le_of_ble_eq_true rfl) (Nat.le_of_ble_eq_true rfl) (vX11_isHouse E  x1 σ _  h) (kB (fun r2 s2 h => ?_))
  refine V_ifz (pc := 5) (tgt := 19) dX11_doubt_5 (by decide) (fun hc => ?_) (fun hc => ?_)
  · replace h := h.1 hc
    refine V_bipush (pc := 19) (v := -2) dX11_doubt_19 (by decide) ?_
    exact V_iret dX11_doubt_21 rfl h
  · replace h := h.2 hc
    refine V_iload_n (pc := 8) 2 dX11_doubt_8 rfl ?_
    refine V_iconst (pc := 9) (v := 1) dX11_doubt_9 (by decide) ?_
    refine V_sipush (pc := 10) (v := 1000) dX11_doubt_10 (by decide) ?_
    refine V_callS (pc := 13) (M' := mX11_in) dX11_doubt_13 ml_X11_104 ks_X11_in ko_X11_in (by decide) rfl (Nat.le_of_ble_eq_true rfl) (Nat.le_of_ble_eq_true rfl) (vX11_in E  x2 ((1 : Int32)) ((1000 : Int32)) s2 _  h) (kB (fun r13 s13 h => ?_))
    refine V_ifnz (pc := 16) (tgt := 22) dX11_doubt_16 (by decide) (fun hc => ?_) (fun hc => ?_)
    · replace h := h.1 hc
      refine V_aload_n (pc := 22) 0 dX11_doubt_22 rfl ?_
      refine V_getR (pc := 23) dX11_doubt_23 fl_X11_13 sh_67 rfl ?_
      refine V_iload_n (pc := 26) 1 dX11_doubt_26 rfl ?_
      obtain ⟨i27, h⟩ := h
      refine V_iald (pc := 27) dX11_doubt_27 sh_69 i27 ?_
      refine V_istore_n (pc := 28) dX11_doubt_28 (by decide) ?_
      refine V_aload_n (pc := 29) 1 dX11_doubt_29 rfl ?_
      refine V_getR (pc := 30) dX11_doubt_30 fl_X11_13 sh_67 rfl ?_
      refine V_iload_n (pc := 33) 2 dX11_doubt_33 rfl ?_
      refine V_iload_n (pc := 34) 3 dX11_doubt_34 rfl ?_
      obtain ⟨i35, h⟩ := h
      refine V_iast (pc := 35) dX11_doubt_35 sh_69 i35 ?_
      refine V_iload_n (pc := 36) 0 dX11_doubt_36 rfl ?_
      exact V_iret dX11_doubt_37 rfl h
    · replace h := h.2 hc
      refine V_bipush (pc := 19) (v := -2) dX11_doubt_19 (by decide) ?_
      exact V_iret dX11_doubt_21 rfl h
theorem dX11_readingMore_0 : decode cX11_readingMore 0 = .ok (.aload_n 0, 1) := by decide +kernel
theorem dX11_readingMore_1 : decode cX11_readingMore 1 = .ok (.iload_n 1, 1) := by decide +kernel
theorem dX11_readingMore_2 : decode cX11_readingMore 2 = .ok (.invokevirtual 115, 3) := by decide +kernel
theorem dX11_readingMore_5 : decode cX11_readingMore 5 = .ok (.ifCond .eq 36, 3) := by decide +kernel
theorem dX11_readingMore_8 : decode cX11_readingMore 8 = .ok (.iload_n 2, 1) := by decide +kernel
theorem dX11_readingMore_9 : decode cX11_readingMore 9 = .ok (.invokestatic 119, 3) := by decide +kernel
theorem dX11_readingMore_12 : decode cX11_readingMore 12 = .ok (.ifCond .eq 29, 3) := by decide +kernel
theorem dX11_readingMore_15 : decode cX11_readingMore 15 = .ok (.iload_n 3, 1) := by decide +kernel
theorem dX11_readingMore_16 : decode cX11_readingMore 16 = .ok (.iconst 0, 1) := by decide +kernel
theorem dX11_readingMore_17 : decode cX11_readingMore 17 = .ok (.aload_n 0, 1) := by decide +kernel
theorem dX11_readingMore_18 : decode cX11_readingMore 18 = .ok (.getfield 108, 3) := by decide +kernel
theorem dX11_readingMore_21 : decode cX11_readingMore 21 = .ok (.invokestatic 104, 3) := by decide +kernel
theorem dX11_readingMore_24 : decode cX11_readingMore 24 = .ok (.ifCond .eq 17, 3) := by decide +kernel
theorem dX11_readingMore_27 : decode cX11_readingMore 27 = .ok (.iload 4, 2) := by decide +kernel
theorem dX11_readingMore_29 : decode cX11_readingMore 29 = .ok (.sipush (-20000), 3) := by decide +kernel
theorem dX11_readingMore_32 : decode cX11_readingMore 32 = .ok (.sipush 20000, 3) := by decide +kernel
theorem dX11_readingMore_35 : decode cX11_readingMore 35 = .ok (.invokestatic 104, 3) := by decide +kernel
theorem dX11_readingMore_38 : decode cX11_readingMore 38 = .ok (.ifCond .ne 6, 3) := by decide +kernel
theorem dX11_readingMore_41 : decode cX11_readingMore 41 = .ok (.bipush (-2), 2) := by decide +kernel
theorem dX11_readingMore_43 : decode cX11_readingMore 43 = .ok (.ireturn, 1) := by decide +kernel
theorem dX11_readingMore_44 : decode cX11_readingMore 44 = .ok (.iconst 0, 1) := by decide +kernel
theorem dX11_readingMore_45 : decode cX11_readingMore 45 = .ok (.istore 5, 2) := by decide +kernel
theorem dX11_readingMore_47 : decode cX11_readingMore 47 = .ok (.iconst 0, 1) := by decide +kernel
theorem dX11_readingMore_48 : decode cX11_readingMore 48 = .ok (.istore 6, 2) := by decide +kernel
theorem dX11_readingMore_50 : decode cX11_readingMore 50 = .ok (.iload 6, 2) := by decide +kernel
theorem dX11_readingMore_52 : decode cX11_readingMore 52 = .ok (.aload_n 0, 1) := by decide +kernel
theorem dX11_readingMore_53 : decode cX11_readingMore 53 = .ok (.getfield 122, 3) := by decide +kernel
theorem dX11_readingMore_56 : decode cX11_readingMore 56 = .ok (.if_icmp .ge 41, 3) := by decide +kernel
theorem dX11_readingMore_59 : decode cX11_readingMore 59 = .ok (.iload 5, 2) := by decide +kernel
theorem dX11_readingMore_61 : decode cX11_readingMore 61 = .ok (.aload_n 0, 1) := by decide +kernel
theorem dX11_readingMore_62 : decode cX11_readingMore 62 = .ok (.getfield 16, 3) := by decide +kernel
theorem dX11_readingMore_65 : decode cX11_readingMore 65 = .ok (.iload 6, 2) := by decide +kernel
theorem dX11_readingMore_67 : decode cX11_readingMore 67 = .ok (.iaload, 1) := by decide +kernel
theorem dX11_readingMore_68 : decode cX11_readingMore 68 = .ok (.iload_n 1, 1) := by decide +kernel
theorem dX11_readingMore_69 : decode cX11_readingMore 69 = .ok (.if_icmp .ne 18, 3) := by decide +kernel
theorem dX11_readingMore_72 : decode cX11_readingMore 72 = .ok (.aload_n 0, 1) := by decide +kernel
theorem dX11_readingMore_73 : decode cX11_readingMore 73 = .ok (.getfield 19, 3) := by decide +kernel
theorem dX11_readingMore_76 : decode cX11_readingMore 76 = .ok (.iload 6, 2) := by decide +kernel
theorem dX11_readingMore_78 : decode cX11_readingMore 78 = .ok (.iaload, 1) := by decide +kernel
theorem dX11_readingMore_79 : decode cX11_readingMore 79 = .ok (.iload_n 2, 1) := by decide +kernel
theorem dX11_readingMore_80 : decode cX11_readingMore 80 = .ok (.if_icmp .ne 7, 3) := by decide +kernel
theorem dX11_readingMore_83 : decode cX11_readingMore 83 = .ok (.iconst 1, 1) := by decide +kernel
theorem dX11_readingMore_84 : decode cX11_readingMore 84 = .ok (.goto 4, 3) := by decide +kernel
theorem dX11_readingMore_87 : decode cX11_readingMore 87 = .ok (.iconst 0, 1) := by decide +kernel
theorem dX11_readingMore_88 : decode cX11_readingMore 88 = .ok (.iadd, 1) := by decide +kernel
theorem dX11_readingMore_89 : decode cX11_readingMore 89 = .ok (.istore 5, 2) := by decide +kernel
theorem dX11_readingMore_91 : decode cX11_readingMore 91 = .ok (.iinc 6 1, 3) := by decide +kernel
theorem dX11_readingMore_94 : decode cX11_readingMore 94 = .ok (.goto (-44), 3) := by decide +kernel
theorem dX11_readingMore_97 : decode cX11_readingMore 97 = .ok (.aload_n 0, 1) := by decide +kernel
theorem dX11_readingMore_98 : decode cX11_readingMore 98 = .ok (.getfield 122, 3) := by decide +kernel
theorem dX11_readingMore_101 : decode cX11_readingMore 101 = .ok (.sipush 150, 3) := by decide +kernel
theorem dX11_readingMore_104 : decode cX11_readingMore 104 = .ok (.if_icmp .eq 10, 3) := by decide +kernel
theorem dX11_readingMore_107 : decode cX11_readingMore 107 = .ok (.iload 5, 2) := by decide +kernel
theorem dX11_readingMore_109 : decode cX11_readingMore 109 = .ok (.bipush 8, 2) := by decide +kernel
theorem dX11_readingMore_111 : decode cX11_readingMore 111 = .ok (.if_icmp .ne 6, 3) := by decide +kernel
theorem dX11_readingMore_114 : decode cX11_readingMore 114 = .ok (.bipush (-4), 2) := by decide +kernel
theorem dX11_readingMore_116 : decode cX11_readingMore 116 = .ok (.ireturn, 1) := by decide +kernel
theorem dX11_readingMore_117 : decode cX11_readingMore 117 = .ok (.aload_n 0, 1) := by decide +kernel
theorem dX11_readingMore_118 : decode cX11_readingMore 118 = .ok (.getfield 16, 3) := by decide +kernel
theorem dX11_readingMore_121 : decode cX11_readingMore 121 = .ok (.aload_n 0, 1) := by decide +kernel
theorem dX11_readingMore_122 : decode cX11_readingMore 122 = .ok (.getfield 122, 3) := by decide +kernel
theorem dX11_readingMore_125 : decode cX11_readingMore 125 = .ok (.iload_n 1, 1) := by decide +kernel
theorem dX11_readingMore_126 : decode cX11_readingMore 126 = .ok (.iastore, 1) := by decide +kernel
theorem dX11_readingMore_127 : decode cX11_readingMore 127 = .ok (.aload_n 0, 1) := by decide +kernel
theorem dX11_readingMore_128 : decode cX11_readingMore 128 = .ok (.getfield 19, 3) := by decide +kernel
theorem dX11_readingMore_131 : decode cX11_readingMore 131 = .ok (.aload_n 0, 1) := by decide +kernel
theorem dX11_readingMore_132 : decode cX11_readingMore 132 = .ok (.getfield 122, 3) := by decide +kernel
theorem dX11_readingMore_135 : decode cX11_readingMore 135 = .ok (.iload_n 2, 1) := by decide +kernel
theorem dX11_readingMore_136 : decode cX11_readingMore 136 = .ok (.iastore, 1) := by decide +kernel
theorem dX11_readingMore_137 : decode cX11_readingMore 137 = .ok (.aload_n 0, 1) := by decide +kernel
theorem dX11_readingMore_138 : decode cX11_readingMore 138 = .ok (.getfield 22, 3) := by decide +kernel
theorem dX11_readingMore_141 : decode cX11_readingMore 141 = .ok (.aload_n 0, 1) := by decide +kernel
theorem dX11_readingMore_142 : decode cX11_readingMore 142 = .ok (.getfield 122, 3) := by decide +kernel
theorem dX11_readingMore_145 : decode cX11_readingMore 145 = .ok (.iload_n 3, 1) := by decide +kernel
theorem dX11_readingMore_146 : decode cX11_readingMore 146 = .ok (.iastore, 1) := by decide +kernel
theorem dX11_readingMore_147 : decode cX11_readingMore 147 = .ok (.aload_n 0, 1) := by decide +kernel
theorem dX11_readingMore_148 : decode cX11_readingMore 148 = .ok (.getfield 25, 3) := by decide +kernel
theorem dX11_readingMore_151 : decode cX11_readingMore 151 = .ok (.aload_n 0, 1) := by decide +kernel
theorem dX11_readingMore_152 : decode cX11_readingMore 152 = .ok (.getfield 122, 3) := by decide +kernel
theorem dX11_readingMore_155 : decode cX11_readingMore 155 = .ok (.iload 4, 2) := by decide +kernel
theorem dX11_readingMore_157 : decode cX11_readingMore 157 = .ok (.iastore, 1) := by decide +kernel
theorem dX11_readingMore_158 : decode cX11_readingMore 158 = .ok (.aload_n 0, 1) := by decide +kernel
theorem dX11_readingMore_159 : decode cX11_readingMore 159 = .ok (.getfield 28, 3) := by decide +kernel
theorem dX11_readingMore_162 : decode cX11_readingMore 162 = .ok (.aload_n 0, 1) := by decide +kernel
theorem dX11_readingMore_163 : decode cX11_readingMore 163 = .ok (.getfield 122, 3) := by decide +kernel
theorem dX11_readingMore_166 : decode cX11_readingMore 166 = .ok (.aload_n 0, 1) := by decide +kernel
theorem dX11_readingMore_167 : decode cX11_readingMore 167 = .ok (.getfield 108, 3) := by decide +kernel
theorem dX11_readingMore_170 : decode cX11_readingMore 170 = .ok (.iastore, 1) := by decide +kernel
theorem dX11_readingMore_171 : decode cX11_readingMore 171 = .ok (.aload_n 0, 1) := by decide +kernel
theorem dX11_readingMore_172 : decode cX11_readingMore 172 = .ok (.getfield 31, 3) := by decide +kernel
theorem dX11_readingMore_175 : decode cX11_readingMore 175 = .ok (.aload_n 0, 1) := by decide +kernel
theorem dX11_readingMore_176 : decode cX11_readingMore 176 = .ok (.getfield 122, 3) := by decide +kernel
theorem dX11_readingMore_179 : decode cX11_readingMore 179 = .ok (.iconst (-1), 1) := by decide +kernel
theorem dX11_readingMore_180 : decode cX11_readingMore 180 = .ok (.iastore, 1) := by decide +kernel
theorem dX11_readingMore_181 : decode cX11_readingMore 181 = .ok (.aload_n 0, 1) := by decide +kernel
theorem dX11_readingMore_182 : decode cX11_readingMore 182 = .ok (.dup, 1) := by decide +kernel
theorem dX11_readingMore_183 : decode cX11_readingMore 183 = .ok (.getfield 122, 3) := by decide +kernel
theorem dX11_readingMore_186 : decode cX11_readingMore 186 = .ok (.iconst 1, 1) := by decide +kernel
theorem dX11_readingMore_187 : decode cX11_readingMore 187 = .ok (.iadd, 1) := by decide +kernel
theorem dX11_readingMore_188 : decode cX11_readingMore 188 = .ok (.putfield 122, 3) := by decide +kernel
theorem dX11_readingMore_191 : decode cX11_readingMore 191 = .ok (.aload_n 0, 1) := by decide +kernel
theorem dX11_readingMore_192 : decode cX11_readingMore 192 = .ok (.iconst 0, 1) := by decide +kernel
theorem dX11_readingMore_193 : decode cX11_readingMore 193 = .ok (.putfield 111, 3) := by decide +kernel
theorem dX11_readingMore_196 : decode cX11_readingMore 196 = .ok (.aload_n 0, 1) := by decide +kernel
theorem dX11_readingMore_197 : decode cX11_readingMore 197 = .ok (.getfield 122, 3) := by decide +kernel
theorem dX11_readingMore_200 : decode cX11_readingMore 200 = .ok (.iconst 1, 1) := by decide +kernel
theorem dX11_readingMore_201 : decode cX11_readingMore 201 = .ok (.isub, 1) := by decide +kernel
theorem dX11_readingMore_202 : decode cX11_readingMore 202 = .ok (.ireturn, 1) := by decide +kernel
def wX11_readingMore_88 (post : Int32 → Sto → Prop)  (K50 : Int32 → Int32 → Int32 → Int32 → Int32 → Int32 → Sto → Prop) (x1 : Int32) (x2 : Int32) (x3 : Int32) (x4 : Int32) (x6 : Int32) (y0 : Int32) (y1 : Int32) (σ : Sto) : Prop := K50 x1 x2 x3 x4 (y1 + y0) (x6 + (1 : Int32)) σ
set_option maxRecDepth 100000 in
set_option maxHeartbeats 4000000 in
theorem vX11_readingMore_88 (E : Ev) (post : Int32 → Sto → Prop)   (K50 : Int32 → Int32 → Int32 → Int32 → Int32 → Int32 → Sto → Prop) (HK50 : ∀ (x1 : Int32) (x2 : Int32) (x3 : Int32) (x4 : Int32) (x5 : Int32) (x6 : Int32) (σ : Sto), K50 x1 x2 x3 x4 x5 x6 σ → V E 2 mX11_readingMore (pI post) 50 [(0, .ref 67), (1, .int x1), (2, .int x2), (3, .int x3), (4, .int x4), (5, .int x5), (6, .int x6)] [] σ) (x1 : Int32) (x2 : Int32) (x3 : Int32) (x4 : Int32) (x6 : Int32) (y0 : Int32) (y1 : Int32) (σ : Sto) (h : wX11_readingMore_88 post  K50 x1 x2 x3 x4 x6 y0 y1 σ) : V E 2 mX11_readingMore (pI post) 88 [(0, .ref 67), (1, .int x1), (2, .int x2), (3, .int x3), (4, .int x4), (6, .int x6)] [.int y0, .int y1] σ := by
  unfold wX11_readingMore_88 at h
  refine V_iadd (pc := 88) dX11_readingMore_88 ?_
  refine V_istore (pc := 89) dX11_readingMore_89 (by decide) ?_
  refine V_iinc (pc := 91) 6 (v := 1) dX11_readingMore_91 rfl (by decide) (by decide) ?_
  refine V_goto (pc := 94) (tgt := 50) dX11_readingMore_94 (by decide) ?_
  exact V_loc [2, 3, 4, 5, 6, 1, 0] rfl (HK50 x1 x2 x3 x4 (y1 + y0) (x6 + (1 : Int32)) σ  h)
def wX11_readingMore_87 (post : Int32 → Sto → Prop)  (K50 : Int32 → Int32 → Int32 → Int32 → Int32 → Int32 → Sto → Prop) (x1 : Int32) (x2 : Int32) (x3 : Int32) (x4 : Int32) (x6 : Int32) (y0 : Int32) (σ : Sto) : Prop := wX11_readingMore_88 post  K50 x1 x2 x3 x4 x6 ((0 : Int32)) y0 σ
set_option maxRecDepth 100000 in
set_option maxHeartbeats 4000000 in
theorem vX11_readingMore_87 (E : Ev) (post : Int32 → Sto → Prop)   (K50 : Int32 → Int32 → Int32 → Int32 → Int32 → Int32 → Sto → Prop) (HK50 : ∀ (x1 : Int32) (x2 : Int32) (x3 : Int32) (x4 : Int32) (x5 : Int32) (x6 : Int32) (σ : Sto), K50 x1 x2 x3 x4 x5 x6 σ → V E 2 mX11_readingMore (pI post) 50 [(0, .ref 67), (1, .int x1), (2, .int x2), (3, .int x3), (4, .int x4), (5, .int x5), (6, .int x6)] [] σ) (x1 : Int32) (x2 : Int32) (x3 : Int32) (x4 : Int32) (x6 : Int32) (y0 : Int32) (σ : Sto) (h : wX11_readingMore_87 post  K50 x1 x2 x3 x4 x6 y0 σ) : V E 2 mX11_readingMore (pI post) 87 [(0, .ref 67), (1, .int x1), (2, .int x2), (3, .int x3), (4, .int x4), (6, .int x6)] [.int y0] σ := by
  unfold wX11_readingMore_87 at h
  refine V_iconst (pc := 87) (v := 0) dX11_readingMore_87 (by decide) ?_
  refine V_loc [0, 1, 2, 3, 4, 5] rfl (vX11_readingMore_88 E post   K50 HK50 x1 x2 x3 x4 x6 ((0 : Int32)) y0 σ  h)
def wX11_readingMore_50 (post : Int32 → Sto → Prop)  (K97 : Int32 → Int32 → Int32 → Int32 → Int32 → Sto → Prop) : Nat → Int32 → Int32 → Int32 → Int32 → Int32 → Int32 → Sto → Prop
  | 0, _, _, _, _, _, _, _ => False
  | n + 1, x1, x2, x3, x4, x5, x6, σ => (((σ.1 67 4) ≤ x6) → (K97 x1 x2 x3 x4 x5 σ)) ∧ ((¬ ((σ.1 67 4) ≤ x6)) → (vp_in x6 150 ∧ (((¬ (σ.1 70 x6.toNatClampNeg) = x1) → (wX11_readingMore_87 post  (wX11_readingMore_50 post  K97 n) x1 x2 x3 x4 x6 x5 σ)) ∧ (((σ.1 70 x6.toNatClampNeg) = x1) → (vp_in x6 150 ∧ (((¬ (σ.1 71 x6.toNatClampNeg) = x2) → (wX11_readingMore_87 post  (wX11_readingMore_50 post  K97 n) x1 x2 x3 x4 x6 x5 σ)) ∧ (((σ.1 71 x6.toNatClampNeg) = x2) → (wX11_readingMore_88 post  (wX11_readingMore_50 post  K97 n) x1 x2 x3 x4 x6 ((1 : Int32)) x5 σ))))))))
set_option maxRecDepth 100000 in
set_option maxHeartbeats 4000000 in
theorem vX11_readingMore_50 (E : Ev) (post : Int32 → Sto → Prop)   (K97 : Int32 → Int32 → Int32 → Int32 → Int32 → Sto → Prop) (HK97 : ∀ (x1 : Int32) (x2 : Int32) (x3 : Int32) (x4 : Int32) (x5 : Int32) (σ : Sto), K97 x1 x2 x3 x4 x5 σ → V E 2 mX11_readingMore (pI post) 97 [(0, .ref 67), (1, .int x1), (2, .int x2), (3, .int x3), (4, .int x4), (5, .int x5)] [] σ) : ∀ (n : Nat) (x1 : Int32) (x2 : Int32) (x3 : Int32) (x4 : Int32) (x5 : Int32) (x6 : Int32) (σ : Sto), wX11_readingMore_50 post  K97 n x1 x2 x3 x4 x5 x6 σ → V E 2 mX11_readingMore (pI post) 50 [(0, .ref 67), (1, .int x1), (2, .int x2), (3, .int x3), (4, .int x4), (5, .int x5), (6, .int x6)] [] σ := by
  intro n
  induction n with
  | zero => intro x1 x2 x3 x4 x5 x6 σ h; exact h.elim
  | succ n ih =>
    intro x1 x2 x3 x4 x5 x6 σ h
    unfold wX11_readingMore_50 at h
    refine V_iload (pc := 50) 6 dX11_readingMore_50 rfl ?_
    refine V_aload_n (pc := 52) 0 dX11_readingMore_52 rfl ?_
    refine V_getI (pc := 53) dX11_readingMore_53 fl_X11_122 sh_67 rfl ?_
    refine V_icmp_ge (pc := 56) (tgt := 97) dX11_readingMore_56 (by decide) (fun hc => ?_) (fun hc => ?_)
    · replace h := h.1 hc
      exact V_loc [0, 1, 2, 3, 4, 5] rfl (HK97 x1 x2 x3 x4 x5 σ  h)
    · replace h := h.2 hc
      refine V_iload (pc := 59) 5 dX11_readingMore_59 rfl ?_
      refine V_aload_n (pc := 61) 0 dX11_readingMore_61 rfl ?_
      refine V_getR (pc := 62) dX11_readingMore_62 fl_X11_16 sh_67 rfl ?_
      refine V_iload (pc := 65) 6 dX11_readingMore_65 rfl ?_
      obtain ⟨i67, h⟩ := h
      refine V_iald (pc := 67) dX11_readingMore_67 sh_70 i67 ?_
      refine V_iload_n (pc := 68) 1 dX11_readingMore_68 rfl ?_
      refine V_icmp_ne (pc := 69) (tgt := 87) dX11_readingMore_69 (by decide) (fun hc => ?_) (fun hc => ?_)
      · replace h := h.1 hc
        refine V_loc [0, 1, 2, 3, 4, 6] rfl (vX11_readingMore_87 E post   _ ih x1 x2 x3 x4 x6 x5 σ  h)
      · replace h := h.2 hc
        refine V_aload_n (pc := 72) 0 dX11_readingMore_72 rfl ?_
        refine V_getR (pc := 73) dX11_readingMore_73 fl_X11_19 sh_67 rfl ?_
        refine V_iload (pc := 76) 6 dX11_readingMore_76 rfl ?_
        obtain ⟨i78, h⟩ := h
        refine V_iald (pc := 78) dX11_readingMore_78 sh_71 i78 ?_
        refine V_iload_n (pc := 79) 2 dX11_readingMore_79 rfl ?_
        refine V_icmp_ne (pc := 80) (tgt := 87) dX11_readingMore_80 (by decide) (fun hc => ?_) (fun hc => ?_)
        · replace h := h.1 hc
          refine V_loc [0, 1, 2, 3, 4, 6] rfl (vX11_readingMore_87 E post   _ ih x1 x2 x3 x4 x6 x5 σ  h)
        · replace h := h.2 hc
          refine V_iconst (pc := 83) (v := 1) dX11_readingMore_83 (by decide) ?_
          refine V_goto (pc := 84) (tgt := 88) dX11_readingMore_84 (by decide) ?_
          refine V_loc [0, 1, 2, 3, 4, 6] rfl (vX11_readingMore_88 E post   _ ih x1 x2 x3 x4 x6 ((1 : Int32)) x5 σ  h)
def wX11_readingMore  (x1 : Int32) (x2 : Int32) (x3 : Int32) (x4 : Int32) (σ : Sto) (post : Int32 → Sto → Prop) : Prop := wX11_isHouse  x1 σ (fun (r2 : Bool) (s2 : Sto) => ((r2 = false) → (post ((-2 : Int32)) s2)) ∧ ((r2 = true) → (wX11_isPiece  x2 s2 (fun (r9 : Bool) (s9 : Sto) => ((r9 = false) → (post ((-2 : Int32)) s9)) ∧ ((r9 = true) → (wX11_in  x3 ((0 : Int32)) (s9.1 67 0) s9 (fun (r21 : Bool) (s21 : Sto) => ((r21 = false) → (post ((-2 : Int32)) s21)) ∧ ((r21 = true) → (wX11_in  x4 ((-20000 : Int32)) ((20000 : Int32)) s21 (fun (r35 : Bool) (s35 : Sto) => ((r35 = true) → (∃ n50, wX11_readingMore_50 post  (fun (x1_1 : Int32) (x2_1 : Int32) (x3_1 : Int32) (x4_1 : Int32) (x5_1 : Int32) (σ_1 : Sto) => (((σ_1.1 67 4) = ((150 : Int32))) → (post ((-4 : Int32)) σ_1)) ∧ ((¬ ((σ_1.1 67 4) = ((150 : Int32)))) → (((¬ x5_1 = ((8 : Int32))) → (vp_in (σ_1.1 67 4) 150 ∧ (vp_in (σ_1.1 67 4) 150 ∧ (vp_in (σ_1.1 67 4) 150 ∧ (vp_in (σ_1.1 67 4) 150 ∧ (vp_in (σ_1.1 67 4) 150 ∧ (vp_in (σ_1.1 67 4) 150 ∧ (post (((σ_1.1 67 4) + ((1 : Int32))) - ((1 : Int32))) (wI (wI (wI (wI (wI (wI (wI (wI σ_1 70 (σ_1.1 67 4).toNatClampNeg x1_1) 71 (σ_1.1 67 4).toNatClampNeg x2_1) 72 (σ_1.1 67 4).toNatClampNeg x3_1) 73 (σ_1.1 67 4).toNatClampNeg x4_1) 74 (σ_1.1 67 4).toNatClampNeg (σ_1.1 67 0)) 75 (σ_1.1 67 4).toNatClampNeg ((-1 : Int32))) 67 4 ((σ_1.1 67 4) + ((1 : Int32)))) 67 13 ((0 : Int32))))))))))) ∧ ((x5_1 = ((8 : Int32))) → (post ((-4 : Int32)) σ_1))))) n50 x1 x2 x3 x4 ((0 : Int32)) ((0 : Int32)) s35)) ∧ ((r35 = false) → (post ((-2 : Int32)) s35))))))))))))
set_option maxRecDepth 100000 in
set_option maxHeartbeats 4000000 in
theorem vX11_readingMore (E : Ev)  (x1 : Int32) (x2 : Int32) (x3 : Int32) (x4 : Int32) (σ : Sto) (post : Int32 → Sto → Prop)  (h : wX11_readingMore  x1 x2 x3 x4 σ post) : V E 2 mX11_readingMore (pI post) 0 [(0, .ref 67), (1, .int x1), (2, .int x2), (3, .int x3), (4, .int x4)] [] σ := by
  unfold wX11_readingMore at h
  refine V_aload_n (pc := 0) 0 dX11_readingMore_0 rfl ?_
  refine V_iload_n (pc := 1) 1 dX11_readingMore_1 rfl ?_
  refine V_callV (pc := 2) (M' := mX11_isHouse) dX11_readingMore_2 ml_X11_115 kv_X11_isHouse ko_X11_isHouse sh_67 (by decide) (by decide) rfl rfl (Nat.le_of_ble_eq_true rfl) (Nat.le_of_ble_eq_true rfl) (vX11_isHouse E  x1 σ _  h) (kB (fun r2 s2 h => ?_))
  refine V_ifz (pc := 5) (tgt := 41) dX11_readingMore_5 (by decide) (fun hc => ?_) (fun hc => ?_)
  · replace h := h.1 hc
    refine V_bipush (pc := 41) (v := -2) dX11_readingMore_41 (by decide) ?_
    exact V_iret dX11_readingMore_43 rfl h
  · replace h := h.2 hc
    refine V_iload_n (pc := 8) 2 dX11_readingMore_8 rfl ?_
    refine V_callS (pc := 9) (M' := mX11_isPiece) dX11_readingMore_9 ml_X11_119 ks_X11_isPiece ko_X11_isPiece (by decide) rfl (Nat.le_of_ble_eq_true rfl) (Nat.le_of_ble_eq_true rfl) (vX11_isPiece E  x2 s2 _  h) (kB (fun r9 s9 h => ?_))
    refine V_ifz (pc := 12) (tgt := 41) dX11_readingMore_12 (by decide) (fun hc => ?_) (fun hc => ?_)
    · replace h := h.1 hc
      refine V_bipush (pc := 41) (v := -2) dX11_readingMore_41 (by decide) ?_
      exact V_iret dX11_readingMore_43 rfl h
    · replace h := h.2 hc
      refine V_iload_n (pc := 15) 3 dX11_readingMore_15 rfl ?_
      refine V_iconst (pc := 16) (v := 0) dX11_readingMore_16 (by decide) ?_
      refine V_aload_n (pc := 17) 0 dX11_readingMore_17 rfl ?_
      refine V_getI (pc := 18) dX11_readingMore_18 fl_X11_108 sh_67 rfl ?_
      refine V_callS (pc := 21) (M' := mX11_in) dX11_readingMore_21 ml_X11_104 ks_X11_in ko_X11_in (by decide) rfl (Nat.le_of_ble_eq_true rfl) (Nat.le_of_ble_eq_true rfl) (vX11_in E  x3 ((0 : Int32)) (s9.1 67 0) s9 _  h) (kB (fun r21 s21 h => ?_))
      refine V_ifz (pc := 24) (tgt := 41) dX11_readingMore_24 (by decide) (fun hc => ?_) (fun hc => ?_)
      · replace h := h.1 hc
        refine V_bipush (pc := 41) (v := -2) dX11_readingMore_41 (by decide) ?_
        exact V_iret dX11_readingMore_43 rfl h
      · replace h := h.2 hc
        refine V_iload (pc := 27) 4 dX11_readingMore_27 rfl ?_
        refine V_sipush (pc := 29) (v := -20000) dX11_readingMore_29 (by decide) ?_
        refine V_sipush (pc := 32) (v := 20000) dX11_readingMore_32 (by decide) ?_
        refine V_callS (pc := 35) (M' := mX11_in) dX11_readingMore_35 ml_X11_104 ks_X11_in ko_X11_in (by decide) rfl (Nat.le_of_ble_eq_true rfl) (Nat.le_of_ble_eq_true rfl) (vX11_in E  x4 ((-20000 : Int32)) ((20000 : Int32)) s21 _  h) (kB (fun r35 s35 h => ?_))
        refine V_ifnz (pc := 38) (tgt := 44) dX11_readingMore_38 (by decide) (fun hc => ?_) (fun hc => ?_)
        · replace h := h.1 hc
          refine V_iconst (pc := 44) (v := 0) dX11_readingMore_44 (by decide) ?_
          refine V_istore (pc := 45) dX11_readingMore_45 (by decide) ?_
          refine V_iconst (pc := 47) (v := 0) dX11_readingMore_47 (by decide) ?_
          refine V_istore (pc := 48) dX11_readingMore_48 (by decide) ?_
          obtain ⟨n50, h⟩ := h
          refine V_loc [2, 3, 4, 5, 6, 1, 0] rfl (vX11_readingMore_50 E post   _ (fun x1_1 x2_1 x3_1 x4_1 x5_1 σ_1 h => ?_) n50 x1 x2 x3 x4 ((0 : Int32)) ((0 : Int32)) s35  h)
          · refine V_aload_n (pc := 97) 0 dX11_readingMore_97 rfl ?_
            refine V_getI (pc := 98) dX11_readingMore_98 fl_X11_122 sh_67 rfl ?_
            refine V_sipush (pc := 101) (v := 150) dX11_readingMore_101 (by decide) ?_
            refine V_icmp_eq (pc := 104) (tgt := 114) dX11_readingMore_104 (by decide) (fun hc => ?_) (fun hc => ?_)
            · replace h := h.1 hc
              refine V_bipush (pc := 114) (v := -4) dX11_readingMore_114 (by decide) ?_
              exact V_iret dX11_readingMore_116 rfl h
            · replace h := h.2 hc
              refine V_iload (pc := 107) 5 dX11_readingMore_107 rfl ?_
              refine V_bipush (pc := 109) (v := 8) dX11_readingMore_109 (by decide) ?_
              refine V_icmp_ne (pc := 111) (tgt := 117) dX11_readingMore_111 (by decide) (fun hc => ?_) (fun hc => ?_)
              · replace h := h.1 hc
                refine V_aload_n (pc := 117) 0 dX11_readingMore_117 rfl ?_
                refine V_getR (pc := 118) dX11_readingMore_118 fl_X11_16 sh_67 rfl ?_
                refine V_aload_n (pc := 121) 0 dX11_readingMore_121 rfl ?_
                refine V_getI (pc := 122) dX11_readingMore_122 fl_X11_122 sh_67 rfl ?_
                refine V_iload_n (pc := 125) 1 dX11_readingMore_125 rfl ?_
                obtain ⟨i126, h⟩ := h
                refine V_iast (pc := 126) dX11_readingMore_126 sh_70 i126 ?_
                refine V_aload_n (pc := 127) 0 dX11_readingMore_127 rfl ?_
                refine V_getR (pc := 128) dX11_readingMore_128 fl_X11_19 sh_67 rfl ?_
                refine V_aload_n (pc := 131) 0 dX11_readingMore_131 rfl ?_
                refine V_getI (pc := 132) dX11_readingMore_132 fl_X11_122 sh_67 rfl ?_
                refine V_iload_n (pc := 135) 2 dX11_readingMore_135 rfl ?_
                obtain ⟨i136, h⟩ := h
                refine V_iast (pc := 136) dX11_readingMore_136 sh_71 i136 ?_
                refine V_aload_n (pc := 137) 0 dX11_readingMore_137 rfl ?_
                refine V_getR (pc := 138) dX11_readingMore_138 fl_X11_22 sh_67 rfl ?_
                refine V_aload_n (pc := 141) 0 dX11_readingMore_141 rfl ?_
                refine V_getI (pc := 142) dX11_readingMore_142 fl_X11_122 sh_67 rfl ?_
                refine V_iload_n (pc := 145) 3 dX11_readingMore_145 rfl ?_
                obtain ⟨i146, h⟩ := h
                refine V_iast (pc := 146) dX11_readingMore_146 sh_72 i146 ?_
                refine V_aload_n (pc := 147) 0 dX11_readingMore_147 rfl ?_
                refine V_getR (pc := 148) dX11_readingMore_148 fl_X11_25 sh_67 rfl ?_
                refine V_aload_n (pc := 151) 0 dX11_readingMore_151 rfl ?_
                refine V_getI (pc := 152) dX11_readingMore_152 fl_X11_122 sh_67 rfl ?_
                refine V_iload (pc := 155) 4 dX11_readingMore_155 rfl ?_
                obtain ⟨i157, h⟩ := h
                refine V_iast (pc := 157) dX11_readingMore_157 sh_73 i157 ?_
                refine V_aload_n (pc := 158) 0 dX11_readingMore_158 rfl ?_
                refine V_getR (pc := 159) dX11_readingMore_159 fl_X11_28 sh_67 rfl ?_
                refine V_aload_n (pc := 162) 0 dX11_readingMore_162 rfl ?_
                refine V_getI (pc := 163) dX11_readingMore_163 fl_X11_122 sh_67 rfl ?_
                refine V_aload_n (pc := 166) 0 dX11_readingMore_166 rfl ?_
                refine V_getI (pc := 167) dX11_readingMore_167 fl_X11_108 sh_67 rfl ?_
                obtain ⟨i170, h⟩ := h
                refine V_iast (pc := 170) dX11_readingMore_170 sh_74 i170 ?_
                refine V_aload_n (pc := 171) 0 dX11_readingMore_171 rfl ?_
                refine V_getR (pc := 172) dX11_readingMore_172 fl_X11_31 sh_67 rfl ?_
                refine V_aload_n (pc := 175) 0 dX11_readingMore_175 rfl ?_
                refine V_getI (pc := 176) dX11_readingMore_176 fl_X11_122 sh_67 rfl ?_
                refine V_iconst (pc := 179) (v := -1) dX11_readingMore_179 (by decide) ?_
                obtain ⟨i180, h⟩ := h
                refine V_iast (pc := 180) dX11_readingMore_180 sh_75 i180 ?_
                refine V_aload_n (pc := 181) 0 dX11_readingMore_181 rfl ?_
                refine V_dup (pc := 182) dX11_readingMore_182 rfl ?_
                refine V_getI (pc := 183) dX11_readingMore_183 fl_X11_122 sh_67 rfl ?_
                refine V_iconst (pc := 186) (v := 1) dX11_readingMore_186 (by decide) ?_
                refine V_iadd (pc := 187) dX11_readingMore_187 ?_
                refine V_putI (pc := 188) dX11_readingMore_188 fl_X11_122 po_X11_4 sh_67 rfl rfl rfl ?_
                refine V_aload_n (pc := 191) 0 dX11_readingMore_191 rfl ?_
                refine V_iconst (pc := 192) (v := 0) dX11_readingMore_192 (by decide) ?_
                refine V_putI (pc := 193) dX11_readingMore_193 fl_X11_111 po_X11_13 sh_67 rfl (by decide) (by decide) ?_
                refine V_aload_n (pc := 196) 0 dX11_readingMore_196 rfl ?_
                refine V_getI (pc := 197) dX11_readingMore_197 fl_X11_122 sh_67 rfl ?_
                refine V_iconst (pc := 200) (v := 1) dX11_readingMore_200 (by decide) ?_
                refine V_isub (pc := 201) dX11_readingMore_201 ?_
                exact V_iret dX11_readingMore_202 rfl h
              · replace h := h.2 hc
                refine V_bipush (pc := 114) (v := -4) dX11_readingMore_114 (by decide) ?_
                exact V_iret dX11_readingMore_116 rfl h
        · replace h := h.2 hc
          refine V_bipush (pc := 41) (v := -2) dX11_readingMore_41 (by decide) ?_
          exact V_iret dX11_readingMore_43 rfl h
theorem dX11_reading_0 : decode cX11_reading 0 = .ok (.aload_n 0, 1) := by decide +kernel
theorem dX11_reading_1 : decode cX11_reading 1 = .ok (.iload_n 1, 1) := by decide +kernel
theorem dX11_reading_2 : decode cX11_reading 2 = .ok (.iload_n 2, 1) := by decide +kernel
theorem dX11_reading_3 : decode cX11_reading 3 = .ok (.iload_n 3, 1) := by decide +kernel
theorem dX11_reading_4 : decode cX11_reading 4 = .ok (.iload 4, 2) := by decide +kernel
theorem dX11_reading_6 : decode cX11_reading 6 = .ok (.invokevirtual 125, 3) := by decide +kernel
theorem dX11_reading_9 : decode cX11_reading 9 = .ok (.ireturn, 1) := by decide +kernel
def wX11_reading  (x1 : Int32) (x2 : Int32) (x3 : Int32) (x4 : Int32) (σ : Sto) (post : Int32 → Sto → Prop) : Prop := wX11_readingMore  x1 x2 x3 x4 σ (fun (r6 : Int32) (s6 : Sto) => post r6 s6)
set_option maxRecDepth 100000 in
set_option maxHeartbeats 4000000 in
theorem vX11_reading (E : Ev)  (x1 : Int32) (x2 : Int32) (x3 : Int32) (x4 : Int32) (σ : Sto) (post : Int32 → Sto → Prop)  (h : wX11_reading  x1 x2 x3 x4 σ post) : V E 3 mX11_reading (pI post) 0 [(0, .ref 67), (1, .int x1), (2, .int x2), (3, .int x3), (4, .int x4)] [] σ := by
  unfold wX11_reading at h
  refine V_aload_n (pc := 0) 0 dX11_reading_0 rfl ?_
  refine V_iload_n (pc := 1) 1 dX11_reading_1 rfl ?_
  refine V_iload_n (pc := 2) 2 dX11_reading_2 rfl ?_
  refine V_iload_n (pc := 3) 3 dX11_reading_3 rfl ?_
  refine V_iload (pc := 4) 4 dX11_reading_4 rfl ?_
  refine V_callV (pc := 6) (M' := mX11_readingMore) dX11_reading_6 ml_X11_125 kv_X11_readingMore ko_X11_readingMore sh_67 (by decide) (by decide) rfl rfl (Nat.le_of_ble_eq_true rfl) (Nat.le_of_ble_eq_true rfl) (vX11_readingMore E  x1 x2 x3 x4 σ _  h) (kI (fun r6 s6 h => ?_))
  exact V_iret dX11_reading_9 rfl h
theorem dX11_isSheet_0 : decode cX11_isSheet 0 = .ok (.iload_n 0, 1) := by decide +kernel
theorem dX11_isSheet_1 : decode cX11_isSheet 1 = .ok (.iconst 0, 1) := by decide +kernel
theorem dX11_isSheet_2 : decode cX11_isSheet 2 = .ok (.iconst 3, 1) := by decide +kernel
theorem dX11_isSheet_3 : decode cX11_isSheet 3 = .ok (.invokestatic 104, 3) := by decide +kernel
theorem dX11_isSheet_6 : decode cX11_isSheet 6 = .ok (.ireturn, 1) := by decide +kernel
def wX11_isSheet  (x0 : Int32) (σ : Sto) (post : Bool → Sto → Prop) : Prop := wX11_in  x0 ((0 : Int32)) ((3 : Int32)) σ (fun (r3 : Bool) (s3 : Sto) => post r3 s3)
set_option maxRecDepth 100000 in
set_option maxHeartbeats 4000000 in
theorem vX11_isSheet (E : Ev)  (x0 : Int32) (σ : Sto) (post : Bool → Sto → Prop)  (h : wX11_isSheet  x0 σ post) : V E 1 mX11_isSheet (pB post) 0 [(0, .int x0)] [] σ := by
  unfold wX11_isSheet at h
  refine V_iload_n (pc := 0) 0 dX11_isSheet_0 rfl ?_
  refine V_iconst (pc := 1) (v := 0) dX11_isSheet_1 (by decide) ?_
  refine V_iconst (pc := 2) (v := 3) dX11_isSheet_2 (by decide) ?_
  refine V_callS (pc := 3) (M' := mX11_in) dX11_isSheet_3 ml_X11_104 ks_X11_in ko_X11_in (by decide) rfl (Nat.le_of_ble_eq_true rfl) (Nat.le_of_ble_eq_true rfl) (vX11_in E  x0 ((0 : Int32)) ((3 : Int32)) σ _  h) (kB (fun r3 s3 h => ?_))
  exact V_zret r3 rfl dX11_isSheet_6 rfl h
theorem dX11_meets_0 : decode cX11_meets 0 = .ok (.aload_n 0, 1) := by decide +kernel
theorem dX11_meets_1 : decode cX11_meets 1 = .ok (.iload_n 1, 1) := by decide +kernel
theorem dX11_meets_2 : decode cX11_meets 2 = .ok (.putfield 342, 3) := by decide +kernel
theorem dX11_meets_5 : decode cX11_meets 5 = .ok (.bipush (-10), 2) := by decide +kernel
theorem dX11_meets_7 : decode cX11_meets 7 = .ok (.iload_n 1, 1) := by decide +kernel
theorem dX11_meets_8 : decode cX11_meets 8 = .ok (.isub, 1) := by decide +kernel
theorem dX11_meets_9 : decode cX11_meets 9 = .ok (.ireturn, 1) := by decide +kernel
def wX11_meets  (x1 : Int32) (σ : Sto) (post : Int32 → Sto → Prop) : Prop := post (((-10 : Int32)) - x1) (wI σ 67 41 x1)
set_option maxRecDepth 100000 in
set_option maxHeartbeats 4000000 in
theorem vX11_meets (E : Ev)  (x1 : Int32) (σ : Sto) (post : Int32 → Sto → Prop)  (h : wX11_meets  x1 σ post) : V E 0 mX11_meets (pI post) 0 [(0, .ref 67), (1, .int x1)] [] σ := by
  unfold wX11_meets at h
  refine V_aload_n (pc := 0) 0 dX11_meets_0 rfl ?_
  refine V_iload_n (pc := 1) 1 dX11_meets_1 rfl ?_
  refine V_putI (pc := 2) dX11_meets_2 fl_X11_342 po_X11_41 sh_67 rfl rfl rfl ?_
  refine V_bipush (pc := 5) (v := -10) dX11_meets_5 (by decide) ?_
  refine V_iload_n (pc := 7) 1 dX11_meets_7 rfl ?_
  refine V_isub (pc := 8) dX11_meets_8 ?_
  exact V_iret dX11_meets_9 rfl h
theorem dX11_read_0 : decode cX11_read 0 = .ok (.iload_n 1, 1) := by decide +kernel
theorem dX11_read_1 : decode cX11_read 1 = .ok (.invokestatic 129, 3) := by decide +kernel
theorem dX11_read_4 : decode cX11_read 4 = .ok (.ifCond .ne 6, 3) := by decide +kernel
theorem dX11_read_7 : decode cX11_read 7 = .ok (.bipush (-2), 2) := by decide +kernel
theorem dX11_read_9 : decode cX11_read 9 = .ok (.ireturn, 1) := by decide +kernel
theorem dX11_read_10 : decode cX11_read 10 = .ok (.aload_n 0, 1) := by decide +kernel
theorem dX11_read_11 : decode cX11_read 11 = .ok (.getfield 72, 3) := by decide +kernel
theorem dX11_read_14 : decode cX11_read 14 = .ok (.iload_n 1, 1) := by decide +kernel
theorem dX11_read_15 : decode cX11_read 15 = .ok (.baload, 1) := by decide +kernel
theorem dX11_read_16 : decode cX11_read 16 = .ok (.ifCond .ne 9, 3) := by decide +kernel
theorem dX11_read_19 : decode cX11_read 19 = .ok (.aload_n 0, 1) := by decide +kernel
theorem dX11_read_20 : decode cX11_read 20 = .ok (.iconst 1, 1) := by decide +kernel
theorem dX11_read_21 : decode cX11_read 21 = .ok (.invokevirtual 132, 3) := by decide +kernel
theorem dX11_read_24 : decode cX11_read 24 = .ok (.ireturn, 1) := by decide +kernel
theorem dX11_read_25 : decode cX11_read 25 = .ok (.iconst 0, 1) := by decide +kernel
theorem dX11_read_26 : decode cX11_read 26 = .ok (.istore_n 2, 1) := by decide +kernel
theorem dX11_read_27 : decode cX11_read 27 = .ok (.bipush 60, 2) := by decide +kernel
theorem dX11_read_29 : decode cX11_read 29 = .ok (.iload_n 1, 1) := by decide +kernel
theorem dX11_read_30 : decode cX11_read 30 = .ok (.imul, 1) := by decide +kernel
theorem dX11_read_31 : decode cX11_read 31 = .ok (.istore_n 3, 1) := by decide +kernel
theorem dX11_read_32 : decode cX11_read 32 = .ok (.iload_n 3, 1) := by decide +kernel
theorem dX11_read_33 : decode cX11_read 33 = .ok (.iconst 3, 1) := by decide +kernel
theorem dX11_read_34 : decode cX11_read 34 = .ok (.iadd, 1) := by decide +kernel
theorem dX11_read_35 : decode cX11_read 35 = .ok (.bipush 60, 2) := by decide +kernel
theorem dX11_read_37 : decode cX11_read 37 = .ok (.iload_n 1, 1) := by decide +kernel
theorem dX11_read_38 : decode cX11_read 38 = .ok (.imul, 1) := by decide +kernel
theorem dX11_read_39 : decode cX11_read 39 = .ok (.aload_n 0, 1) := by decide +kernel
theorem dX11_read_40 : decode cX11_read 40 = .ok (.getfield 79, 3) := by decide +kernel
theorem dX11_read_43 : decode cX11_read 43 = .ok (.iload_n 1, 1) := by decide +kernel
theorem dX11_read_44 : decode cX11_read 44 = .ok (.iaload, 1) := by decide +kernel
theorem dX11_read_45 : decode cX11_read 45 = .ok (.iadd, 1) := by decide +kernel
theorem dX11_read_46 : decode cX11_read 46 = .ok (.if_icmp .ge 51, 3) := by decide +kernel
theorem dX11_read_49 : decode cX11_read 49 = .ok (.aload_n 0, 1) := by decide +kernel
theorem dX11_read_50 : decode cX11_read 50 = .ok (.aload_n 0, 1) := by decide +kernel
theorem dX11_read_51 : decode cX11_read 51 = .ok (.getfield 82, 3) := by decide +kernel
theorem dX11_read_54 : decode cX11_read 54 = .ok (.iload_n 3, 1) := by decide +kernel
theorem dX11_read_55 : decode cX11_read 55 = .ok (.iaload, 1) := by decide +kernel
theorem dX11_read_56 : decode cX11_read 56 = .ok (.aload_n 0, 1) := by decide +kernel
theorem dX11_read_57 : decode cX11_read 57 = .ok (.getfield 82, 3) := by decide +kernel
theorem dX11_read_60 : decode cX11_read 60 = .ok (.iload_n 3, 1) := by decide +kernel
theorem dX11_read_61 : decode cX11_read 61 = .ok (.iconst 1, 1) := by decide +kernel
theorem dX11_read_62 : decode cX11_read 62 = .ok (.iadd, 1) := by decide +kernel
theorem dX11_read_63 : decode cX11_read 63 = .ok (.iaload, 1) := by decide +kernel
theorem dX11_read_64 : decode cX11_read 64 = .ok (.aload_n 0, 1) := by decide +kernel
theorem dX11_read_65 : decode cX11_read 65 = .ok (.getfield 82, 3) := by decide +kernel
theorem dX11_read_68 : decode cX11_read 68 = .ok (.iload_n 3, 1) := by decide +kernel
theorem dX11_read_69 : decode cX11_read 69 = .ok (.iconst 2, 1) := by decide +kernel
theorem dX11_read_70 : decode cX11_read 70 = .ok (.iadd, 1) := by decide +kernel
theorem dX11_read_71 : decode cX11_read 71 = .ok (.iaload, 1) := by decide +kernel
theorem dX11_read_72 : decode cX11_read 72 = .ok (.aload_n 0, 1) := by decide +kernel
theorem dX11_read_73 : decode cX11_read 73 = .ok (.getfield 82, 3) := by decide +kernel
theorem dX11_read_76 : decode cX11_read 76 = .ok (.iload_n 3, 1) := by decide +kernel
theorem dX11_read_77 : decode cX11_read 77 = .ok (.iconst 3, 1) := by decide +kernel
theorem dX11_read_78 : decode cX11_read 78 = .ok (.iadd, 1) := by decide +kernel
theorem dX11_read_79 : decode cX11_read 79 = .ok (.iaload, 1) := by decide +kernel
theorem dX11_read_80 : decode cX11_read 80 = .ok (.invokevirtual 125, 3) := by decide +kernel
theorem dX11_read_83 : decode cX11_read 83 = .ok (.ifCond .ge 5, 3) := by decide +kernel
theorem dX11_read_86 : decode cX11_read 86 = .ok (.iload_n 2, 1) := by decide +kernel
theorem dX11_read_87 : decode cX11_read 87 = .ok (.ireturn, 1) := by decide +kernel
theorem dX11_read_88 : decode cX11_read 88 = .ok (.iinc 2 1, 3) := by decide +kernel
theorem dX11_read_91 : decode cX11_read 91 = .ok (.iinc 3 4, 3) := by decide +kernel
theorem dX11_read_94 : decode cX11_read 94 = .ok (.goto (-62), 3) := by decide +kernel
theorem dX11_read_97 : decode cX11_read 97 = .ok (.iload_n 2, 1) := by decide +kernel
theorem dX11_read_98 : decode cX11_read 98 = .ok (.ireturn, 1) := by decide +kernel
def wX11_read_32 (post : Int32 → Sto → Prop)  (K97 : Int32 → Sto → Prop) (K86 : Int32 → Sto → Prop) : Nat → Int32 → Int32 → Int32 → Sto → Prop
  | 0, _, _, _, _ => False
  | n + 1, x1, x2, x3, σ => vp_in x1 4 ∧ (((((((60 : Int32)) * x1) + (σ.1 88 x1.toNatClampNeg)) ≤ (x3 + ((3 : Int32)))) → (K97 x2 σ)) ∧ ((¬ (((((60 : Int32)) * x1) + (σ.1 88 x1.toNatClampNeg)) ≤ (x3 + ((3 : Int32))))) → (vp_in x3 240 ∧ (vp_in (x3 + ((1 : Int32))) 240 ∧ (vp_in (x3 + ((2 : Int32))) 240 ∧ (vp_in (x3 + ((3 : Int32))) 240 ∧ (wX11_readingMore  (σ.1 89 x3.toNatClampNeg) (σ.1 89 (x3 + ((1 : Int32))).toNatClampNeg) (σ.1 89 (x3 + ((2 : Int32))).toNatClampNeg) (σ.1 89 (x3 + ((3 : Int32))).toNatClampNeg) σ (fun (r80 : Int32) (s80 : Sto) => ((0 ≤ r80) → (wX11_read_32 post  K97 K86 n x1 (x2 + (1 : Int32)) (x3 + (4 : Int32)) s80)) ∧ ((¬ (0 ≤ r80)) → (K86 x2 s80))))))))))
set_option maxRecDepth 100000 in
set_option maxHeartbeats 4000000 in
theorem vX11_read_32 (E : Ev) (post : Int32 → Sto → Prop)   (K97 : Int32 → Sto → Prop) (K86 : Int32 → Sto → Prop) (HK97 : ∀ (x2 : Int32) (σ : Sto), K97 x2 σ → V E 3 mX11_read (pI post) 97 [(2, .int x2)] [] σ) (HK86 : ∀ (x2 : Int32) (σ : Sto), K86 x2 σ → V E 3 mX11_read (pI post) 86 [(2, .int x2)] [] σ) : ∀ (n : Nat) (x1 : Int32) (x2 : Int32) (x3 : Int32) (σ : Sto), wX11_read_32 post  K97 K86 n x1 x2 x3 σ → V E 3 mX11_read (pI post) 32 [(0, .ref 67), (1, .int x1), (2, .int x2), (3, .int x3)] [] σ := by
  intro n
  induction n with
  | zero => intro x1 x2 x3 σ h; exact h.elim
  | succ n ih =>
    intro x1 x2 x3 σ h
    unfold wX11_read_32 at h
    refine V_iload_n (pc := 32) 3 dX11_read_32 rfl ?_
    refine V_iconst (pc := 33) (v := 3) dX11_read_33 (by decide) ?_
    refine V_iadd (pc := 34) dX11_read_34 ?_
    refine V_bipush (pc := 35) (v := 60) dX11_read_35 (by decide) ?_
    refine V_iload_n (pc := 37) 1 dX11_read_37 rfl ?_
    refine V_imul (pc := 38) dX11_read_38 ?_
    refine V_aload_n (pc := 39) 0 dX11_read_39 rfl ?_
    refine V_getR (pc := 40) dX11_read_40 fl_X11_79 sh_67 rfl ?_
    refine V_iload_n (pc := 43) 1 dX11_read_43 rfl ?_
    obtain ⟨i44, h⟩ := h
    refine V_iald (pc := 44) dX11_read_44 sh_88 i44 ?_
    refine V_iadd (pc := 45) dX11_read_45 ?_
    refine V_icmp_ge (pc := 46) (tgt := 97) dX11_read_46 (by decide) (fun hc => ?_) (fun hc => ?_)
    · replace h := h.1 hc
      exact V_loc [2] rfl (HK97 x2 σ  h)
    · replace h := h.2 hc
      refine V_aload_n (pc := 49) 0 dX11_read_49 rfl ?_
      refine V_aload_n (pc := 50) 0 dX11_read_50 rfl ?_
      refine V_getR (pc := 51) dX11_read_51 fl_X11_82 sh_67 rfl ?_
      refine V_iload_n (pc := 54) 3 dX11_read_54 rfl ?_
      obtain ⟨i55, h⟩ := h
      refine V_iald (pc := 55) dX11_read_55 sh_89 i55 ?_
      refine V_aload_n (pc := 56) 0 dX11_read_56 rfl ?_
      refine V_getR (pc := 57) dX11_read_57 fl_X11_82 sh_67 rfl ?_
      refine V_iload_n (pc := 60) 3 dX11_read_60 rfl ?_
      refine V_iconst (pc := 61) (v := 1) dX11_read_61 (by decide) ?_
      refine V_iadd (pc := 62) dX11_read_62 ?_
      obtain ⟨i63, h⟩ := h
      refine V_iald (pc := 63) dX11_read_63 sh_89 i63 ?_
      refine V_aload_n (pc := 64) 0 dX11_read_64 rfl ?_
      refine V_getR (pc := 65) dX11_read_65 fl_X11_82 sh_67 rfl ?_
      refine V_iload_n (pc := 68) 3 dX11_read_68 rfl ?_
      refine V_iconst (pc := 69) (v := 2) dX11_read_69 (by decide) ?_
      refine V_iadd (pc := 70) dX11_read_70 ?_
      obtain ⟨i71, h⟩ := h
      refine V_iald (pc := 71) dX11_read_71 sh_89 i71 ?_
      refine V_aload_n (pc := 72) 0 dX11_read_72 rfl ?_
      refine V_getR (pc := 73) dX11_read_73 fl_X11_82 sh_67 rfl ?_
      refine V_iload_n (pc := 76) 3 dX11_read_76 rfl ?_
      refine V_iconst (pc := 77) (v := 3) dX11_read_77 (by decide) ?_
      refine V_iadd (pc := 78) dX11_read_78 ?_
      obtain ⟨i79, h⟩ := h
      refine V_iald (pc := 79) dX11_read_79 sh_89 i79 ?_
      refine V_callV (pc := 80) (M' := mX11_readingMore) dX11_read_80 ml_X11_125 kv_X11_readingMore ko_X11_readingMore sh_67 (by decide) (by decide) rfl rfl (Nat.le_of_ble_eq_true rfl) (Nat.le_of_ble_eq_true rfl) (vX11_readingMore E  (σ.1 89 x3.toNatClampNeg) (σ.1 89 (x3 + ((1 : Int32))).toNatClampNeg) (σ.1 89 (x3 + ((2 : Int32))).toNatClampNeg) (σ.1 89 (x3 + ((3 : Int32))).toNatClampNeg) σ _  h) (kI (fun r80 s80 h => ?_))
      refine V_if_ge (pc := 83) (tgt := 88) dX11_read_83 (by decide) (fun hc => ?_) (fun hc => ?_)
      · replace h := h.1 hc
        refine V_iinc (pc := 88) 2 (v := 1) dX11_read_88 rfl (by decide) (by decide) ?_
        refine V_iinc (pc := 91) 3 (v := 4) dX11_read_91 rfl (by decide) (by decide) ?_
        refine V_goto (pc := 94) (tgt := 32) dX11_read_94 (by decide) ?_
        exact V_loc [2, 3, 1, 0] rfl (ih x1 (x2 + (1 : Int32)) (x3 + (4 : Int32)) s80  h)
      · replace h := h.2 hc
        exact V_loc [2] rfl (HK86 x2 s80  h)
def wX11_read  (x1 : Int32) (σ : Sto) (post : Int32 → Sto → Prop) : Prop := wX11_isSheet  x1 σ (fun (r1 : Bool) (s1 : Sto) => ((r1 = true) → (vp_in x1 4 ∧ (((¬ (s1.1 86 x1.toNatClampNeg) = 0) → (∃ n32, wX11_read_32 post  (fun (x2_1 : Int32) (σ_1 : Sto) => post x2_1 σ_1) (fun (x2_2 : Int32) (σ_2 : Sto) => post x2_2 σ_2) n32 x1 ((0 : Int32)) (((60 : Int32)) * x1) s1)) ∧ (((s1.1 86 x1.toNatClampNeg) = 0) → (wX11_meets  ((1 : Int32)) s1 (fun (r21 : Int32) (s21 : Sto) => post r21 s21)))))) ∧ ((r1 = false) → (post ((-2 : Int32)) s1)))
set_option maxRecDepth 100000 in
set_option maxHeartbeats 4000000 in
theorem vX11_read (E : Ev)  (x1 : Int32) (σ : Sto) (post : Int32 → Sto → Prop)  (h : wX11_read  x1 σ post) : V E 3 mX11_read (pI post) 0 [(0, .ref 67), (1, .int x1)] [] σ := by
  unfold wX11_read at h
  refine V_iload_n (pc := 0) 1 dX11_read_0 rfl ?_
  refine V_callS (pc := 1) (M' := mX11_isSheet) dX11_read_1 ml_X11_129 ks_X11_isSheet ko_X11_isSheet (by decide) rfl (Nat.le_of_ble_eq_true rfl) (Nat.le_of_ble_eq_true rfl) (vX11_isSheet E  x1 σ _  h) (kB (fun r1 s1 h => ?_))
  refine V_ifnz (pc := 4) (tgt := 10) dX11_read_4 (by decide) (fun hc => ?_) (fun hc => ?_)
  · replace h := h.1 hc
    refine V_aload_n (pc := 10) 0 dX11_read_10 rfl ?_
    refine V_getR (pc := 11) dX11_read_11 fl_X11_72 sh_67 rfl ?_
    refine V_iload_n (pc := 14) 1 dX11_read_14 rfl ?_
    obtain ⟨i15, h⟩ := h
    refine V_zald (pc := 15) dX11_read_15 sh_86 i15 ?_
    refine V_if_ne (pc := 16) (tgt := 25) dX11_read_16 (by decide) (fun hc => ?_) (fun hc => ?_)
    · replace h := h.1 hc
      refine V_iconst (pc := 25) (v := 0) dX11_read_25 (by decide) ?_
      refine V_istore_n (pc := 26) dX11_read_26 (by decide) ?_
      refine V_bipush (pc := 27) (v := 60) dX11_read_27 (by decide) ?_
      refine V_iload_n (pc := 29) 2 dX11_read_29 rfl ?_
      refine V_imul (pc := 30) dX11_read_30 ?_
      refine V_istore_n (pc := 31) dX11_read_31 (by decide) ?_
      obtain ⟨n32, h⟩ := h
      refine V_loc [2, 3, 1, 0] rfl (vX11_read_32 E post   _ _ (fun x2_1 σ_1 h => ?_) (fun x2_2 σ_2 h => ?_) n32 x1 ((0 : Int32)) (((60 : Int32)) * x1) s1  h)
      · refine V_iload_n (pc := 97) 0 dX11_read_97 rfl ?_
        exact V_iret dX11_read_98 rfl h
      · refine V_iload_n (pc := 86) 0 dX11_read_86 rfl ?_
        exact V_iret dX11_read_87 rfl h
    · replace h := h.2 hc
      refine V_aload_n (pc := 19) 0 dX11_read_19 rfl ?_
      refine V_iconst (pc := 20) (v := 1) dX11_read_20 (by decide) ?_
      refine V_callV (pc := 21) (M' := mX11_meets) dX11_read_21 ml_X11_132 kv_X11_meets ko_X11_meets sh_67 (by decide) (by decide) rfl rfl (Nat.le_of_ble_eq_true rfl) (Nat.le_of_ble_eq_true rfl) (vX11_meets E  ((1 : Int32)) s1 _  h) (kI (fun r21 s21 h => ?_))
      exact V_iret dX11_read_24 rfl h
  · replace h := h.2 hc
    refine V_bipush (pc := 7) (v := -2) dX11_read_7 (by decide) ?_
    exact V_iret dX11_read_9 rfl h
theorem dX11_takeBack_0 : decode cX11_takeBack 0 = .ok (.iload_n 1, 1) := by decide +kernel
theorem dX11_takeBack_1 : decode cX11_takeBack 1 = .ok (.iconst 0, 1) := by decide +kernel
theorem dX11_takeBack_2 : decode cX11_takeBack 2 = .ok (.aload_n 0, 1) := by decide +kernel
theorem dX11_takeBack_3 : decode cX11_takeBack 3 = .ok (.getfield 122, 3) := by decide +kernel
theorem dX11_takeBack_6 : decode cX11_takeBack 6 = .ok (.iconst 1, 1) := by decide +kernel
theorem dX11_takeBack_7 : decode cX11_takeBack 7 = .ok (.isub, 1) := by decide +kernel
theorem dX11_takeBack_8 : decode cX11_takeBack 8 = .ok (.invokestatic 104, 3) := by decide +kernel
theorem dX11_takeBack_11 : decode cX11_takeBack 11 = .ok (.ifCond .ne 6, 3) := by decide +kernel
theorem dX11_takeBack_14 : decode cX11_takeBack 14 = .ok (.bipush (-2), 2) := by decide +kernel
theorem dX11_takeBack_16 : decode cX11_takeBack 16 = .ok (.ireturn, 1) := by decide +kernel
theorem dX11_takeBack_17 : decode cX11_takeBack 17 = .ok (.aload_n 0, 1) := by decide +kernel
theorem dX11_takeBack_18 : decode cX11_takeBack 18 = .ok (.getfield 31, 3) := by decide +kernel
theorem dX11_takeBack_21 : decode cX11_takeBack 21 = .ok (.iload_n 1, 1) := by decide +kernel
theorem dX11_takeBack_22 : decode cX11_takeBack 22 = .ok (.iaload, 1) := by decide +kernel
theorem dX11_takeBack_23 : decode cX11_takeBack 23 = .ok (.iconst (-1), 1) := by decide +kernel
theorem dX11_takeBack_24 : decode cX11_takeBack 24 = .ok (.if_icmp .eq 6, 3) := by decide +kernel
theorem dX11_takeBack_27 : decode cX11_takeBack 27 = .ok (.bipush (-3), 2) := by decide +kernel
theorem dX11_takeBack_29 : decode cX11_takeBack 29 = .ok (.ireturn, 1) := by decide +kernel
theorem dX11_takeBack_30 : decode cX11_takeBack 30 = .ok (.aload_n 0, 1) := by decide +kernel
theorem dX11_takeBack_31 : decode cX11_takeBack 31 = .ok (.getfield 31, 3) := by decide +kernel
theorem dX11_takeBack_34 : decode cX11_takeBack 34 = .ok (.iload_n 1, 1) := by decide +kernel
theorem dX11_takeBack_35 : decode cX11_takeBack 35 = .ok (.aload_n 0, 1) := by decide +kernel
theorem dX11_takeBack_36 : decode cX11_takeBack 36 = .ok (.getfield 108, 3) := by decide +kernel
theorem dX11_takeBack_39 : decode cX11_takeBack 39 = .ok (.iastore, 1) := by decide +kernel
theorem dX11_takeBack_40 : decode cX11_takeBack 40 = .ok (.aload_n 0, 1) := by decide +kernel
theorem dX11_takeBack_41 : decode cX11_takeBack 41 = .ok (.iconst 0, 1) := by decide +kernel
theorem dX11_takeBack_42 : decode cX11_takeBack 42 = .ok (.putfield 111, 3) := by decide +kernel
theorem dX11_takeBack_45 : decode cX11_takeBack 45 = .ok (.iconst 1, 1) := by decide +kernel
theorem dX11_takeBack_46 : decode cX11_takeBack 46 = .ok (.ireturn, 1) := by decide +kernel
def wX11_takeBack  (x1 : Int32) (σ : Sto) (post : Int32 → Sto → Prop) : Prop := wX11_in  x1 ((0 : Int32)) ((σ.1 67 4) - ((1 : Int32))) σ (fun (r8 : Bool) (s8 : Sto) => ((r8 = true) → (vp_in x1 150 ∧ ((((s8.1 75 x1.toNatClampNeg) = ((-1 : Int32))) → (vp_in x1 150 ∧ (post ((1 : Int32)) (wI (wI s8 75 x1.toNatClampNeg (s8.1 67 0)) 67 13 ((0 : Int32)))))) ∧ ((¬ ((s8.1 75 x1.toNatClampNeg) = ((-1 : Int32)))) → (post ((-3 : Int32)) s8))))) ∧ ((r8 = false) → (post ((-2 : Int32)) s8)))
set_option maxRecDepth 100000 in
set_option maxHeartbeats 4000000 in
theorem vX11_takeBack (E : Ev)  (x1 : Int32) (σ : Sto) (post : Int32 → Sto → Prop)  (h : wX11_takeBack  x1 σ post) : V E 1 mX11_takeBack (pI post) 0 [(0, .ref 67), (1, .int x1)] [] σ := by
  unfold wX11_takeBack at h
  refine V_iload_n (pc := 0) 1 dX11_takeBack_0 rfl ?_
  refine V_iconst (pc := 1) (v := 0) dX11_takeBack_1 (by decide) ?_
  refine V_aload_n (pc := 2) 0 dX11_takeBack_2 rfl ?_
  refine V_getI (pc := 3) dX11_takeBack_3 fl_X11_122 sh_67 rfl ?_
  refine V_iconst (pc := 6) (v := 1) dX11_takeBack_6 (by decide) ?_
  refine V_isub (pc := 7) dX11_takeBack_7 ?_
  refine V_callS (pc := 8) (M' := mX11_in) dX11_takeBack_8 ml_X11_104 ks_X11_in ko_X11_in (by decide) rfl (Nat.le_of_ble_eq_true rfl) (Nat.le_of_ble_eq_true rfl) (vX11_in E  x1 ((0 : Int32)) ((σ.1 67 4) - ((1 : Int32))) σ _  h) (kB (fun r8 s8 h => ?_))
  refine V_ifnz (pc := 11) (tgt := 17) dX11_takeBack_11 (by decide) (fun hc => ?_) (fun hc => ?_)
  · replace h := h.1 hc
    refine V_aload_n (pc := 17) 0 dX11_takeBack_17 rfl ?_
    refine V_getR (pc := 18) dX11_takeBack_18 fl_X11_31 sh_67 rfl ?_
    refine V_iload_n (pc := 21) 1 dX11_takeBack_21 rfl ?_
    obtain ⟨i22, h⟩ := h
    refine V_iald (pc := 22) dX11_takeBack_22 sh_75 i22 ?_
    refine V_iconst (pc := 23) (v := -1) dX11_takeBack_23 (by decide) ?_
    refine V_icmp_eq (pc := 24) (tgt := 30) dX11_takeBack_24 (by decide) (fun hc => ?_) (fun hc => ?_)
    · replace h := h.1 hc
      refine V_aload_n (pc := 30) 0 dX11_takeBack_30 rfl ?_
      refine V_getR (pc := 31) dX11_takeBack_31 fl_X11_31 sh_67 rfl ?_
      refine V_iload_n (pc := 34) 1 dX11_takeBack_34 rfl ?_
      refine V_aload_n (pc := 35) 0 dX11_takeBack_35 rfl ?_
      refine V_getI (pc := 36) dX11_takeBack_36 fl_X11_108 sh_67 rfl ?_
      obtain ⟨i39, h⟩ := h
      refine V_iast (pc := 39) dX11_takeBack_39 sh_75 i39 ?_
      refine V_aload_n (pc := 40) 0 dX11_takeBack_40 rfl ?_
      refine V_iconst (pc := 41) (v := 0) dX11_takeBack_41 (by decide) ?_
      refine V_putI (pc := 42) dX11_takeBack_42 fl_X11_111 po_X11_13 sh_67 rfl (by decide) (by decide) ?_
      refine V_iconst (pc := 45) (v := 1) dX11_takeBack_45 (by decide) ?_
      exact V_iret dX11_takeBack_46 rfl h
    · replace h := h.2 hc
      refine V_bipush (pc := 27) (v := -3) dX11_takeBack_27 (by decide) ?_
      exact V_iret dX11_takeBack_29 rfl h
  · replace h := h.2 hc
    refine V_bipush (pc := 14) (v := -2) dX11_takeBack_14 (by decide) ?_
    exact V_iret dX11_takeBack_16 rfl h
theorem dX11_about_0 : decode cX11_about 0 = .ok (.iload_n 1, 1) := by decide +kernel
theorem dX11_about_1 : decode cX11_about 1 = .ok (.iconst 0, 1) := by decide +kernel
theorem dX11_about_2 : decode cX11_about 2 = .ok (.aload_n 0, 1) := by decide +kernel
theorem dX11_about_3 : decode cX11_about 3 = .ok (.getfield 122, 3) := by decide +kernel
theorem dX11_about_6 : decode cX11_about 6 = .ok (.iconst 1, 1) := by decide +kernel
theorem dX11_about_7 : decode cX11_about 7 = .ok (.isub, 1) := by decide +kernel
theorem dX11_about_8 : decode cX11_about 8 = .ok (.invokestatic 104, 3) := by decide +kernel
theorem dX11_about_11 : decode cX11_about 11 = .ok (.ifCond .ne 7, 3) := by decide +kernel
theorem dX11_about_14 : decode cX11_about 14 = .ok (.sipush (-30000), 3) := by decide +kernel
theorem dX11_about_17 : decode cX11_about 17 = .ok (.ireturn, 1) := by decide +kernel
theorem dX11_about_18 : decode cX11_about 18 = .ok (.iload_n 2, 1) := by decide +kernel
theorem dX11_about_19 : decode cX11_about 19 = .ok (.tableswitch 97 0 6 #[41, 48, 55, 62, 69, 76, 83], 41) := by decide +kernel
theorem dX11_about_60 : decode cX11_about 60 = .ok (.aload_n 0, 1) := by decide +kernel
theorem dX11_about_61 : decode cX11_about 61 = .ok (.getfield 16, 3) := by decide +kernel
theorem dX11_about_64 : decode cX11_about 64 = .ok (.iload_n 1, 1) := by decide +kernel
theorem dX11_about_65 : decode cX11_about 65 = .ok (.iaload, 1) := by decide +kernel
theorem dX11_about_66 : decode cX11_about 66 = .ok (.ireturn, 1) := by decide +kernel
theorem dX11_about_67 : decode cX11_about 67 = .ok (.aload_n 0, 1) := by decide +kernel
theorem dX11_about_68 : decode cX11_about 68 = .ok (.getfield 19, 3) := by decide +kernel
theorem dX11_about_71 : decode cX11_about 71 = .ok (.iload_n 1, 1) := by decide +kernel
theorem dX11_about_72 : decode cX11_about 72 = .ok (.iaload, 1) := by decide +kernel
theorem dX11_about_73 : decode cX11_about 73 = .ok (.ireturn, 1) := by decide +kernel
theorem dX11_about_74 : decode cX11_about 74 = .ok (.aload_n 0, 1) := by decide +kernel
theorem dX11_about_75 : decode cX11_about 75 = .ok (.getfield 22, 3) := by decide +kernel
theorem dX11_about_78 : decode cX11_about 78 = .ok (.iload_n 1, 1) := by decide +kernel
theorem dX11_about_79 : decode cX11_about 79 = .ok (.iaload, 1) := by decide +kernel
theorem dX11_about_80 : decode cX11_about 80 = .ok (.ireturn, 1) := by decide +kernel
theorem dX11_about_81 : decode cX11_about 81 = .ok (.aload_n 0, 1) := by decide +kernel
theorem dX11_about_82 : decode cX11_about 82 = .ok (.getfield 25, 3) := by decide +kernel
theorem dX11_about_85 : decode cX11_about 85 = .ok (.iload_n 1, 1) := by decide +kernel
theorem dX11_about_86 : decode cX11_about 86 = .ok (.iaload, 1) := by decide +kernel
theorem dX11_about_87 : decode cX11_about 87 = .ok (.ireturn, 1) := by decide +kernel
theorem dX11_about_88 : decode cX11_about 88 = .ok (.aload_n 0, 1) := by decide +kernel
theorem dX11_about_89 : decode cX11_about 89 = .ok (.getfield 28, 3) := by decide +kernel
theorem dX11_about_92 : decode cX11_about 92 = .ok (.iload_n 1, 1) := by decide +kernel
theorem dX11_about_93 : decode cX11_about 93 = .ok (.iaload, 1) := by decide +kernel
theorem dX11_about_94 : decode cX11_about 94 = .ok (.ireturn, 1) := by decide +kernel
theorem dX11_about_95 : decode cX11_about 95 = .ok (.aload_n 0, 1) := by decide +kernel
theorem dX11_about_96 : decode cX11_about 96 = .ok (.getfield 31, 3) := by decide +kernel
theorem dX11_about_99 : decode cX11_about 99 = .ok (.iload_n 1, 1) := by decide +kernel
theorem dX11_about_100 : decode cX11_about 100 = .ok (.iaload, 1) := by decide +kernel
theorem dX11_about_101 : decode cX11_about 101 = .ok (.ireturn, 1) := by decide +kernel
theorem dX11_about_102 : decode cX11_about 102 = .ok (.aload_n 0, 1) := by decide +kernel
theorem dX11_about_103 : decode cX11_about 103 = .ok (.iload_n 1, 1) := by decide +kernel
theorem dX11_about_104 : decode cX11_about 104 = .ok (.invokevirtual 136, 3) := by decide +kernel
theorem dX11_about_107 : decode cX11_about 107 = .ok (.ifCond .eq 7, 3) := by decide +kernel
theorem dX11_about_110 : decode cX11_about 110 = .ok (.iconst 1, 1) := by decide +kernel
theorem dX11_about_111 : decode cX11_about 111 = .ok (.goto 4, 3) := by decide +kernel
theorem dX11_about_114 : decode cX11_about 114 = .ok (.iconst 0, 1) := by decide +kernel
theorem dX11_about_115 : decode cX11_about 115 = .ok (.ireturn, 1) := by decide +kernel
theorem dX11_about_116 : decode cX11_about 116 = .ok (.sipush (-30000), 3) := by decide +kernel
theorem dX11_about_119 : decode cX11_about 119 = .ok (.ireturn, 1) := by decide +kernel
def wX11_about  (x1 : Int32) (x2 : Int32) (σ : Sto) (post : Int32 → Sto → Prop) : Prop := wX11_in  x1 ((0 : Int32)) ((σ.1 67 4) - ((1 : Int32))) σ (fun (r8 : Bool) (s8 : Sto) => ((r8 = true) → (((x2 = 0) → (vp_in x1 150 ∧ (post (s8.1 70 x1.toNatClampNeg) s8))) ∧ ((¬ x2 = 0) → (((x2 = 1) → (vp_in x1 150 ∧ (post (s8.1 71 x1.toNatClampNeg) s8))) ∧ ((¬ x2 = 1) → (((x2 = 2) → (vp_in x1 150 ∧ (post (s8.1 72 x1.toNatClampNeg) s8))) ∧ ((¬ x2 = 2) → (((x2 = 3) → (vp_in x1 150 ∧ (post (s8.1 73 x1.toNatClampNeg) s8))) ∧ ((¬ x2 = 3) → (((x2 = 4) → (vp_in x1 150 ∧ (post (s8.1 74 x1.toNatClampNeg) s8))) ∧ ((¬ x2 = 4) → (((x2 = 5) → (vp_in x1 150 ∧ (post (s8.1 75 x1.toNatClampNeg) s8))) ∧ ((¬ x2 = 5) → (((x2 = 6) → (wX11_isKnown  x1 s8 (fun (r104 : Bool) (s104 : Sto) => ((r104 = false) → (post ((0 : Int32)) s104)) ∧ ((r104 = true) → (post ((1 : Int32)) s104))))) ∧ ((¬ x2 = 6) → (post ((-30000 : Int32)) s8)))))))))))))))) ∧ ((r8 = false) → (post ((-30000 : Int32)) s8)))
set_option maxRecDepth 100000 in
set_option maxHeartbeats 4000000 in
theorem vX11_about (E : Ev)  (x1 : Int32) (x2 : Int32) (σ : Sto) (post : Int32 → Sto → Prop)  (h : wX11_about  x1 x2 σ post) : V E 1 mX11_about (pI post) 0 [(0, .ref 67), (1, .int x1), (2, .int x2)] [] σ := by
  unfold wX11_about at h
  refine V_iload_n (pc := 0) 1 dX11_about_0 rfl ?_
  refine V_iconst (pc := 1) (v := 0) dX11_about_1 (by decide) ?_
  refine V_aload_n (pc := 2) 0 dX11_about_2 rfl ?_
  refine V_getI (pc := 3) dX11_about_3 fl_X11_122 sh_67 rfl ?_
  refine V_iconst (pc := 6) (v := 1) dX11_about_6 (by decide) ?_
  refine V_isub (pc := 7) dX11_about_7 ?_
  refine V_callS (pc := 8) (M' := mX11_in) dX11_about_8 ml_X11_104 ks_X11_in ko_X11_in (by decide) rfl (Nat.le_of_ble_eq_true rfl) (Nat.le_of_ble_eq_true rfl) (vX11_in E  x1 ((0 : Int32)) ((σ.1 67 4) - ((1 : Int32))) σ _  h) (kB (fun r8 s8 h => ?_))
  refine V_ifnz (pc := 11) (tgt := 18) dX11_about_11 (by decide) (fun hc => ?_) (fun hc => ?_)
  · replace h := h.1 hc
    refine V_iload_n (pc := 18) 2 dX11_about_18 rfl ?_
    by_cases e0 : x2 = 0
    · replace h := h.1 e0
      refine V_tabIn (pc := 19) (tgt := 60) (off := 41) dX11_about_19 (by rw [e0]; decide) (by rw [e0]; decide) (by rw [e0]; rfl) (by decide) ?_
      refine V_aload_n (pc := 60) 0 dX11_about_60 rfl ?_
      refine V_getR (pc := 61) dX11_about_61 fl_X11_16 sh_67 rfl ?_
      refine V_iload_n (pc := 64) 1 dX11_about_64 rfl ?_
      obtain ⟨i65, h⟩ := h
      refine V_iald (pc := 65) dX11_about_65 sh_70 i65 ?_
      exact V_iret dX11_about_66 rfl h
    · replace h := h.2 e0
      by_cases e1 : x2 = 1
      · replace h := h.1 e1
        refine V_tabIn (pc := 19) (tgt := 67) (off := 48) dX11_about_19 (by rw [e1]; decide) (by rw [e1]; decide) (by rw [e1]; rfl) (by decide) ?_
        refine V_aload_n (pc := 67) 0 dX11_about_67 rfl ?_
        refine V_getR (pc := 68) dX11_about_68 fl_X11_19 sh_67 rfl ?_
        refine V_iload_n (pc := 71) 1 dX11_about_71 rfl ?_
        obtain ⟨i72, h⟩ := h
        refine V_iald (pc := 72) dX11_about_72 sh_71 i72 ?_
        exact V_iret dX11_about_73 rfl h
      · replace h := h.2 e1
        by_cases e2 : x2 = 2
        · replace h := h.1 e2
          refine V_tabIn (pc := 19) (tgt := 74) (off := 55) dX11_about_19 (by rw [e2]; decide) (by rw [e2]; decide) (by rw [e2]; rfl) (by decide) ?_
          refine V_aload_n (pc := 74) 0 dX11_about_74 rfl ?_
          refine V_getR (pc := 75) dX11_about_75 fl_X11_22 sh_67 rfl ?_
          refine V_iload_n (pc := 78) 1 dX11_about_78 rfl ?_
          obtain ⟨i79, h⟩ := h
          refine V_iald (pc := 79) dX11_about_79 sh_72 i79 ?_
          exact V_iret dX11_about_80 rfl h
        · replace h := h.2 e2
          by_cases e3 : x2 = 3
          · replace h := h.1 e3
            refine V_tabIn (pc := 19) (tgt := 81) (off := 62) dX11_about_19 (by rw [e3]; decide) (by rw [e3]; decide) (by rw [e3]; rfl) (by decide) ?_
            refine V_aload_n (pc := 81) 0 dX11_about_81 rfl ?_
            refine V_getR (pc := 82) dX11_about_82 fl_X11_25 sh_67 rfl ?_
            refine V_iload_n (pc := 85) 1 dX11_about_85 rfl ?_
            obtain ⟨i86, h⟩ := h
            refine V_iald (pc := 86) dX11_about_86 sh_73 i86 ?_
            exact V_iret dX11_about_87 rfl h
          · replace h := h.2 e3
            by_cases e4 : x2 = 4
            · replace h := h.1 e4
              refine V_tabIn (pc := 19) (tgt := 88) (off := 69) dX11_about_19 (by rw [e4]; decide) (by rw [e4]; decide) (by rw [e4]; rfl) (by decide) ?_
              refine V_aload_n (pc := 88) 0 dX11_about_88 rfl ?_
              refine V_getR (pc := 89) dX11_about_89 fl_X11_28 sh_67 rfl ?_
              refine V_iload_n (pc := 92) 1 dX11_about_92 rfl ?_
              obtain ⟨i93, h⟩ := h
              refine V_iald (pc := 93) dX11_about_93 sh_74 i93 ?_
              exact V_iret dX11_about_94 rfl h
            · replace h := h.2 e4
              by_cases e5 : x2 = 5
              · replace h := h.1 e5
                refine V_tabIn (pc := 19) (tgt := 95) (off := 76) dX11_about_19 (by rw [e5]; decide) (by rw [e5]; decide) (by rw [e5]; rfl) (by decide) ?_
                refine V_aload_n (pc := 95) 0 dX11_about_95 rfl ?_
                refine V_getR (pc := 96) dX11_about_96 fl_X11_31 sh_67 rfl ?_
                refine V_iload_n (pc := 99) 1 dX11_about_99 rfl ?_
                obtain ⟨i100, h⟩ := h
                refine V_iald (pc := 100) dX11_about_100 sh_75 i100 ?_
                exact V_iret dX11_about_101 rfl h
              · replace h := h.2 e5
                by_cases e6 : x2 = 6
                · replace h := h.1 e6
                  refine V_tabIn (pc := 19) (tgt := 102) (off := 83) dX11_about_19 (by rw [e6]; decide) (by rw [e6]; decide) (by rw [e6]; rfl) (by decide) ?_
                  refine V_aload_n (pc := 102) 0 dX11_about_102 rfl ?_
                  refine V_iload_n (pc := 103) 1 dX11_about_103 rfl ?_
                  refine V_callV (pc := 104) (M' := mX11_isKnown) dX11_about_104 ml_X11_136 kv_X11_isKnown ko_X11_isKnown sh_67 (by decide) (by decide) rfl rfl (Nat.le_of_ble_eq_true rfl) (Nat.le_of_ble_eq_true rfl) (vX11_isKnown E  x1 s8 _  h) (kB (fun r104 s104 h => ?_))
                  refine V_ifz (pc := 107) (tgt := 114) dX11_about_107 (by decide) (fun hc => ?_) (fun hc => ?_)
                  · replace h := h.1 hc
                    refine V_iconst (pc := 114) (v := 0) dX11_about_114 (by decide) ?_
                    exact V_iret dX11_about_115 rfl h
                  · replace h := h.2 hc
                    refine V_iconst (pc := 110) (v := 1) dX11_about_110 (by decide) ?_
                    refine V_goto (pc := 111) (tgt := 115) dX11_about_111 (by decide) ?_
                    exact V_iret dX11_about_115 rfl h
                · replace h := h.2 e6
                  refine V_tabOut (pc := 19) (tgt := 116) dX11_about_19 ?_ (by decide) ?_
                  · have z0 := lv_neT (a := 0) e0 (by decide); have z1 := lv_neT (a := 1) e1 (by decide); have z2 := lv_neT (a := 2) e2 (by decide); have z3 := lv_neT (a := 3) e3 (by decide); have z4 := lv_neT (a := 4) e4 (by decide); have z5 := lv_neT (a := 5) e5 (by decide); have z6 := lv_neT (a := 6) e6 (by decide); omega
                  refine V_sipush (pc := 116) (v := -30000) dX11_about_116 (by decide) ?_
                  exact V_iret dX11_about_119 rfl h
  · replace h := h.2 hc
    refine V_sipush (pc := 14) (v := -30000) dX11_about_14 (by decide) ?_
    exact V_iret dX11_about_17 rfl h
theorem dX11_asOf_0 : decode cX11_asOf 0 = .ok (.iload_n 1, 1) := by decide +kernel
theorem dX11_asOf_1 : decode cX11_asOf 1 = .ok (.iconst (-1), 1) := by decide +kernel
theorem dX11_asOf_2 : decode cX11_asOf 2 = .ok (.aload_n 0, 1) := by decide +kernel
theorem dX11_asOf_3 : decode cX11_asOf 3 = .ok (.getfield 108, 3) := by decide +kernel
theorem dX11_asOf_6 : decode cX11_asOf 6 = .ok (.invokestatic 104, 3) := by decide +kernel
theorem dX11_asOf_9 : decode cX11_asOf 9 = .ok (.ifCond .ne 6, 3) := by decide +kernel
theorem dX11_asOf_12 : decode cX11_asOf 12 = .ok (.bipush (-2), 2) := by decide +kernel
theorem dX11_asOf_14 : decode cX11_asOf 14 = .ok (.ireturn, 1) := by decide +kernel
theorem dX11_asOf_15 : decode cX11_asOf 15 = .ok (.aload_n 0, 1) := by decide +kernel
theorem dX11_asOf_16 : decode cX11_asOf 16 = .ok (.getfield 34, 3) := by decide +kernel
theorem dX11_asOf_19 : decode cX11_asOf 19 = .ok (.istore_n 2, 1) := by decide +kernel
theorem dX11_asOf_20 : decode cX11_asOf 20 = .ok (.aload_n 0, 1) := by decide +kernel
theorem dX11_asOf_21 : decode cX11_asOf 21 = .ok (.iload_n 1, 1) := by decide +kernel
theorem dX11_asOf_22 : decode cX11_asOf 22 = .ok (.putfield 34, 3) := by decide +kernel
theorem dX11_asOf_25 : decode cX11_asOf 25 = .ok (.aload_n 0, 1) := by decide +kernel
theorem dX11_asOf_26 : decode cX11_asOf 26 = .ok (.iconst 0, 1) := by decide +kernel
theorem dX11_asOf_27 : decode cX11_asOf 27 = .ok (.putfield 111, 3) := by decide +kernel
theorem dX11_asOf_30 : decode cX11_asOf 30 = .ok (.iload_n 2, 1) := by decide +kernel
theorem dX11_asOf_31 : decode cX11_asOf 31 = .ok (.ireturn, 1) := by decide +kernel
def wX11_asOf  (x1 : Int32) (σ : Sto) (post : Int32 → Sto → Prop) : Prop := wX11_in  x1 ((-1 : Int32)) (σ.1 67 0) σ (fun (r6 : Bool) (s6 : Sto) => ((r6 = true) → (post (s6.1 67 11) (wI (wI s6 67 11 x1) 67 13 ((0 : Int32))))) ∧ ((r6 = false) → (post ((-2 : Int32)) s6)))
set_option maxRecDepth 100000 in
set_option maxHeartbeats 4000000 in
theorem vX11_asOf (E : Ev)  (x1 : Int32) (σ : Sto) (post : Int32 → Sto → Prop)  (h : wX11_asOf  x1 σ post) : V E 1 mX11_asOf (pI post) 0 [(0, .ref 67), (1, .int x1)] [] σ := by
  unfold wX11_asOf at h
  refine V_iload_n (pc := 0) 1 dX11_asOf_0 rfl ?_
  refine V_iconst (pc := 1) (v := -1) dX11_asOf_1 (by decide) ?_
  refine V_aload_n (pc := 2) 0 dX11_asOf_2 rfl ?_
  refine V_getI (pc := 3) dX11_asOf_3 fl_X11_108 sh_67 rfl ?_
  refine V_callS (pc := 6) (M' := mX11_in) dX11_asOf_6 ml_X11_104 ks_X11_in ko_X11_in (by decide) rfl (Nat.le_of_ble_eq_true rfl) (Nat.le_of_ble_eq_true rfl) (vX11_in E  x1 ((-1 : Int32)) (σ.1 67 0) σ _  h) (kB (fun r6 s6 h => ?_))
  refine V_ifnz (pc := 9) (tgt := 15) dX11_asOf_9 (by decide) (fun hc => ?_) (fun hc => ?_)
  · replace h := h.1 hc
    refine V_aload_n (pc := 15) 0 dX11_asOf_15 rfl ?_
    refine V_getI (pc := 16) dX11_asOf_16 fl_X11_34 sh_67 rfl ?_
    refine V_istore_n (pc := 19) dX11_asOf_19 (by decide) ?_
    refine V_aload_n (pc := 20) 1 dX11_asOf_20 rfl ?_
    refine V_iload_n (pc := 21) 2 dX11_asOf_21 rfl ?_
    refine V_putI (pc := 22) dX11_asOf_22 fl_X11_34 po_X11_11 sh_67 rfl rfl rfl ?_
    refine V_aload_n (pc := 25) 1 dX11_asOf_25 rfl ?_
    refine V_iconst (pc := 26) (v := 0) dX11_asOf_26 (by decide) ?_
    refine V_putI (pc := 27) dX11_asOf_27 fl_X11_111 po_X11_13 sh_67 rfl (by decide) (by decide) ?_
    refine V_iload_n (pc := 30) 0 dX11_asOf_30 rfl ?_
    exact V_iret dX11_asOf_31 rfl h
  · replace h := h.2 hc
    refine V_bipush (pc := 12) (v := -2) dX11_asOf_12 (by decide) ?_
    exact V_iret dX11_asOf_14 rfl h
theorem dX11_factor_0 : decode cX11_factor 0 = .ok (.iload_n 1, 1) := by decide +kernel
theorem dX11_factor_1 : decode cX11_factor 1 = .ok (.iconst 1, 1) := by decide +kernel
theorem dX11_factor_2 : decode cX11_factor 2 = .ok (.iconst 5, 1) := by decide +kernel
theorem dX11_factor_3 : decode cX11_factor 3 = .ok (.invokestatic 104, 3) := by decide +kernel
theorem dX11_factor_6 : decode cX11_factor 6 = .ok (.ifCond .ne 6, 3) := by decide +kernel
theorem dX11_factor_9 : decode cX11_factor 9 = .ok (.bipush (-2), 2) := by decide +kernel
theorem dX11_factor_11 : decode cX11_factor 11 = .ok (.ireturn, 1) := by decide +kernel
theorem dX11_factor_12 : decode cX11_factor 12 = .ok (.aload_n 0, 1) := by decide +kernel
theorem dX11_factor_13 : decode cX11_factor 13 = .ok (.getfield 38, 3) := by decide +kernel
theorem dX11_factor_16 : decode cX11_factor 16 = .ok (.istore_n 2, 1) := by decide +kernel
theorem dX11_factor_17 : decode cX11_factor 17 = .ok (.aload_n 0, 1) := by decide +kernel
theorem dX11_factor_18 : decode cX11_factor 18 = .ok (.iload_n 1, 1) := by decide +kernel
theorem dX11_factor_19 : decode cX11_factor 19 = .ok (.putfield 38, 3) := by decide +kernel
theorem dX11_factor_22 : decode cX11_factor 22 = .ok (.iload_n 2, 1) := by decide +kernel
theorem dX11_factor_23 : decode cX11_factor 23 = .ok (.ireturn, 1) := by decide +kernel
def wX11_factor  (x1 : Int32) (σ : Sto) (post : Int32 → Sto → Prop) : Prop := wX11_in  x1 ((1 : Int32)) ((5 : Int32)) σ (fun (r3 : Bool) (s3 : Sto) => ((r3 = true) → (post (s3.1 67 12) (wI s3 67 12 x1))) ∧ ((r3 = false) → (post ((-2 : Int32)) s3)))
set_option maxRecDepth 100000 in
set_option maxHeartbeats 4000000 in
theorem vX11_factor (E : Ev)  (x1 : Int32) (σ : Sto) (post : Int32 → Sto → Prop)  (h : wX11_factor  x1 σ post) : V E 1 mX11_factor (pI post) 0 [(0, .ref 67), (1, .int x1)] [] σ := by
  unfold wX11_factor at h
  refine V_iload_n (pc := 0) 1 dX11_factor_0 rfl ?_
  refine V_iconst (pc := 1) (v := 1) dX11_factor_1 (by decide) ?_
  refine V_iconst (pc := 2) (v := 5) dX11_factor_2 (by decide) ?_
  refine V_callS (pc := 3) (M' := mX11_in) dX11_factor_3 ml_X11_104 ks_X11_in ko_X11_in (by decide) rfl (Nat.le_of_ble_eq_true rfl) (Nat.le_of_ble_eq_true rfl) (vX11_in E  x1 ((1 : Int32)) ((5 : Int32)) σ _  h) (kB (fun r3 s3 h => ?_))
  refine V_ifnz (pc := 6) (tgt := 12) dX11_factor_6 (by decide) (fun hc => ?_) (fun hc => ?_)
  · replace h := h.1 hc
    refine V_aload_n (pc := 12) 0 dX11_factor_12 rfl ?_
    refine V_getI (pc := 13) dX11_factor_13 fl_X11_38 sh_67 rfl ?_
    refine V_istore_n (pc := 16) dX11_factor_16 (by decide) ?_
    refine V_aload_n (pc := 17) 1 dX11_factor_17 rfl ?_
    refine V_iload_n (pc := 18) 2 dX11_factor_18 rfl ?_
    refine V_putI (pc := 19) dX11_factor_19 fl_X11_38 po_X11_12 sh_67 rfl rfl rfl ?_
    refine V_iload_n (pc := 22) 0 dX11_factor_22 rfl ?_
    exact V_iret dX11_factor_23 rfl h
  · replace h := h.2 hc
    refine V_bipush (pc := 9) (v := -2) dX11_factor_9 (by decide) ?_
    exact V_iret dX11_factor_11 rfl h
theorem dX11_points_0 : decode cX11_points 0 = .ok (.iconst 0, 1) := by decide +kernel
theorem dX11_points_1 : decode cX11_points 1 = .ok (.istore_n 2, 1) := by decide +kernel
theorem dX11_points_2 : decode cX11_points 2 = .ok (.iconst 0, 1) := by decide +kernel
theorem dX11_points_3 : decode cX11_points 3 = .ok (.istore_n 3, 1) := by decide +kernel
theorem dX11_points_4 : decode cX11_points 4 = .ok (.iload_n 3, 1) := by decide +kernel
theorem dX11_points_5 : decode cX11_points 5 = .ok (.sipush 399, 3) := by decide +kernel
theorem dX11_points_8 : decode cX11_points 8 = .ok (.if_icmp .gt 167, 3) := by decide +kernel
theorem dX11_points_11 : decode cX11_points 11 = .ok (.lconst 0, 1) := by decide +kernel
theorem dX11_points_12 : decode cX11_points 12 = .ok (.lstore 4, 2) := by decide +kernel
theorem dX11_points_14 : decode cX11_points 14 = .ok (.iconst 0, 1) := by decide +kernel
theorem dX11_points_15 : decode cX11_points 15 = .ok (.istore 6, 2) := by decide +kernel
theorem dX11_points_17 : decode cX11_points 17 = .ok (.iconst 0, 1) := by decide +kernel
theorem dX11_points_18 : decode cX11_points 18 = .ok (.istore 7, 2) := by decide +kernel
theorem dX11_points_20 : decode cX11_points 20 = .ok (.iload 7, 2) := by decide +kernel
theorem dX11_points_22 : decode cX11_points 22 = .ok (.aload_n 0, 1) := by decide +kernel
theorem dX11_points_23 : decode cX11_points 23 = .ok (.getfield 122, 3) := by decide +kernel
theorem dX11_points_26 : decode cX11_points 26 = .ok (.if_icmp .ge 94, 3) := by decide +kernel
theorem dX11_points_29 : decode cX11_points 29 = .ok (.aload_n 0, 1) := by decide +kernel
theorem dX11_points_30 : decode cX11_points 30 = .ok (.getfield 16, 3) := by decide +kernel
theorem dX11_points_33 : decode cX11_points 33 = .ok (.iload 7, 2) := by decide +kernel
theorem dX11_points_35 : decode cX11_points 35 = .ok (.iaload, 1) := by decide +kernel
theorem dX11_points_36 : decode cX11_points 36 = .ok (.ifCond .ne 38, 3) := by decide +kernel
theorem dX11_points_39 : decode cX11_points 39 = .ok (.aload_n 0, 1) := by decide +kernel
theorem dX11_points_40 : decode cX11_points 40 = .ok (.getfield 19, 3) := by decide +kernel
theorem dX11_points_43 : decode cX11_points 43 = .ok (.iload 7, 2) := by decide +kernel
theorem dX11_points_45 : decode cX11_points 45 = .ok (.iaload, 1) := by decide +kernel
theorem dX11_points_46 : decode cX11_points 46 = .ok (.iload_n 1, 1) := by decide +kernel
theorem dX11_points_47 : decode cX11_points 47 = .ok (.if_icmp .ne 27, 3) := by decide +kernel
theorem dX11_points_50 : decode cX11_points 50 = .ok (.aload_n 0, 1) := by decide +kernel
theorem dX11_points_51 : decode cX11_points 51 = .ok (.getfield 22, 3) := by decide +kernel
theorem dX11_points_54 : decode cX11_points 54 = .ok (.iload 7, 2) := by decide +kernel
theorem dX11_points_56 : decode cX11_points 56 = .ok (.iaload, 1) := by decide +kernel
theorem dX11_points_57 : decode cX11_points 57 = .ok (.iload_n 3, 1) := by decide +kernel
theorem dX11_points_58 : decode cX11_points 58 = .ok (.if_icmp .ne 16, 3) := by decide +kernel
theorem dX11_points_61 : decode cX11_points 61 = .ok (.aload_n 0, 1) := by decide +kernel
theorem dX11_points_62 : decode cX11_points 62 = .ok (.iload 7, 2) := by decide +kernel
theorem dX11_points_64 : decode cX11_points 64 = .ok (.invokevirtual 136, 3) := by decide +kernel
theorem dX11_points_67 : decode cX11_points 67 = .ok (.ifCond .eq 7, 3) := by decide +kernel
theorem dX11_points_70 : decode cX11_points 70 = .ok (.iconst 1, 1) := by decide +kernel
theorem dX11_points_71 : decode cX11_points 71 = .ok (.goto 4, 3) := by decide +kernel
theorem dX11_points_74 : decode cX11_points 74 = .ok (.iconst 0, 1) := by decide +kernel
theorem dX11_points_75 : decode cX11_points 75 = .ok (.istore 8, 2) := by decide +kernel
theorem dX11_points_77 : decode cX11_points 77 = .ok (.lload 4, 2) := by decide +kernel
theorem dX11_points_79 : decode cX11_points 79 = .ok (.iload 8, 2) := by decide +kernel
theorem dX11_points_81 : decode cX11_points 81 = .ok (.ifCond .eq 14, 3) := by decide +kernel
theorem dX11_points_84 : decode cX11_points 84 = .ok (.aload_n 0, 1) := by decide +kernel
theorem dX11_points_85 : decode cX11_points 85 = .ok (.getfield 25, 3) := by decide +kernel
theorem dX11_points_88 : decode cX11_points 88 = .ok (.iload 7, 2) := by decide +kernel
theorem dX11_points_90 : decode cX11_points 90 = .ok (.iaload, 1) := by decide +kernel
theorem dX11_points_91 : decode cX11_points 91 = .ok (.i2l, 1) := by decide +kernel
theorem dX11_points_92 : decode cX11_points 92 = .ok (.goto 4, 3) := by decide +kernel
theorem dX11_points_95 : decode cX11_points 95 = .ok (.lconst 0, 1) := by decide +kernel
theorem dX11_points_96 : decode cX11_points 96 = .ok (.ladd, 1) := by decide +kernel
theorem dX11_points_97 : decode cX11_points 97 = .ok (.lstore 4, 2) := by decide +kernel
theorem dX11_points_99 : decode cX11_points 99 = .ok (.iload 6, 2) := by decide +kernel
theorem dX11_points_101 : decode cX11_points 101 = .ok (.iload 8, 2) := by decide +kernel
theorem dX11_points_103 : decode cX11_points 103 = .ok (.ifCond .eq 7, 3) := by decide +kernel
theorem dX11_points_106 : decode cX11_points 106 = .ok (.iconst 1, 1) := by decide +kernel
theorem dX11_points_107 : decode cX11_points 107 = .ok (.goto 4, 3) := by decide +kernel
theorem dX11_points_110 : decode cX11_points 110 = .ok (.iconst 0, 1) := by decide +kernel
theorem dX11_points_111 : decode cX11_points 111 = .ok (.iadd, 1) := by decide +kernel
theorem dX11_points_112 : decode cX11_points 112 = .ok (.istore 6, 2) := by decide +kernel
theorem dX11_points_114 : decode cX11_points 114 = .ok (.iinc 7 1, 3) := by decide +kernel
theorem dX11_points_117 : decode cX11_points 117 = .ok (.goto (-97), 3) := by decide +kernel
theorem dX11_points_120 : decode cX11_points 120 = .ok (.iload 6, 2) := by decide +kernel
theorem dX11_points_122 : decode cX11_points 122 = .ok (.ifCond .le 47, 3) := by decide +kernel
theorem dX11_points_125 : decode cX11_points 125 = .ok (.aload_n 0, 1) := by decide +kernel
theorem dX11_points_126 : decode cX11_points 126 = .ok (.getfield 44, 3) := by decide +kernel
theorem dX11_points_129 : decode cX11_points 129 = .ok (.sipush 150, 3) := by decide +kernel
theorem dX11_points_132 : decode cX11_points 132 = .ok (.iload_n 1, 1) := by decide +kernel
theorem dX11_points_133 : decode cX11_points 133 = .ok (.imul, 1) := by decide +kernel
theorem dX11_points_134 : decode cX11_points 134 = .ok (.iload_n 2, 1) := by decide +kernel
theorem dX11_points_135 : decode cX11_points 135 = .ok (.iadd, 1) := by decide +kernel
theorem dX11_points_136 : decode cX11_points 136 = .ok (.iload_n 3, 1) := by decide +kernel
theorem dX11_points_137 : decode cX11_points 137 = .ok (.iastore, 1) := by decide +kernel
theorem dX11_points_138 : decode cX11_points 138 = .ok (.aload_n 0, 1) := by decide +kernel
theorem dX11_points_139 : decode cX11_points 139 = .ok (.getfield 47, 3) := by decide +kernel
theorem dX11_points_142 : decode cX11_points 142 = .ok (.sipush 150, 3) := by decide +kernel
theorem dX11_points_145 : decode cX11_points 145 = .ok (.iload_n 1, 1) := by decide +kernel
theorem dX11_points_146 : decode cX11_points 146 = .ok (.imul, 1) := by decide +kernel
theorem dX11_points_147 : decode cX11_points 147 = .ok (.iload_n 2, 1) := by decide +kernel
theorem dX11_points_148 : decode cX11_points 148 = .ok (.iadd, 1) := by decide +kernel
theorem dX11_points_149 : decode cX11_points 149 = .ok (.lload 4, 2) := by decide +kernel
theorem dX11_points_151 : decode cX11_points 151 = .ok (.lastore, 1) := by decide +kernel
theorem dX11_points_152 : decode cX11_points 152 = .ok (.aload_n 0, 1) := by decide +kernel
theorem dX11_points_153 : decode cX11_points 153 = .ok (.getfield 51, 3) := by decide +kernel
theorem dX11_points_156 : decode cX11_points 156 = .ok (.sipush 150, 3) := by decide +kernel
theorem dX11_points_159 : decode cX11_points 159 = .ok (.iload_n 1, 1) := by decide +kernel
theorem dX11_points_160 : decode cX11_points 160 = .ok (.imul, 1) := by decide +kernel
theorem dX11_points_161 : decode cX11_points 161 = .ok (.iload_n 2, 1) := by decide +kernel
theorem dX11_points_162 : decode cX11_points 162 = .ok (.iadd, 1) := by decide +kernel
theorem dX11_points_163 : decode cX11_points 163 = .ok (.iload 6, 2) := by decide +kernel
theorem dX11_points_165 : decode cX11_points 165 = .ok (.iastore, 1) := by decide +kernel
theorem dX11_points_166 : decode cX11_points 166 = .ok (.iinc 2 1, 3) := by decide +kernel
theorem dX11_points_169 : decode cX11_points 169 = .ok (.iinc 3 1, 3) := by decide +kernel
theorem dX11_points_172 : decode cX11_points 172 = .ok (.goto (-168), 3) := by decide +kernel
theorem dX11_points_175 : decode cX11_points 175 = .ok (.aload_n 0, 1) := by decide +kernel
theorem dX11_points_176 : decode cX11_points 176 = .ok (.getfield 41, 3) := by decide +kernel
theorem dX11_points_179 : decode cX11_points 179 = .ok (.iload_n 1, 1) := by decide +kernel
theorem dX11_points_180 : decode cX11_points 180 = .ok (.iload_n 2, 1) := by decide +kernel
theorem dX11_points_181 : decode cX11_points 181 = .ok (.iastore, 1) := by decide +kernel
theorem dX11_points_182 : decode cX11_points 182 = .ok (.return_, 1) := by decide +kernel
def wX11_points_111 (post : Sto → Prop)  (K20 : Int32 → Int32 → Int32 → Int64 → Int32 → Int32 → Sto → Prop) (x1 : Int32) (x2 : Int32) (x3 : Int32) (x4 : Int64) (x7 : Int32) (y0 : Int32) (y1 : Int32) (σ : Sto) : Prop := K20 x1 x2 x3 x4 (y1 + y0) (x7 + (1 : Int32)) σ
set_option maxRecDepth 100000 in
set_option maxHeartbeats 4000000 in
theorem vX11_points_111 (E : Ev) (post : Sto → Prop)   (K20 : Int32 → Int32 → Int32 → Int64 → Int32 → Int32 → Sto → Prop) (HK20 : ∀ (x1 : Int32) (x2 : Int32) (x3 : Int32) (x4 : Int64) (x6 : Int32) (x7 : Int32) (σ : Sto), K20 x1 x2 x3 x4 x6 x7 σ → V E 1 mX11_points (pV post) 20 [(0, .ref 67), (1, .int x1), (2, .int x2), (3, .int x3), (4, .long x4), (6, .int x6), (7, .int x7)] [] σ) (x1 : Int32) (x2 : Int32) (x3 : Int32) (x4 : Int64) (x7 : Int32) (y0 : Int32) (y1 : Int32) (σ : Sto) (h : wX11_points_111 post  K20 x1 x2 x3 x4 x7 y0 y1 σ) : V E 1 mX11_points (pV post) 111 [(0, .ref 67), (1, .int x1), (2, .int x2), (3, .int x3), (4, .long x4), (7, .int x7)] [.int y0, .int y1] σ := by
  unfold wX11_points_111 at h
  refine V_iadd (pc := 111) dX11_points_111 ?_
  refine V_istore (pc := 112) dX11_points_112 (by decide) ?_
  refine V_iinc (pc := 114) 6 (v := 1) dX11_points_114 rfl (by decide) (by decide) ?_
  refine V_goto (pc := 117) (tgt := 20) dX11_points_117 (by decide) ?_
  exact V_loc [2, 3, 4, 5, 6, 1, 0] rfl (HK20 x1 x2 x3 x4 (y1 + y0) (x7 + (1 : Int32)) σ  h)
def wX11_points_96 (post : Sto → Prop)  (K20 : Int32 → Int32 → Int32 → Int64 → Int32 → Int32 → Sto → Prop) (x1 : Int32) (x2 : Int32) (x3 : Int32) (x6 : Int32) (x7 : Int32) (x8 : Int32) (y0 : Int64) (y1 : Int64) (σ : Sto) : Prop := ((x8 = 0) → (wX11_points_111 post  K20 x1 x2 x3 (y1 + y0) x7 ((0 : Int32)) x6 σ)) ∧ ((¬ (x8 = 0)) → (wX11_points_111 post  K20 x1 x2 x3 (y1 + y0) x7 ((1 : Int32)) x6 σ))
set_option maxRecDepth 100000 in
set_option maxHeartbeats 4000000 in
theorem vX11_points_96 (E : Ev) (post : Sto → Prop)   (K20 : Int32 → Int32 → Int32 → Int64 → Int32 → Int32 → Sto → Prop) (HK20 : ∀ (x1 : Int32) (x2 : Int32) (x3 : Int32) (x4 : Int64) (x6 : Int32) (x7 : Int32) (σ : Sto), K20 x1 x2 x3 x4 x6 x7 σ → V E 1 mX11_points (pV post) 20 [(0, .ref 67), (1, .int x1), (2, .int x2), (3, .int x3), (4, .long x4), (6, .int x6), (7, .int x7)] [] σ) (x1 : Int32) (x2 : Int32) (x3 : Int32) (x6 : Int32) (x7 : Int32) (x8 : Int32) (y0 : Int64) (y1 : Int64) (σ : Sto) (h : wX11_points_96 post  K20 x1 x2 x3 x6 x7 x8 y0 y1 σ) : V E 1 mX11_points (pV post) 96 [(0, .ref 67), (1, .int x1), (2, .int x2), (3, .int x3), (6, .int x6), (7, .int x7), (8, .int x8)] [.long y0, .long y1] σ := by
  unfold wX11_points_96 at h
  refine V_ladd (pc := 96) dX11_points_96 ?_
  refine V_lstore (pc := 97) dX11_points_97 (by decide) ?_
  refine V_iload (pc := 99) 5 dX11_points_99 rfl ?_
  refine V_iload (pc := 101) 7 dX11_points_101 rfl ?_
  refine V_if_eq (pc := 103) (tgt := 110) dX11_points_103 (by decide) (fun hc => ?_) (fun hc => ?_)
  · replace h := h.1 hc
    refine V_iconst (pc := 110) (v := 0) dX11_points_110 (by decide) ?_
    refine V_loc [1, 2, 3, 4, 0, 6] rfl (vX11_points_111 E post   K20 HK20 x1 x2 x3 (y1 + y0) x7 ((0 : Int32)) x6 σ  h)
  · replace h := h.2 hc
    refine V_iconst (pc := 106) (v := 1) dX11_points_106 (by decide) ?_
    refine V_goto (pc := 107) (tgt := 111) dX11_points_107 (by decide) ?_
    refine V_loc [1, 2, 3, 4, 0, 6] rfl (vX11_points_111 E post   K20 HK20 x1 x2 x3 (y1 + y0) x7 ((1 : Int32)) x6 σ  h)
def wX11_points_75 (post : Sto → Prop)  (K20 : Int32 → Int32 → Int32 → Int64 → Int32 → Int32 → Sto → Prop) (x1 : Int32) (x2 : Int32) (x3 : Int32) (x4 : Int64) (x6 : Int32) (x7 : Int32) (y0 : Int32) (σ : Sto) : Prop := ((y0 = 0) → (wX11_points_96 post  K20 x1 x2 x3 x6 x7 y0 ((0 : Int64)) x4 σ)) ∧ ((¬ (y0 = 0)) → (vp_in x7 150 ∧ (wX11_points_96 post  K20 x1 x2 x3 x6 x7 y0 ((σ.1 73 x7.toNatClampNeg).toInt64) x4 σ)))
set_option maxRecDepth 100000 in
set_option maxHeartbeats 4000000 in
theorem vX11_points_75 (E : Ev) (post : Sto → Prop)   (K20 : Int32 → Int32 → Int32 → Int64 → Int32 → Int32 → Sto → Prop) (HK20 : ∀ (x1 : Int32) (x2 : Int32) (x3 : Int32) (x4 : Int64) (x6 : Int32) (x7 : Int32) (σ : Sto), K20 x1 x2 x3 x4 x6 x7 σ → V E 1 mX11_points (pV post) 20 [(0, .ref 67), (1, .int x1), (2, .int x2), (3, .int x3), (4, .long x4), (6, .int x6), (7, .int x7)] [] σ) (x1 : Int32) (x2 : Int32) (x3 : Int32) (x4 : Int64) (x6 : Int32) (x7 : Int32) (y0 : Int32) (σ : Sto) (h : wX11_points_75 post  K20 x1 x2 x3 x4 x6 x7 y0 σ) : V E 1 mX11_points (pV post) 75 [(0, .ref 67), (1, .int x1), (2, .int x2), (3, .int x3), (4, .long x4), (6, .int x6), (7, .int x7)] [.int y0] σ := by
  unfold wX11_points_75 at h
  refine V_istore (pc := 75) dX11_points_75 (by decide) ?_
  refine V_lload (pc := 77) 5 dX11_points_77 rfl ?_
  refine V_iload (pc := 79) 0 dX11_points_79 rfl ?_
  refine V_if_eq (pc := 81) (tgt := 95) dX11_points_81 (by decide) (fun hc => ?_) (fun hc => ?_)
  · replace h := h.1 hc
    refine V_lconst (pc := 95) (v := 0) dX11_points_95 (by decide) ?_
    refine V_loc [1, 2, 3, 4, 6, 7, 0] rfl (vX11_points_96 E post   K20 HK20 x1 x2 x3 x6 x7 y0 ((0 : Int64)) x4 σ  h)
  · replace h := h.2 hc
    refine V_aload_n (pc := 84) 1 dX11_points_84 rfl ?_
    refine V_getR (pc := 85) dX11_points_85 fl_X11_25 sh_67 rfl ?_
    refine V_iload (pc := 88) 7 dX11_points_88 rfl ?_
    obtain ⟨i90, h⟩ := h
    refine V_iald (pc := 90) dX11_points_90 sh_73 i90 ?_
    refine V_i2l (pc := 91) dX11_points_91 ?_
    refine V_goto (pc := 92) (tgt := 96) dX11_points_92 (by decide) ?_
    refine V_loc [1, 2, 3, 4, 6, 7, 0] rfl (vX11_points_96 E post   K20 HK20 x1 x2 x3 x6 x7 y0 ((σ.1 73 x7.toNatClampNeg).toInt64) x4 σ  h)
def wX11_points_74 (post : Sto → Prop)  (K20 : Int32 → Int32 → Int32 → Int64 → Int32 → Int32 → Sto → Prop) (x1 : Int32) (x2 : Int32) (x3 : Int32) (x4 : Int64) (x6 : Int32) (x7 : Int32) (σ : Sto) : Prop := wX11_points_75 post  K20 x1 x2 x3 x4 x6 x7 ((0 : Int32)) σ
set_option maxRecDepth 100000 in
set_option maxHeartbeats 4000000 in
theorem vX11_points_74 (E : Ev) (post : Sto → Prop)   (K20 : Int32 → Int32 → Int32 → Int64 → Int32 → Int32 → Sto → Prop) (HK20 : ∀ (x1 : Int32) (x2 : Int32) (x3 : Int32) (x4 : Int64) (x6 : Int32) (x7 : Int32) (σ : Sto), K20 x1 x2 x3 x4 x6 x7 σ → V E 1 mX11_points (pV post) 20 [(0, .ref 67), (1, .int x1), (2, .int x2), (3, .int x3), (4, .long x4), (6, .int x6), (7, .int x7)] [] σ) (x1 : Int32) (x2 : Int32) (x3 : Int32) (x4 : Int64) (x6 : Int32) (x7 : Int32) (σ : Sto) (h : wX11_points_74 post  K20 x1 x2 x3 x4 x6 x7 σ) : V E 1 mX11_points (pV post) 74 [(0, .ref 67), (1, .int x1), (2, .int x2), (3, .int x3), (4, .long x4), (6, .int x6), (7, .int x7)] [] σ := by
  unfold wX11_points_74 at h
  refine V_iconst (pc := 74) (v := 0) dX11_points_74 (by decide) ?_
  refine V_loc [0, 1, 2, 3, 4, 5, 6] rfl (vX11_points_75 E post   K20 HK20 x1 x2 x3 x4 x6 x7 ((0 : Int32)) σ  h)
def wX11_points_20 (post : Sto → Prop)  (K120 : Int32 → Int32 → Int32 → Int64 → Int32 → Sto → Prop) : Nat → Int32 → Int32 → Int32 → Int64 → Int32 → Int32 → Sto → Prop
  | 0, _, _, _, _, _, _, _ => False
  | n + 1, x1, x2, x3, x4, x6, x7, σ => (((σ.1 67 4) ≤ x7) → (K120 x1 x2 x3 x4 x6 σ)) ∧ ((¬ ((σ.1 67 4) ≤ x7)) → (vp_in x7 150 ∧ (((¬ (σ.1 70 x7.toNatClampNeg) = 0) → (wX11_points_74 post  (wX11_points_20 post  K120 n) x1 x2 x3 x4 x6 x7 σ)) ∧ (((σ.1 70 x7.toNatClampNeg) = 0) → (vp_in x7 150 ∧ (((¬ (σ.1 71 x7.toNatClampNeg) = x1) → (wX11_points_74 post  (wX11_points_20 post  K120 n) x1 x2 x3 x4 x6 x7 σ)) ∧ (((σ.1 71 x7.toNatClampNeg) = x1) → (vp_in x7 150 ∧ (((¬ (σ.1 72 x7.toNatClampNeg) = x3) → (wX11_points_74 post  (wX11_points_20 post  K120 n) x1 x2 x3 x4 x6 x7 σ)) ∧ (((σ.1 72 x7.toNatClampNeg) = x3) → (wX11_isKnown  x7 σ (fun (r64 : Bool) (s64 : Sto) => ((r64 = false) → (wX11_points_74 post  (wX11_points_20 post  K120 n) x1 x2 x3 x4 x6 x7 s64)) ∧ ((r64 = true) → (wX11_points_75 post  (wX11_points_20 post  K120 n) x1 x2 x3 x4 x6 x7 ((1 : Int32)) s64))))))))))))))
set_option maxRecDepth 100000 in
set_option maxHeartbeats 4000000 in
theorem vX11_points_20 (E : Ev) (post : Sto → Prop)   (K120 : Int32 → Int32 → Int32 → Int64 → Int32 → Sto → Prop) (HK120 : ∀ (x1 : Int32) (x2 : Int32) (x3 : Int32) (x4 : Int64) (x6 : Int32) (σ : Sto), K120 x1 x2 x3 x4 x6 σ → V E 1 mX11_points (pV post) 120 [(0, .ref 67), (1, .int x1), (2, .int x2), (3, .int x3), (4, .long x4), (6, .int x6)] [] σ) : ∀ (n : Nat) (x1 : Int32) (x2 : Int32) (x3 : Int32) (x4 : Int64) (x6 : Int32) (x7 : Int32) (σ : Sto), wX11_points_20 post  K120 n x1 x2 x3 x4 x6 x7 σ → V E 1 mX11_points (pV post) 20 [(0, .ref 67), (1, .int x1), (2, .int x2), (3, .int x3), (4, .long x4), (6, .int x6), (7, .int x7)] [] σ := by
  intro n
  induction n with
  | zero => intro x1 x2 x3 x4 x6 x7 σ h; exact h.elim
  | succ n ih =>
    intro x1 x2 x3 x4 x6 x7 σ h
    unfold wX11_points_20 at h
    refine V_iload (pc := 20) 6 dX11_points_20 rfl ?_
    refine V_aload_n (pc := 22) 0 dX11_points_22 rfl ?_
    refine V_getI (pc := 23) dX11_points_23 fl_X11_122 sh_67 rfl ?_
    refine V_icmp_ge (pc := 26) (tgt := 120) dX11_points_26 (by decide) (fun hc => ?_) (fun hc => ?_)
    · replace h := h.1 hc
      exact V_loc [0, 1, 2, 3, 4, 5] rfl (HK120 x1 x2 x3 x4 x6 σ  h)
    · replace h := h.2 hc
      refine V_aload_n (pc := 29) 0 dX11_points_29 rfl ?_
      refine V_getR (pc := 30) dX11_points_30 fl_X11_16 sh_67 rfl ?_
      refine V_iload (pc := 33) 6 dX11_points_33 rfl ?_
      obtain ⟨i35, h⟩ := h
      refine V_iald (pc := 35) dX11_points_35 sh_70 i35 ?_
      refine V_if_ne (pc := 36) (tgt := 74) dX11_points_36 (by decide) (fun hc => ?_) (fun hc => ?_)
      · replace h := h.1 hc
        refine V_loc [0, 1, 2, 3, 4, 5, 6] rfl (vX11_points_74 E post   _ ih x1 x2 x3 x4 x6 x7 σ  h)
      · replace h := h.2 hc
        refine V_aload_n (pc := 39) 0 dX11_points_39 rfl ?_
        refine V_getR (pc := 40) dX11_points_40 fl_X11_19 sh_67 rfl ?_
        refine V_iload (pc := 43) 6 dX11_points_43 rfl ?_
        obtain ⟨i45, h⟩ := h
        refine V_iald (pc := 45) dX11_points_45 sh_71 i45 ?_
        refine V_iload_n (pc := 46) 1 dX11_points_46 rfl ?_
        refine V_icmp_ne (pc := 47) (tgt := 74) dX11_points_47 (by decide) (fun hc => ?_) (fun hc => ?_)
        · replace h := h.1 hc
          refine V_loc [0, 1, 2, 3, 4, 5, 6] rfl (vX11_points_74 E post   _ ih x1 x2 x3 x4 x6 x7 σ  h)
        · replace h := h.2 hc
          refine V_aload_n (pc := 50) 0 dX11_points_50 rfl ?_
          refine V_getR (pc := 51) dX11_points_51 fl_X11_22 sh_67 rfl ?_
          refine V_iload (pc := 54) 6 dX11_points_54 rfl ?_
          obtain ⟨i56, h⟩ := h
          refine V_iald (pc := 56) dX11_points_56 sh_72 i56 ?_
          refine V_iload_n (pc := 57) 3 dX11_points_57 rfl ?_
          refine V_icmp_ne (pc := 58) (tgt := 74) dX11_points_58 (by decide) (fun hc => ?_) (fun hc => ?_)
          · replace h := h.1 hc
            refine V_loc [0, 1, 2, 3, 4, 5, 6] rfl (vX11_points_74 E post   _ ih x1 x2 x3 x4 x6 x7 σ  h)
          · replace h := h.2 hc
            refine V_aload_n (pc := 61) 0 dX11_points_61 rfl ?_
            refine V_iload (pc := 62) 6 dX11_points_62 rfl ?_
            refine V_callV (pc := 64) (M' := mX11_isKnown) dX11_points_64 ml_X11_136 kv_X11_isKnown ko_X11_isKnown sh_67 (by decide) (by decide) rfl rfl (Nat.le_of_ble_eq_true rfl) (Nat.le_of_ble_eq_true rfl) (vX11_isKnown E  x7 σ _  h) (kB (fun r64 s64 h => ?_))
            refine V_ifz (pc := 67) (tgt := 74) dX11_points_67 (by decide) (fun hc => ?_) (fun hc => ?_)
            · replace h := h.1 hc
              refine V_loc [0, 1, 2, 3, 4, 5, 6] rfl (vX11_points_74 E post   _ ih x1 x2 x3 x4 x6 x7 s64  h)
            · replace h := h.2 hc
              refine V_iconst (pc := 70) (v := 1) dX11_points_70 (by decide) ?_
              refine V_goto (pc := 71) (tgt := 75) dX11_points_71 (by decide) ?_
              refine V_loc [0, 1, 2, 3, 4, 5, 6] rfl (vX11_points_75 E post   _ ih x1 x2 x3 x4 x6 x7 ((1 : Int32)) s64  h)
def wX11_points_4 (post : Sto → Prop)  (K175 : Int32 → Int32 → Sto → Prop) : Nat → Int32 → Int32 → Int32 → Sto → Prop
  | 0, _, _, _, _ => False
  | n + 1, x1, x2, x3, σ => ((((399 : Int32)) < x3) → (K175 x1 x2 σ)) ∧ ((¬ (((399 : Int32)) < x3)) → (∃ n20, wX11_points_20 post  (fun (x1_1 : Int32) (x2_1 : Int32) (x3_1 : Int32) (x4_1 : Int64) (x6_1 : Int32) (σ_1 : Sto) => ((x6_1 ≤ 0) → (wX11_points_4 post  K175 n x1_1 x2_1 (x3_1 + (1 : Int32)) σ_1)) ∧ ((¬ (x6_1 ≤ 0)) → (vp_in ((((150 : Int32)) * x1_1) + x2_1) 600 ∧ (vp_in ((((150 : Int32)) * x1_1) + x2_1) 600 ∧ (vp_in ((((150 : Int32)) * x1_1) + x2_1) 600 ∧ (wX11_points_4 post  K175 n x1_1 (x2_1 + (1 : Int32)) (x3_1 + (1 : Int32)) (wI (wL (wI σ_1 77 ((((150 : Int32)) * x1_1) + x2_1).toNatClampNeg x3_1) 78 ((((150 : Int32)) * x1_1) + x2_1).toNatClampNeg x4_1) 79 ((((150 : Int32)) * x1_1) + x2_1).toNatClampNeg x6_1))))))) n20 x1 x2 x3 ((0 : Int64)) ((0 : Int32)) ((0 : Int32)) σ))
set_option maxRecDepth 100000 in
set_option maxHeartbeats 4000000 in
theorem vX11_points_4 (E : Ev) (post : Sto → Prop)   (K175 : Int32 → Int32 → Sto → Prop) (HK175 : ∀ (x1 : Int32) (x2 : Int32) (σ : Sto), K175 x1 x2 σ → V E 1 mX11_points (pV post) 175 [(0, .ref 67), (1, .int x1), (2, .int x2)] [] σ) : ∀ (n : Nat) (x1 : Int32) (x2 : Int32) (x3 : Int32) (σ : Sto), wX11_points_4 post  K175 n x1 x2 x3 σ → V E 1 mX11_points (pV post) 4 [(0, .ref 67), (1, .int x1), (2, .int x2), (3, .int x3)] [] σ := by
  intro n
  induction n with
  | zero => intro x1 x2 x3 σ h; exact h.elim
  | succ n ih =>
    intro x1 x2 x3 σ h
    unfold wX11_points_4 at h
    refine V_iload_n (pc := 4) 3 dX11_points_4 rfl ?_
    refine V_sipush (pc := 5) (v := 399) dX11_points_5 (by decide) ?_
    refine V_icmp_gt (pc := 8) (tgt := 175) dX11_points_8 (by decide) (fun hc => ?_) (fun hc => ?_)
    · replace h := h.1 hc
      exact V_loc [0, 1, 2] rfl (HK175 x1 x2 σ  h)
    · replace h := h.2 hc
      refine V_lconst (pc := 11) (v := 0) dX11_points_11 (by decide) ?_
      refine V_lstore (pc := 12) dX11_points_12 (by decide) ?_
      refine V_iconst (pc := 14) (v := 0) dX11_points_14 (by decide) ?_
      refine V_istore (pc := 15) dX11_points_15 (by decide) ?_
      refine V_iconst (pc := 17) (v := 0) dX11_points_17 (by decide) ?_
      refine V_istore (pc := 18) dX11_points_18 (by decide) ?_
      obtain ⟨n20, h⟩ := h
      refine V_loc [3, 4, 5, 6, 2, 1, 0] rfl (vX11_points_20 E post   _ (fun x1_1 x2_1 x3_1 x4_1 x6_1 σ_1 h => ?_) n20 x1 x2 x3 ((0 : Int64)) ((0 : Int32)) ((0 : Int32)) σ  h)
      · refine V_iload (pc := 120) 5 dX11_points_120 rfl ?_
        refine V_if_le (pc := 122) (tgt := 169) dX11_points_122 (by decide) (fun hc => ?_) (fun hc => ?_)
        · replace h := h.1 hc
          refine V_iinc (pc := 169) 3 (v := 1) dX11_points_169 rfl (by decide) (by decide) ?_
          refine V_goto (pc := 172) (tgt := 4) dX11_points_172 (by decide) ?_
          exact V_loc [1, 2, 3, 0] rfl (ih x1_1 x2_1 (x3_1 + (1 : Int32)) σ_1  h)
        · replace h := h.2 hc
          refine V_aload_n (pc := 125) 0 dX11_points_125 rfl ?_
          refine V_getR (pc := 126) dX11_points_126 fl_X11_44 sh_67 rfl ?_
          refine V_sipush (pc := 129) (v := 150) dX11_points_129 (by decide) ?_
          refine V_iload_n (pc := 132) 1 dX11_points_132 rfl ?_
          refine V_imul (pc := 133) dX11_points_133 ?_
          refine V_iload_n (pc := 134) 2 dX11_points_134 rfl ?_
          refine V_iadd (pc := 135) dX11_points_135 ?_
          refine V_iload_n (pc := 136) 3 dX11_points_136 rfl ?_
          obtain ⟨i137, h⟩ := h
          refine V_iast (pc := 137) dX11_points_137 sh_77 i137 ?_
          refine V_aload_n (pc := 138) 0 dX11_points_138 rfl ?_
          refine V_getR (pc := 139) dX11_points_139 fl_X11_47 sh_67 rfl ?_
          refine V_sipush (pc := 142) (v := 150) dX11_points_142 (by decide) ?_
          refine V_iload_n (pc := 145) 1 dX11_points_145 rfl ?_
          refine V_imul (pc := 146) dX11_points_146 ?_
          refine V_iload_n (pc := 147) 2 dX11_points_147 rfl ?_
          refine V_iadd (pc := 148) dX11_points_148 ?_
          refine V_lload (pc := 149) 4 dX11_points_149 rfl ?_
          obtain ⟨i151, h⟩ := h
          refine V_last (pc := 151) dX11_points_151 sh_78 i151 ?_
          refine V_aload_n (pc := 152) 0 dX11_points_152 rfl ?_
          refine V_getR (pc := 153) dX11_points_153 fl_X11_51 sh_67 rfl ?_
          refine V_sipush (pc := 156) (v := 150) dX11_points_156 (by decide) ?_
          refine V_iload_n (pc := 159) 1 dX11_points_159 rfl ?_
          refine V_imul (pc := 160) dX11_points_160 ?_
          refine V_iload_n (pc := 161) 2 dX11_points_161 rfl ?_
          refine V_iadd (pc := 162) dX11_points_162 ?_
          refine V_iload (pc := 163) 5 dX11_points_163 rfl ?_
          obtain ⟨i165, h⟩ := h
          refine V_iast (pc := 165) dX11_points_165 sh_79 i165 ?_
          refine V_iinc (pc := 166) 2 (v := 1) dX11_points_166 rfl (by decide) (by decide) ?_
          refine V_iinc (pc := 169) 3 (v := 1) dX11_points_169 rfl (by decide) (by decide) ?_
          refine V_goto (pc := 172) (tgt := 4) dX11_points_172 (by decide) ?_
          exact V_loc [2, 3, 1, 0] rfl (ih x1_1 (x2_1 + (1 : Int32)) (x3_1 + (1 : Int32)) (wI (wL (wI σ_1 77 ((((150 : Int32)) * x1_1) + x2_1).toNatClampNeg x3_1) 78 ((((150 : Int32)) * x1_1) + x2_1).toNatClampNeg x4_1) 79 ((((150 : Int32)) * x1_1) + x2_1).toNatClampNeg x6_1)  h)
def wX11_points  (x1 : Int32) (σ : Sto) (post : Sto → Prop) : Prop := ∃ n4, wX11_points_4 post  (fun (x1_2 : Int32) (x2_2 : Int32) (σ_2 : Sto) => vp_in x1_2 4 ∧ (post (wI σ_2 76 x1_2.toNatClampNeg x2_2))) n4 x1 ((0 : Int32)) ((0 : Int32)) σ
set_option maxRecDepth 100000 in
set_option maxHeartbeats 4000000 in
theorem vX11_points (E : Ev)  (x1 : Int32) (σ : Sto) (post : Sto → Prop)  (h : wX11_points  x1 σ post) : V E 1 mX11_points (pV post) 0 [(0, .ref 67), (1, .int x1)] [] σ := by
  unfold wX11_points at h
  refine V_iconst (pc := 0) (v := 0) dX11_points_0 (by decide) ?_
  refine V_istore_n (pc := 1) dX11_points_1 (by decide) ?_
  refine V_iconst (pc := 2) (v := 0) dX11_points_2 (by decide) ?_
  refine V_istore_n (pc := 3) dX11_points_3 (by decide) ?_
  obtain ⟨n4, h⟩ := h
  refine V_loc [2, 3, 1, 0] rfl (vX11_points_4 E post   _ (fun x1_2 x2_2 σ_2 h => ?_) n4 x1 ((0 : Int32)) ((0 : Int32)) σ  h)
  · refine V_aload_n (pc := 175) 0 dX11_points_175 rfl ?_
    refine V_getR (pc := 176) dX11_points_176 fl_X11_41 sh_67 rfl ?_
    refine V_iload_n (pc := 179) 1 dX11_points_179 rfl ?_
    refine V_iload_n (pc := 180) 2 dX11_points_180 rfl ?_
    obtain ⟨i181, h⟩ := h
    refine V_iast (pc := 181) dX11_points_181 sh_76 i181 ?_
    exact V_vret dX11_points_182 rfl h
theorem dX11_driftOf_0 : decode cX11_driftOf 0 = .ok (.aload_n 0, 1) := by decide +kernel
theorem dX11_driftOf_1 : decode cX11_driftOf 1 = .ok (.getfield 41, 3) := by decide +kernel
theorem dX11_driftOf_4 : decode cX11_driftOf 4 = .ok (.iload_n 1, 1) := by decide +kernel
theorem dX11_driftOf_5 : decode cX11_driftOf 5 = .ok (.iaload, 1) := by decide +kernel
theorem dX11_driftOf_6 : decode cX11_driftOf 6 = .ok (.istore_n 3, 1) := by decide +kernel
theorem dX11_driftOf_7 : decode cX11_driftOf 7 = .ok (.sipush 150, 3) := by decide +kernel
theorem dX11_driftOf_10 : decode cX11_driftOf 10 = .ok (.iload_n 1, 1) := by decide +kernel
theorem dX11_driftOf_11 : decode cX11_driftOf 11 = .ok (.imul, 1) := by decide +kernel
theorem dX11_driftOf_12 : decode cX11_driftOf 12 = .ok (.istore 4, 2) := by decide +kernel
theorem dX11_driftOf_14 : decode cX11_driftOf 14 = .ok (.iload_n 3, 1) := by decide +kernel
theorem dX11_driftOf_15 : decode cX11_driftOf 15 = .ok (.ifCond .ne 5, 3) := by decide +kernel
theorem dX11_driftOf_18 : decode cX11_driftOf 18 = .ok (.iconst 0, 1) := by decide +kernel
theorem dX11_driftOf_19 : decode cX11_driftOf 19 = .ok (.ireturn, 1) := by decide +kernel
theorem dX11_driftOf_20 : decode cX11_driftOf 20 = .ok (.iload 4, 2) := by decide +kernel
theorem dX11_driftOf_22 : decode cX11_driftOf 22 = .ok (.istore 5, 2) := by decide +kernel
theorem dX11_driftOf_24 : decode cX11_driftOf 24 = .ok (.iload 5, 2) := by decide +kernel
theorem dX11_driftOf_26 : decode cX11_driftOf 26 = .ok (.iconst 1, 1) := by decide +kernel
theorem dX11_driftOf_27 : decode cX11_driftOf 27 = .ok (.iadd, 1) := by decide +kernel
theorem dX11_driftOf_28 : decode cX11_driftOf 28 = .ok (.iload 4, 2) := by decide +kernel
theorem dX11_driftOf_30 : decode cX11_driftOf 30 = .ok (.iload_n 3, 1) := by decide +kernel
theorem dX11_driftOf_31 : decode cX11_driftOf 31 = .ok (.iadd, 1) := by decide +kernel
theorem dX11_driftOf_32 : decode cX11_driftOf 32 = .ok (.if_icmp .ge 22, 3) := by decide +kernel
theorem dX11_driftOf_35 : decode cX11_driftOf 35 = .ok (.aload_n 0, 1) := by decide +kernel
theorem dX11_driftOf_36 : decode cX11_driftOf 36 = .ok (.getfield 44, 3) := by decide +kernel
theorem dX11_driftOf_39 : decode cX11_driftOf 39 = .ok (.iload 5, 2) := by decide +kernel
theorem dX11_driftOf_41 : decode cX11_driftOf 41 = .ok (.iconst 1, 1) := by decide +kernel
theorem dX11_driftOf_42 : decode cX11_driftOf 42 = .ok (.iadd, 1) := by decide +kernel
theorem dX11_driftOf_43 : decode cX11_driftOf 43 = .ok (.iaload, 1) := by decide +kernel
theorem dX11_driftOf_44 : decode cX11_driftOf 44 = .ok (.iload_n 2, 1) := by decide +kernel
theorem dX11_driftOf_45 : decode cX11_driftOf 45 = .ok (.if_icmp .gt 9, 3) := by decide +kernel
theorem dX11_driftOf_48 : decode cX11_driftOf 48 = .ok (.iinc 5 1, 3) := by decide +kernel
theorem dX11_driftOf_51 : decode cX11_driftOf 51 = .ok (.goto (-27), 3) := by decide +kernel
theorem dX11_driftOf_54 : decode cX11_driftOf 54 = .ok (.aload_n 0, 1) := by decide +kernel
theorem dX11_driftOf_55 : decode cX11_driftOf 55 = .ok (.getfield 51, 3) := by decide +kernel
theorem dX11_driftOf_58 : decode cX11_driftOf 58 = .ok (.iload 4, 2) := by decide +kernel
theorem dX11_driftOf_60 : decode cX11_driftOf 60 = .ok (.iaload, 1) := by decide +kernel
theorem dX11_driftOf_61 : decode cX11_driftOf 61 = .ok (.i2l, 1) := by decide +kernel
theorem dX11_driftOf_62 : decode cX11_driftOf 62 = .ok (.lstore 6, 2) := by decide +kernel
theorem dX11_driftOf_64 : decode cX11_driftOf 64 = .ok (.aload_n 0, 1) := by decide +kernel
theorem dX11_driftOf_65 : decode cX11_driftOf 65 = .ok (.getfield 47, 3) := by decide +kernel
theorem dX11_driftOf_68 : decode cX11_driftOf 68 = .ok (.iload 5, 2) := by decide +kernel
theorem dX11_driftOf_70 : decode cX11_driftOf 70 = .ok (.laload, 1) := by decide +kernel
theorem dX11_driftOf_71 : decode cX11_driftOf 71 = .ok (.lload 6, 2) := by decide +kernel
theorem dX11_driftOf_73 : decode cX11_driftOf 73 = .ok (.lmul, 1) := by decide +kernel
theorem dX11_driftOf_74 : decode cX11_driftOf 74 = .ok (.aload_n 0, 1) := by decide +kernel
theorem dX11_driftOf_75 : decode cX11_driftOf 75 = .ok (.getfield 47, 3) := by decide +kernel
theorem dX11_driftOf_78 : decode cX11_driftOf 78 = .ok (.iload 4, 2) := by decide +kernel
theorem dX11_driftOf_80 : decode cX11_driftOf 80 = .ok (.laload, 1) := by decide +kernel
theorem dX11_driftOf_81 : decode cX11_driftOf 81 = .ok (.aload_n 0, 1) := by decide +kernel
theorem dX11_driftOf_82 : decode cX11_driftOf 82 = .ok (.getfield 51, 3) := by decide +kernel
theorem dX11_driftOf_85 : decode cX11_driftOf 85 = .ok (.iload 5, 2) := by decide +kernel
theorem dX11_driftOf_87 : decode cX11_driftOf 87 = .ok (.iaload, 1) := by decide +kernel
theorem dX11_driftOf_88 : decode cX11_driftOf 88 = .ok (.i2l, 1) := by decide +kernel
theorem dX11_driftOf_89 : decode cX11_driftOf 89 = .ok (.lmul, 1) := by decide +kernel
theorem dX11_driftOf_90 : decode cX11_driftOf 90 = .ok (.lsub, 1) := by decide +kernel
theorem dX11_driftOf_91 : decode cX11_driftOf 91 = .ok (.lstore 8, 2) := by decide +kernel
theorem dX11_driftOf_93 : decode cX11_driftOf 93 = .ok (.aload_n 0, 1) := by decide +kernel
theorem dX11_driftOf_94 : decode cX11_driftOf 94 = .ok (.getfield 51, 3) := by decide +kernel
theorem dX11_driftOf_97 : decode cX11_driftOf 97 = .ok (.iload 5, 2) := by decide +kernel
theorem dX11_driftOf_99 : decode cX11_driftOf 99 = .ok (.iaload, 1) := by decide +kernel
theorem dX11_driftOf_100 : decode cX11_driftOf 100 = .ok (.i2l, 1) := by decide +kernel
theorem dX11_driftOf_101 : decode cX11_driftOf 101 = .ok (.lload 6, 2) := by decide +kernel
theorem dX11_driftOf_103 : decode cX11_driftOf 103 = .ok (.lmul, 1) := by decide +kernel
theorem dX11_driftOf_104 : decode cX11_driftOf 104 = .ok (.lstore 10, 2) := by decide +kernel
theorem dX11_driftOf_106 : decode cX11_driftOf 106 = .ok (.iload_n 2, 1) := by decide +kernel
theorem dX11_driftOf_107 : decode cX11_driftOf 107 = .ok (.aload_n 0, 1) := by decide +kernel
theorem dX11_driftOf_108 : decode cX11_driftOf 108 = .ok (.getfield 44, 3) := by decide +kernel
theorem dX11_driftOf_111 : decode cX11_driftOf 111 = .ok (.iload 4, 2) := by decide +kernel
theorem dX11_driftOf_113 : decode cX11_driftOf 113 = .ok (.iaload, 1) := by decide +kernel
theorem dX11_driftOf_114 : decode cX11_driftOf 114 = .ok (.if_icmp .ge 5, 3) := by decide +kernel
theorem dX11_driftOf_117 : decode cX11_driftOf 117 = .ok (.iconst 0, 1) := by decide +kernel
theorem dX11_driftOf_118 : decode cX11_driftOf 118 = .ok (.ireturn, 1) := by decide +kernel
theorem dX11_driftOf_119 : decode cX11_driftOf 119 = .ok (.iload 5, 2) := by decide +kernel
theorem dX11_driftOf_121 : decode cX11_driftOf 121 = .ok (.iconst 1, 1) := by decide +kernel
theorem dX11_driftOf_122 : decode cX11_driftOf 122 = .ok (.iadd, 1) := by decide +kernel
theorem dX11_driftOf_123 : decode cX11_driftOf 123 = .ok (.iload 4, 2) := by decide +kernel
theorem dX11_driftOf_125 : decode cX11_driftOf 125 = .ok (.iload_n 3, 1) := by decide +kernel
theorem dX11_driftOf_126 : decode cX11_driftOf 126 = .ok (.iadd, 1) := by decide +kernel
theorem dX11_driftOf_127 : decode cX11_driftOf 127 = .ok (.if_icmp .ge 111, 3) := by decide +kernel
theorem dX11_driftOf_130 : decode cX11_driftOf 130 = .ok (.aload_n 0, 1) := by decide +kernel
theorem dX11_driftOf_131 : decode cX11_driftOf 131 = .ok (.getfield 47, 3) := by decide +kernel
theorem dX11_driftOf_134 : decode cX11_driftOf 134 = .ok (.iload 5, 2) := by decide +kernel
theorem dX11_driftOf_136 : decode cX11_driftOf 136 = .ok (.iconst 1, 1) := by decide +kernel
theorem dX11_driftOf_137 : decode cX11_driftOf 137 = .ok (.iadd, 1) := by decide +kernel
theorem dX11_driftOf_138 : decode cX11_driftOf 138 = .ok (.laload, 1) := by decide +kernel
theorem dX11_driftOf_139 : decode cX11_driftOf 139 = .ok (.aload_n 0, 1) := by decide +kernel
theorem dX11_driftOf_140 : decode cX11_driftOf 140 = .ok (.getfield 51, 3) := by decide +kernel
theorem dX11_driftOf_143 : decode cX11_driftOf 143 = .ok (.iload 5, 2) := by decide +kernel
theorem dX11_driftOf_145 : decode cX11_driftOf 145 = .ok (.iaload, 1) := by decide +kernel
theorem dX11_driftOf_146 : decode cX11_driftOf 146 = .ok (.i2l, 1) := by decide +kernel
theorem dX11_driftOf_147 : decode cX11_driftOf 147 = .ok (.lmul, 1) := by decide +kernel
theorem dX11_driftOf_148 : decode cX11_driftOf 148 = .ok (.aload_n 0, 1) := by decide +kernel
theorem dX11_driftOf_149 : decode cX11_driftOf 149 = .ok (.getfield 47, 3) := by decide +kernel
theorem dX11_driftOf_152 : decode cX11_driftOf 152 = .ok (.iload 5, 2) := by decide +kernel
theorem dX11_driftOf_154 : decode cX11_driftOf 154 = .ok (.laload, 1) := by decide +kernel
theorem dX11_driftOf_155 : decode cX11_driftOf 155 = .ok (.aload_n 0, 1) := by decide +kernel
theorem dX11_driftOf_156 : decode cX11_driftOf 156 = .ok (.getfield 51, 3) := by decide +kernel
theorem dX11_driftOf_159 : decode cX11_driftOf 159 = .ok (.iload 5, 2) := by decide +kernel
theorem dX11_driftOf_161 : decode cX11_driftOf 161 = .ok (.iconst 1, 1) := by decide +kernel
theorem dX11_driftOf_162 : decode cX11_driftOf 162 = .ok (.iadd, 1) := by decide +kernel
theorem dX11_driftOf_163 : decode cX11_driftOf 163 = .ok (.iaload, 1) := by decide +kernel
theorem dX11_driftOf_164 : decode cX11_driftOf 164 = .ok (.i2l, 1) := by decide +kernel
theorem dX11_driftOf_165 : decode cX11_driftOf 165 = .ok (.lmul, 1) := by decide +kernel
theorem dX11_driftOf_166 : decode cX11_driftOf 166 = .ok (.lsub, 1) := by decide +kernel
theorem dX11_driftOf_167 : decode cX11_driftOf 167 = .ok (.lstore 12, 2) := by decide +kernel
theorem dX11_driftOf_169 : decode cX11_driftOf 169 = .ok (.aload_n 0, 1) := by decide +kernel
theorem dX11_driftOf_170 : decode cX11_driftOf 170 = .ok (.getfield 51, 3) := by decide +kernel
theorem dX11_driftOf_173 : decode cX11_driftOf 173 = .ok (.iload 5, 2) := by decide +kernel
theorem dX11_driftOf_175 : decode cX11_driftOf 175 = .ok (.iconst 1, 1) := by decide +kernel
theorem dX11_driftOf_176 : decode cX11_driftOf 176 = .ok (.iadd, 1) := by decide +kernel
theorem dX11_driftOf_177 : decode cX11_driftOf 177 = .ok (.iaload, 1) := by decide +kernel
theorem dX11_driftOf_178 : decode cX11_driftOf 178 = .ok (.i2l, 1) := by decide +kernel
theorem dX11_driftOf_179 : decode cX11_driftOf 179 = .ok (.lstore 14, 2) := by decide +kernel
theorem dX11_driftOf_181 : decode cX11_driftOf 181 = .ok (.aload_n 0, 1) := by decide +kernel
theorem dX11_driftOf_182 : decode cX11_driftOf 182 = .ok (.getfield 44, 3) := by decide +kernel
theorem dX11_driftOf_185 : decode cX11_driftOf 185 = .ok (.iload 5, 2) := by decide +kernel
theorem dX11_driftOf_187 : decode cX11_driftOf 187 = .ok (.iconst 1, 1) := by decide +kernel
theorem dX11_driftOf_188 : decode cX11_driftOf 188 = .ok (.iadd, 1) := by decide +kernel
theorem dX11_driftOf_189 : decode cX11_driftOf 189 = .ok (.iaload, 1) := by decide +kernel
theorem dX11_driftOf_190 : decode cX11_driftOf 190 = .ok (.aload_n 0, 1) := by decide +kernel
theorem dX11_driftOf_191 : decode cX11_driftOf 191 = .ok (.getfield 44, 3) := by decide +kernel
theorem dX11_driftOf_194 : decode cX11_driftOf 194 = .ok (.iload 5, 2) := by decide +kernel
theorem dX11_driftOf_196 : decode cX11_driftOf 196 = .ok (.iaload, 1) := by decide +kernel
theorem dX11_driftOf_197 : decode cX11_driftOf 197 = .ok (.isub, 1) := by decide +kernel
theorem dX11_driftOf_198 : decode cX11_driftOf 198 = .ok (.i2l, 1) := by decide +kernel
theorem dX11_driftOf_199 : decode cX11_driftOf 199 = .ok (.lstore 16, 2) := by decide +kernel
theorem dX11_driftOf_201 : decode cX11_driftOf 201 = .ok (.lload 8, 2) := by decide +kernel
theorem dX11_driftOf_203 : decode cX11_driftOf 203 = .ok (.lload 14, 2) := by decide +kernel
theorem dX11_driftOf_205 : decode cX11_driftOf 205 = .ok (.lmul, 1) := by decide +kernel
theorem dX11_driftOf_206 : decode cX11_driftOf 206 = .ok (.lload 16, 2) := by decide +kernel
theorem dX11_driftOf_208 : decode cX11_driftOf 208 = .ok (.lmul, 1) := by decide +kernel
theorem dX11_driftOf_209 : decode cX11_driftOf 209 = .ok (.lload 12, 2) := by decide +kernel
theorem dX11_driftOf_211 : decode cX11_driftOf 211 = .ok (.lload 6, 2) := by decide +kernel
theorem dX11_driftOf_213 : decode cX11_driftOf 213 = .ok (.lmul, 1) := by decide +kernel
theorem dX11_driftOf_214 : decode cX11_driftOf 214 = .ok (.iload_n 2, 1) := by decide +kernel
theorem dX11_driftOf_215 : decode cX11_driftOf 215 = .ok (.aload_n 0, 1) := by decide +kernel
theorem dX11_driftOf_216 : decode cX11_driftOf 216 = .ok (.getfield 44, 3) := by decide +kernel
theorem dX11_driftOf_219 : decode cX11_driftOf 219 = .ok (.iload 5, 2) := by decide +kernel
theorem dX11_driftOf_221 : decode cX11_driftOf 221 = .ok (.iaload, 1) := by decide +kernel
theorem dX11_driftOf_222 : decode cX11_driftOf 222 = .ok (.isub, 1) := by decide +kernel
theorem dX11_driftOf_223 : decode cX11_driftOf 223 = .ok (.i2l, 1) := by decide +kernel
theorem dX11_driftOf_224 : decode cX11_driftOf 224 = .ok (.lmul, 1) := by decide +kernel
theorem dX11_driftOf_225 : decode cX11_driftOf 225 = .ok (.ladd, 1) := by decide +kernel
theorem dX11_driftOf_226 : decode cX11_driftOf 226 = .ok (.lstore 8, 2) := by decide +kernel
theorem dX11_driftOf_228 : decode cX11_driftOf 228 = .ok (.lload 10, 2) := by decide +kernel
theorem dX11_driftOf_230 : decode cX11_driftOf 230 = .ok (.lload 14, 2) := by decide +kernel
theorem dX11_driftOf_232 : decode cX11_driftOf 232 = .ok (.lmul, 1) := by decide +kernel
theorem dX11_driftOf_233 : decode cX11_driftOf 233 = .ok (.lload 16, 2) := by decide +kernel
theorem dX11_driftOf_235 : decode cX11_driftOf 235 = .ok (.lmul, 1) := by decide +kernel
theorem dX11_driftOf_236 : decode cX11_driftOf 236 = .ok (.lstore 10, 2) := by decide +kernel
theorem dX11_driftOf_238 : decode cX11_driftOf 238 = .ok (.ldc2_w 139, 3) := by decide +kernel
theorem dX11_driftOf_241 : decode cX11_driftOf 241 = .ok (.lload 8, 2) := by decide +kernel
theorem dX11_driftOf_243 : decode cX11_driftOf 243 = .ok (.lmul, 1) := by decide +kernel
theorem dX11_driftOf_244 : decode cX11_driftOf 244 = .ok (.lload 10, 2) := by decide +kernel
theorem dX11_driftOf_246 : decode cX11_driftOf 246 = .ok (.invokestatic 141, 3) := by decide +kernel
theorem dX11_driftOf_249 : decode cX11_driftOf 249 = .ok (.l2i, 1) := by decide +kernel
theorem dX11_driftOf_250 : decode cX11_driftOf 250 = .ok (.ireturn, 1) := by decide +kernel
def wX11_driftOf_24 (post : Int32 → Sto → Prop)  (K54 : Int32 → Int32 → Int32 → Int32 → Sto → Prop) : Nat → Int32 → Int32 → Int32 → Int32 → Sto → Prop
  | 0, _, _, _, _, _ => False
  | n + 1, x2, x3, x4, x5, σ => (((x4 + x3) ≤ (x5 + ((1 : Int32)))) → (K54 x2 x3 x4 x5 σ)) ∧ ((¬ ((x4 + x3) ≤ (x5 + ((1 : Int32))))) → (vp_in (x5 + ((1 : Int32))) 600 ∧ (((x2 < (σ.1 77 (x5 + ((1 : Int32))).toNatClampNeg)) → (K54 x2 x3 x4 x5 σ)) ∧ ((¬ (x2 < (σ.1 77 (x5 + ((1 : Int32))).toNatClampNeg))) → (wX11_driftOf_24 post  K54 n x2 x3 x4 (x5 + (1 : Int32)) σ)))))
set_option maxRecDepth 100000 in
set_option maxHeartbeats 4000000 in
theorem vX11_driftOf_24 (E : Ev) (post : Int32 → Sto → Prop)   (K54 : Int32 → Int32 → Int32 → Int32 → Sto → Prop) (HK54 : ∀ (x2 : Int32) (x3 : Int32) (x4 : Int32) (x5 : Int32) (σ : Sto), K54 x2 x3 x4 x5 σ → V E 2 mX11_driftOf (pI post) 54 [(0, .ref 67), (2, .int x2), (3, .int x3), (4, .int x4), (5, .int x5)] [] σ) : ∀ (n : Nat) (x2 : Int32) (x3 : Int32) (x4 : Int32) (x5 : Int32) (σ : Sto), wX11_driftOf_24 post  K54 n x2 x3 x4 x5 σ → V E 2 mX11_driftOf (pI post) 24 [(0, .ref 67), (2, .int x2), (3, .int x3), (4, .int x4), (5, .int x5)] [] σ := by
  intro n
  induction n with
  | zero => intro x2 x3 x4 x5 σ h; exact h.elim
  | succ n ih =>
    intro x2 x3 x4 x5 σ h
    unfold wX11_driftOf_24 at h
    refine V_iload (pc := 24) 4 dX11_driftOf_24 rfl ?_
    refine V_iconst (pc := 26) (v := 1) dX11_driftOf_26 (by decide) ?_
    refine V_iadd (pc := 27) dX11_driftOf_27 ?_
    refine V_iload (pc := 28) 3 dX11_driftOf_28 rfl ?_
    refine V_iload_n (pc := 30) 2 dX11_driftOf_30 rfl ?_
    refine V_iadd (pc := 31) dX11_driftOf_31 ?_
    refine V_icmp_ge (pc := 32) (tgt := 54) dX11_driftOf_32 (by decide) (fun hc => ?_) (fun hc => ?_)
    · replace h := h.1 hc
      exact V_loc [0, 1, 2, 3, 4] rfl (HK54 x2 x3 x4 x5 σ  h)
    · replace h := h.2 hc
      refine V_aload_n (pc := 35) 0 dX11_driftOf_35 rfl ?_
      refine V_getR (pc := 36) dX11_driftOf_36 fl_X11_44 sh_67 rfl ?_
      refine V_iload (pc := 39) 4 dX11_driftOf_39 rfl ?_
      refine V_iconst (pc := 41) (v := 1) dX11_driftOf_41 (by decide) ?_
      refine V_iadd (pc := 42) dX11_driftOf_42 ?_
      obtain ⟨i43, h⟩ := h
      refine V_iald (pc := 43) dX11_driftOf_43 sh_77 i43 ?_
      refine V_iload_n (pc := 44) 1 dX11_driftOf_44 rfl ?_
      refine V_icmp_gt (pc := 45) (tgt := 54) dX11_driftOf_45 (by decide) (fun hc => ?_) (fun hc => ?_)
      · replace h := h.1 hc
        exact V_loc [0, 1, 2, 3, 4] rfl (HK54 x2 x3 x4 x5 σ  h)
      · replace h := h.2 hc
        refine V_iinc (pc := 48) 4 (v := 1) dX11_driftOf_48 rfl (by decide) (by decide) ?_
        refine V_goto (pc := 51) (tgt := 24) dX11_driftOf_51 (by decide) ?_
        exact V_loc [1, 2, 3, 4, 0] rfl (ih x2 x3 x4 (x5 + (1 : Int32)) σ  h)
def wX11_driftOf_238 (post : Int32 → Sto → Prop)   (x8 : Int64) (x10 : Int64) (σ : Sto) : Prop := wX11_near  (((1000 : Int64)) * x8) x10 σ (fun (r246 : Int64) (s246 : Sto) => post r246.toInt32 s246)
set_option maxRecDepth 100000 in
set_option maxHeartbeats 4000000 in
theorem vX11_driftOf_238 (E : Ev) (post : Int32 → Sto → Prop)     (x8 : Int64) (x10 : Int64) (σ : Sto) (h : wX11_driftOf_238 post   x8 x10 σ) : V E 2 mX11_driftOf (pI post) 238 [(8, .long x8), (10, .long x10)] [] σ := by
  unfold wX11_driftOf_238 at h
  refine V_ldc2 (pc := 238) dX11_driftOf_238 cl_X11_139 ?_
  refine V_lload (pc := 241) 0 dX11_driftOf_241 rfl ?_
  refine V_lmul (pc := 243) dX11_driftOf_243 ?_
  refine V_lload (pc := 244) 1 dX11_driftOf_244 rfl ?_
  refine V_callS (pc := 246) (M' := mX11_near) dX11_driftOf_246 ml_X11_141 ks_X11_near ko_X11_near (by decide) rfl (Nat.le_of_ble_eq_true rfl) (Nat.le_of_ble_eq_true rfl) (vX11_near E  (((1000 : Int64)) * x8) x10 σ _  h) (kL (fun r246 s246 h => ?_))
  refine V_l2i (pc := 249) dX11_driftOf_249 ?_
  exact V_iret dX11_driftOf_250 rfl h
def wX11_driftOf_54 (post : Int32 → Sto → Prop)   (x2 : Int32) (x3 : Int32) (x4 : Int32) (x5 : Int32) (σ : Sto) : Prop := vp_in x4 600 ∧ (vp_in x5 600 ∧ (vp_in x4 600 ∧ (vp_in x5 600 ∧ (vp_in x5 600 ∧ (vp_in x4 600 ∧ ((((σ.1 77 x4.toNatClampNeg) ≤ x2) → ((((x4 + x3) ≤ (x5 + ((1 : Int32)))) → (wX11_driftOf_238 post   (((σ.2 78 x5.toNatClampNeg) * ((σ.1 79 x4.toNatClampNeg).toInt64)) - ((σ.2 78 x4.toNatClampNeg) * ((σ.1 79 x5.toNatClampNeg).toInt64))) (((σ.1 79 x5.toNatClampNeg).toInt64) * ((σ.1 79 x4.toNatClampNeg).toInt64)) σ)) ∧ ((¬ ((x4 + x3) ≤ (x5 + ((1 : Int32))))) → (vp_in (x5 + ((1 : Int32))) 600 ∧ (vp_in x5 600 ∧ (vp_in x5 600 ∧ (vp_in (x5 + ((1 : Int32))) 600 ∧ (vp_in (x5 + ((1 : Int32))) 600 ∧ (vp_in (x5 + ((1 : Int32))) 600 ∧ (vp_in x5 600 ∧ (vp_in x5 600 ∧ (wX11_driftOf_238 post   ((((((σ.2 78 x5.toNatClampNeg) * ((σ.1 79 x4.toNatClampNeg).toInt64)) - ((σ.2 78 x4.toNatClampNeg) * ((σ.1 79 x5.toNatClampNeg).toInt64))) * ((σ.1 79 (x5 + ((1 : Int32))).toNatClampNeg).toInt64)) * (((σ.1 77 (x5 + ((1 : Int32))).toNatClampNeg) - (σ.1 77 x5.toNatClampNeg)).toInt64)) + (((((σ.2 78 (x5 + ((1 : Int32))).toNatClampNeg) * ((σ.1 79 x5.toNatClampNeg).toInt64)) - ((σ.2 78 x5.toNatClampNeg) * ((σ.1 79 (x5 + ((1 : Int32))).toNatClampNeg).toInt64))) * ((σ.1 79 x4.toNatClampNeg).toInt64)) * ((x2 - (σ.1 77 x5.toNatClampNeg)).toInt64))) (((((σ.1 79 x5.toNatClampNeg).toInt64) * ((σ.1 79 x4.toNatClampNeg).toInt64)) * ((σ.1 79 (x5 + ((1 : Int32))).toNatClampNeg).toInt64)) * (((σ.1 77 (x5 + ((1 : Int32))).toNatClampNeg) - (σ.1 77 x5.toNatClampNeg)).toInt64)) σ)))))))))))) ∧ ((¬ ((σ.1 77 x4.toNatClampNeg) ≤ x2)) → (post ((0 : Int32)) σ))))))))
set_option maxRecDepth 100000 in
set_option maxHeartbeats 4000000 in
theorem vX11_driftOf_54 (E : Ev) (post : Int32 → Sto → Prop)     (x2 : Int32) (x3 : Int32) (x4 : Int32) (x5 : Int32) (σ : Sto) (h : wX11_driftOf_54 post   x2 x3 x4 x5 σ) : V E 2 mX11_driftOf (pI post) 54 [(0, .ref 67), (2, .int x2), (3, .int x3), (4, .int x4), (5, .int x5)] [] σ := by
  unfold wX11_driftOf_54 at h
  refine V_aload_n (pc := 54) 0 dX11_driftOf_54 rfl ?_
  refine V_getR (pc := 55) dX11_driftOf_55 fl_X11_51 sh_67 rfl ?_
  refine V_iload (pc := 58) 3 dX11_driftOf_58 rfl ?_
  obtain ⟨i60, h⟩ := h
  refine V_iald (pc := 60) dX11_driftOf_60 sh_79 i60 ?_
  refine V_i2l (pc := 61) dX11_driftOf_61 ?_
  refine V_lstore (pc := 62) dX11_driftOf_62 (by decide) ?_
  refine V_aload_n (pc := 64) 1 dX11_driftOf_64 rfl ?_
  refine V_getR (pc := 65) dX11_driftOf_65 fl_X11_47 sh_67 rfl ?_
  refine V_iload (pc := 68) 5 dX11_driftOf_68 rfl ?_
  obtain ⟨i70, h⟩ := h
  refine V_lald (pc := 70) dX11_driftOf_70 sh_78 i70 ?_
  refine V_lload (pc := 71) 0 dX11_driftOf_71 rfl ?_
  refine V_lmul (pc := 73) dX11_driftOf_73 ?_
  refine V_aload_n (pc := 74) 1 dX11_driftOf_74 rfl ?_
  refine V_getR (pc := 75) dX11_driftOf_75 fl_X11_47 sh_67 rfl ?_
  refine V_iload (pc := 78) 4 dX11_driftOf_78 rfl ?_
  obtain ⟨i80, h⟩ := h
  refine V_lald (pc := 80) dX11_driftOf_80 sh_78 i80 ?_
  refine V_aload_n (pc := 81) 1 dX11_driftOf_81 rfl ?_
  refine V_getR (pc := 82) dX11_driftOf_82 fl_X11_51 sh_67 rfl ?_
  refine V_iload (pc := 85) 5 dX11_driftOf_85 rfl ?_
  obtain ⟨i87, h⟩ := h
  refine V_iald (pc := 87) dX11_driftOf_87 sh_79 i87 ?_
  refine V_i2l (pc := 88) dX11_driftOf_88 ?_
  refine V_lmul (pc := 89) dX11_driftOf_89 ?_
  refine V_lsub (pc := 90) dX11_driftOf_90 ?_
  refine V_lstore (pc := 91) dX11_driftOf_91 (by decide) ?_
  refine V_aload_n (pc := 93) 2 dX11_driftOf_93 rfl ?_
  refine V_getR (pc := 94) dX11_driftOf_94 fl_X11_51 sh_67 rfl ?_
  refine V_iload (pc := 97) 6 dX11_driftOf_97 rfl ?_
  obtain ⟨i99, h⟩ := h
  refine V_iald (pc := 99) dX11_driftOf_99 sh_79 i99 ?_
  refine V_i2l (pc := 100) dX11_driftOf_100 ?_
  refine V_lload (pc := 101) 1 dX11_driftOf_101 rfl ?_
  refine V_lmul (pc := 103) dX11_driftOf_103 ?_
  refine V_lstore (pc := 104) dX11_driftOf_104 (by decide) ?_
  refine V_iload_n (pc := 106) 4 dX11_driftOf_106 rfl ?_
  refine V_aload_n (pc := 107) 3 dX11_driftOf_107 rfl ?_
  refine V_getR (pc := 108) dX11_driftOf_108 fl_X11_44 sh_67 rfl ?_
  refine V_iload (pc := 111) 6 dX11_driftOf_111 rfl ?_
  obtain ⟨i113, h⟩ := h
  refine V_iald (pc := 113) dX11_driftOf_113 sh_77 i113 ?_
  refine V_icmp_ge (pc := 114) (tgt := 119) dX11_driftOf_114 (by decide) (fun hc => ?_) (fun hc => ?_)
  · replace h := h.1 hc
    refine V_iload (pc := 119) 7 dX11_driftOf_119 rfl ?_
    refine V_iconst (pc := 121) (v := 1) dX11_driftOf_121 (by decide) ?_
    refine V_iadd (pc := 122) dX11_driftOf_122 ?_
    refine V_iload (pc := 123) 6 dX11_driftOf_123 rfl ?_
    refine V_iload_n (pc := 125) 5 dX11_driftOf_125 rfl ?_
    refine V_iadd (pc := 126) dX11_driftOf_126 ?_
    refine V_icmp_ge (pc := 127) (tgt := 238) dX11_driftOf_127 (by decide) (fun hc => ?_) (fun hc => ?_)
    · replace h := h.1 hc
      refine V_loc [1, 0] rfl (vX11_driftOf_238 E post     (((σ.2 78 x5.toNatClampNeg) * ((σ.1 79 x4.toNatClampNeg).toInt64)) - ((σ.2 78 x4.toNatClampNeg) * ((σ.1 79 x5.toNatClampNeg).toInt64))) (((σ.1 79 x5.toNatClampNeg).toInt64) * ((σ.1 79 x4.toNatClampNeg).toInt64)) σ  h)
    · replace h := h.2 hc
      refine V_aload_n (pc := 130) 3 dX11_driftOf_130 rfl ?_
      refine V_getR (pc := 131) dX11_driftOf_131 fl_X11_47 sh_67 rfl ?_
      refine V_iload (pc := 134) 7 dX11_driftOf_134 rfl ?_
      refine V_iconst (pc := 136) (v := 1) dX11_driftOf_136 (by decide) ?_
      refine V_iadd (pc := 137) dX11_driftOf_137 ?_
      obtain ⟨i138, h⟩ := h
      refine V_lald (pc := 138) dX11_driftOf_138 sh_78 i138 ?_
      refine V_aload_n (pc := 139) 3 dX11_driftOf_139 rfl ?_
      refine V_getR (pc := 140) dX11_driftOf_140 fl_X11_51 sh_67 rfl ?_
      refine V_iload (pc := 143) 7 dX11_driftOf_143 rfl ?_
      obtain ⟨i145, h⟩ := h
      refine V_iald (pc := 145) dX11_driftOf_145 sh_79 i145 ?_
      refine V_i2l (pc := 146) dX11_driftOf_146 ?_
      refine V_lmul (pc := 147) dX11_driftOf_147 ?_
      refine V_aload_n (pc := 148) 3 dX11_driftOf_148 rfl ?_
      refine V_getR (pc := 149) dX11_driftOf_149 fl_X11_47 sh_67 rfl ?_
      refine V_iload (pc := 152) 7 dX11_driftOf_152 rfl ?_
      obtain ⟨i154, h⟩ := h
      refine V_lald (pc := 154) dX11_driftOf_154 sh_78 i154 ?_
      refine V_aload_n (pc := 155) 3 dX11_driftOf_155 rfl ?_
      refine V_getR (pc := 156) dX11_driftOf_156 fl_X11_51 sh_67 rfl ?_
      refine V_iload (pc := 159) 7 dX11_driftOf_159 rfl ?_
      refine V_iconst (pc := 161) (v := 1) dX11_driftOf_161 (by decide) ?_
      refine V_iadd (pc := 162) dX11_driftOf_162 ?_
      obtain ⟨i163, h⟩ := h
      refine V_iald (pc := 163) dX11_driftOf_163 sh_79 i163 ?_
      refine V_i2l (pc := 164) dX11_driftOf_164 ?_
      refine V_lmul (pc := 165) dX11_driftOf_165 ?_
      refine V_lsub (pc := 166) dX11_driftOf_166 ?_
      refine V_lstore (pc := 167) dX11_driftOf_167 (by decide) ?_
      refine V_aload_n (pc := 169) 4 dX11_driftOf_169 rfl ?_
      refine V_getR (pc := 170) dX11_driftOf_170 fl_X11_51 sh_67 rfl ?_
      refine V_iload (pc := 173) 8 dX11_driftOf_173 rfl ?_
      refine V_iconst (pc := 175) (v := 1) dX11_driftOf_175 (by decide) ?_
      refine V_iadd (pc := 176) dX11_driftOf_176 ?_
      obtain ⟨i177, h⟩ := h
      refine V_iald (pc := 177) dX11_driftOf_177 sh_79 i177 ?_
      refine V_i2l (pc := 178) dX11_driftOf_178 ?_
      refine V_lstore (pc := 179) dX11_driftOf_179 (by decide) ?_
      refine V_aload_n (pc := 181) 5 dX11_driftOf_181 rfl ?_
      refine V_getR (pc := 182) dX11_driftOf_182 fl_X11_44 sh_67 rfl ?_
      refine V_iload (pc := 185) 9 dX11_driftOf_185 rfl ?_
      refine V_iconst (pc := 187) (v := 1) dX11_driftOf_187 (by decide) ?_
      refine V_iadd (pc := 188) dX11_driftOf_188 ?_
      obtain ⟨i189, h⟩ := h
      refine V_iald (pc := 189) dX11_driftOf_189 sh_77 i189 ?_
      refine V_aload_n (pc := 190) 5 dX11_driftOf_190 rfl ?_
      refine V_getR (pc := 191) dX11_driftOf_191 fl_X11_44 sh_67 rfl ?_
      refine V_iload (pc := 194) 9 dX11_driftOf_194 rfl ?_
      obtain ⟨i196, h⟩ := h
      refine V_iald (pc := 196) dX11_driftOf_196 sh_77 i196 ?_
      refine V_isub (pc := 197) dX11_driftOf_197 ?_
      refine V_i2l (pc := 198) dX11_driftOf_198 ?_
      refine V_lstore (pc := 199) dX11_driftOf_199 (by decide) ?_
      refine V_lload (pc := 201) 4 dX11_driftOf_201 rfl ?_
      refine V_lload (pc := 203) 1 dX11_driftOf_203 rfl ?_
      refine V_lmul (pc := 205) dX11_driftOf_205 ?_
      refine V_lload (pc := 206) 0 dX11_driftOf_206 rfl ?_
      refine V_lmul (pc := 208) dX11_driftOf_208 ?_
      refine V_lload (pc := 209) 2 dX11_driftOf_209 rfl ?_
      refine V_lload (pc := 211) 5 dX11_driftOf_211 rfl ?_
      refine V_lmul (pc := 213) dX11_driftOf_213 ?_
      refine V_iload_n (pc := 214) 7 dX11_driftOf_214 rfl ?_
      refine V_aload_n (pc := 215) 6 dX11_driftOf_215 rfl ?_
      refine V_getR (pc := 216) dX11_driftOf_216 fl_X11_44 sh_67 rfl ?_
      refine V_iload (pc := 219) 10 dX11_driftOf_219 rfl ?_
      obtain ⟨i221, h⟩ := h
      refine V_iald (pc := 221) dX11_driftOf_221 sh_77 i221 ?_
      refine V_isub (pc := 222) dX11_driftOf_222 ?_
      refine V_i2l (pc := 223) dX11_driftOf_223 ?_
      refine V_lmul (pc := 224) dX11_driftOf_224 ?_
      refine V_ladd (pc := 225) dX11_driftOf_225 ?_
      refine V_lstore (pc := 226) dX11_driftOf_226 (by decide) ?_
      refine V_lload (pc := 228) 4 dX11_driftOf_228 rfl ?_
      refine V_lload (pc := 230) 2 dX11_driftOf_230 rfl ?_
      refine V_lmul (pc := 232) dX11_driftOf_232 ?_
      refine V_lload (pc := 233) 1 dX11_driftOf_233 rfl ?_
      refine V_lmul (pc := 235) dX11_driftOf_235 ?_
      refine V_lstore (pc := 236) dX11_driftOf_236 (by decide) ?_
      refine V_loc [1, 0] rfl (vX11_driftOf_238 E post     ((((((σ.2 78 x5.toNatClampNeg) * ((σ.1 79 x4.toNatClampNeg).toInt64)) - ((σ.2 78 x4.toNatClampNeg) * ((σ.1 79 x5.toNatClampNeg).toInt64))) * ((σ.1 79 (x5 + ((1 : Int32))).toNatClampNeg).toInt64)) * (((σ.1 77 (x5 + ((1 : Int32))).toNatClampNeg) - (σ.1 77 x5.toNatClampNeg)).toInt64)) + (((((σ.2 78 (x5 + ((1 : Int32))).toNatClampNeg) * ((σ.1 79 x5.toNatClampNeg).toInt64)) - ((σ.2 78 x5.toNatClampNeg) * ((σ.1 79 (x5 + ((1 : Int32))).toNatClampNeg).toInt64))) * ((σ.1 79 x4.toNatClampNeg).toInt64)) * ((x2 - (σ.1 77 x5.toNatClampNeg)).toInt64))) (((((σ.1 79 x5.toNatClampNeg).toInt64) * ((σ.1 79 x4.toNatClampNeg).toInt64)) * ((σ.1 79 (x5 + ((1 : Int32))).toNatClampNeg).toInt64)) * (((σ.1 77 (x5 + ((1 : Int32))).toNatClampNeg) - (σ.1 77 x5.toNatClampNeg)).toInt64)) σ  h)
  · replace h := h.2 hc
    refine V_iconst (pc := 117) (v := 0) dX11_driftOf_117 (by decide) ?_
    exact V_iret dX11_driftOf_118 rfl h
def wX11_driftOf  (x1 : Int32) (x2 : Int32) (σ : Sto) (post : Int32 → Sto → Prop) : Prop := vp_in x1 4 ∧ (((¬ (σ.1 76 x1.toNatClampNeg) = 0) → (∃ n24, wX11_driftOf_24 post  (fun (x2_1 : Int32) (x3_1 : Int32) (x4_1 : Int32) (x5_1 : Int32) (σ_1 : Sto) => wX11_driftOf_54 post   x2_1 x3_1 x4_1 x5_1 σ_1) n24 x2 (σ.1 76 x1.toNatClampNeg) (((150 : Int32)) * x1) (((150 : Int32)) * x1) σ)) ∧ (((σ.1 76 x1.toNatClampNeg) = 0) → (post ((0 : Int32)) σ)))
set_option maxRecDepth 100000 in
set_option maxHeartbeats 4000000 in
theorem vX11_driftOf (E : Ev)  (x1 : Int32) (x2 : Int32) (σ : Sto) (post : Int32 → Sto → Prop)  (h : wX11_driftOf  x1 x2 σ post) : V E 2 mX11_driftOf (pI post) 0 [(0, .ref 67), (1, .int x1), (2, .int x2)] [] σ := by
  unfold wX11_driftOf at h
  refine V_aload_n (pc := 0) 0 dX11_driftOf_0 rfl ?_
  refine V_getR (pc := 1) dX11_driftOf_1 fl_X11_41 sh_67 rfl ?_
  refine V_iload_n (pc := 4) 1 dX11_driftOf_4 rfl ?_
  obtain ⟨i5, h⟩ := h
  refine V_iald (pc := 5) dX11_driftOf_5 sh_76 i5 ?_
  refine V_istore_n (pc := 6) dX11_driftOf_6 (by decide) ?_
  refine V_sipush (pc := 7) (v := 150) dX11_driftOf_7 (by decide) ?_
  refine V_iload_n (pc := 10) 2 dX11_driftOf_10 rfl ?_
  refine V_imul (pc := 11) dX11_driftOf_11 ?_
  refine V_istore (pc := 12) dX11_driftOf_12 (by decide) ?_
  refine V_iload_n (pc := 14) 1 dX11_driftOf_14 rfl ?_
  refine V_if_ne (pc := 15) (tgt := 20) dX11_driftOf_15 (by decide) (fun hc => ?_) (fun hc => ?_)
  · replace h := h.1 hc
    refine V_iload (pc := 20) 0 dX11_driftOf_20 rfl ?_
    refine V_istore (pc := 22) dX11_driftOf_22 (by decide) ?_
    obtain ⟨n24, h⟩ := h
    refine V_loc [3, 5, 2, 1, 0] rfl (vX11_driftOf_24 E post   _ (fun x2_1 x3_1 x4_1 x5_1 σ_1 h => ?_) n24 x2 (σ.1 76 x1.toNatClampNeg) (((150 : Int32)) * x1) (((150 : Int32)) * x1) σ  h)
    · refine V_loc [0, 1, 2, 3, 4] rfl (vX11_driftOf_54 E post     x2_1 x3_1 x4_1 x5_1 σ_1  h)
  · replace h := h.2 hc
    refine V_iconst (pc := 18) (v := 0) dX11_driftOf_18 (by decide) ?_
    exact V_iret dX11_driftOf_19 rfl h
theorem dX11_reducedOf_0 : decode cX11_reducedOf 0 = .ok (.ldc2_w 139, 3) := by decide +kernel
theorem dX11_reducedOf_3 : decode cX11_reducedOf 3 = .ok (.aload_n 0, 1) := by decide +kernel
theorem dX11_reducedOf_4 : decode cX11_reducedOf 4 = .ok (.getfield 25, 3) := by decide +kernel
theorem dX11_reducedOf_7 : decode cX11_reducedOf 7 = .ok (.iload_n 1, 1) := by decide +kernel
theorem dX11_reducedOf_8 : decode cX11_reducedOf 8 = .ok (.iaload, 1) := by decide +kernel
theorem dX11_reducedOf_9 : decode cX11_reducedOf 9 = .ok (.i2l, 1) := by decide +kernel
theorem dX11_reducedOf_10 : decode cX11_reducedOf 10 = .ok (.lmul, 1) := by decide +kernel
theorem dX11_reducedOf_11 : decode cX11_reducedOf 11 = .ok (.aload_n 0, 1) := by decide +kernel
theorem dX11_reducedOf_12 : decode cX11_reducedOf 12 = .ok (.aload_n 0, 1) := by decide +kernel
theorem dX11_reducedOf_13 : decode cX11_reducedOf 13 = .ok (.getfield 19, 3) := by decide +kernel
theorem dX11_reducedOf_16 : decode cX11_reducedOf 16 = .ok (.iload_n 1, 1) := by decide +kernel
theorem dX11_reducedOf_17 : decode cX11_reducedOf 17 = .ok (.iaload, 1) := by decide +kernel
theorem dX11_reducedOf_18 : decode cX11_reducedOf 18 = .ok (.aload_n 0, 1) := by decide +kernel
theorem dX11_reducedOf_19 : decode cX11_reducedOf 19 = .ok (.getfield 22, 3) := by decide +kernel
theorem dX11_reducedOf_22 : decode cX11_reducedOf 22 = .ok (.iload_n 1, 1) := by decide +kernel
theorem dX11_reducedOf_23 : decode cX11_reducedOf 23 = .ok (.iaload, 1) := by decide +kernel
theorem dX11_reducedOf_24 : decode cX11_reducedOf 24 = .ok (.invokevirtual 152, 3) := by decide +kernel
theorem dX11_reducedOf_27 : decode cX11_reducedOf 27 = .ok (.i2l, 1) := by decide +kernel
theorem dX11_reducedOf_28 : decode cX11_reducedOf 28 = .ok (.lsub, 1) := by decide +kernel
theorem dX11_reducedOf_29 : decode cX11_reducedOf 29 = .ok (.lreturn, 1) := by decide +kernel
def wX11_reducedOf  (x1 : Int32) (σ : Sto) (post : Int64 → Sto → Prop) : Prop := vp_in x1 150 ∧ (vp_in x1 150 ∧ (vp_in x1 150 ∧ (wX11_driftOf  (σ.1 71 x1.toNatClampNeg) (σ.1 72 x1.toNatClampNeg) σ (fun (r24 : Int32) (s24 : Sto) => post ((((1000 : Int64)) * ((σ.1 73 x1.toNatClampNeg).toInt64)) - r24.toInt64) s24))))
set_option maxRecDepth 100000 in
set_option maxHeartbeats 4000000 in
theorem vX11_reducedOf (E : Ev)  (x1 : Int32) (σ : Sto) (post : Int64 → Sto → Prop)  (h : wX11_reducedOf  x1 σ post) : V E 3 mX11_reducedOf (pL post) 0 [(0, .ref 67), (1, .int x1)] [] σ := by
  unfold wX11_reducedOf at h
  refine V_ldc2 (pc := 0) dX11_reducedOf_0 cl_X11_139 ?_
  refine V_aload_n (pc := 3) 0 dX11_reducedOf_3 rfl ?_
  refine V_getR (pc := 4) dX11_reducedOf_4 fl_X11_25 sh_67 rfl ?_
  refine V_iload_n (pc := 7) 1 dX11_reducedOf_7 rfl ?_
  obtain ⟨i8, h⟩ := h
  refine V_iald (pc := 8) dX11_reducedOf_8 sh_73 i8 ?_
  refine V_i2l (pc := 9) dX11_reducedOf_9 ?_
  refine V_lmul (pc := 10) dX11_reducedOf_10 ?_
  refine V_aload_n (pc := 11) 0 dX11_reducedOf_11 rfl ?_
  refine V_aload_n (pc := 12) 0 dX11_reducedOf_12 rfl ?_
  refine V_getR (pc := 13) dX11_reducedOf_13 fl_X11_19 sh_67 rfl ?_
  refine V_iload_n (pc := 16) 1 dX11_reducedOf_16 rfl ?_
  obtain ⟨i17, h⟩ := h
  refine V_iald (pc := 17) dX11_reducedOf_17 sh_71 i17 ?_
  refine V_aload_n (pc := 18) 0 dX11_reducedOf_18 rfl ?_
  refine V_getR (pc := 19) dX11_reducedOf_19 fl_X11_22 sh_67 rfl ?_
  refine V_iload_n (pc := 22) 1 dX11_reducedOf_22 rfl ?_
  obtain ⟨i23, h⟩ := h
  refine V_iald (pc := 23) dX11_reducedOf_23 sh_72 i23 ?_
  refine V_callV (pc := 24) (M' := mX11_driftOf) dX11_reducedOf_24 ml_X11_152 kv_X11_driftOf ko_X11_driftOf sh_67 (by decide) (by decide) rfl rfl (Nat.le_of_ble_eq_true rfl) (Nat.le_of_ble_eq_true rfl) (vX11_driftOf E  (σ.1 71 x1.toNatClampNeg) (σ.1 72 x1.toNatClampNeg) σ _  h) (kI (fun r24 s24 h => ?_))
  refine V_i2l (pc := 27) dX11_reducedOf_27 ?_
  refine V_lsub (pc := 28) dX11_reducedOf_28 ?_
  exact V_lret dX11_reducedOf_29 rfl h
theorem dX11_works_0 : decode cX11_works 0 = .ok (.aload_n 0, 1) := by decide +kernel
theorem dX11_works_1 : decode cX11_works 1 = .ok (.getfield 111, 3) := by decide +kernel
theorem dX11_works_4 : decode cX11_works 4 = .ok (.ifCond .eq 4, 3) := by decide +kernel
theorem dX11_works_7 : decode cX11_works 7 = .ok (.return_, 1) := by decide +kernel
theorem dX11_works_8 : decode cX11_works 8 = .ok (.aload_n 0, 1) := by decide +kernel
theorem dX11_works_9 : decode cX11_works 9 = .ok (.iconst 1, 1) := by decide +kernel
theorem dX11_works_10 : decode cX11_works 10 = .ok (.putfield 111, 3) := by decide +kernel
theorem dX11_works_13 : decode cX11_works 13 = .ok (.iconst 0, 1) := by decide +kernel
theorem dX11_works_14 : decode cX11_works 14 = .ok (.istore_n 1, 1) := by decide +kernel
theorem dX11_works_15 : decode cX11_works 15 = .ok (.iload_n 1, 1) := by decide +kernel
theorem dX11_works_16 : decode cX11_works 16 = .ok (.iconst 4, 1) := by decide +kernel
theorem dX11_works_17 : decode cX11_works 17 = .ok (.if_icmp .ge 14, 3) := by decide +kernel
theorem dX11_works_20 : decode cX11_works 20 = .ok (.aload_n 0, 1) := by decide +kernel
theorem dX11_works_21 : decode cX11_works 21 = .ok (.iload_n 1, 1) := by decide +kernel
theorem dX11_works_22 : decode cX11_works 22 = .ok (.invokevirtual 144, 3) := by decide +kernel
theorem dX11_works_25 : decode cX11_works 25 = .ok (.iinc 1 1, 3) := by decide +kernel
theorem dX11_works_28 : decode cX11_works 28 = .ok (.goto (-13), 3) := by decide +kernel
theorem dX11_works_31 : decode cX11_works 31 = .ok (.iconst 0, 1) := by decide +kernel
theorem dX11_works_32 : decode cX11_works 32 = .ok (.istore_n 1, 1) := by decide +kernel
theorem dX11_works_33 : decode cX11_works 33 = .ok (.iload_n 1, 1) := by decide +kernel
theorem dX11_works_34 : decode cX11_works 34 = .ok (.bipush 56, 2) := by decide +kernel
theorem dX11_works_36 : decode cX11_works 36 = .ok (.if_icmp .ge 23, 3) := by decide +kernel
theorem dX11_works_39 : decode cX11_works 39 = .ok (.aload_n 0, 1) := by decide +kernel
theorem dX11_works_40 : decode cX11_works 40 = .ok (.getfield 54, 3) := by decide +kernel
theorem dX11_works_43 : decode cX11_works 43 = .ok (.iload_n 1, 1) := by decide +kernel
theorem dX11_works_44 : decode cX11_works 44 = .ok (.iconst 0, 1) := by decide +kernel
theorem dX11_works_45 : decode cX11_works 45 = .ok (.iastore, 1) := by decide +kernel
theorem dX11_works_46 : decode cX11_works 46 = .ok (.aload_n 0, 1) := by decide +kernel
theorem dX11_works_47 : decode cX11_works 47 = .ok (.getfield 57, 3) := by decide +kernel
theorem dX11_works_50 : decode cX11_works 50 = .ok (.iload_n 1, 1) := by decide +kernel
theorem dX11_works_51 : decode cX11_works 51 = .ok (.lconst 0, 1) := by decide +kernel
theorem dX11_works_52 : decode cX11_works 52 = .ok (.lastore, 1) := by decide +kernel
theorem dX11_works_53 : decode cX11_works 53 = .ok (.iinc 1 1, 3) := by decide +kernel
theorem dX11_works_56 : decode cX11_works 56 = .ok (.goto (-23), 3) := by decide +kernel
theorem dX11_works_59 : decode cX11_works 59 = .ok (.iconst 0, 1) := by decide +kernel
theorem dX11_works_60 : decode cX11_works 60 = .ok (.istore_n 1, 1) := by decide +kernel
theorem dX11_works_61 : decode cX11_works 61 = .ok (.iload_n 1, 1) := by decide +kernel
theorem dX11_works_62 : decode cX11_works 62 = .ok (.aload_n 0, 1) := by decide +kernel
theorem dX11_works_63 : decode cX11_works 63 = .ok (.getfield 122, 3) := by decide +kernel
theorem dX11_works_66 : decode cX11_works 66 = .ok (.if_icmp .ge 57, 3) := by decide +kernel
theorem dX11_works_69 : decode cX11_works 69 = .ok (.aload_n 0, 1) := by decide +kernel
theorem dX11_works_70 : decode cX11_works 70 = .ok (.iload_n 1, 1) := by decide +kernel
theorem dX11_works_71 : decode cX11_works 71 = .ok (.invokevirtual 136, 3) := by decide +kernel
theorem dX11_works_74 : decode cX11_works 74 = .ok (.ifCond .eq 43, 3) := by decide +kernel
theorem dX11_works_77 : decode cX11_works 77 = .ok (.iconst 4, 1) := by decide +kernel
theorem dX11_works_78 : decode cX11_works 78 = .ok (.aload_n 0, 1) := by decide +kernel
theorem dX11_works_79 : decode cX11_works 79 = .ok (.getfield 16, 3) := by decide +kernel
theorem dX11_works_82 : decode cX11_works 82 = .ok (.iload_n 1, 1) := by decide +kernel
theorem dX11_works_83 : decode cX11_works 83 = .ok (.iaload, 1) := by decide +kernel
theorem dX11_works_84 : decode cX11_works 84 = .ok (.imul, 1) := by decide +kernel
theorem dX11_works_85 : decode cX11_works 85 = .ok (.aload_n 0, 1) := by decide +kernel
theorem dX11_works_86 : decode cX11_works 86 = .ok (.getfield 19, 3) := by decide +kernel
theorem dX11_works_89 : decode cX11_works 89 = .ok (.iload_n 1, 1) := by decide +kernel
theorem dX11_works_90 : decode cX11_works 90 = .ok (.iaload, 1) := by decide +kernel
theorem dX11_works_91 : decode cX11_works 91 = .ok (.iadd, 1) := by decide +kernel
theorem dX11_works_92 : decode cX11_works 92 = .ok (.istore_n 2, 1) := by decide +kernel
theorem dX11_works_93 : decode cX11_works 93 = .ok (.aload_n 0, 1) := by decide +kernel
theorem dX11_works_94 : decode cX11_works 94 = .ok (.getfield 54, 3) := by decide +kernel
theorem dX11_works_97 : decode cX11_works 97 = .ok (.iload_n 2, 1) := by decide +kernel
theorem dX11_works_98 : decode cX11_works 98 = .ok (.dup2, 1) := by decide +kernel
theorem dX11_works_99 : decode cX11_works 99 = .ok (.iaload, 1) := by decide +kernel
theorem dX11_works_100 : decode cX11_works 100 = .ok (.iconst 1, 1) := by decide +kernel
theorem dX11_works_101 : decode cX11_works 101 = .ok (.iadd, 1) := by decide +kernel
theorem dX11_works_102 : decode cX11_works 102 = .ok (.iastore, 1) := by decide +kernel
theorem dX11_works_103 : decode cX11_works 103 = .ok (.aload_n 0, 1) := by decide +kernel
theorem dX11_works_104 : decode cX11_works 104 = .ok (.getfield 57, 3) := by decide +kernel
theorem dX11_works_107 : decode cX11_works 107 = .ok (.iload_n 2, 1) := by decide +kernel
theorem dX11_works_108 : decode cX11_works 108 = .ok (.dup2, 1) := by decide +kernel
theorem dX11_works_109 : decode cX11_works 109 = .ok (.laload, 1) := by decide +kernel
theorem dX11_works_110 : decode cX11_works 110 = .ok (.aload_n 0, 1) := by decide +kernel
theorem dX11_works_111 : decode cX11_works 111 = .ok (.iload_n 1, 1) := by decide +kernel
theorem dX11_works_112 : decode cX11_works 112 = .ok (.invokevirtual 148, 3) := by decide +kernel
theorem dX11_works_115 : decode cX11_works 115 = .ok (.ladd, 1) := by decide +kernel
theorem dX11_works_116 : decode cX11_works 116 = .ok (.lastore, 1) := by decide +kernel
theorem dX11_works_117 : decode cX11_works 117 = .ok (.iinc 1 1, 3) := by decide +kernel
theorem dX11_works_120 : decode cX11_works 120 = .ok (.goto (-59), 3) := by decide +kernel
theorem dX11_works_123 : decode cX11_works 123 = .ok (.return_, 1) := by decide +kernel
def wX11_works_15 (post : Sto → Prop)  (K31 : Sto → Prop) : Nat → Int32 → Sto → Prop
  | 0, _, _ => False
  | n + 1, x1, σ => ((((4 : Int32)) ≤ x1) → (K31  σ)) ∧ ((¬ (((4 : Int32)) ≤ x1)) → (wX11_points  x1 σ (fun (s22 : Sto) => wX11_works_15 post  K31 n (x1 + (1 : Int32)) s22)))
set_option maxRecDepth 100000 in
set_option maxHeartbeats 4000000 in
theorem vX11_works_15 (E : Ev) (post : Sto → Prop)   (K31 : Sto → Prop) (HK31 : ∀  (σ : Sto), K31  σ → V E 4 mX11_works (pV post) 31 [(0, .ref 67)] [] σ) : ∀ (n : Nat) (x1 : Int32) (σ : Sto), wX11_works_15 post  K31 n x1 σ → V E 4 mX11_works (pV post) 15 [(0, .ref 67), (1, .int x1)] [] σ := by
  intro n
  induction n with
  | zero => intro x1 σ h; exact h.elim
  | succ n ih =>
    intro x1 σ h
    unfold wX11_works_15 at h
    refine V_iload_n (pc := 15) 1 dX11_works_15 rfl ?_
    refine V_iconst (pc := 16) (v := 4) dX11_works_16 (by decide) ?_
    refine V_icmp_ge (pc := 17) (tgt := 31) dX11_works_17 (by decide) (fun hc => ?_) (fun hc => ?_)
    · replace h := h.1 hc
      exact V_loc [0] rfl (HK31  σ  h)
    · replace h := h.2 hc
      refine V_aload_n (pc := 20) 0 dX11_works_20 rfl ?_
      refine V_iload_n (pc := 21) 1 dX11_works_21 rfl ?_
      refine V_callV (pc := 22) (M' := mX11_points) dX11_works_22 ml_X11_144 kv_X11_points ko_X11_points sh_67 (by decide) (by decide) rfl rfl (Nat.le_of_ble_eq_true rfl) (Nat.le_of_ble_eq_true rfl) (vX11_points E  x1 σ _  h) (kV (fun s22 h => ?_))
      refine V_iinc (pc := 25) 1 (v := 1) dX11_works_25 rfl (by decide) (by decide) ?_
      refine V_goto (pc := 28) (tgt := 15) dX11_works_28 (by decide) ?_
      exact V_loc [1, 0] rfl (ih (x1 + (1 : Int32)) s22  h)
def wX11_works_33 (post : Sto → Prop)  (K59 : Sto → Prop) : Nat → Int32 → Sto → Prop
  | 0, _, _ => False
  | n + 1, x1, σ => ((((56 : Int32)) ≤ x1) → (K59  σ)) ∧ ((¬ (((56 : Int32)) ≤ x1)) → (vp_in x1 56 ∧ (vp_in x1 56 ∧ (wX11_works_33 post  K59 n (x1 + (1 : Int32)) (wL (wI σ 80 x1.toNatClampNeg ((0 : Int32))) 81 x1.toNatClampNeg ((0 : Int64)))))))
set_option maxRecDepth 100000 in
set_option maxHeartbeats 4000000 in
theorem vX11_works_33 (E : Ev) (post : Sto → Prop)   (K59 : Sto → Prop) (HK59 : ∀  (σ : Sto), K59  σ → V E 4 mX11_works (pV post) 59 [(0, .ref 67)] [] σ) : ∀ (n : Nat) (x1 : Int32) (σ : Sto), wX11_works_33 post  K59 n x1 σ → V E 4 mX11_works (pV post) 33 [(0, .ref 67), (1, .int x1)] [] σ := by
  intro n
  induction n with
  | zero => intro x1 σ h; exact h.elim
  | succ n ih =>
    intro x1 σ h
    unfold wX11_works_33 at h
    refine V_iload_n (pc := 33) 1 dX11_works_33 rfl ?_
    refine V_bipush (pc := 34) (v := 56) dX11_works_34 (by decide) ?_
    refine V_icmp_ge (pc := 36) (tgt := 59) dX11_works_36 (by decide) (fun hc => ?_) (fun hc => ?_)
    · replace h := h.1 hc
      exact V_loc [0] rfl (HK59  σ  h)
    · replace h := h.2 hc
      refine V_aload_n (pc := 39) 0 dX11_works_39 rfl ?_
      refine V_getR (pc := 40) dX11_works_40 fl_X11_54 sh_67 rfl ?_
      refine V_iload_n (pc := 43) 1 dX11_works_43 rfl ?_
      refine V_iconst (pc := 44) (v := 0) dX11_works_44 (by decide) ?_
      obtain ⟨i45, h⟩ := h
      refine V_iast (pc := 45) dX11_works_45 sh_80 i45 ?_
      refine V_aload_n (pc := 46) 0 dX11_works_46 rfl ?_
      refine V_getR (pc := 47) dX11_works_47 fl_X11_57 sh_67 rfl ?_
      refine V_iload_n (pc := 50) 1 dX11_works_50 rfl ?_
      refine V_lconst (pc := 51) (v := 0) dX11_works_51 (by decide) ?_
      obtain ⟨i52, h⟩ := h
      refine V_last (pc := 52) dX11_works_52 sh_81 i52 ?_
      refine V_iinc (pc := 53) 1 (v := 1) dX11_works_53 rfl (by decide) (by decide) ?_
      refine V_goto (pc := 56) (tgt := 33) dX11_works_56 (by decide) ?_
      exact V_loc [1, 0] rfl (ih (x1 + (1 : Int32)) (wL (wI σ 80 x1.toNatClampNeg ((0 : Int32))) 81 x1.toNatClampNeg ((0 : Int64)))  h)
def wX11_works_61 (post : Sto → Prop)  (K123 : Sto → Prop) : Nat → Int32 → Sto → Prop
  | 0, _, _ => False
  | n + 1, x1, σ => (((σ.1 67 4) ≤ x1) → (K123  σ)) ∧ ((¬ ((σ.1 67 4) ≤ x1)) → (wX11_isKnown  x1 σ (fun (r71 : Bool) (s71 : Sto) => ((r71 = false) → (wX11_works_61 post  K123 n (x1 + (1 : Int32)) s71)) ∧ ((r71 = true) → (vp_in x1 150 ∧ (vp_in x1 150 ∧ (vp_in ((((4 : Int32)) * (s71.1 70 x1.toNatClampNeg)) + (s71.1 71 x1.toNatClampNeg)) 56 ∧ (vp_in ((((4 : Int32)) * (s71.1 70 x1.toNatClampNeg)) + (s71.1 71 x1.toNatClampNeg)) 56 ∧ (vp_in ((((4 : Int32)) * (s71.1 70 x1.toNatClampNeg)) + (s71.1 71 x1.toNatClampNeg)) 56 ∧ (wX11_reducedOf  x1 (wI s71 80 ((((4 : Int32)) * (s71.1 70 x1.toNatClampNeg)) + (s71.1 71 x1.toNatClampNeg)).toNatClampNeg ((s71.1 80 ((((4 : Int32)) * (s71.1 70 x1.toNatClampNeg)) + (s71.1 71 x1.toNatClampNeg)).toNatClampNeg) + ((1 : Int32)))) (fun (r112 : Int64) (s112 : Sto) => vp_in ((((4 : Int32)) * (s71.1 70 x1.toNatClampNeg)) + (s71.1 71 x1.toNatClampNeg)) 56 ∧ (wX11_works_61 post  K123 n (x1 + (1 : Int32)) (wL s112 81 ((((4 : Int32)) * (s71.1 70 x1.toNatClampNeg)) + (s71.1 71 x1.toNatClampNeg)).toNatClampNeg ((s71.2 81 ((((4 : Int32)) * (s71.1 70 x1.toNatClampNeg)) + (s71.1 71 x1.toNatClampNeg)).toNatClampNeg) + r112))))))))))))))
set_option maxRecDepth 100000 in
set_option maxHeartbeats 4000000 in
theorem vX11_works_61 (E : Ev) (post : Sto → Prop)   (K123 : Sto → Prop) (HK123 : ∀  (σ : Sto), K123  σ → V E 4 mX11_works (pV post) 123 [] [] σ) : ∀ (n : Nat) (x1 : Int32) (σ : Sto), wX11_works_61 post  K123 n x1 σ → V E 4 mX11_works (pV post) 61 [(0, .ref 67), (1, .int x1)] [] σ := by
  intro n
  induction n with
  | zero => intro x1 σ h; exact h.elim
  | succ n ih =>
    intro x1 σ h
    unfold wX11_works_61 at h
    refine V_iload_n (pc := 61) 1 dX11_works_61 rfl ?_
    refine V_aload_n (pc := 62) 0 dX11_works_62 rfl ?_
    refine V_getI (pc := 63) dX11_works_63 fl_X11_122 sh_67 rfl ?_
    refine V_icmp_ge (pc := 66) (tgt := 123) dX11_works_66 (by decide) (fun hc => ?_) (fun hc => ?_)
    · replace h := h.1 hc
      exact V_loc [] rfl (HK123  σ  h)
    · replace h := h.2 hc
      refine V_aload_n (pc := 69) 0 dX11_works_69 rfl ?_
      refine V_iload_n (pc := 70) 1 dX11_works_70 rfl ?_
      refine V_callV (pc := 71) (M' := mX11_isKnown) dX11_works_71 ml_X11_136 kv_X11_isKnown ko_X11_isKnown sh_67 (by decide) (by decide) rfl rfl (Nat.le_of_ble_eq_true rfl) (Nat.le_of_ble_eq_true rfl) (vX11_isKnown E  x1 σ _  h) (kB (fun r71 s71 h => ?_))
      refine V_ifz (pc := 74) (tgt := 117) dX11_works_74 (by decide) (fun hc => ?_) (fun hc => ?_)
      · replace h := h.1 hc
        refine V_iinc (pc := 117) 1 (v := 1) dX11_works_117 rfl (by decide) (by decide) ?_
        refine V_goto (pc := 120) (tgt := 61) dX11_works_120 (by decide) ?_
        exact V_loc [1, 0] rfl (ih (x1 + (1 : Int32)) s71  h)
      · replace h := h.2 hc
        refine V_iconst (pc := 77) (v := 4) dX11_works_77 (by decide) ?_
        refine V_aload_n (pc := 78) 0 dX11_works_78 rfl ?_
        refine V_getR (pc := 79) dX11_works_79 fl_X11_16 sh_67 rfl ?_
        refine V_iload_n (pc := 82) 1 dX11_works_82 rfl ?_
        obtain ⟨i83, h⟩ := h
        refine V_iald (pc := 83) dX11_works_83 sh_70 i83 ?_
        refine V_imul (pc := 84) dX11_works_84 ?_
        refine V_aload_n (pc := 85) 0 dX11_works_85 rfl ?_
        refine V_getR (pc := 86) dX11_works_86 fl_X11_19 sh_67 rfl ?_
        refine V_iload_n (pc := 89) 1 dX11_works_89 rfl ?_
        obtain ⟨i90, h⟩ := h
        refine V_iald (pc := 90) dX11_works_90 sh_71 i90 ?_
        refine V_iadd (pc := 91) dX11_works_91 ?_
        refine V_istore_n (pc := 92) dX11_works_92 (by decide) ?_
        refine V_aload_n (pc := 93) 1 dX11_works_93 rfl ?_
        refine V_getR (pc := 94) dX11_works_94 fl_X11_54 sh_67 rfl ?_
        refine V_iload_n (pc := 97) 0 dX11_works_97 rfl ?_
        refine V_dup2_11 (pc := 98) dX11_works_98 rfl rfl ?_
        obtain ⟨i99, h⟩ := h
        refine V_iald (pc := 99) dX11_works_99 sh_80 i99 ?_
        refine V_iconst (pc := 100) (v := 1) dX11_works_100 (by decide) ?_
        refine V_iadd (pc := 101) dX11_works_101 ?_
        obtain ⟨i102, h⟩ := h
        refine V_iast (pc := 102) dX11_works_102 sh_80 i102 ?_
        refine V_aload_n (pc := 103) 1 dX11_works_103 rfl ?_
        refine V_getR (pc := 104) dX11_works_104 fl_X11_57 sh_67 rfl ?_
        refine V_iload_n (pc := 107) 0 dX11_works_107 rfl ?_
        refine V_dup2_11 (pc := 108) dX11_works_108 rfl rfl ?_
        obtain ⟨i109, h⟩ := h
        refine V_lald (pc := 109) dX11_works_109 sh_81 i109 ?_
        refine V_aload_n (pc := 110) 1 dX11_works_110 rfl ?_
        refine V_iload_n (pc := 111) 2 dX11_works_111 rfl ?_
        refine V_callV (pc := 112) (M' := mX11_reducedOf) dX11_works_112 ml_X11_148 kv_X11_reducedOf ko_X11_reducedOf sh_67 (by decide) (by decide) rfl rfl (Nat.le_of_ble_eq_true rfl) (Nat.le_of_ble_eq_true rfl) (vX11_reducedOf E  x1 (wI s71 80 ((((4 : Int32)) * (s71.1 70 x1.toNatClampNeg)) + (s71.1 71 x1.toNatClampNeg)).toNatClampNeg ((s71.1 80 ((((4 : Int32)) * (s71.1 70 x1.toNatClampNeg)) + (s71.1 71 x1.toNatClampNeg)).toNatClampNeg) + ((1 : Int32)))) _  h) (kL (fun r112 s112 h => ?_))
        refine V_ladd (pc := 115) dX11_works_115 ?_
        obtain ⟨i116, h⟩ := h
        refine V_last (pc := 116) dX11_works_116 sh_81 i116 ?_
        refine V_iinc (pc := 117) 2 (v := 1) dX11_works_117 rfl (by decide) (by decide) ?_
        refine V_goto (pc := 120) (tgt := 61) dX11_works_120 (by decide) ?_
        exact V_loc [2, 0] rfl (ih (x1 + (1 : Int32)) (wL s112 81 ((((4 : Int32)) * (s71.1 70 x1.toNatClampNeg)) + (s71.1 71 x1.toNatClampNeg)).toNatClampNeg ((s71.2 81 ((((4 : Int32)) * (s71.1 70 x1.toNatClampNeg)) + (s71.1 71 x1.toNatClampNeg)).toNatClampNeg) + r112))  h)
def wX11_works   (σ : Sto) (post : Sto → Prop) : Prop := (((σ.1 67 13) = 0) → (∃ n15, wX11_works_15 post  (fun  (σ_1 : Sto) => ∃ n33, wX11_works_33 post  (fun  (σ_2 : Sto) => ∃ n61, wX11_works_61 post  (fun  (σ_3 : Sto) => post σ_3) n61 ((0 : Int32)) σ_2) n33 ((0 : Int32)) σ_1) n15 ((0 : Int32)) (wI σ 67 13 ((1 : Int32))))) ∧ ((¬ ((σ.1 67 13) = 0)) → (post σ))
set_option maxRecDepth 100000 in
set_option maxHeartbeats 4000000 in
theorem vX11_works (E : Ev)   (σ : Sto) (post : Sto → Prop)  (h : wX11_works   σ post) : V E 4 mX11_works (pV post) 0 [(0, .ref 67)] [] σ := by
  unfold wX11_works at h
  refine V_aload_n (pc := 0) 0 dX11_works_0 rfl ?_
  refine V_getI (pc := 1) dX11_works_1 fl_X11_111 sh_67 rfl ?_
  refine V_if_eq (pc := 4) (tgt := 8) dX11_works_4 (by decide) (fun hc => ?_) (fun hc => ?_)
  · replace h := h.1 hc
    refine V_aload_n (pc := 8) 0 dX11_works_8 rfl ?_
    refine V_iconst (pc := 9) (v := 1) dX11_works_9 (by decide) ?_
    refine V_putI (pc := 10) dX11_works_10 fl_X11_111 po_X11_13 sh_67 rfl (by decide) (by decide) ?_
    refine V_iconst (pc := 13) (v := 0) dX11_works_13 (by decide) ?_
    refine V_istore_n (pc := 14) dX11_works_14 (by decide) ?_
    obtain ⟨n15, h⟩ := h
    refine V_loc [1, 0] rfl (vX11_works_15 E post   _ (fun σ_1 h => ?_) n15 ((0 : Int32)) (wI σ 67 13 ((1 : Int32)))  h)
    · refine V_iconst (pc := 31) (v := 0) dX11_works_31 (by decide) ?_
      refine V_istore_n (pc := 32) dX11_works_32 (by decide) ?_
      obtain ⟨n33, h⟩ := h
      refine V_loc [1, 0] rfl (vX11_works_33 E post   _ (fun σ_2 h => ?_) n33 ((0 : Int32)) σ_1  h)
      · refine V_iconst (pc := 59) (v := 0) dX11_works_59 (by decide) ?_
        refine V_istore_n (pc := 60) dX11_works_60 (by decide) ?_
        obtain ⟨n61, h⟩ := h
        refine V_loc [1, 0] rfl (vX11_works_61 E post   _ (fun σ_3 h => ?_) n61 ((0 : Int32)) σ_2  h)
        · exact V_vret dX11_works_123 rfl h
  · replace h := h.2 hc
    exact V_vret dX11_works_7 rfl h
theorem dX11_drift_0 : decode cX11_drift 0 = .ok (.iload_n 1, 1) := by decide +kernel
theorem dX11_drift_1 : decode cX11_drift 1 = .ok (.invokestatic 119, 3) := by decide +kernel
theorem dX11_drift_4 : decode cX11_drift 4 = .ok (.ifCond .eq 14, 3) := by decide +kernel
theorem dX11_drift_7 : decode cX11_drift 7 = .ok (.iload_n 2, 1) := by decide +kernel
theorem dX11_drift_8 : decode cX11_drift 8 = .ok (.iconst 0, 1) := by decide +kernel
theorem dX11_drift_9 : decode cX11_drift 9 = .ok (.sipush 399, 3) := by decide +kernel
theorem dX11_drift_12 : decode cX11_drift 12 = .ok (.invokestatic 104, 3) := by decide +kernel
theorem dX11_drift_15 : decode cX11_drift 15 = .ok (.ifCond .ne 6, 3) := by decide +kernel
theorem dX11_drift_18 : decode cX11_drift 18 = .ok (.ldc 156, 2) := by decide +kernel
theorem dX11_drift_20 : decode cX11_drift 20 = .ok (.ireturn, 1) := by decide +kernel
theorem dX11_drift_21 : decode cX11_drift 21 = .ok (.aload_n 0, 1) := by decide +kernel
theorem dX11_drift_22 : decode cX11_drift 22 = .ok (.invokevirtual 157, 3) := by decide +kernel
theorem dX11_drift_25 : decode cX11_drift 25 = .ok (.aload_n 0, 1) := by decide +kernel
theorem dX11_drift_26 : decode cX11_drift 26 = .ok (.iload_n 1, 1) := by decide +kernel
theorem dX11_drift_27 : decode cX11_drift 27 = .ok (.iload_n 2, 1) := by decide +kernel
theorem dX11_drift_28 : decode cX11_drift 28 = .ok (.invokevirtual 152, 3) := by decide +kernel
theorem dX11_drift_31 : decode cX11_drift 31 = .ok (.ireturn, 1) := by decide +kernel
def wX11_drift  (x1 : Int32) (x2 : Int32) (σ : Sto) (post : Int32 → Sto → Prop) : Prop := wX11_isPiece  x1 σ (fun (r1 : Bool) (s1 : Sto) => ((r1 = false) → (post ((-2147483648 : Int32)) s1)) ∧ ((r1 = true) → (wX11_in  x2 ((0 : Int32)) ((399 : Int32)) s1 (fun (r12 : Bool) (s12 : Sto) => ((r12 = true) → (wX11_works   s12 (fun (s22 : Sto) => wX11_driftOf  x1 x2 s22 (fun (r28 : Int32) (s28 : Sto) => post r28 s28)))) ∧ ((r12 = false) → (post ((-2147483648 : Int32)) s12))))))
set_option maxRecDepth 100000 in
set_option maxHeartbeats 4000000 in
theorem vX11_drift (E : Ev)  (x1 : Int32) (x2 : Int32) (σ : Sto) (post : Int32 → Sto → Prop)  (h : wX11_drift  x1 x2 σ post) : V E 5 mX11_drift (pI post) 0 [(0, .ref 67), (1, .int x1), (2, .int x2)] [] σ := by
  unfold wX11_drift at h
  refine V_iload_n (pc := 0) 1 dX11_drift_0 rfl ?_
  refine V_callS (pc := 1) (M' := mX11_isPiece) dX11_drift_1 ml_X11_119 ks_X11_isPiece ko_X11_isPiece (by decide) rfl (Nat.le_of_ble_eq_true rfl) (Nat.le_of_ble_eq_true rfl) (vX11_isPiece E  x1 σ _  h) (kB (fun r1 s1 h => ?_))
  refine V_ifz (pc := 4) (tgt := 18) dX11_drift_4 (by decide) (fun hc => ?_) (fun hc => ?_)
  · replace h := h.1 hc
    refine V_ldc (pc := 18) dX11_drift_18 ci_X11_156 ?_
    exact V_iret dX11_drift_20 rfl h
  · replace h := h.2 hc
    refine V_iload_n (pc := 7) 2 dX11_drift_7 rfl ?_
    refine V_iconst (pc := 8) (v := 0) dX11_drift_8 (by decide) ?_
    refine V_sipush (pc := 9) (v := 399) dX11_drift_9 (by decide) ?_
    refine V_callS (pc := 12) (M' := mX11_in) dX11_drift_12 ml_X11_104 ks_X11_in ko_X11_in (by decide) rfl (Nat.le_of_ble_eq_true rfl) (Nat.le_of_ble_eq_true rfl) (vX11_in E  x2 ((0 : Int32)) ((399 : Int32)) s1 _  h) (kB (fun r12 s12 h => ?_))
    refine V_ifnz (pc := 15) (tgt := 21) dX11_drift_15 (by decide) (fun hc => ?_) (fun hc => ?_)
    · replace h := h.1 hc
      refine V_aload_n (pc := 21) 0 dX11_drift_21 rfl ?_
      refine V_callV (pc := 22) (M' := mX11_works) dX11_drift_22 ml_X11_157 kv_X11_works ko_X11_works sh_67 (by decide) (by decide) rfl rfl (Nat.le_of_ble_eq_true rfl) (Nat.le_of_ble_eq_true rfl) (vX11_works E   s12 _  h) (kV (fun s22 h => ?_))
      refine V_aload_n (pc := 25) 0 dX11_drift_25 rfl ?_
      refine V_iload_n (pc := 26) 1 dX11_drift_26 rfl ?_
      refine V_iload_n (pc := 27) 2 dX11_drift_27 rfl ?_
      refine V_callV (pc := 28) (M' := mX11_driftOf) dX11_drift_28 ml_X11_152 kv_X11_driftOf ko_X11_driftOf sh_67 (by decide) (by decide) rfl rfl (Nat.le_of_ble_eq_true rfl) (Nat.le_of_ble_eq_true rfl) (vX11_driftOf E  x1 x2 s22 _  h) (kI (fun r28 s28 h => ?_))
      exact V_iret dX11_drift_31 rfl h
    · replace h := h.2 hc
      refine V_ldc (pc := 18) dX11_drift_18 ci_X11_156 ?_
      exact V_iret dX11_drift_20 rfl h
theorem dX11_takes_0 : decode cX11_takes 0 = .ok (.aload_n 0, 1) := by decide +kernel
theorem dX11_takes_1 : decode cX11_takes 1 = .ok (.invokevirtual 157, 3) := by decide +kernel
theorem dX11_takes_4 : decode cX11_takes 4 = .ok (.aload_n 0, 1) := by decide +kernel
theorem dX11_takes_5 : decode cX11_takes 5 = .ok (.getfield 54, 3) := by decide +kernel
theorem dX11_takes_8 : decode cX11_takes 8 = .ok (.iconst 4, 1) := by decide +kernel
theorem dX11_takes_9 : decode cX11_takes 9 = .ok (.iload_n 1, 1) := by decide +kernel
theorem dX11_takes_10 : decode cX11_takes 10 = .ok (.imul, 1) := by decide +kernel
theorem dX11_takes_11 : decode cX11_takes 11 = .ok (.iload_n 2, 1) := by decide +kernel
theorem dX11_takes_12 : decode cX11_takes 12 = .ok (.iadd, 1) := by decide +kernel
theorem dX11_takes_13 : decode cX11_takes 13 = .ok (.iaload, 1) := by decide +kernel
theorem dX11_takes_14 : decode cX11_takes 14 = .ok (.ifCond .le 7, 3) := by decide +kernel
theorem dX11_takes_17 : decode cX11_takes 17 = .ok (.iconst 1, 1) := by decide +kernel
theorem dX11_takes_18 : decode cX11_takes 18 = .ok (.goto 4, 3) := by decide +kernel
theorem dX11_takes_21 : decode cX11_takes 21 = .ok (.iconst 0, 1) := by decide +kernel
theorem dX11_takes_22 : decode cX11_takes 22 = .ok (.ireturn, 1) := by decide +kernel
def wX11_takes  (x1 : Int32) (x2 : Int32) (σ : Sto) (post : Bool → Sto → Prop) : Prop := wX11_works   σ (fun (s1 : Sto) => vp_in ((((4 : Int32)) * x1) + x2) 56 ∧ ((((s1.1 80 ((((4 : Int32)) * x1) + x2).toNatClampNeg) ≤ 0) → (post false s1)) ∧ ((¬ ((s1.1 80 ((((4 : Int32)) * x1) + x2).toNatClampNeg) ≤ 0)) → (post true s1))))
set_option maxRecDepth 100000 in
set_option maxHeartbeats 4000000 in
theorem vX11_takes (E : Ev)  (x1 : Int32) (x2 : Int32) (σ : Sto) (post : Bool → Sto → Prop)  (h : wX11_takes  x1 x2 σ post) : V E 5 mX11_takes (pB post) 0 [(0, .ref 67), (1, .int x1), (2, .int x2)] [] σ := by
  unfold wX11_takes at h
  refine V_aload_n (pc := 0) 0 dX11_takes_0 rfl ?_
  refine V_callV (pc := 1) (M' := mX11_works) dX11_takes_1 ml_X11_157 kv_X11_works ko_X11_works sh_67 (by decide) (by decide) rfl rfl (Nat.le_of_ble_eq_true rfl) (Nat.le_of_ble_eq_true rfl) (vX11_works E   σ _  h) (kV (fun s1 h => ?_))
  refine V_aload_n (pc := 4) 0 dX11_takes_4 rfl ?_
  refine V_getR (pc := 5) dX11_takes_5 fl_X11_54 sh_67 rfl ?_
  refine V_iconst (pc := 8) (v := 4) dX11_takes_8 (by decide) ?_
  refine V_iload_n (pc := 9) 1 dX11_takes_9 rfl ?_
  refine V_imul (pc := 10) dX11_takes_10 ?_
  refine V_iload_n (pc := 11) 2 dX11_takes_11 rfl ?_
  refine V_iadd (pc := 12) dX11_takes_12 ?_
  obtain ⟨i13, h⟩ := h
  refine V_iald (pc := 13) dX11_takes_13 sh_80 i13 ?_
  refine V_if_le (pc := 14) (tgt := 21) dX11_takes_14 (by decide) (fun hc => ?_) (fun hc => ?_)
  · replace h := h.1 hc
    refine V_iconst (pc := 21) (v := 0) dX11_takes_21 (by decide) ?_
    exact V_zret false rfl dX11_takes_22 rfl h
  · replace h := h.2 hc
    refine V_iconst (pc := 17) (v := 1) dX11_takes_17 (by decide) ?_
    refine V_goto (pc := 18) (tgt := 22) dX11_takes_18 (by decide) ?_
    exact V_zret true rfl dX11_takes_22 rfl h
theorem dX11_many_0 : decode cX11_many 0 = .ok (.aload_n 0, 1) := by decide +kernel
theorem dX11_many_1 : decode cX11_many 1 = .ok (.iload_n 1, 1) := by decide +kernel
theorem dX11_many_2 : decode cX11_many 2 = .ok (.invokevirtual 115, 3) := by decide +kernel
theorem dX11_many_5 : decode cX11_many 5 = .ok (.ifCond .eq 10, 3) := by decide +kernel
theorem dX11_many_8 : decode cX11_many 8 = .ok (.iload_n 2, 1) := by decide +kernel
theorem dX11_many_9 : decode cX11_many 9 = .ok (.invokestatic 119, 3) := by decide +kernel
theorem dX11_many_12 : decode cX11_many 12 = .ok (.ifCond .ne 6, 3) := by decide +kernel
theorem dX11_many_15 : decode cX11_many 15 = .ok (.bipush (-2), 2) := by decide +kernel
theorem dX11_many_17 : decode cX11_many 17 = .ok (.ireturn, 1) := by decide +kernel
theorem dX11_many_18 : decode cX11_many 18 = .ok (.aload_n 0, 1) := by decide +kernel
theorem dX11_many_19 : decode cX11_many 19 = .ok (.invokevirtual 157, 3) := by decide +kernel
theorem dX11_many_22 : decode cX11_many 22 = .ok (.aload_n 0, 1) := by decide +kernel
theorem dX11_many_23 : decode cX11_many 23 = .ok (.getfield 54, 3) := by decide +kernel
theorem dX11_many_26 : decode cX11_many 26 = .ok (.iconst 4, 1) := by decide +kernel
theorem dX11_many_27 : decode cX11_many 27 = .ok (.iload_n 1, 1) := by decide +kernel
theorem dX11_many_28 : decode cX11_many 28 = .ok (.imul, 1) := by decide +kernel
theorem dX11_many_29 : decode cX11_many 29 = .ok (.iload_n 2, 1) := by decide +kernel
theorem dX11_many_30 : decode cX11_many 30 = .ok (.iadd, 1) := by decide +kernel
theorem dX11_many_31 : decode cX11_many 31 = .ok (.iaload, 1) := by decide +kernel
theorem dX11_many_32 : decode cX11_many 32 = .ok (.ireturn, 1) := by decide +kernel
def wX11_many  (x1 : Int32) (x2 : Int32) (σ : Sto) (post : Int32 → Sto → Prop) : Prop := wX11_isHouse  x1 σ (fun (r2 : Bool) (s2 : Sto) => ((r2 = false) → (post ((-2 : Int32)) s2)) ∧ ((r2 = true) → (wX11_isPiece  x2 s2 (fun (r9 : Bool) (s9 : Sto) => ((r9 = true) → (wX11_works   s9 (fun (s19 : Sto) => vp_in ((((4 : Int32)) * x1) + x2) 56 ∧ (post (s19.1 80 ((((4 : Int32)) * x1) + x2).toNatClampNeg) s19)))) ∧ ((r9 = false) → (post ((-2 : Int32)) s9))))))
set_option maxRecDepth 100000 in
set_option maxHeartbeats 4000000 in
theorem vX11_many (E : Ev)  (x1 : Int32) (x2 : Int32) (σ : Sto) (post : Int32 → Sto → Prop)  (h : wX11_many  x1 x2 σ post) : V E 5 mX11_many (pI post) 0 [(0, .ref 67), (1, .int x1), (2, .int x2)] [] σ := by
  unfold wX11_many at h
  refine V_aload_n (pc := 0) 0 dX11_many_0 rfl ?_
  refine V_iload_n (pc := 1) 1 dX11_many_1 rfl ?_
  refine V_callV (pc := 2) (M' := mX11_isHouse) dX11_many_2 ml_X11_115 kv_X11_isHouse ko_X11_isHouse sh_67 (by decide) (by decide) rfl rfl (Nat.le_of_ble_eq_true rfl) (Nat.le_of_ble_eq_true rfl) (vX11_isHouse E  x1 σ _  h) (kB (fun r2 s2 h => ?_))
  refine V_ifz (pc := 5) (tgt := 15) dX11_many_5 (by decide) (fun hc => ?_) (fun hc => ?_)
  · replace h := h.1 hc
    refine V_bipush (pc := 15) (v := -2) dX11_many_15 (by decide) ?_
    exact V_iret dX11_many_17 rfl h
  · replace h := h.2 hc
    refine V_iload_n (pc := 8) 2 dX11_many_8 rfl ?_
    refine V_callS (pc := 9) (M' := mX11_isPiece) dX11_many_9 ml_X11_119 ks_X11_isPiece ko_X11_isPiece (by decide) rfl (Nat.le_of_ble_eq_true rfl) (Nat.le_of_ble_eq_true rfl) (vX11_isPiece E  x2 s2 _  h) (kB (fun r9 s9 h => ?_))
    refine V_ifnz (pc := 12) (tgt := 18) dX11_many_12 (by decide) (fun hc => ?_) (fun hc => ?_)
    · replace h := h.1 hc
      refine V_aload_n (pc := 18) 0 dX11_many_18 rfl ?_
      refine V_callV (pc := 19) (M' := mX11_works) dX11_many_19 ml_X11_157 kv_X11_works ko_X11_works sh_67 (by decide) (by decide) rfl rfl (Nat.le_of_ble_eq_true rfl) (Nat.le_of_ble_eq_true rfl) (vX11_works E   s9 _  h) (kV (fun s19 h => ?_))
      refine V_aload_n (pc := 22) 0 dX11_many_22 rfl ?_
      refine V_getR (pc := 23) dX11_many_23 fl_X11_54 sh_67 rfl ?_
      refine V_iconst (pc := 26) (v := 4) dX11_many_26 (by decide) ?_
      refine V_iload_n (pc := 27) 1 dX11_many_27 rfl ?_
      refine V_imul (pc := 28) dX11_many_28 ?_
      refine V_iload_n (pc := 29) 2 dX11_many_29 rfl ?_
      refine V_iadd (pc := 30) dX11_many_30 ?_
      obtain ⟨i31, h⟩ := h
      refine V_iald (pc := 31) dX11_many_31 sh_80 i31 ?_
      exact V_iret dX11_many_32 rfl h
    · replace h := h.2 hc
      refine V_bipush (pc := 15) (v := -2) dX11_many_15 (by decide) ?_
      exact V_iret dX11_many_17 rfl h
theorem dX11_toldOf_0 : decode cX11_toldOf 0 = .ok (.aload_n 0, 1) := by decide +kernel
theorem dX11_toldOf_1 : decode cX11_toldOf 1 = .ok (.getfield 57, 3) := by decide +kernel
theorem dX11_toldOf_4 : decode cX11_toldOf 4 = .ok (.iconst 4, 1) := by decide +kernel
theorem dX11_toldOf_5 : decode cX11_toldOf 5 = .ok (.iload_n 1, 1) := by decide +kernel
theorem dX11_toldOf_6 : decode cX11_toldOf 6 = .ok (.imul, 1) := by decide +kernel
theorem dX11_toldOf_7 : decode cX11_toldOf 7 = .ok (.iload_n 2, 1) := by decide +kernel
theorem dX11_toldOf_8 : decode cX11_toldOf 8 = .ok (.iadd, 1) := by decide +kernel
theorem dX11_toldOf_9 : decode cX11_toldOf 9 = .ok (.laload, 1) := by decide +kernel
theorem dX11_toldOf_10 : decode cX11_toldOf 10 = .ok (.aload_n 0, 1) := by decide +kernel
theorem dX11_toldOf_11 : decode cX11_toldOf 11 = .ok (.getfield 54, 3) := by decide +kernel
theorem dX11_toldOf_14 : decode cX11_toldOf 14 = .ok (.iconst 4, 1) := by decide +kernel
theorem dX11_toldOf_15 : decode cX11_toldOf 15 = .ok (.iload_n 1, 1) := by decide +kernel
theorem dX11_toldOf_16 : decode cX11_toldOf 16 = .ok (.imul, 1) := by decide +kernel
theorem dX11_toldOf_17 : decode cX11_toldOf 17 = .ok (.iload_n 2, 1) := by decide +kernel
theorem dX11_toldOf_18 : decode cX11_toldOf 18 = .ok (.iadd, 1) := by decide +kernel
theorem dX11_toldOf_19 : decode cX11_toldOf 19 = .ok (.iaload, 1) := by decide +kernel
theorem dX11_toldOf_20 : decode cX11_toldOf 20 = .ok (.i2l, 1) := by decide +kernel
theorem dX11_toldOf_21 : decode cX11_toldOf 21 = .ok (.invokestatic 141, 3) := by decide +kernel
theorem dX11_toldOf_24 : decode cX11_toldOf 24 = .ok (.lreturn, 1) := by decide +kernel
def wX11_toldOf  (x1 : Int32) (x2 : Int32) (σ : Sto) (post : Int64 → Sto → Prop) : Prop := vp_in ((((4 : Int32)) * x1) + x2) 56 ∧ (vp_in ((((4 : Int32)) * x1) + x2) 56 ∧ (wX11_near  (σ.2 81 ((((4 : Int32)) * x1) + x2).toNatClampNeg) ((σ.1 80 ((((4 : Int32)) * x1) + x2).toNatClampNeg).toInt64) σ (fun (r21 : Int64) (s21 : Sto) => post r21 s21)))
set_option maxRecDepth 100000 in
set_option maxHeartbeats 4000000 in
theorem vX11_toldOf (E : Ev)  (x1 : Int32) (x2 : Int32) (σ : Sto) (post : Int64 → Sto → Prop)  (h : wX11_toldOf  x1 x2 σ post) : V E 2 mX11_toldOf (pL post) 0 [(0, .ref 67), (1, .int x1), (2, .int x2)] [] σ := by
  unfold wX11_toldOf at h
  refine V_aload_n (pc := 0) 0 dX11_toldOf_0 rfl ?_
  refine V_getR (pc := 1) dX11_toldOf_1 fl_X11_57 sh_67 rfl ?_
  refine V_iconst (pc := 4) (v := 4) dX11_toldOf_4 (by decide) ?_
  refine V_iload_n (pc := 5) 1 dX11_toldOf_5 rfl ?_
  refine V_imul (pc := 6) dX11_toldOf_6 ?_
  refine V_iload_n (pc := 7) 2 dX11_toldOf_7 rfl ?_
  refine V_iadd (pc := 8) dX11_toldOf_8 ?_
  obtain ⟨i9, h⟩ := h
  refine V_lald (pc := 9) dX11_toldOf_9 sh_81 i9 ?_
  refine V_aload_n (pc := 10) 0 dX11_toldOf_10 rfl ?_
  refine V_getR (pc := 11) dX11_toldOf_11 fl_X11_54 sh_67 rfl ?_
  refine V_iconst (pc := 14) (v := 4) dX11_toldOf_14 (by decide) ?_
  refine V_iload_n (pc := 15) 1 dX11_toldOf_15 rfl ?_
  refine V_imul (pc := 16) dX11_toldOf_16 ?_
  refine V_iload_n (pc := 17) 2 dX11_toldOf_17 rfl ?_
  refine V_iadd (pc := 18) dX11_toldOf_18 ?_
  obtain ⟨i19, h⟩ := h
  refine V_iald (pc := 19) dX11_toldOf_19 sh_80 i19 ?_
  refine V_i2l (pc := 20) dX11_toldOf_20 ?_
  refine V_callS (pc := 21) (M' := mX11_near) dX11_toldOf_21 ml_X11_141 ks_X11_near ko_X11_near (by decide) rfl (Nat.le_of_ble_eq_true rfl) (Nat.le_of_ble_eq_true rfl) (vX11_near E  (σ.2 81 ((((4 : Int32)) * x1) + x2).toNatClampNeg) ((σ.1 80 ((((4 : Int32)) * x1) + x2).toNatClampNeg).toInt64) σ _  h) (kL (fun r21 s21 h => ?_))
  exact V_lret dX11_toldOf_24 rfl h
theorem dX11_toldOrNot_0 : decode cX11_toldOrNot 0 = .ok (.aload_n 0, 1) := by decide +kernel
theorem dX11_toldOrNot_1 : decode cX11_toldOrNot 1 = .ok (.iload_n 1, 1) := by decide +kernel
theorem dX11_toldOrNot_2 : decode cX11_toldOrNot 2 = .ok (.iload_n 2, 1) := by decide +kernel
theorem dX11_toldOrNot_3 : decode cX11_toldOrNot 3 = .ok (.invokevirtual 160, 3) := by decide +kernel
theorem dX11_toldOrNot_6 : decode cX11_toldOrNot 6 = .ok (.ifCond .eq 13, 3) := by decide +kernel
theorem dX11_toldOrNot_9 : decode cX11_toldOrNot 9 = .ok (.aload_n 0, 1) := by decide +kernel
theorem dX11_toldOrNot_10 : decode cX11_toldOrNot 10 = .ok (.iload_n 1, 1) := by decide +kernel
theorem dX11_toldOrNot_11 : decode cX11_toldOrNot 11 = .ok (.iload_n 2, 1) := by decide +kernel
theorem dX11_toldOrNot_12 : decode cX11_toldOrNot 12 = .ok (.invokevirtual 164, 3) := by decide +kernel
theorem dX11_toldOrNot_15 : decode cX11_toldOrNot 15 = .ok (.l2i, 1) := by decide +kernel
theorem dX11_toldOrNot_16 : decode cX11_toldOrNot 16 = .ok (.goto 5, 3) := by decide +kernel
theorem dX11_toldOrNot_19 : decode cX11_toldOrNot 19 = .ok (.ldc 168, 2) := by decide +kernel
theorem dX11_toldOrNot_21 : decode cX11_toldOrNot 21 = .ok (.ireturn, 1) := by decide +kernel
def wX11_toldOrNot  (x1 : Int32) (x2 : Int32) (σ : Sto) (post : Int32 → Sto → Prop) : Prop := wX11_takes  x1 x2 σ (fun (r3 : Bool) (s3 : Sto) => ((r3 = false) → (post ((-2147483647 : Int32)) s3)) ∧ ((r3 = true) → (wX11_toldOf  x1 x2 s3 (fun (r12 : Int64) (s12 : Sto) => post r12.toInt32 s12))))
set_option maxRecDepth 100000 in
set_option maxHeartbeats 4000000 in
theorem vX11_toldOrNot (E : Ev)  (x1 : Int32) (x2 : Int32) (σ : Sto) (post : Int32 → Sto → Prop)  (h : wX11_toldOrNot  x1 x2 σ post) : V E 6 mX11_toldOrNot (pI post) 0 [(0, .ref 67), (1, .int x1), (2, .int x2)] [] σ := by
  unfold wX11_toldOrNot at h
  refine V_aload_n (pc := 0) 0 dX11_toldOrNot_0 rfl ?_
  refine V_iload_n (pc := 1) 1 dX11_toldOrNot_1 rfl ?_
  refine V_iload_n (pc := 2) 2 dX11_toldOrNot_2 rfl ?_
  refine V_callV (pc := 3) (M' := mX11_takes) dX11_toldOrNot_3 ml_X11_160 kv_X11_takes ko_X11_takes sh_67 (by decide) (by decide) rfl rfl (Nat.le_of_ble_eq_true rfl) (Nat.le_of_ble_eq_true rfl) (vX11_takes E  x1 x2 σ _  h) (kB (fun r3 s3 h => ?_))
  refine V_ifz (pc := 6) (tgt := 19) dX11_toldOrNot_6 (by decide) (fun hc => ?_) (fun hc => ?_)
  · replace h := h.1 hc
    refine V_ldc (pc := 19) dX11_toldOrNot_19 ci_X11_168 ?_
    exact V_iret dX11_toldOrNot_21 rfl h
  · replace h := h.2 hc
    refine V_aload_n (pc := 9) 0 dX11_toldOrNot_9 rfl ?_
    refine V_iload_n (pc := 10) 1 dX11_toldOrNot_10 rfl ?_
    refine V_iload_n (pc := 11) 2 dX11_toldOrNot_11 rfl ?_
    refine V_callV (pc := 12) (M' := mX11_toldOf) dX11_toldOrNot_12 ml_X11_164 kv_X11_toldOf ko_X11_toldOf sh_67 (by decide) (by decide) rfl rfl (Nat.le_of_ble_eq_true rfl) (Nat.le_of_ble_eq_true rfl) (vX11_toldOf E  x1 x2 s3 _  h) (kL (fun r12 s12 h => ?_))
    refine V_l2i (pc := 15) dX11_toldOrNot_15 ?_
    refine V_goto (pc := 16) (tgt := 21) dX11_toldOrNot_16 (by decide) ?_
    exact V_iret dX11_toldOrNot_21 rfl h
theorem dX11_told_0 : decode cX11_told 0 = .ok (.aload_n 0, 1) := by decide +kernel
theorem dX11_told_1 : decode cX11_told 1 = .ok (.iload_n 1, 1) := by decide +kernel
theorem dX11_told_2 : decode cX11_told 2 = .ok (.invokevirtual 115, 3) := by decide +kernel
theorem dX11_told_5 : decode cX11_told 5 = .ok (.ifCond .eq 19, 3) := by decide +kernel
theorem dX11_told_8 : decode cX11_told 8 = .ok (.iload_n 2, 1) := by decide +kernel
theorem dX11_told_9 : decode cX11_told 9 = .ok (.invokestatic 119, 3) := by decide +kernel
theorem dX11_told_12 : decode cX11_told 12 = .ok (.ifCond .eq 12, 3) := by decide +kernel
theorem dX11_told_15 : decode cX11_told 15 = .ok (.aload_n 0, 1) := by decide +kernel
theorem dX11_told_16 : decode cX11_told 16 = .ok (.iload_n 1, 1) := by decide +kernel
theorem dX11_told_17 : decode cX11_told 17 = .ok (.iload_n 2, 1) := by decide +kernel
theorem dX11_told_18 : decode cX11_told 18 = .ok (.invokevirtual 169, 3) := by decide +kernel
theorem dX11_told_21 : decode cX11_told 21 = .ok (.goto 5, 3) := by decide +kernel
theorem dX11_told_24 : decode cX11_told 24 = .ok (.ldc 156, 2) := by decide +kernel
theorem dX11_told_26 : decode cX11_told 26 = .ok (.ireturn, 1) := by decide +kernel
def wX11_told  (x1 : Int32) (x2 : Int32) (σ : Sto) (post : Int32 → Sto → Prop) : Prop := wX11_isHouse  x1 σ (fun (r2 : Bool) (s2 : Sto) => ((r2 = false) → (post ((-2147483648 : Int32)) s2)) ∧ ((r2 = true) → (wX11_isPiece  x2 s2 (fun (r9 : Bool) (s9 : Sto) => ((r9 = false) → (post ((-2147483648 : Int32)) s9)) ∧ ((r9 = true) → (wX11_toldOrNot  x1 x2 s9 (fun (r18 : Int32) (s18 : Sto) => post r18 s18)))))))
set_option maxRecDepth 100000 in
set_option maxHeartbeats 4000000 in
theorem vX11_told (E : Ev)  (x1 : Int32) (x2 : Int32) (σ : Sto) (post : Int32 → Sto → Prop)  (h : wX11_told  x1 x2 σ post) : V E 7 mX11_told (pI post) 0 [(0, .ref 67), (1, .int x1), (2, .int x2)] [] σ := by
  unfold wX11_told at h
  refine V_aload_n (pc := 0) 0 dX11_told_0 rfl ?_
  refine V_iload_n (pc := 1) 1 dX11_told_1 rfl ?_
  refine V_callV (pc := 2) (M' := mX11_isHouse) dX11_told_2 ml_X11_115 kv_X11_isHouse ko_X11_isHouse sh_67 (by decide) (by decide) rfl rfl (Nat.le_of_ble_eq_true rfl) (Nat.le_of_ble_eq_true rfl) (vX11_isHouse E  x1 σ _  h) (kB (fun r2 s2 h => ?_))
  refine V_ifz (pc := 5) (tgt := 24) dX11_told_5 (by decide) (fun hc => ?_) (fun hc => ?_)
  · replace h := h.1 hc
    refine V_ldc (pc := 24) dX11_told_24 ci_X11_156 ?_
    exact V_iret dX11_told_26 rfl h
  · replace h := h.2 hc
    refine V_iload_n (pc := 8) 2 dX11_told_8 rfl ?_
    refine V_callS (pc := 9) (M' := mX11_isPiece) dX11_told_9 ml_X11_119 ks_X11_isPiece ko_X11_isPiece (by decide) rfl (Nat.le_of_ble_eq_true rfl) (Nat.le_of_ble_eq_true rfl) (vX11_isPiece E  x2 s2 _  h) (kB (fun r9 s9 h => ?_))
    refine V_ifz (pc := 12) (tgt := 24) dX11_told_12 (by decide) (fun hc => ?_) (fun hc => ?_)
    · replace h := h.1 hc
      refine V_ldc (pc := 24) dX11_told_24 ci_X11_156 ?_
      exact V_iret dX11_told_26 rfl h
    · replace h := h.2 hc
      refine V_aload_n (pc := 15) 0 dX11_told_15 rfl ?_
      refine V_iload_n (pc := 16) 1 dX11_told_16 rfl ?_
      refine V_iload_n (pc := 17) 2 dX11_told_17 rfl ?_
      refine V_callV (pc := 18) (M' := mX11_toldOrNot) dX11_told_18 ml_X11_169 kv_X11_toldOrNot ko_X11_toldOrNot sh_67 (by decide) (by decide) rfl rfl (Nat.le_of_ble_eq_true rfl) (Nat.le_of_ble_eq_true rfl) (vX11_toldOrNot E  x1 x2 s9 _  h) (kI (fun r18 s18 h => ?_))
      refine V_goto (pc := 21) (tgt := 26) dX11_told_21 (by decide) ?_
      exact V_iret dX11_told_26 rfl h
theorem dX11_square_0 : decode cX11_square 0 = .ok (.lload_n 0, 1) := by decide +kernel
theorem dX11_square_1 : decode cX11_square 1 = .ok (.lload_n 0, 1) := by decide +kernel
theorem dX11_square_2 : decode cX11_square 2 = .ok (.lmul, 1) := by decide +kernel
theorem dX11_square_3 : decode cX11_square 3 = .ok (.lreturn, 1) := by decide +kernel
def wX11_square  (x0 : Int64) (σ : Sto) (post : Int64 → Sto → Prop) : Prop := post (x0 * x0) σ
set_option maxRecDepth 100000 in
set_option maxHeartbeats 4000000 in
theorem vX11_square (E : Ev)  (x0 : Int64) (σ : Sto) (post : Int64 → Sto → Prop)  (h : wX11_square  x0 σ post) : V E 0 mX11_square (pL post) 0 [(0, .long x0)] [] σ := by
  unfold wX11_square at h
  refine V_lload_n (pc := 0) 0 dX11_square_0 rfl ?_
  refine V_lload_n (pc := 1) 0 dX11_square_1 rfl ?_
  refine V_lmul (pc := 2) dX11_square_2 ?_
  exact V_lret dX11_square_3 rfl h
theorem dX11_doAgree_0 : decode cX11_doAgree 0 = .ok (.aload_n 0, 1) := by decide +kernel
theorem dX11_doAgree_1 : decode cX11_doAgree 1 = .ok (.iload_n 1, 1) := by decide +kernel
theorem dX11_doAgree_2 : decode cX11_doAgree 2 = .ok (.iload_n 3, 1) := by decide +kernel
theorem dX11_doAgree_3 : decode cX11_doAgree 3 = .ok (.invokevirtual 164, 3) := by decide +kernel
theorem dX11_doAgree_6 : decode cX11_doAgree 6 = .ok (.aload_n 0, 1) := by decide +kernel
theorem dX11_doAgree_7 : decode cX11_doAgree 7 = .ok (.iload_n 2, 1) := by decide +kernel
theorem dX11_doAgree_8 : decode cX11_doAgree 8 = .ok (.iload_n 3, 1) := by decide +kernel
theorem dX11_doAgree_9 : decode cX11_doAgree 9 = .ok (.invokevirtual 164, 3) := by decide +kernel
theorem dX11_doAgree_12 : decode cX11_doAgree 12 = .ok (.lsub, 1) := by decide +kernel
theorem dX11_doAgree_13 : decode cX11_doAgree 13 = .ok (.lstore 4, 2) := by decide +kernel
theorem dX11_doAgree_15 : decode cX11_doAgree 15 = .ok (.lload 4, 2) := by decide +kernel
theorem dX11_doAgree_17 : decode cX11_doAgree 17 = .ok (.invokestatic 172, 3) := by decide +kernel
theorem dX11_doAgree_20 : decode cX11_doAgree 20 = .ok (.ldc2_w 175, 3) := by decide +kernel
theorem dX11_doAgree_23 : decode cX11_doAgree 23 = .ok (.aload_n 0, 1) := by decide +kernel
theorem dX11_doAgree_24 : decode cX11_doAgree 24 = .ok (.getfield 38, 3) := by decide +kernel
theorem dX11_doAgree_27 : decode cX11_doAgree 27 = .ok (.i2l, 1) := by decide +kernel
theorem dX11_doAgree_28 : decode cX11_doAgree 28 = .ok (.invokestatic 172, 3) := by decide +kernel
theorem dX11_doAgree_31 : decode cX11_doAgree 31 = .ok (.lmul, 1) := by decide +kernel
theorem dX11_doAgree_32 : decode cX11_doAgree 32 = .ok (.aload_n 0, 1) := by decide +kernel
theorem dX11_doAgree_33 : decode cX11_doAgree 33 = .ok (.getfield 13, 3) := by decide +kernel
theorem dX11_doAgree_36 : decode cX11_doAgree 36 = .ok (.iload_n 1, 1) := by decide +kernel
theorem dX11_doAgree_37 : decode cX11_doAgree 37 = .ok (.iaload, 1) := by decide +kernel
theorem dX11_doAgree_38 : decode cX11_doAgree 38 = .ok (.i2l, 1) := by decide +kernel
theorem dX11_doAgree_39 : decode cX11_doAgree 39 = .ok (.invokestatic 172, 3) := by decide +kernel
theorem dX11_doAgree_42 : decode cX11_doAgree 42 = .ok (.aload_n 0, 1) := by decide +kernel
theorem dX11_doAgree_43 : decode cX11_doAgree 43 = .ok (.getfield 13, 3) := by decide +kernel
theorem dX11_doAgree_46 : decode cX11_doAgree 46 = .ok (.iload_n 2, 1) := by decide +kernel
theorem dX11_doAgree_47 : decode cX11_doAgree 47 = .ok (.iaload, 1) := by decide +kernel
theorem dX11_doAgree_48 : decode cX11_doAgree 48 = .ok (.i2l, 1) := by decide +kernel
theorem dX11_doAgree_49 : decode cX11_doAgree 49 = .ok (.invokestatic 172, 3) := by decide +kernel
theorem dX11_doAgree_52 : decode cX11_doAgree 52 = .ok (.ladd, 1) := by decide +kernel
theorem dX11_doAgree_53 : decode cX11_doAgree 53 = .ok (.lmul, 1) := by decide +kernel
theorem dX11_doAgree_54 : decode cX11_doAgree 54 = .ok (.lcmp, 1) := by decide +kernel
theorem dX11_doAgree_55 : decode cX11_doAgree 55 = .ok (.ifCond .gt 7, 3) := by decide +kernel
theorem dX11_doAgree_58 : decode cX11_doAgree 58 = .ok (.iconst 1, 1) := by decide +kernel
theorem dX11_doAgree_59 : decode cX11_doAgree 59 = .ok (.goto 4, 3) := by decide +kernel
theorem dX11_doAgree_62 : decode cX11_doAgree 62 = .ok (.iconst 0, 1) := by decide +kernel
theorem dX11_doAgree_63 : decode cX11_doAgree 63 = .ok (.ireturn, 1) := by decide +kernel
def wX11_doAgree  (x1 : Int32) (x2 : Int32) (x3 : Int32) (σ : Sto) (post : Bool → Sto → Prop) : Prop := wX11_toldOf  x1 x3 σ (fun (r3 : Int64) (s3 : Sto) => wX11_toldOf  x2 x3 s3 (fun (r9 : Int64) (s9 : Sto) => wX11_square  (r3 - r9) s9 (fun (r17 : Int64) (s17 : Sto) => wX11_square  ((s17.1 67 12).toInt64) s17 (fun (r28 : Int64) (s28 : Sto) => vp_in x1 14 ∧ (wX11_square  ((s28.1 69 x1.toNatClampNeg).toInt64) s28 (fun (r39 : Int64) (s39 : Sto) => vp_in x2 14 ∧ (wX11_square  ((s39.1 69 x2.toNatClampNeg).toInt64) s39 (fun (r49 : Int64) (s49 : Sto) => ((((((1000000 : Int64)) * r28) * (r39 + r49)) < r17) → (post false s49)) ∧ ((¬ (((((1000000 : Int64)) * r28) * (r39 + r49)) < r17)) → (post true s49))))))))))
set_option maxRecDepth 100000 in
set_option maxHeartbeats 4000000 in
theorem vX11_doAgree (E : Ev)  (x1 : Int32) (x2 : Int32) (x3 : Int32) (σ : Sto) (post : Bool → Sto → Prop)  (h : wX11_doAgree  x1 x2 x3 σ post) : V E 3 mX11_doAgree (pB post) 0 [(0, .ref 67), (1, .int x1), (2, .int x2), (3, .int x3)] [] σ := by
  unfold wX11_doAgree at h
  refine V_aload_n (pc := 0) 0 dX11_doAgree_0 rfl ?_
  refine V_iload_n (pc := 1) 1 dX11_doAgree_1 rfl ?_
  refine V_iload_n (pc := 2) 3 dX11_doAgree_2 rfl ?_
  refine V_callV (pc := 3) (M' := mX11_toldOf) dX11_doAgree_3 ml_X11_164 kv_X11_toldOf ko_X11_toldOf sh_67 (by decide) (by decide) rfl rfl (Nat.le_of_ble_eq_true rfl) (Nat.le_of_ble_eq_true rfl) (vX11_toldOf E  x1 x3 σ _  h) (kL (fun r3 s3 h => ?_))
  refine V_aload_n (pc := 6) 0 dX11_doAgree_6 rfl ?_
  refine V_iload_n (pc := 7) 2 dX11_doAgree_7 rfl ?_
  refine V_iload_n (pc := 8) 3 dX11_doAgree_8 rfl ?_
  refine V_callV (pc := 9) (M' := mX11_toldOf) dX11_doAgree_9 ml_X11_164 kv_X11_toldOf ko_X11_toldOf sh_67 (by decide) (by decide) rfl rfl (Nat.le_of_ble_eq_true rfl) (Nat.le_of_ble_eq_true rfl) (vX11_toldOf E  x2 x3 s3 _  h) (kL (fun r9 s9 h => ?_))
  refine V_lsub (pc := 12) dX11_doAgree_12 ?_
  refine V_lstore (pc := 13) dX11_doAgree_13 (by decide) ?_
  refine V_lload (pc := 15) 0 dX11_doAgree_15 rfl ?_
  refine V_callS (pc := 17) (M' := mX11_square) dX11_doAgree_17 ml_X11_172 ks_X11_square ko_X11_square (by decide) rfl (Nat.le_of_ble_eq_true rfl) (Nat.le_of_ble_eq_true rfl) (vX11_square E  (r3 - r9) s9 _  h) (kL (fun r17 s17 h => ?_))
  refine V_ldc2 (pc := 20) dX11_doAgree_20 cl_X11_175 ?_
  refine V_aload_n (pc := 23) 1 dX11_doAgree_23 rfl ?_
  refine V_getI (pc := 24) dX11_doAgree_24 fl_X11_38 sh_67 rfl ?_
  refine V_i2l (pc := 27) dX11_doAgree_27 ?_
  refine V_callS (pc := 28) (M' := mX11_square) dX11_doAgree_28 ml_X11_172 ks_X11_square ko_X11_square (by decide) rfl (Nat.le_of_ble_eq_true rfl) (Nat.le_of_ble_eq_true rfl) (vX11_square E  ((s17.1 67 12).toInt64) s17 _  h) (kL (fun r28 s28 h => ?_))
  refine V_lmul (pc := 31) dX11_doAgree_31 ?_
  refine V_aload_n (pc := 32) 1 dX11_doAgree_32 rfl ?_
  refine V_getR (pc := 33) dX11_doAgree_33 fl_X11_13 sh_67 rfl ?_
  refine V_iload_n (pc := 36) 2 dX11_doAgree_36 rfl ?_
  obtain ⟨i37, h⟩ := h
  refine V_iald (pc := 37) dX11_doAgree_37 sh_69 i37 ?_
  refine V_i2l (pc := 38) dX11_doAgree_38 ?_
  refine V_callS (pc := 39) (M' := mX11_square) dX11_doAgree_39 ml_X11_172 ks_X11_square ko_X11_square (by decide) rfl (Nat.le_of_ble_eq_true rfl) (Nat.le_of_ble_eq_true rfl) (vX11_square E  ((s28.1 69 x1.toNatClampNeg).toInt64) s28 _  h) (kL (fun r39 s39 h => ?_))
  refine V_aload_n (pc := 42) 1 dX11_doAgree_42 rfl ?_
  refine V_getR (pc := 43) dX11_doAgree_43 fl_X11_13 sh_67 rfl ?_
  refine V_iload_n (pc := 46) 3 dX11_doAgree_46 rfl ?_
  obtain ⟨i47, h⟩ := h
  refine V_iald (pc := 47) dX11_doAgree_47 sh_69 i47 ?_
  refine V_i2l (pc := 48) dX11_doAgree_48 ?_
  refine V_callS (pc := 49) (M' := mX11_square) dX11_doAgree_49 ml_X11_172 ks_X11_square ko_X11_square (by decide) rfl (Nat.le_of_ble_eq_true rfl) (Nat.le_of_ble_eq_true rfl) (vX11_square E  ((s39.1 69 x2.toNatClampNeg).toInt64) s39 _  h) (kL (fun r49 s49 h => ?_))
  refine V_ladd (pc := 52) dX11_doAgree_52 ?_
  refine V_lmul (pc := 53) dX11_doAgree_53 ?_
  refine V_lc_gt (pc := 54) (tgt := 62) dX11_doAgree_54 dX11_doAgree_55 (by decide) (fun hc => ?_) (fun hc => ?_)
  · replace h := h.1 hc
    refine V_iconst (pc := 62) (v := 0) dX11_doAgree_62 (by decide) ?_
    exact V_zret false rfl dX11_doAgree_63 rfl h
  · replace h := h.2 hc
    refine V_iconst (pc := 58) (v := 1) dX11_doAgree_58 (by decide) ?_
    refine V_goto (pc := 59) (tgt := 63) dX11_doAgree_59 (by decide) ?_
    exact V_zret true rfl dX11_doAgree_63 rfl h
theorem dX11_agree_0 : decode cX11_agree 0 = .ok (.aload_n 0, 1) := by decide +kernel
theorem dX11_agree_1 : decode cX11_agree 1 = .ok (.iload_n 1, 1) := by decide +kernel
theorem dX11_agree_2 : decode cX11_agree 2 = .ok (.invokevirtual 115, 3) := by decide +kernel
theorem dX11_agree_5 : decode cX11_agree 5 = .ok (.ifCond .eq 23, 3) := by decide +kernel
theorem dX11_agree_8 : decode cX11_agree 8 = .ok (.aload_n 0, 1) := by decide +kernel
theorem dX11_agree_9 : decode cX11_agree 9 = .ok (.iload_n 2, 1) := by decide +kernel
theorem dX11_agree_10 : decode cX11_agree 10 = .ok (.invokevirtual 115, 3) := by decide +kernel
theorem dX11_agree_13 : decode cX11_agree 13 = .ok (.ifCond .eq 15, 3) := by decide +kernel
theorem dX11_agree_16 : decode cX11_agree 16 = .ok (.iload_n 1, 1) := by decide +kernel
theorem dX11_agree_17 : decode cX11_agree 17 = .ok (.iload_n 2, 1) := by decide +kernel
theorem dX11_agree_18 : decode cX11_agree 18 = .ok (.if_icmp .eq 10, 3) := by decide +kernel
theorem dX11_agree_21 : decode cX11_agree 21 = .ok (.iload_n 3, 1) := by decide +kernel
theorem dX11_agree_22 : decode cX11_agree 22 = .ok (.invokestatic 119, 3) := by decide +kernel
theorem dX11_agree_25 : decode cX11_agree 25 = .ok (.ifCond .ne 6, 3) := by decide +kernel
theorem dX11_agree_28 : decode cX11_agree 28 = .ok (.bipush (-2), 2) := by decide +kernel
theorem dX11_agree_30 : decode cX11_agree 30 = .ok (.ireturn, 1) := by decide +kernel
theorem dX11_agree_31 : decode cX11_agree 31 = .ok (.aload_n 0, 1) := by decide +kernel
theorem dX11_agree_32 : decode cX11_agree 32 = .ok (.iload_n 1, 1) := by decide +kernel
theorem dX11_agree_33 : decode cX11_agree 33 = .ok (.iload_n 3, 1) := by decide +kernel
theorem dX11_agree_34 : decode cX11_agree 34 = .ok (.invokevirtual 160, 3) := by decide +kernel
theorem dX11_agree_37 : decode cX11_agree 37 = .ok (.ifCond .eq 12, 3) := by decide +kernel
theorem dX11_agree_40 : decode cX11_agree 40 = .ok (.aload_n 0, 1) := by decide +kernel
theorem dX11_agree_41 : decode cX11_agree 41 = .ok (.iload_n 2, 1) := by decide +kernel
theorem dX11_agree_42 : decode cX11_agree 42 = .ok (.iload_n 3, 1) := by decide +kernel
theorem dX11_agree_43 : decode cX11_agree 43 = .ok (.invokevirtual 160, 3) := by decide +kernel
theorem dX11_agree_46 : decode cX11_agree 46 = .ok (.ifCond .ne 6, 3) := by decide +kernel
theorem dX11_agree_49 : decode cX11_agree 49 = .ok (.bipush (-3), 2) := by decide +kernel
theorem dX11_agree_51 : decode cX11_agree 51 = .ok (.ireturn, 1) := by decide +kernel
theorem dX11_agree_52 : decode cX11_agree 52 = .ok (.aload_n 0, 1) := by decide +kernel
theorem dX11_agree_53 : decode cX11_agree 53 = .ok (.iload_n 1, 1) := by decide +kernel
theorem dX11_agree_54 : decode cX11_agree 54 = .ok (.iload_n 2, 1) := by decide +kernel
theorem dX11_agree_55 : decode cX11_agree 55 = .ok (.iload_n 3, 1) := by decide +kernel
theorem dX11_agree_56 : decode cX11_agree 56 = .ok (.invokevirtual 177, 3) := by decide +kernel
theorem dX11_agree_59 : decode cX11_agree 59 = .ok (.ifCond .eq 7, 3) := by decide +kernel
theorem dX11_agree_62 : decode cX11_agree 62 = .ok (.iconst 1, 1) := by decide +kernel
theorem dX11_agree_63 : decode cX11_agree 63 = .ok (.goto 4, 3) := by decide +kernel
theorem dX11_agree_66 : decode cX11_agree 66 = .ok (.iconst 0, 1) := by decide +kernel
theorem dX11_agree_67 : decode cX11_agree 67 = .ok (.ireturn, 1) := by decide +kernel
def wX11_agree  (x1 : Int32) (x2 : Int32) (x3 : Int32) (σ : Sto) (post : Int32 → Sto → Prop) : Prop := wX11_isHouse  x1 σ (fun (r2 : Bool) (s2 : Sto) => ((r2 = false) → (post ((-2 : Int32)) s2)) ∧ ((r2 = true) → (wX11_isHouse  x2 s2 (fun (r10 : Bool) (s10 : Sto) => ((r10 = false) → (post ((-2 : Int32)) s10)) ∧ ((r10 = true) → (((x1 = x2) → (post ((-2 : Int32)) s10)) ∧ ((¬ (x1 = x2)) → (wX11_isPiece  x3 s10 (fun (r22 : Bool) (s22 : Sto) => ((r22 = true) → (wX11_takes  x1 x3 s22 (fun (r34 : Bool) (s34 : Sto) => ((r34 = false) → (post ((-3 : Int32)) s34)) ∧ ((r34 = true) → (wX11_takes  x2 x3 s34 (fun (r43 : Bool) (s43 : Sto) => ((r43 = true) → (wX11_doAgree  x1 x2 x3 s43 (fun (r56 : Bool) (s56 : Sto) => ((r56 = false) → (post ((0 : Int32)) s56)) ∧ ((r56 = true) → (post ((1 : Int32)) s56))))) ∧ ((r43 = false) → (post ((-3 : Int32)) s43)))))))) ∧ ((r22 = false) → (post ((-2 : Int32)) s22)))))))))))
set_option maxRecDepth 100000 in
set_option maxHeartbeats 4000000 in
theorem vX11_agree (E : Ev)  (x1 : Int32) (x2 : Int32) (x3 : Int32) (σ : Sto) (post : Int32 → Sto → Prop)  (h : wX11_agree  x1 x2 x3 σ post) : V E 6 mX11_agree (pI post) 0 [(0, .ref 67), (1, .int x1), (2, .int x2), (3, .int x3)] [] σ := by
  unfold wX11_agree at h
  refine V_aload_n (pc := 0) 0 dX11_agree_0 rfl ?_
  refine V_iload_n (pc := 1) 1 dX11_agree_1 rfl ?_
  refine V_callV (pc := 2) (M' := mX11_isHouse) dX11_agree_2 ml_X11_115 kv_X11_isHouse ko_X11_isHouse sh_67 (by decide) (by decide) rfl rfl (Nat.le_of_ble_eq_true rfl) (Nat.le_of_ble_eq_true rfl) (vX11_isHouse E  x1 σ _  h) (kB (fun r2 s2 h => ?_))
  refine V_ifz (pc := 5) (tgt := 28) dX11_agree_5 (by decide) (fun hc => ?_) (fun hc => ?_)
  · replace h := h.1 hc
    refine V_bipush (pc := 28) (v := -2) dX11_agree_28 (by decide) ?_
    exact V_iret dX11_agree_30 rfl h
  · replace h := h.2 hc
    refine V_aload_n (pc := 8) 0 dX11_agree_8 rfl ?_
    refine V_iload_n (pc := 9) 2 dX11_agree_9 rfl ?_
    refine V_callV (pc := 10) (M' := mX11_isHouse) dX11_agree_10 ml_X11_115 kv_X11_isHouse ko_X11_isHouse sh_67 (by decide) (by decide) rfl rfl (Nat.le_of_ble_eq_true rfl) (Nat.le_of_ble_eq_true rfl) (vX11_isHouse E  x2 s2 _  h) (kB (fun r10 s10 h => ?_))
    refine V_ifz (pc := 13) (tgt := 28) dX11_agree_13 (by decide) (fun hc => ?_) (fun hc => ?_)
    · replace h := h.1 hc
      refine V_bipush (pc := 28) (v := -2) dX11_agree_28 (by decide) ?_
      exact V_iret dX11_agree_30 rfl h
    · replace h := h.2 hc
      refine V_iload_n (pc := 16) 1 dX11_agree_16 rfl ?_
      refine V_iload_n (pc := 17) 2 dX11_agree_17 rfl ?_
      refine V_icmp_eq (pc := 18) (tgt := 28) dX11_agree_18 (by decide) (fun hc => ?_) (fun hc => ?_)
      · replace h := h.1 hc
        refine V_bipush (pc := 28) (v := -2) dX11_agree_28 (by decide) ?_
        exact V_iret dX11_agree_30 rfl h
      · replace h := h.2 hc
        refine V_iload_n (pc := 21) 3 dX11_agree_21 rfl ?_
        refine V_callS (pc := 22) (M' := mX11_isPiece) dX11_agree_22 ml_X11_119 ks_X11_isPiece ko_X11_isPiece (by decide) rfl (Nat.le_of_ble_eq_true rfl) (Nat.le_of_ble_eq_true rfl) (vX11_isPiece E  x3 s10 _  h) (kB (fun r22 s22 h => ?_))
        refine V_ifnz (pc := 25) (tgt := 31) dX11_agree_25 (by decide) (fun hc => ?_) (fun hc => ?_)
        · replace h := h.1 hc
          refine V_aload_n (pc := 31) 0 dX11_agree_31 rfl ?_
          refine V_iload_n (pc := 32) 1 dX11_agree_32 rfl ?_
          refine V_iload_n (pc := 33) 3 dX11_agree_33 rfl ?_
          refine V_callV (pc := 34) (M' := mX11_takes) dX11_agree_34 ml_X11_160 kv_X11_takes ko_X11_takes sh_67 (by decide) (by decide) rfl rfl (Nat.le_of_ble_eq_true rfl) (Nat.le_of_ble_eq_true rfl) (vX11_takes E  x1 x3 s22 _  h) (kB (fun r34 s34 h => ?_))
          refine V_ifz (pc := 37) (tgt := 49) dX11_agree_37 (by decide) (fun hc => ?_) (fun hc => ?_)
          · replace h := h.1 hc
            refine V_bipush (pc := 49) (v := -3) dX11_agree_49 (by decide) ?_
            exact V_iret dX11_agree_51 rfl h
          · replace h := h.2 hc
            refine V_aload_n (pc := 40) 0 dX11_agree_40 rfl ?_
            refine V_iload_n (pc := 41) 2 dX11_agree_41 rfl ?_
            refine V_iload_n (pc := 42) 3 dX11_agree_42 rfl ?_
            refine V_callV (pc := 43) (M' := mX11_takes) dX11_agree_43 ml_X11_160 kv_X11_takes ko_X11_takes sh_67 (by decide) (by decide) rfl rfl (Nat.le_of_ble_eq_true rfl) (Nat.le_of_ble_eq_true rfl) (vX11_takes E  x2 x3 s34 _  h) (kB (fun r43 s43 h => ?_))
            refine V_ifnz (pc := 46) (tgt := 52) dX11_agree_46 (by decide) (fun hc => ?_) (fun hc => ?_)
            · replace h := h.1 hc
              refine V_aload_n (pc := 52) 0 dX11_agree_52 rfl ?_
              refine V_iload_n (pc := 53) 1 dX11_agree_53 rfl ?_
              refine V_iload_n (pc := 54) 2 dX11_agree_54 rfl ?_
              refine V_iload_n (pc := 55) 3 dX11_agree_55 rfl ?_
              refine V_callV (pc := 56) (M' := mX11_doAgree) dX11_agree_56 ml_X11_177 kv_X11_doAgree ko_X11_doAgree sh_67 (by decide) (by decide) rfl rfl (Nat.le_of_ble_eq_true rfl) (Nat.le_of_ble_eq_true rfl) (vX11_doAgree E  x1 x2 x3 s43 _  h) (kB (fun r56 s56 h => ?_))
              refine V_ifz (pc := 59) (tgt := 66) dX11_agree_59 (by decide) (fun hc => ?_) (fun hc => ?_)
              · replace h := h.1 hc
                refine V_iconst (pc := 66) (v := 0) dX11_agree_66 (by decide) ?_
                exact V_iret dX11_agree_67 rfl h
              · replace h := h.2 hc
                refine V_iconst (pc := 62) (v := 1) dX11_agree_62 (by decide) ?_
                refine V_goto (pc := 63) (tgt := 67) dX11_agree_63 (by decide) ?_
                exact V_iret dX11_agree_67 rfl h
            · replace h := h.2 hc
              refine V_bipush (pc := 49) (v := -3) dX11_agree_49 (by decide) ?_
              exact V_iret dX11_agree_51 rfl h
        · replace h := h.2 hc
          refine V_bipush (pc := 28) (v := -2) dX11_agree_28 (by decide) ?_
          exact V_iret dX11_agree_30 rfl h
theorem dX11_ones_0 : decode cX11_ones 0 = .ok (.iconst 0, 1) := by decide +kernel
theorem dX11_ones_1 : decode cX11_ones 1 = .ok (.istore_n 1, 1) := by decide +kernel
theorem dX11_ones_2 : decode cX11_ones 2 = .ok (.iconst 0, 1) := by decide +kernel
theorem dX11_ones_3 : decode cX11_ones 3 = .ok (.istore_n 2, 1) := by decide +kernel
theorem dX11_ones_4 : decode cX11_ones 4 = .ok (.iload_n 2, 1) := by decide +kernel
theorem dX11_ones_5 : decode cX11_ones 5 = .ok (.bipush 14, 2) := by decide +kernel
theorem dX11_ones_7 : decode cX11_ones 7 = .ok (.if_icmp .ge 17, 3) := by decide +kernel
theorem dX11_ones_10 : decode cX11_ones 10 = .ok (.iload_n 1, 1) := by decide +kernel
theorem dX11_ones_11 : decode cX11_ones 11 = .ok (.iload_n 0, 1) := by decide +kernel
theorem dX11_ones_12 : decode cX11_ones 12 = .ok (.iload_n 2, 1) := by decide +kernel
theorem dX11_ones_13 : decode cX11_ones 13 = .ok (.ishr, 1) := by decide +kernel
theorem dX11_ones_14 : decode cX11_ones 14 = .ok (.iconst 1, 1) := by decide +kernel
theorem dX11_ones_15 : decode cX11_ones 15 = .ok (.iand, 1) := by decide +kernel
theorem dX11_ones_16 : decode cX11_ones 16 = .ok (.iadd, 1) := by decide +kernel
theorem dX11_ones_17 : decode cX11_ones 17 = .ok (.istore_n 1, 1) := by decide +kernel
theorem dX11_ones_18 : decode cX11_ones 18 = .ok (.iinc 2 1, 3) := by decide +kernel
theorem dX11_ones_21 : decode cX11_ones 21 = .ok (.goto (-17), 3) := by decide +kernel
theorem dX11_ones_24 : decode cX11_ones 24 = .ok (.iload_n 1, 1) := by decide +kernel
theorem dX11_ones_25 : decode cX11_ones 25 = .ok (.ireturn, 1) := by decide +kernel
def wX11_ones_4 (post : Int32 → Sto → Prop)  (K24 : Int32 → Sto → Prop) : Nat → Int32 → Int32 → Int32 → Sto → Prop
  | 0, _, _, _, _ => False
  | n + 1, x0, x1, x2, σ => ((((14 : Int32)) ≤ x2) → (K24 x1 σ)) ∧ ((¬ (((14 : Int32)) ≤ x2)) → (wX11_ones_4 post  K24 n x0 (x1 + ((x0 >>> (x2 &&& 31)) &&& ((1 : Int32)))) (x2 + (1 : Int32)) σ))
set_option maxRecDepth 100000 in
set_option maxHeartbeats 4000000 in
theorem vX11_ones_4 (E : Ev) (post : Int32 → Sto → Prop)   (K24 : Int32 → Sto → Prop) (HK24 : ∀ (x1 : Int32) (σ : Sto), K24 x1 σ → V E 0 mX11_ones (pI post) 24 [(1, .int x1)] [] σ) : ∀ (n : Nat) (x0 : Int32) (x1 : Int32) (x2 : Int32) (σ : Sto), wX11_ones_4 post  K24 n x0 x1 x2 σ → V E 0 mX11_ones (pI post) 4 [(0, .int x0), (1, .int x1), (2, .int x2)] [] σ := by
  intro n
  induction n with
  | zero => intro x0 x1 x2 σ h; exact h.elim
  | succ n ih =>
    intro x0 x1 x2 σ h
    unfold wX11_ones_4 at h
    refine V_iload_n (pc := 4) 2 dX11_ones_4 rfl ?_
    refine V_bipush (pc := 5) (v := 14) dX11_ones_5 (by decide) ?_
    refine V_icmp_ge (pc := 7) (tgt := 24) dX11_ones_7 (by decide) (fun hc => ?_) (fun hc => ?_)
    · replace h := h.1 hc
      exact V_loc [1] rfl (HK24 x1 σ  h)
    · replace h := h.2 hc
      refine V_iload_n (pc := 10) 1 dX11_ones_10 rfl ?_
      refine V_iload_n (pc := 11) 0 dX11_ones_11 rfl ?_
      refine V_iload_n (pc := 12) 2 dX11_ones_12 rfl ?_
      refine V_ishr (pc := 13) dX11_ones_13 ?_
      refine V_iconst (pc := 14) (v := 1) dX11_ones_14 (by decide) ?_
      refine V_iand (pc := 15) dX11_ones_15 ?_
      refine V_iadd (pc := 16) dX11_ones_16 ?_
      refine V_istore_n (pc := 17) dX11_ones_17 (by decide) ?_
      refine V_iinc (pc := 18) 2 (v := 1) dX11_ones_18 rfl (by decide) (by decide) ?_
      refine V_goto (pc := 21) (tgt := 4) dX11_ones_21 (by decide) ?_
      exact V_loc [2, 1, 0] rfl (ih x0 (x1 + ((x0 >>> (x2 &&& 31)) &&& ((1 : Int32)))) (x2 + (1 : Int32)) σ  h)
def wX11_ones  (x0 : Int32) (σ : Sto) (post : Int32 → Sto → Prop) : Prop := ∃ n4, wX11_ones_4 post  (fun (x1_1 : Int32) (σ_1 : Sto) => post x1_1 σ_1) n4 x0 ((0 : Int32)) ((0 : Int32)) σ
set_option maxRecDepth 100000 in
set_option maxHeartbeats 4000000 in
theorem vX11_ones (E : Ev)  (x0 : Int32) (σ : Sto) (post : Int32 → Sto → Prop)  (h : wX11_ones  x0 σ post) : V E 0 mX11_ones (pI post) 0 [(0, .int x0)] [] σ := by
  unfold wX11_ones at h
  refine V_iconst (pc := 0) (v := 0) dX11_ones_0 (by decide) ?_
  refine V_istore_n (pc := 1) dX11_ones_1 (by decide) ?_
  refine V_iconst (pc := 2) (v := 0) dX11_ones_2 (by decide) ?_
  refine V_istore_n (pc := 3) dX11_ones_3 (by decide) ?_
  obtain ⟨n4, h⟩ := h
  refine V_loc [2, 1, 0] rfl (vX11_ones_4 E post   _ (fun x1_1 σ_1 h => ?_) n4 x0 ((0 : Int32)) ((0 : Int32)) σ  h)
  · refine V_iload_n (pc := 24) 0 dX11_ones_24 rfl ?_
    exact V_iret dX11_ones_25 rfl h

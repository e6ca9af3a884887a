/-! asOf -/
theorem n4 : (4 : Int32).toInt = 4 := rfl
def S_asOf (d : Int32) (κ : Kp) : Int32 := if -1 ≤ d.toInt ∧ d.toInt ≤ (κ 0 0).toInt then κ 0 1 else -2
def U_asOf (d : Int32) (κ : Kp) : Kp := if -1 ≤ d.toInt ∧ d.toInt ≤ (κ 0 0).toInt then kup κ 0 1 d else κ
theorem Inv.look {κ : Kp} {d : Int32} (h : Inv κ) (hd : -1 ≤ d.toInt ∧ d.toInt ≤ (κ 0 0).toInt) : Inv (kup κ 0 1 d) := by
  obtain ⟨g1, g2, g3, g4, g5, g6, g7, g8, g9, g10, g11⟩ := h
  have e : ∀ i, i ≠ 1 → kup κ 0 1 d 0 i = κ 0 i := fun i hi => kup_n (by omega)
  have ec : ∀ c i, c ≠ 0 → kup κ 0 1 d c i = κ c i := fun c i hc => kup_n (by omega)
  have hn : nH (kup κ 0 1 d) = nH κ := by unfold nH; rw [e 2 (by omega)]
  have hr : nR (kup κ 0 1 d) = nR κ := by unfold nR; rw [e 3 (by omega)]
  refine ⟨by rw [e 0 (by omega)]; exact g1, by rw [kup_s, e 0 (by omega)]; exact hd, by rw [e 2 (by omega)]; exact g3, by rw [e 3 (by omega)]; exact g4, by rw [e 4 (by omega)]; exact g5, by rw [e 5 (by omega)]; exact g6, fun a ha => ?_, fun r hr2 => ?_, fun a p => ?_, fun i hi => ?_, fun i hi => ?_⟩
  · rw [hn] at ha
    rw [ec 1 a (by omega), ec 2 a (by omega)]; exact g7 a ha
  · rw [hr] at hr2
    have := g8 r hr2
    rw [e 0 (by omega), e 2 (by omega), ec 3 r (by omega), ec 4 r (by omega), ec 5 r (by omega), ec 6 r (by omega), ec 7 r (by omega), ec 8 r (by omega)]
    exact this
  · rw [hr, cnt_congr (Q := aq κ a p) (fun r _ => by unfold aq; rw [ec 3 r (by omega), ec 4 r (by omega)])]
    exact g9 a p
  · rw [ec 9 i (by omega)]; exact g10 i hi
  · rw [ec 10 i (by omega), ec 11 i (by omega)]; exact g11 i hi
theorem M_asOf (d : Int32) : SpM (wX11_asOf d) (S_asOf d) (U_asOf d) := by
  intro σ post h hp
  have hd : vm σ 0 0 = σ.1 67 0 := rfl
  unfold wX11_asOf
  refine in_ok (br_d (fun h1 => ?_) (fun h1 => ?_))
  · rw [nm1] at h1
    have ok : -1 ≤ d.toInt ∧ d.toInt ≤ (vm σ 0 0).toInt := h1
    generalize hτ : wI (wI σ 67 11 d) 67 13 0 = τ
    have hv : vm τ = kup (vm σ) 0 1 d := by
      rw [← hτ, qm.vm (qm.refl.wI (by decide) (fun _ => by decide)), vm_sc (j := 1) (by decide)]
    have := hp τ (om_upd h hv (h.1.look ok) (Or.inl (by rw [← hτ, wI_1, uS])) ⟨by rw [← hτ]; simp [wI_n], by rw [← hτ]; simp [wI_n]⟩) (by rw [hv]; unfold U_asOf; rw [if_pos ok]) (by rw [← hτ]; exact (fx.refl.wI (by omega)).wI (by omega))
    unfold S_asOf at this
    rw [if_pos ok] at this
    exact this
  · rw [nm1] at h1
    have h1 : ¬ (-1 ≤ d.toInt ∧ d.toInt ≤ (vm σ 0 0).toInt) := h1
    have := hp σ h (by unfold U_asOf; rw [if_neg h1]) fx.refl
    unfold S_asOf at this
    rwa [if_neg h1] at this
theorem X_asOf_1 (hren : RenewOk) (d : Int32) : SpX (wX10_asOf d) (S_asOf d) (U_asOf d) := by
  intro σ post h hp
  have hd : vx σ 0 0 = σ.1 1 0 := rfl
  have hday := h.1.1
  rw [hd] at hday
  have no : ¬ (-1 ≤ d.toInt ∧ d.toInt ≤ (vx σ 0 0).toInt) → post (-2) σ := fun q => by
    have := hp σ h (by unfold U_asOf; rw [if_neg q]) fm.refl
    unfold S_asOf at this
    rwa [if_neg q] at this
  have yes : -1 ≤ d.toInt ∧ d.toInt ≤ (vx σ 0 0).toInt → wX10_asOf_23 post d σ := fun ok => by
    unfold wX10_asOf_23
    have hv : vx (wI σ 1 1 d) = kup (vx σ) 0 1 d := vx_sc (by decide)
    have hinv := h.1.look ok
    refine pk_loop (fun k i s => wX10_asOf_41 post (fun x2_1 σ_1 => post x2_1 σ_1) k (σ.1 1 1) (nI i) s) (fun i s => vx s = kup (vx σ) 0 1 d ∧ fm σ s ∧ ∀ q, q < i → DXp (kup (vx σ) 0 1 d) s q) 4 0 (wI σ 1 1 d) (Nat.zero_le _) ⟨hv, fm.refl.wI (by omega), fun q hq => absurd hq (Nat.not_lt_zero _)⟩ ?_ ?_
    · intro k s hs
      obtain ⟨a1, a2, a3⟩ := hs
      unfold wX10_asOf_41
      refine ⟨fun _ => ?_, fun q => absurd (nI_le (Nat.le_refl 4) (by omega)) q⟩
      have := hp s ⟨by rw [a1]; exact hinv, fun q hq => by rw [a1]; exact a3 q hq⟩ (by rw [a1]; unfold U_asOf; rw [if_pos ok]) a2
      unfold S_asOf at this
      rw [if_pos ok] at this
      exact this
    · intro k i s hi hs kk
      obtain ⟨a1, a2, a3⟩ := hs
      unfold wX10_asOf_41
      have hit : (nI i).toInt = i := nI_toInt (by omega)
      have hic : (nI i).toNatClampNeg = i := nI_clamp (by omega)
      refine ⟨fun q => absurd q (nI_ge (b := 4) hi (by omega)), fun _ => hren (nI i) s _ (by omega) (by omega) (by rw [a1]; exact hinv) (fun τ e1 e2 e3 e4 => ?_)⟩
      rw [a1] at e1 e3 e4
      rw [hic] at e3 e4
      rw [nI_1]
      refine kk τ ⟨e1, a2.trans e2, fun q hq => ?_⟩
      by_cases eq : q = i
      · rw [eq]; exact e3
      · exact e4 q (by omega) eq (a3 q (by omega))
  unfold wX10_asOf
  simp only [iEq, iLt, iLe, nm1, n0]
  exact ⟨fun q => yes (by rw [hd]; omega), fun q => ⟨fun q2 => no (by omega), fun q2 => ⟨fun q3 => yes (by rw [hd]; omega), fun q3 => no (by rw [hd]; omega)⟩⟩⟩

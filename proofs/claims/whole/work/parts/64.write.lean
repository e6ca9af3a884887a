/-! write -/
theorem min_ok {a b : Int32} {σ : Sto} {post : Int32 → Sto → Prop} (h : ∀ r : Int32, r.toInt = min a.toInt b.toInt → post r σ) : wJ9_min_7cf53 a b σ post := by
  unfold wJ9_min_7cf53
  simp only [iLt, iLe]
  refine ⟨fun q => h _ ?_, fun q => h _ ?_⟩ <;> omega
noncomputable def wrRow (κ : Kp) (p s k : Nat) : Nat → Int32 := fun i => if i < k then nar (κ 10 s) (Int32.ofInt (tL κ i p)) else κ (12 + s) i
def wrN (κ : Kp) (s : Nat) : Nat := min (nH κ) (κ 11 s).toInt.toNat
noncomputable def S_write (p s : Int32) (κ : Kp) : Int32 := @ite _ (okS p ∧ okS s) (Classical.propDecidable _) (if κ 10 s.toNatClampNeg = -1 then -10 - 1 else nI (wrN κ s.toNatClampNeg)) (-2)
noncomputable def U_write (p s : Int32) (κ : Kp) : Kp := @ite _ (okS p ∧ okS s) (Classical.propDecidable _) (if κ 10 s.toNatClampNeg = -1 then kup κ 0 6 1 else kr κ (12 + s.toNatClampNeg) (wrRow κ p.toNatClampNeg s.toNatClampNeg (wrN κ s.toNatClampNeg))) κ
theorem wr_0 {κ : Kp} {p s : Nat} : kr κ (12 + s) (wrRow κ p s 0) = κ := by
  funext c i
  by_cases e : c = 12 + s
  · subst e
    rw [kr_s]
    unfold wrRow
    rw [if_neg (by omega)]
  · rw [kr_n e]
theorem wr_step {κ : Kp} {p s k : Nat} : kup (kr κ (12 + s) (wrRow κ p s k)) (12 + s) k (nar (κ 10 s) (Int32.ofInt (tL κ k p))) = kr κ (12 + s) (wrRow κ p s (k + 1)) := by
  funext c i
  by_cases e : c = 12 + s
  · subst e
    rw [kr_s]
    by_cases e2 : i = k
    · subst e2
      rw [kup_s]
      unfold wrRow
      rw [if_pos (by omega)]
    · rw [kup_n (by omega), kr_s]
      unfold wrRow
      by_cases e3 : i < k
      · rw [if_pos e3, if_pos (by omega)]
      · rw [if_neg e3, if_neg (by omega)]
  · rw [kup_n (by omega), kr_n e, kr_n e]
theorem X_write (p s : Int32) : SpX (wX10_write p s) (S_write p s) (U_write p s) := by
  intro σ post h hp
  have no : ¬ (okS p ∧ okS s) → post (-2) σ := fun q => by
    have := hp σ h (by unfold U_write; rw [if_neg q]) fm.refl
    unfold S_write at this
    rwa [if_neg q] at this
  unfold wX10_write
  refine noPiece_ok (br_n (fun h1 => ?_) (fun h1 => no (fun q => h1 q.1)))
  refine noSheet_ok (And.symm (br_n (fun h2 => ?_) (fun h2 => no (fun q => h2 q.2))))
  have ok : okS p ∧ okS s := ⟨h1, h2⟩
  have hl := ok.1.lt
  have hs := ok.2.lt
  refine X_isLost ok.2 (fun q => ⟨fun z => (by cases z), fun _ => ?_⟩) (fun q => ⟨fun _ => ⟨ok.2.in, ?_⟩, fun z => (by cases z)⟩)
  · refine X_find h (fun τ a1 a2 a3 => ?_)
    have := hp τ a1 (by rw [a2]; unfold U_write; rw [if_pos ok, if_pos q]) a3
    unfold S_write at this
    rw [if_pos ok, if_pos q] at this
    exact this
  · refine min_ok (fun r hr => ?_)
    have g3 := h.1.2.2.1
    have g11 := (h.1.2.2.2.2.2.2.2.2.2.2 s.toNatClampNeg hs).2
    have e66 : (σ.1 66 s.toNatClampNeg).toInt = (vx σ 11 s.toNatClampNeg).toInt := by rw [vx_11 hs]
    have e12 : (σ.1 1 2).toInt = (vx σ 0 2).toInt := rfl
    generalize hκ : vx σ = κ at *
    have eN : r = nI (wrN κ s.toNatClampNeg) := by
      refine iExt rfl ?_
      unfold wrN nH
      rw [nI_toInt (by omega), hr]
      omega
    have n14' : wrN κ s.toNatClampNeg ≤ 14 := by unfold wrN nH; omega
    rw [eN]
    refine pk_loop (fun k i u => wX10_write_60 post (fun x3_1 σ_1 => post x3_1 σ_1) k p s (nI (wrN κ s.toNatClampNeg)) (nI i) u) (fun i u => OX u ∧ fm σ u ∧ vx u = kr κ (12 + s.toNatClampNeg) (wrRow κ p.toNatClampNeg s.toNatClampNeg i)) (wrN κ s.toNatClampNeg) 0 σ (Nat.zero_le _) ⟨h, fm.refl, by rw [wr_0]; exact hκ⟩ ?_ ?_
    · intro k u hu
      obtain ⟨a1, a2, a3⟩ := hu
      unfold wX10_write_60
      refine ⟨fun _ => ?_, fun z => absurd (nI_le (Nat.le_refl _) (by omega)) z⟩
      have := hp u a1 (by rw [a3]; unfold U_write; rw [if_pos ok, if_neg q]) a2
      unfold S_write at this
      rw [if_pos ok, if_neg q] at this
      exact this
    · intro k i u hi hu kk
      obtain ⟨a1, a2, a3⟩ := hu
      unfold wX10_write_60
      have c2 : (nI i).toNatClampNeg = i := nI_clamp (by omega)
      have iT : (nI i).toInt = i := nI_toInt (by omega)
      have tb := tL_b a1.1 i p.toNatClampNeg
      have sd : SD κ (vx u) := by rw [a3]; exact sd_row (by omega)
      have em : u.1 (45 + p.toNatClampNeg) i = Int32.ofInt (tL κ i p.toNatClampNeg) := by
        rw [← sd_tL sd]
        exact oI (X_mean a1 (by omega) hl) (by omega) (by omega)
      have e10 : u.1 65 s.toNatClampNeg = κ 10 s.toNatClampNeg := by rw [← vx_10 hs, a3, kr_n (by omega)]
      refine ⟨fun z => absurd z (nI_ge hi (by omega)), fun _ => ⟨ok.1.in, vp_in_nI (by omega) (by omega), X_store ok.2 (by omega) ?_⟩⟩
      rw [c2, em, e10, nI_1]
      have hv := vx_it (σ := u) (i := i) (v := nar (κ 10 s.toNatClampNeg) (Int32.ofInt (tL κ i p.toNatClampNeg))) hs (by omega)
      refine kk _ ⟨ox_upd a1 (fun c _ b _ => wI_n (by omega)) hv (SD.mkc (Or.inr (Or.inr (by omega)))) (a1.1.kupc (Or.inr (by omega)) (fun z => by omega) (fun z => by omega) (fun z => by omega) (fun z => by omega)), a2.wI (by omega), ?_⟩
      rw [hv, a3, wr_step]

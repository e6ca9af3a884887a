theorem qm.wA {σ τ : Sto} {c : Nat} {f : Nat → Int32} (h : qm σ τ) (hc : scm c = true) (h3 : c ≠ 67) : qm σ (wA τ c f) := by
  refine ⟨fun c' h' => ⟨?_, (h.1 c' h').2⟩, fun j hj => ?_⟩
  · rw [wA_n' (fun e => by rw [e, hc] at h'; cases h')]; exact (h.1 c' h').1
  · rw [wA_n' (Ne.symm h3)]; exact h.2 j hj
theorem M_copy (a i b j n : Int32) : SpM (wX11_copy a i b j n) (S_copy a i b j n) (U_copy a i b j n) := by
  intro σ post h hp
  have no : ¬ (okS a ∧ okS b) → post (-2) σ := fun q => by
    have := hp σ h (by unfold U_copy; rw [if_neg q]) fx.refl
    unfold S_copy at this
    rwa [if_neg q] at this
  unfold wX11_copy
  refine isSheet_ok (br_d' (fun h1 => ?_) (fun h1 => no (fun q => h1 q.1)))
  refine isSheet_ok (br_d (fun h2 => ?_) (fun h2 => no (fun q => h2 q.2)))
  have ha : okS a := h1
  have hb : okS b := h2
  have ok : okS a ∧ okS b := ⟨h1, h2⟩
  have lost : (vm σ 10 a.toNatClampNeg = -1 ∨ vm σ 10 b.toNatClampNeg = -1) → wX11_copy_35 post σ := fun q => by
    refine M_find h (fun τ a1 a2 a3 => ?_)
    have := hp τ a1 (by rw [a2]; unfold U_copy; rw [if_pos ok, if_pos q]) a3
    unfold S_copy at this
    rw [if_pos ok, if_pos q] at this
    exact this
  refine ⟨ha.in, fun q => lost (Or.inl ((vm_10_lost h ha.lt).mpr q)), fun q1 => ⟨hb.in, And.symm ⟨fun q => lost (Or.inr ((vm_10_lost h hb.lt).mpr q)), fun q2 => ⟨ha.in, hb.in, ?_⟩⟩⟩⟩
  have hl : ¬ (vm σ 10 a.toNatClampNeg = -1 ∨ vm σ 10 b.toNatClampNeg = -1) := fun q => q.elim (fun z => q1 ((vm_10_lost h ha.lt).mp z)) (fun z => q2 ((vm_10_lost h hb.lt).mp z))
  have ea : σ.1 87 a.toNatClampNeg = vm σ 10 a.toNatClampNeg := by rw [vm_10 ha.lt, if_neg q1]
  have eb : σ.1 87 b.toNatClampNeg = vm σ 10 b.toNatClampNeg := by rw [vm_10 hb.lt, if_neg q2]
  rw [ea, eb]
  refine ⟨fun q3 => ?_, fun q3 => ?_⟩
  · have ix : ¬ (okR i n (vm σ 11 a.toNatClampNeg) ∧ okR j n (vm σ 11 b.toNatClampNeg)) → wX11_copy_111 post σ := fun q => by
      refine M_find h (fun τ a1 a2 a3 => ?_)
      have := hp τ a1 (by rw [a2]; unfold U_copy; rw [if_pos ok, if_neg hl, if_pos q3, if_neg q]) a3
      unfold S_copy at this
      rw [if_pos ok, if_neg hl, if_pos q3, if_neg q] at this
      exact this
    have ga := (h.1.2.2.2.2.2.2.2.2.2.2 a.toNatClampNeg ha.lt).2
    have gb := (h.1.2.2.2.2.2.2.2.2.2.2 b.toNatClampNeg hb.lt).2
    rw [vm_11 ha.lt] at ga
    rw [vm_11 hb.lt] at gb
    unfold okR at ix
    rw [vm_11 ha.lt, vm_11 hb.lt] at ix
    have ri := iR i
    have rj := iR j
    have rn := iR n
    have e1 : (i.toInt64 + n.toInt64).toInt = i.toInt + n.toInt := lAdd (iL rfl) (iL rfl) (by omega) (by omega)
    have e2 : (j.toInt64 + n.toInt64).toInt = j.toInt + n.toInt := lAdd (iL rfl) (iL rfl) (by omega) (by omega)
    simp only [iLt, lLt, lLe, n0, e1, e2, Int32.toInt_toInt64]
    refine ⟨fun q4 => ix (by omega), fun q4 => ⟨fun q5 => ix (by omega), fun q5 => ⟨fun q6 => ix (by omega), fun q6 => ⟨ha.in, fun q7 => ix (by omega), fun q7 => ⟨hb.in, fun q8 => ?_, fun q8 => ix (by omega)⟩⟩⟩⟩⟩
    refine copyM1 ha (by omega) (by omega) (by omega) ?_
    refine copyM2 hb (by omega) (by omega) (by omega) ?_
    generalize hρ : wA σ 90 (fun k => if k < n.toNatClampNeg then σ.1 89 (60 * a.toNatClampNeg + i.toNatClampNeg + k) else σ.1 90 k) = ρ
    have r90 : ρ.1 90 = (fun k => if k < n.toNatClampNeg then σ.1 89 (60 * a.toNatClampNeg + i.toNatClampNeg + k) else σ.1 90 k) := by rw [← hρ, wA_1']
    have r89 : ρ.1 89 = σ.1 89 := by rw [← hρ, wA_n' (by omega)]
    generalize hτ : wA ρ 89 (fun q => if 60 * b.toNatClampNeg + j.toNatClampNeg ≤ q ∧ q < 60 * b.toNatClampNeg + j.toNatClampNeg + n.toNatClampNeg then ρ.1 90 (q - (60 * b.toNatClampNeg + j.toNatClampNeg)) else ρ.1 89 q) = τ
    have l1 : i.toNatClampNeg + n.toNatClampNeg ≤ 60 := by rw [tnc, tnc]; omega
    have l2 : j.toNatClampNeg + n.toNatClampNeg ≤ 60 := by rw [tnc, tnc]; omega
    have okr : okR i n (vm σ 11 a.toNatClampNeg) ∧ okR j n (vm σ 11 b.toNatClampNeg) := by
      unfold okR
      rw [vm_11 ha.lt, vm_11 hb.lt]
      omega
    have hv : vm τ = kr (vm σ) (12 + b.toNatClampNeg) (cpRow (vm σ) a.toNatClampNeg b.toNatClampNeg i.toNatClampNeg j.toNatClampNeg n.toNatClampNeg) := by
      rw [← hτ, vm_items hb.lt (fun q z => by rw [if_neg (by omega)]), show vm ρ = vm σ by rw [← hρ]; exact qm.vm (qm.refl.wA (by decide) (by omega))]
      congr 1
      funext q
      unfold cpRow
      by_cases z : q < 60
      · rw [if_pos z, if_pos z]
        by_cases y : j.toNatClampNeg ≤ q ∧ q < j.toNatClampNeg + n.toNatClampNeg
        · rw [if_pos y, if_pos (by omega), r90]
          show (if 60 * b.toNatClampNeg + q - (60 * b.toNatClampNeg + j.toNatClampNeg) < n.toNatClampNeg then _ else _) = _
          rw [if_pos (by omega), vm_itr ha.lt (by omega), show 60 * a.toNatClampNeg + i.toNatClampNeg + (60 * b.toNatClampNeg + q - (60 * b.toNatClampNeg + j.toNatClampNeg)) = 60 * a.toNatClampNeg + (i.toNatClampNeg + (q - j.toNatClampNeg)) by omega]
        · rw [if_neg y, if_neg (by omega), r89, vm_itr hb.lt z]
      · rw [if_neg z, if_neg z]
    have hc : ∀ c, c ≠ 89 → c ≠ 90 → τ.1 c = σ.1 c := fun c x y => by rw [← hτ, wA_n' x, ← hρ, wA_n' y]
    have hc2 : τ.2 = σ.2 := by rw [← hτ, ← hρ]; rfl
    have := hp τ (om_upd h hv (h.1.krow (by omega)) (Or.inr ⟨by rw [hc 67 (by omega) (by omega)], fun c x y => ⟨hc c (by omega) (by omega), by rw [hc2]⟩, sd_row (by omega)⟩) ⟨hc 86 (by omega) (by omega), hc 87 (by omega) (by omega)⟩) (by rw [hv]; unfold U_copy; rw [if_pos ok, if_neg hl, if_pos q3, if_pos okr]) (by rw [← hτ, ← hρ]; exact (fx.refl.wA (by omega)).wA (by omega))
    unfold S_copy at this
    rw [if_pos ok, if_neg hl, if_pos q3, if_pos okr] at this
    exact this
  · refine M_find h (fun τ a1 a2 a3 => ?_)
    have := hp τ a1 (by rw [a2]; unfold U_copy; rw [if_pos ok, if_neg hl, if_neg q3]) a3
    unfold S_copy at this
    rw [if_pos ok, if_neg hl, if_neg q3] at this
    exact this

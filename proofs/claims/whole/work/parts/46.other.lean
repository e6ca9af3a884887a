/-! pieces that a change doesn't touch -/
theorem cnt_more {P : Nat → Bool} {n : Nat} : ∀ {m : Nat}, n ≤ m → (∀ r, n ≤ r → r < m → P r = false) → cnt P m = cnt P n
  | 0, h, _ => by rw [show n = 0 by omega]
  | m + 1, h, g => by
    by_cases e : n = m + 1
    · rw [e]
    · show cnt P m + _ = _
      rw [if_neg (by rw [g m (by omega) (by omega)]; decide), cnt_more (by omega) (fun r a b => g r a (by omega))]
      rfl
theorem tot_more {P : Nat → Bool} {f : Nat → Int} {n : Nat} : ∀ {m : Nat}, n ≤ m → (∀ r, n ≤ r → r < m → P r = false) → tot P f m = tot P f n
  | 0, h, _ => by rw [show n = 0 by omega]
  | m + 1, h, g => by
    by_cases e : n = m + 1
    · rw [e]
    · show tot P f m + _ = _
      rw [if_neg (by rw [g m (by omega) (by omega)]; decide), tot_more (by omega) (fun r a b => g r a (by omega)), Int.add_zero]
theorem driftZ_congr {κ κ' : Kp} {q : Nat} (h1 : ∀ d, pC κ' q d = pC κ q d) (h2 : ∀ d, pS κ' q d = pS κ q d) (d : Nat) : driftZ κ' q d = driftZ κ q d := by
  have e1 : pC κ' q = pC κ q := funext h1
  have e2 : pS κ' q = pS κ q := funext h2
  have e3 : isP κ' q = isP κ q := by funext d; unfold isP; rw [h1]
  unfold driftZ
  rw [e3, e1, e2]
theorem SDp.mk {κ κ' : Kp} {q : Nat} (hn : nR κ ≤ nR κ') (h1 : ∀ r, r < nR κ → κ' 3 r = κ 3 r ∧ κ' 4 r = κ 4 r ∧ κ' 5 r = κ 5 r ∧ κ' 6 r = κ 6 r ∧ ((κ 4 r).toInt = q → kn κ' r = kn κ r)) (h2 : ∀ r, nR κ ≤ r → r < nR κ' → (κ' 4 r).toInt ≠ q) : SDp κ κ' q := by
  have kqs : ∀ a r, r < nR κ → kq κ' a q r = kq κ a q r := fun a r hr => by
    obtain ⟨g1, g2, g3, g4, g5⟩ := h1 r hr
    unfold kq
    rw [g1, g2]
    by_cases e : (κ 4 r).toInt = q
    · rw [g5 e]
    · rw [decide_eq_false e]; simp
  have kqf : ∀ a r, nR κ ≤ r → r < nR κ' → kq κ' a q r = false := fun a r x y => by
    unfold kq
    rw [decide_eq_false (h2 r x y)]; simp
  have kbs : ∀ d r, r < nR κ → kb κ' q d r = kb κ q d r := fun d r hr => by
    unfold kb
    rw [kqs 0 r hr, (h1 r hr).2.2.1]
  have kbf : ∀ d r, nR κ ≤ r → r < nR κ' → kb κ' q d r = false := fun d r x y => by
    unfold kb
    rw [kqf 0 r x y]; rfl
  have c1 : ∀ d, pC κ' q d = pC κ q d := fun d => by
    unfold pC
    rw [cnt_more hn (kbf d)]
    exact cnt_congr (kbs d)
  have c2 : ∀ d, pS κ' q d = pS κ q d := fun d => by
    unfold pS
    rw [tot_more hn (kbf d)]
    exact tot_congr (fun r hr => ⟨kbs d r hr, fun _ => by rw [(h1 r hr).2.2.2.1]⟩)
  have c3 : ∀ a, cN κ' a q = cN κ a q := fun a => by
    unfold cN
    rw [cnt_more hn (kqf a)]
    exact cnt_congr (kqs a)
  have rds : ∀ r, r < nR κ → (κ 4 r).toInt = q → rdZ κ' r = rdZ κ r := fun r hr e => by
    obtain ⟨g1, g2, g3, g4, g5⟩ := h1 r hr
    unfold rdZ
    rw [g2, g3, g4, e, show ((q : Int)).toNat = q from Int.toNat_natCast q, driftZ_congr c1 c2]
  have c4 : ∀ a, sM κ' a q = sM κ a q := fun a => by
    unfold sM
    rw [tot_more hn (kqf a)]
    refine tot_congr (fun r hr => ⟨kqs a r hr, fun z => rds r hr ?_⟩)
    unfold kq at z
    simp only [Bool.and_eq_true, decide_eq_true_eq] at z
    exact z.2.2
  refine ⟨c1, c2, c3, fun a => by unfold tL; rw [c3, c4], fun r x y z => ?_⟩
  rcases Nat.lt_or_ge r (nR κ) with hr | hr
  · obtain ⟨g1, g2, g3, g4, g5⟩ := h1 r hr
    rw [g2] at z
    rw [g5 z] at y
    exact ⟨hr, y, z, rds r hr z⟩
  · exact absurd z (h2 r hr x)
theorem SDp.read (κ : Kp) (a p o v : Int32) (q : Nat) (h : Inv κ) (ok : okRead a p o v κ) (hq : q < 4) (hne : q ≠ p.toNatClampNeg) : SDp κ (krd κ a p o v) q := by
  have hR := krd_nR (a := a) (p := p) (o := o) (v := v) h
  refine SDp.mk (by omega) (fun r hr => ⟨krd_c (by omega) (by omega), krd_c (by omega) (by omega), krd_c (by omega) (by omega), krd_c (by omega) (by omega), fun _ => ?_⟩) (fun r x y => ?_)
  · unfold kn kto
    rw [krd_0 (by omega), krd_0 (by omega), krd_c (by omega) (by omega), krd_c (by omega) (by omega)]
  · rw [show r = nR κ by omega, krd_4]
    intro z
    rw [tnc] at hne
    omega
theorem X_tell_1 (hren : RenewOk) (a p o v : Int32) : SpX (wX10_tell a p o v) (S_reading a p o v) (U_reading a p o v) := X_tell_open hren SDp.read a p o v
theorem X_reading_1 (hren : RenewOk) (a p o v : Int32) : SpX (wX10_reading a p o v) (S_reading a p o v) (U_reading a p o v) := fun σ post h hp => X_tell_1 hren a p o v σ post h hp
/-! takeBack -/
noncomputable def S_takeBack (a : Int32) (κ : Kp) : Int32 := @ite _ (okRd a κ) (Classical.propDecidable _) (if (κ 8 a.toNatClampNeg).toInt = -1 then 1 else -3) (-2)
noncomputable def U_takeBack (a : Int32) (κ : Kp) : Kp := @ite _ (okRd a κ) (Classical.propDecidable _) (if (κ 8 a.toNatClampNeg).toInt = -1 then kup κ 8 a.toNatClampNeg (κ 0 0) else κ) κ
theorem Inv.back {κ : Kp} {r : Nat} (h : Inv κ) : Inv (kup κ 8 r (κ 0 0)) := by
  obtain ⟨g1, g2, g3, g4, g5, g6, g7, g8, g9, g10, g11⟩ := h
  have e : ∀ i, kup κ 8 r (κ 0 0) 0 i = κ 0 i := fun i => kup_n (by omega)
  have ec : ∀ c i, c ≠ 8 → kup κ 8 r (κ 0 0) c i = κ c i := fun c i hc => kup_n (by omega)
  have hn : nH (kup κ 8 r (κ 0 0)) = nH κ := by unfold nH; rw [e 2]
  have hr : nR (kup κ 8 r (κ 0 0)) = nR κ := by unfold nR; rw [e 3]
  refine ⟨by rw [e]; exact g1, by rw [e, e]; exact g2, by rw [e]; exact g3, by rw [e]; exact g4, by rw [e]; exact g5, by rw [e]; exact g6, fun a ha => ?_, fun i hi => ?_, fun a p => ?_, fun i hi => ?_, fun i hi => ?_⟩
  · rw [hn] at ha
    rw [ec 1 a (by omega), ec 2 a (by omega)]; exact g7 a ha
  · rw [hr] at hi
    have := g8 i hi
    rw [e, e, ec 3 i (by omega), ec 4 i (by omega), ec 5 i (by omega), ec 6 i (by omega), ec 7 i (by omega)]
    by_cases q : i = r
    · subst q; rw [kup_s]; omega
    · rw [kup_n (by omega)]; exact this
  · rw [hr, cnt_congr (Q := aq κ a p) (fun r _ => by unfold aq; rw [ec 3 r (by omega), ec 4 r (by omega)])]
    exact g9 a p
  · rw [ec 9 i (by omega)]; exact g10 i hi
  · rw [ec 10 i (by omega), ec 11 i (by omega)]; exact g11 i hi
theorem M_takeBack (a : Int32) : SpM (wX11_takeBack a) (S_takeBack a) (U_takeBack a) := by
  intro σ post h hp
  unfold wX11_takeBack
  refine inReading_ok h.1.2.2.2.1.1 (br_d (fun h1 => ?_) (fun h1 => ?_))
  · have hk : okRd a (vm σ) := h1
    have hl := hk.lt h.1
    have hin := hk.in h.1
    have e8 : vm σ 8 a.toNatClampNeg = σ.1 75 a.toNatClampNeg := vm_rd (by decide) hl
    simp only [iEq, nm1]
    rw [← e8]
    refine ⟨hin, fun q => ⟨hin, ?_⟩, fun q => ?_⟩
    · generalize hτ : wI (wI σ 75 a.toNatClampNeg (σ.1 67 0)) 67 13 0 = τ
      have hv : vm τ = kup (vm σ) 8 a.toNatClampNeg (vm σ 0 0) := by
        rw [← hτ, qm.vm (qm.refl.wI (by decide) (fun _ => by decide)), vm_a8 hl]
        rfl
      have := hp τ (om_upd h hv h.1.back (Or.inl (by rw [← hτ, wI_1, uS])) ⟨by rw [← hτ]; simp [wI_n], by rw [← hτ]; simp [wI_n]⟩) (by rw [hv]; unfold U_takeBack; rw [if_pos hk, if_pos q]) (by rw [← hτ]; exact (fx.refl.wI (by omega)).wI (by omega))
      unfold S_takeBack at this
      rw [if_pos hk, if_pos q] at this
      exact this
    · have := hp σ h (by unfold U_takeBack; rw [if_pos hk, if_neg q]) fx.refl
      unfold S_takeBack at this
      rw [if_pos hk, if_neg q] at this
      exact this
  · have h1 : ¬ okRd a (vm σ) := h1
    have := hp σ h (by unfold U_takeBack; rw [if_neg h1]) fx.refl
    unfold S_takeBack at this
    rwa [if_neg h1] at this
theorem X_takeBack_1 (hren : RenewOk) (a : Int32) : SpX (wX10_takeBack a) (S_takeBack a) (U_takeBack a) := by
  intro σ post h hp
  unfold wX10_takeBack
  refine noReading_ok (And.symm (br_n (fun h1 => ?_) (fun h1 => ?_)))
  · have hk : okRd a (vx σ) := h1
    have hl := hk.lt h.1
    have hin := hk.in h.1
    have e8 : vx σ 8 a.toNatClampNeg = σ.1 20 a.toNatClampNeg := vx_rd (by decide) hl
    have e4 : vx σ 4 a.toNatClampNeg = σ.1 16 a.toNatClampNeg := vx_rd (by decide) hl
    have hrn : a.toNatClampNeg < nR (vx σ) := by have z := hk; unfold okRd at z; rw [tnc]; unfold nR; omega
    have hpp := (h.1.2.2.2.2.2.2.2.1 a.toNatClampNeg hrn).2.1
    simp only [iEq, nm1]
    rw [← e8, ← e4]
    refine ⟨hin, fun q => ⟨hin, hin, ?_⟩, fun q => ?_⟩
    · generalize hτ : wI σ 20 a.toNatClampNeg (σ.1 1 0) = τ
      have hv : vx τ = kup (vx σ) 8 a.toNatClampNeg (vx σ 0 0) := by
        rw [← hτ, vx_a8 hl]
        rfl
      refine hren _ τ _ hpp.1 hpp.2 (by rw [hv]; exact h.1.back) (fun τ2 e1 e2 e3 e4' => ?_)
      rw [hv] at e1 e3 e4'
      have := hp τ2 ⟨by rw [e1]; exact h.1.back, fun z hz => by
        rw [e1]
        by_cases eq : z = (vx σ 4 a.toNatClampNeg).toNatClampNeg
        · rw [eq]; exact e3
        · refine e4' z hz eq (SDp.DXp (SDp.mk ?_ (fun r hr => ⟨kup_n (by omega), kup_n (by omega), kup_n (by omega), kup_n (by omega), fun hz2 => ?_⟩) (fun r x y => ?_)) ((h.2 z hz).cells hz (fun c x y w => by rw [← hτ, wI_n (by omega)])))
          · unfold nR; rw [kup_n (by omega)]; omega
          · unfold kn kto
            rw [kup_n (by omega), kup_n (by omega), kup_n (by omega), kup_n (c' := 8) (fun w => eq (by rw [← w.2, tnc, hz2]; omega))]
          · unfold nR at x y; rw [kup_n (by omega)] at y; omega⟩ (by rw [e1]; unfold U_takeBack; rw [if_pos hk, if_pos q]) (fm.trans (by rw [← hτ]; exact fm.refl.wI (by omega)) e2)
      unfold S_takeBack at this
      rw [if_pos hk, if_pos q] at this
      exact this
    · have := hp σ h (by unfold U_takeBack; rw [if_pos hk, if_neg q]) fm.refl
      unfold S_takeBack at this
      rw [if_pos hk, if_neg q] at this
      exact this
  · have h1 : ¬ okRd a (vx σ) := h1
    have := hp σ h (by unfold U_takeBack; rw [if_neg h1]) fm.refl
    unfold S_takeBack at this
    rwa [if_neg h1] at this

theorem PG.snoc {pc : Nat → Nat} {ps : Nat → Int} {n d c : Nat} {v : Int} {D S C : Nat → Int} (h : PG pc ps n D S C) (hd : d < 400) (hc : 0 < c) (hb : ∀ x, 0 < pc x → x < d) :
    PG (fun x => if x = d then c else pc x) (fun x => if x = d then v else ps x) (n + 1) (fun i => if i = n then (d : Int) else D i) (fun i => if i = n then v else S i) (fun i => if i = n then (c : Int) else C i) := by
  obtain ⟨h1, h2, h3⟩ := h
  refine ⟨fun i j x y => ?_, fun i x => ?_, fun x hx y => ?_⟩
  · dsimp only
    rw [if_neg (show ¬ i = n by omega)]
    have gi := h2 i (by omega)
    have := hb _ gi.2.2.1
    by_cases e : j = n
    · rw [if_pos e]; omega
    · rw [if_neg e]; exact h1 i j x (by omega)
  · dsimp only
    by_cases e : i = n
    · rw [if_pos e, if_pos e, if_pos e, Int.toNat_natCast, if_pos rfl, if_pos rfl]
      exact ⟨by omega, by omega, hc, rfl, rfl⟩
    · have gi := h2 i (by omega)
      have := hb _ gi.2.2.1
      rw [if_neg e, if_neg e, if_neg e, if_neg (by omega), if_neg (by omega)]
      exact gi
  · dsimp only at y
    by_cases e : x = d
    · exact ⟨n, by omega, by dsimp only; rw [if_pos rfl, e]⟩
    · rw [if_neg e] at y
      obtain ⟨i, a, b⟩ := h3 x hx y
      exact ⟨i, by omega, by dsimp only; rw [if_neg (by omega)]; exact b⟩
/-- what the model's points of a piece may change -/
def fmp (p : Nat) (σ τ : Sto) : Prop := (∀ c, c ≠ 76 → c ≠ 77 → c ≠ 79 → τ.1 c = σ.1 c) ∧ (∀ c, c ≠ 78 → τ.2 c = σ.2 c) ∧ (∀ q, q ≠ p → τ.1 76 q = σ.1 76 q) ∧ ∀ i, (i < 150 * p ∨ 150 * p + 150 ≤ i) → τ.1 77 i = σ.1 77 i ∧ τ.2 78 i = σ.2 78 i ∧ τ.1 79 i = σ.1 79 i
theorem fmp.refl {p : Nat} {σ : Sto} : fmp p σ σ := ⟨fun _ _ _ _ => rfl, fun _ _ => rfl, fun _ _ => rfl, fun _ _ => ⟨rfl, rfl, rfl⟩⟩
theorem fmp.qm {p : Nat} {σ τ : Sto} (h : fmp p σ τ) : qm σ τ := ⟨fun c hc => ⟨h.1 c (fun e => by subst e; cases hc) (fun e => by subst e; cases hc) (fun e => by subst e; cases hc), h.2.1 c (fun e => by subst e; cases hc)⟩, fun i _ => by rw [h.1 67 (by omega) (by omega) (by omega)]⟩
def mD (s : Sto) (p : Nat) : Nat → Int := fun i => (s.1 77 (150 * p + i)).toInt
def mS (s : Sto) (p : Nat) : Nat → Int := fun i => (s.2 78 (150 * p + i)).toInt
def mC (s : Sto) (p : Nat) : Nat → Int := fun i => (s.1 79 (150 * p + i)).toInt
theorem M_points {p : Int32} {σ : Sto} {post : Sto → Prop} (hi : Inv (vm σ)) (hp : okS p) (h : ∀ (τ : Sto) (n : Nat), fmp p.toNatClampNeg σ τ → (τ.1 76 p.toNatClampNeg).toInt = n → PT (vm σ) p.toNatClampNeg n (mD τ p.toNatClampNeg) (mS τ p.toNatClampNeg) (mC τ p.toNatClampNeg) → post τ) : wX11_points p σ post := by
  have hl := hp.lt
  generalize hκ : vm σ = κ at *
  have hs8 : ∀ d, sumD (pC κ p.toNatClampNeg) d ≤ 8 := fun d => Nat.le_trans (sum_kb (m := nR κ)) (kq_le hi 0 p.toNatClampNeg (Nat.le_refl _))
  unfold wX11_points
  refine pk_loop (fun k d (u : Nat × Sto) => wX11_points_4 post _ k p (nI u.1) (nI d) u.2) (fun d u => fmp p.toNatClampNeg σ u.2 ∧ u.1 ≤ sumD (pC κ p.toNatClampNeg) d ∧ PG (fun x => if x < d then pC κ p.toNatClampNeg x else 0) (fun x => if x < d then pS κ p.toNatClampNeg x else 0) u.1 (mD u.2 p.toNatClampNeg) (mS u.2 p.toNatClampNeg) (mC u.2 p.toNatClampNeg)) 400 0 (0, σ) (Nat.zero_le _) ?_ ?_ ?_
  · refine ⟨fmp.refl, Nat.zero_le _, fun i j _ x => absurd x (Nat.not_lt_zero _), fun i x => absurd x (Nat.not_lt_zero _), fun d _ x => ?_⟩
    dsimp only at x
    rw [if_neg (by omega)] at x
    exact absurd x (Nat.not_lt_zero _)
  · intro k u hu
    obtain ⟨n, s⟩ := u
    obtain ⟨a1, a2, a3⟩ := hu
    have a2 : n ≤ sumD (pC κ p.toNatClampNeg) 400 := a2
    have := hs8 400
    unfold wX11_points_4
    refine ⟨fun _ => ⟨hp.in, ?_⟩, fun q => absurd (nI_lt (a := 399) (by omega) (by omega)) q⟩
    dsimp only at a1 a3 ⊢
    refine h _ n ⟨fun c x y z => by rw [wI_n x]; exact a1.1 c x y z, a1.2.1, fun q x => by rw [wI_1, uN x]; exact a1.2.2.1 q x, fun i x => by rw [wI_n (by omega), wI_n (by omega), wI_2]; exact a1.2.2.2 i x⟩ (by rw [wI_1, uS, nI_toInt (by omega)]) ?_
    obtain ⟨g1, g2, g3⟩ := a3
    have e1 : mD (wI s 76 p.toNatClampNeg (nI n)) p.toNatClampNeg = mD s p.toNatClampNeg := by unfold mD; rw [wI_n (by omega)]
    have e2 : mS (wI s 76 p.toNatClampNeg (nI n)) p.toNatClampNeg = mS s p.toNatClampNeg := rfl
    have e3 : mC (wI s 76 p.toNatClampNeg (nI n)) p.toNatClampNeg = mC s p.toNatClampNeg := by unfold mC; rw [wI_n (by omega)]
    rw [e1, e2, e3]
    refine ⟨by omega, g1, fun i x => ?_, fun d x y => ?_⟩
    · have := g2 i x
      dsimp only at this
      rw [if_pos (by omega), if_pos (by omega)] at this
      exact this
    · exact g3 d x (by dsimp only; rw [if_pos x]; exact y)
  · intro k d u hd hu kk
    obtain ⟨n, s⟩ := u
    obtain ⟨a1, a2, a3⟩ := hu
    dsimp only at a1 a2 a3 ⊢
    have h8 := hs8 d
    have h81 := hs8 (d + 1)
    have hv : vm s = κ := by rw [← hκ]; exact a1.qm.vm
    have dT : (nI d).toInt = d := nI_toInt (by omega)
    have dC : (nI d).toNatClampNeg = d := nI_clamp (by omega)
    unfold wX11_points_4
    refine ⟨fun q => absurd q (nI_nlt (a := 399) (b := d) (by omega) (by omega)), fun _ => M_pts20 (by rw [hv]; exact hi) hp (by omega) (fun S hS => ?_)⟩
    rw [hv, dC] at hS ⊢
    have pc8 := pC_le hi p.toNatClampNeg d
    rw [show ((0 : Int32)) = nI 0 from rfl, nI_leI (by omega) (by omega), nI_1]
    refine ⟨fun q => ?_, fun q => ?_⟩
    · have p0 : pC κ p.toNatClampNeg d = 0 := by omega
      have s0 : pS κ p.toNatClampNeg d = 0 := cnt_z p0
      refine kk (n, s) ⟨a1, by show n ≤ sumD _ d + _; omega, ?_⟩
      have e1 : (fun x => if x < d + 1 then pC κ p.toNatClampNeg x else 0) = (fun x => if x < d then pC κ p.toNatClampNeg x else 0) := by
        funext x
        by_cases e : x = d
        · rw [e, if_pos (by omega), if_neg (by omega), p0]
        · by_cases e2 : x < d
          · rw [if_pos e2, if_pos (by omega)]
          · rw [if_neg e2, if_neg (by omega)]
      have e2 : (fun x => if x < d + 1 then pS κ p.toNatClampNeg x else 0) = (fun x => if x < d then pS κ p.toNatClampNeg x else 0) := by
        funext x
        by_cases e : x = d
        · rw [e, if_pos (by omega), if_neg (by omega), s0]
        · by_cases e2 : x < d
          · rw [if_pos e2, if_pos (by omega)]
          · rw [if_neg e2, if_neg (by omega)]
      rw [e1, e2]
      exact a3
    · have ep : (150 : Int32) * p = nI (150 * p.toNatClampNeg) := by
        have hp2 := hp
        unfold okS at hp2
        refine iExt (iMul (a := 150) (b := p.toInt) (by decide) rfl (by omega) (by omega)) ?_
        rw [nI_toInt (by omega), tnc]
        omega
      have s81 : sumD (pC κ p.toNatClampNeg) (d + 1) = sumD (pC κ p.toNatClampNeg) d + pC κ p.toNatClampNeg d := rfl
      rw [ep, nI_add, nI_clamp (show 150 * p.toNatClampNeg + n < 2 ^ 31 by omega), nI_1]
      have v6 : vp_in (nI (150 * p.toNatClampNeg + n)) 600 := vp_in_nI (by omega) (by omega)
      refine ⟨v6, v6, v6, ?_⟩
      generalize hτ : wI (wL (wI s 77 (150 * p.toNatClampNeg + n) (nI d)) 78 (150 * p.toNatClampNeg + n) S) 79 (150 * p.toNatClampNeg + n) (nI (pC κ p.toNatClampNeg d)) = τ
      have t77 : τ.1 77 = upd (s.1 77) (150 * p.toNatClampNeg + n) (nI d) := by rw [← hτ, wI_n (by omega), wL_1, wI_1]
      have t78 : τ.2 78 = vp_updL (s.2 78) (150 * p.toNatClampNeg + n) S := by rw [← hτ, wI_2, wL_2, wI_2]
      have t79 : τ.1 79 = upd (s.1 79) (150 * p.toNatClampNeg + n) (nI (pC κ p.toNatClampNeg d)) := by rw [← hτ, wI_1, wL_1, wI_n (by omega)]
      refine kk (n + 1, τ) ⟨⟨fun c x y z => by rw [← hτ, wI_n z, wL_1, wI_n y]; exact a1.1 c x y z, fun c x => by rw [← hτ, wI_2, wL_n x, wI_2]; exact a1.2.1 c x, fun q2 x => by rw [← hτ, wI_n (by omega), wL_1, wI_n (by omega)]; exact a1.2.2.1 q2 x, fun i x => ?_⟩, by show n + 1 ≤ sumD _ d + _; omega, ?_⟩
      · show τ.1 77 i = _ ∧ τ.2 78 i = _ ∧ τ.1 79 i = _
        rw [t77, t78, t79, uN (by omega), uLN (by omega), uN (by omega)]
        exact a1.2.2.2 i x
      · have sn := a3.snoc (d := d) (c := pC κ p.toNatClampNeg d) (v := pS κ p.toNatClampNeg d) (by omega) (by omega) (fun x hx => by
          by_cases e : x < d
          · exact e
          · rw [if_neg e] at hx; exact absurd hx (Nat.not_lt_zero _))
        have e1 : (fun x => if x < d + 1 then pC κ p.toNatClampNeg x else 0) = (fun x => if x = d then pC κ p.toNatClampNeg d else if x < d then pC κ p.toNatClampNeg x else 0) := by
          funext x
          by_cases e : x = d
          · rw [e, if_pos (by omega), if_pos rfl]
          · rw [if_neg e]
            by_cases e2 : x < d
            · rw [if_pos e2, if_pos (by omega)]
            · rw [if_neg e2, if_neg (by omega)]
        have e2 : (fun x => if x < d + 1 then pS κ p.toNatClampNeg x else 0) = (fun x => if x = d then pS κ p.toNatClampNeg d else if x < d then pS κ p.toNatClampNeg x else 0) := by
          funext x
          by_cases e : x = d
          · rw [e, if_pos (by omega), if_pos rfl]
          · rw [if_neg e]
            by_cases e2 : x < d
            · rw [if_pos e2, if_pos (by omega)]
            · rw [if_neg e2, if_neg (by omega)]
        dsimp only
        rw [e1, e2]
        refine sn.congr (fun i x => ?_) (fun i x => ?_) (fun i x => ?_)
        · show (τ.1 77 (150 * p.toNatClampNeg + i)).toInt = _
          rw [t77]
          by_cases e : i = n
          · rw [e, uS, if_pos rfl, dT]
          · rw [uN (by omega), if_neg e]; rfl
        · show (τ.2 78 (150 * p.toNatClampNeg + i)).toInt = _
          rw [t78]
          by_cases e : i = n
          · rw [e, uLS, if_pos rfl, hS]
          · rw [uLN (by omega), if_neg e]; rfl
        · show (τ.1 79 (150 * p.toNatClampNeg + i)).toInt = _
          rw [t79]
          by_cases e : i = n
          · rw [e, uS, if_pos rfl, nI_toInt (by omega)]
          · rw [uN (by omega), if_neg e]; rfl

/-! chains: the class -/
def wZ (κ : Kp) (a : Nat) : Int := dZ κ a * dZ κ a
theorem wZ_b {κ : Kp} (h : Inv κ) {a : Nat} (ha : a < nH κ) : 1 ≤ wZ κ a ∧ wZ κ a ≤ 1000000 := by
  have d := dZ_b h ha
  have m := mulB (x := dZ κ a) (y := dZ κ a) (A := 1000) (B := 1000) (M := 1000000) ⟨by omega, by omega⟩ ⟨by omega, by omega⟩ (by decide)
  have p := Int.mul_pos (show 0 < dZ κ a by omega) (show 0 < dZ κ a by omega)
  unfold wZ
  omega
def tgn (κ : Kp) (a b : Nat) : Nat → Bool
  | 0 => false
  | p + 1 => tgn κ a b p || (pt κ p a && pt κ p b)
def tgB (κ : Kp) (a b : Nat) : Bool := tgn κ a b 4
theorem tgn_s (κ : Kp) (a b : Nat) : ∀ p, tgn κ a b p = tgn κ b a p
  | 0 => rfl
  | p + 1 => by
    show (_ || _) = (_ || _)
    rw [tgn_s κ a b p, Bool.and_comm]
theorem tgB_s (κ : Kp) (a b : Nat) : tgB κ a b = tgB κ b a := tgn_s κ a b 4
noncomputable def cZ (κ : Kp) (to a : Nat) : Int := cstZ (nH κ) (tgB κ) (wZ κ) to a
theorem X_sq {a : Int32} {σ : Sto} {post : Int32 → Sto → Prop} (h : OX σ) (ha : okHouse a (vx σ)) (hq : ∀ r : Int32, r.toInt = wZ (vx σ) a.toNatClampNeg → post r σ) : wX1_squaredDoubt a σ post := by
  have ra := ha.r h.1
  have wb := wZ_b h.1 ha.lh
  have ea : (σ.1 14 a.toNatClampNeg).toInt = dZ (vx σ) a.toNatClampNeg := by unfold dZ; rw [vx_r (c := 2) (by omega) (h14n ra)]; rfl
  unfold wZ at wb hq
  exact ⟨vp_iff.mpr ra, vp_iff.mpr ra, hq _ (iMul ea ea (by omega) (by omega))⟩
def nbn (κ : Kp) (p a b : Nat) : Bool := decide (b ≠ a) && tgn κ a b p
def nbB (κ : Kp) (a b : Nat) : Bool := nbn κ 4 a b
theorem nb_step {κ : Kp} {p a : Nat} (h : pt κ p a = true) : bset (nbn κ p a) (nH κ) ||| dif (bset (pt κ p) (nH κ)) (2 ^ a) = bset (nbn κ (p + 1) a) (nH κ) := by
  refine Nat.eq_of_testBit_eq (fun i => ?_)
  rw [Nat.testBit_or, dif_t, Nat.testBit_two_pow, bset_t, bset_t, bset_t]
  unfold nbn
  have e : tgn κ a i (p + 1) = (tgn κ a i p || (pt κ p a && pt κ p i)) := rfl
  rw [e, h]
  by_cases q : a = i
  · subst q; simp
  · have q2 : i ≠ a := fun z => q z.symm
    simp [q, q2]
    cases decide (i < nH κ) <;> simp
theorem nb_stay {κ : Kp} {p a : Nat} (h : pt κ p a = false) : bset (nbn κ p a) (nH κ) = bset (nbn κ (p + 1) a) (nH κ) := by
  refine Nat.eq_of_testBit_eq (fun i => ?_)
  rw [bset_t, bset_t]
  unfold nbn
  have e : tgn κ a i (p + 1) = (tgn κ a i p || (pt κ p a && pt κ p i)) := rfl
  rw [e, h, Bool.false_and, Bool.or_false]
theorem wA_n {σ : Sto} {c c' : Nat} {f : Nat → Int32} (h : c' ≠ c) : (wA σ c f).1 c' = σ.1 c' := by simp [wA, h]
theorem wA_2 {σ : Sto} {c : Nat} {f : Nat → Int32} : (wA σ c f).2 = σ.2 := rfl
theorem qx.wA {σ τ : Sto} {c : Nat} {f : Nat → Int32} (h : qx σ τ) (hc : scr c = true) (h3 : c ≠ 3) (h8 : c ≠ 8) : qx σ (wA τ c f) := by
  refine ⟨fun c' x => ⟨?_, (h.1 c' x).2⟩, ?_, ?_⟩
  · rw [wA_n (fun e => by rw [e, hc] at x; cases x)]; exact (h.1 c' x).1
  · rw [wA_n (fun e => h3 e.symm)]; exact h.2.1
  · rw [wA_n (fun e => h8 e.symm)]; exact h.2.2
theorem X_findNeighbours {σ : Sto} {post : Sto → Prop} (h : OX σ) (hq : ∀ τ, qx σ τ → (∀ a, a < nH (vx σ) → τ.1 50 a = nI (bset (nbB (vx σ) a) (nH (vx σ)))) → post τ) : wX2_findNeighbours σ post := by
  have hi := h.1
  have h14 := nH_le hi
  have hv : ∀ u, qx σ u → vx u = vx σ := fun u f => f.vx
  generalize hκ : vx σ = κ at *
  unfold wX2_findNeighbours
  refine fillI_ok (by decide) ?_
  refine pk_loop (fun k p u => wX2_findNeighbours_10 post (fun σ_2 => post σ_2) k (nI p) u) (fun p u => qx σ u ∧ ∀ a, a < nH κ → u.1 50 a = nI (bset (nbn κ p a) (nH κ))) 4 0 _ (Nat.zero_le _) ⟨qx.refl.wA (by decide) (by decide) (by decide), ?_⟩ ?_ ?_
  · intro a ha
    rw [wA_1, if_pos (by omega)]
    have : bset (nbn κ 0 a) (nH κ) = 0 := by
      refine Nat.eq_of_testBit_eq (fun i => ?_)
      rw [bset_t, Nat.zero_testBit]
      show (_ && (_ && false)) = false
      rw [Bool.and_false, Bool.and_false]
    rw [this]; rfl
  · intro k u hu
    unfold wX2_findNeighbours_10
    exact ⟨fun _ => hq u hu.1 hu.2, fun z => absurd (by decide) z⟩
  · intro k p u hp hu kk
    obtain ⟨f, g⟩ := hu
    have hvu := hv u f
    have c2 : (nI p).toNatClampNeg = p := nI_clamp (by omega)
    have pT : (nI p).toInt = p := nI_toInt (by omega)
    unfold wX2_findNeighbours_10
    refine ⟨fun z => absurd z (nI_ge (b := 4) hp (by decide)), fun _ => X_takingPart (h.qx f) ⟨by omega, by omega⟩ ?_⟩
    rw [c2, hvu]
    have bl := bset_14 (pt κ p) h14
    refine pk_loop (fun k2 i v => wX2_findNeighbours_26 post _ k2 (nI p) (nI (bset (pt κ p) (nH κ))) (nI i) v) (fun i v => qx σ v ∧ ∀ a, a < nH κ → v.1 50 a = nI (bset (nbn κ (if a < i then p + 1 else p) a) (nH κ))) (nH κ) 0 u (Nat.zero_le _) ⟨f, fun a ha => by rw [if_neg (by omega)]; exact g a ha⟩ ?_ ?_
    · intro k2 v hx
      have eH : v.1 1 2 = nI (nH κ) := by rw [← nH_I hi, ← hv v hx.1]; rfl
      unfold wX2_findNeighbours_26
      rw [eH, nI_1]
      exact ⟨fun _ => kk v ⟨hx.1, fun a ha => by have := hx.2 a ha; rw [if_pos ha] at this; exact this⟩, fun z => absurd (nI_le (Nat.le_refl _) (by omega)) z⟩
    · intro k2 i v hi2 hx kk2
      obtain ⟨f2, g2⟩ := hx
      have eH : v.1 1 2 = nI (nH κ) := by rw [← nH_I hi, ← hv v f2]; rfl
      have d2 : (nI i).toNatClampNeg = i := nI_clamp (by omega)
      have gi := g2 i hi2
      rw [if_neg (by omega)] at gi
      have v14 : vp_in (nI i) 14 := vp_in_nI (by omega) (by omega)
      have st : tkN κ p i = pt κ p i := by unfold tkN; rw [decide_eq_true hi2, Bool.true_and]
      unfold wX2_findNeighbours_26
      rw [eH, bT1 (by omega) (by omega), bset_tk, st, nI_1 i, d2, gi, bSh i (by omega), bD, bO]
      refine ⟨fun z => absurd z (nI_ge hi2 (by omega)), fun _ => ⟨fun z => kk2 v ⟨f2, fun a ha => ?_⟩, fun z => ⟨v14, v14, kk2 _ ⟨f2.wI (by decide) (by omega) (by omega), fun a ha => ?_⟩⟩⟩⟩
      · by_cases e : a = i
        · rw [e, if_pos (by omega), gi, nb_stay (by simpa using z)]
        · have := g2 a ha
          have ee : (if a < i + 1 then p + 1 else p) = (if a < i then p + 1 else p) := by
            by_cases q : a < i
            · rw [if_pos q, if_pos (by omega)]
            · rw [if_neg q, if_neg (by omega)]
          rw [ee]; exact this
      · by_cases e : a = i
        · rw [e, wI_1, uS, if_pos (by omega), nb_step z]
        · have := g2 a ha
          have ee : (if a < i + 1 then p + 1 else p) = (if a < i then p + 1 else p) := by
            by_cases q : a < i
            · rw [if_pos q, if_pos (by omega)]
            · rw [if_neg q, if_neg (by omega)]
          rw [ee, wI_1, uN e]; exact this
def cX (σ : Sto) (a : Nat) : Int := (σ.1 51 a).toInt
theorem X_cheapest {m : Nat} {σ : Sto} {post : Int32 → Sto → Prop} (h : OX σ) (hm : m < 16384) (hq : ∀ r : Int32, ((r = -1 ∧ ∀ a, a < nH (vx σ) → m.testBit a = false → cX σ a = -1) ∨ ∃ s, r = nI s ∧ s < nH (vx σ) ∧ m.testBit s = false ∧ cX σ s ≠ -1 ∧ ∀ a, a < nH (vx σ) → m.testBit a = false → cX σ a ≠ -1 → cX σ s ≤ cX σ a) → post r σ) : wX2_cheapestBeside (nI m) σ post := by
  have hi := h.1
  have h14 := nH_le hi
  have eH : σ.1 1 2 = nI (nH (vx σ)) := by rw [← nH_I hi]; rfl
  refine pk_loop (fun k i (x : Int32) => wX2_cheapestBeside_4 post (fun x2_1 σ_1 => post x2_1 σ_1) k (nI m) x (nI i) σ) (fun i x => (x = -1 ∧ ∀ a, a < i → m.testBit a = false → cX σ a = -1) ∨ ∃ s, x = nI s ∧ s < i ∧ m.testBit s = false ∧ cX σ s ≠ -1 ∧ ∀ a, a < i → m.testBit a = false → cX σ a ≠ -1 → cX σ s ≤ cX σ a) (nH (vx σ)) 0 (-1) (Nat.zero_le _) (Or.inl ⟨rfl, fun a x => absurd x (Nat.not_lt_zero _)⟩) ?_ ?_
  · intro k x hx
    unfold wX2_cheapestBeside_4
    rw [eH]
    exact ⟨fun _ => hq x hx, fun z => absurd (nI_le (Nat.le_refl _) (by omega)) z⟩
  · intro k i x hi2 hx kk
    have c2 : (nI i).toNatClampNeg = i := nI_clamp (by omega)
    have v14 : vp_in (nI i) 14 := vp_in_nI (by omega) (by omega)
    have sk : (m.testBit i = false → cX σ i = -1) → wX2_cheapestBeside_4 post (fun x2_1 σ_1 => post x2_1 σ_1) k (nI m) x (nI (i + 1)) σ := fun z => by
      refine kk x ?_
      rcases hx with ⟨e1, e2⟩ | ⟨s, e1, e2, e3, e4, e5⟩
      · refine Or.inl ⟨e1, fun a ha q => ?_⟩
        by_cases e : a = i
        · rw [e] at q ⊢; exact z q
        · exact e2 a (by omega) q
      · refine Or.inr ⟨s, e1, by omega, e3, e4, fun a ha q q2 => ?_⟩
        by_cases e : a = i
        · rw [e] at q q2; exact absurd (z q) q2
        · exact e5 a (by omega) q q2
    unfold wX2_cheapestBeside_4 wX2_cheapestBeside_37 wX2_cheapestBeside_38 wX2_cheapestBeside_65
    rw [eH, c2, nI_1, bT0 (by omega) (by omega)]
    refine ⟨fun z => absurd z (nI_ge hi2 (by omega)), fun _ => ⟨v14, fun z => ⟨fun _ => sk (fun _ => by unfold cX; rw [z]; rfl), fun w => absurd rfl w⟩, fun z => ⟨fun w => ⟨fun _ => sk (fun q => absurd q w), fun w => absurd rfl w⟩, fun w => ⟨fun q => absurd q (by decide), fun _ => ⟨fun e => ?_, fun e => ⟨v14, ?_⟩⟩⟩⟩⟩⟩
    · have ci : cX σ i ≠ -1 := fun q => z (iExt q nm1)
      rcases hx with ⟨e1, e2⟩ | ⟨s, e1, e2, e3, e4, e5⟩
      · refine kk _ (Or.inr ⟨i, rfl, by omega, w, ci, fun a ha q q2 => ?_⟩)
        by_cases e : a = i
        · rw [e]; exact Int.le_refl _
        · exact absurd (e2 a (by omega) q) q2
      · rw [e1] at e
        have := congrArg Int32.toInt e
        rw [nI_toInt (by omega), nm1] at this
        omega
    · have ci : cX σ i ≠ -1 := fun q => z (iExt q nm1)
      rcases hx with ⟨e1, e2⟩ | ⟨s, e1, e2, e3, e4, e5⟩
      · exact absurd e1 e
      · rw [e1, nI_clamp (by omega), iLe]
        refine ⟨vp_in_nI (by omega) (by omega), fun q => kk _ (Or.inr ⟨s, rfl, by omega, e3, e4, fun a ha q1 q2 => ?_⟩), fun q => kk _ (Or.inr ⟨i, rfl, by omega, w, ci, fun a ha q1 q2 => ?_⟩)⟩
        · by_cases e : a = i
          · rw [e]; exact q
          · exact e5 a (by omega) q1 q2
        · by_cases e : a = i
          · rw [e]; exact Int.le_refl _
          · have := e5 a (by omega) q1 q2
            unfold cX at this ⊢
            omega
theorem X_costBy {s : Nat} {σ : Sto} {post : Sto → Prop} (h : OX σ) (hs : s < nH (vx σ)) (hn : ∀ a, a < nH (vx σ) → σ.1 50 a = nI (bset (nbB (vx σ) a) (nH (vx σ)))) (hb : 0 ≤ cX σ s ∧ cX σ s ≤ 100000000) (hq : ∀ τ, qx σ τ → τ.1 50 = σ.1 50 → (∀ a, a < nH (vx σ) → cX τ a = rlx (tgB (vx σ)) (wZ (vx σ)) (cX σ) s a) → post τ) : wX2_costBy (nI s) σ post := by
  have hi := h.1
  have h14 := nH_le hi
  have hv : ∀ u, qx σ u → vx u = vx σ := fun u f => f.vx
  generalize hκ : vx σ = κ at *
  have cs : (nI s).toNatClampNeg = s := nI_clamp (by omega)
  have vs : vp_in (nI s) 14 := vp_in_nI (by omega) (by omega)
  refine pk_loop (fun k i u => wX2_costBy_2 post (fun σ_1 => post σ_1) k (nI s) (nI i) u) (fun i u => qx σ u ∧ u.1 50 = σ.1 50 ∧ ∀ a, a < nH κ → cX u a = if a < i then rlx (tgB κ) (wZ κ) (cX σ) s a else cX σ a) (nH κ) 0 σ (Nat.zero_le _) ⟨qx.refl, rfl, fun a ha => by rw [if_neg (by omega)]⟩ ?_ ?_
  · intro k u hu
    have eH : u.1 1 2 = nI (nH κ) := by rw [← nH_I hi, ← hv u hu.1]; rfl
    unfold wX2_costBy_2
    rw [eH]
    exact ⟨fun _ => hq u hu.1 hu.2.1 (fun a ha => by have := hu.2.2 a ha; rw [if_pos ha] at this; exact this), fun z => absurd (nI_le (Nat.le_refl _) (by omega)) z⟩
  · intro k i u hi2 hu kk
    obtain ⟨f, g1, g2⟩ := hu
    have hvu := hv u f
    have ho := h.qx f
    have eH : u.1 1 2 = nI (nH κ) := by rw [← nH_I hi, ← hvu]; rfl
    have c2 : (nI i).toNatClampNeg = i := nI_clamp (by omega)
    have v14 : vp_in (nI i) 14 := vp_in_nI (by omega) (by omega)
    have bl := bset_14 (nbB κ s) h14
    have bT' : (bset (nbB κ s) (nH κ)).testBit i = true ↔ (i ≠ s ∧ tgB κ s i = true) := by
      rw [bset_t, decide_eq_true hi2, Bool.true_and]
      unfold nbB nbn
      rw [Bool.and_eq_true, decide_eq_true_iff]
      exact Iff.rfl
    have us : cX u s = cX σ s := by
      rw [g2 s hs]
      split
      · exact rlx_s
      · rfl
    have ui : cX u i = cX σ i := by rw [g2 i hi2, if_neg (by omega)]
    have rest : ∀ (u' : Sto), (∀ a, a < nH κ → a ≠ i → cX u' a = cX u a) → cX u' i = rlx (tgB κ) (wZ κ) (cX σ) s i → ∀ a, a < nH κ → cX u' a = if a < i + 1 then rlx (tgB κ) (wZ κ) (cX σ) s a else cX σ a := fun u' r1 r2 a ha => by
      by_cases e : a = i
      · rw [e, r2, if_pos (by omega)]
      · rw [r1 a ha e, g2 a ha]
        by_cases q : a < i
        · rw [if_pos q, if_pos (by omega)]
        · rw [if_neg q, if_neg (by omega)]
    have no : ¬ ((i ≠ s ∧ tgB κ s i = true) ∧ (cX σ i = -1 ∨ cX σ s + wZ κ i < cX σ i)) → wX2_costBy_2 post (fun σ_1 => post σ_1) k (nI s) (nI (i + 1)) u := fun z => kk u ⟨f, g1, rest u (fun _ _ _ => rfl) (by unfold rlx; rw [if_neg z]; exact ui)⟩
    have wb := wZ_b hi hi2
    have yes : ∀ r : Int32, r.toInt = wZ κ i → ((i ≠ s ∧ tgB κ s i = true) ∧ (cX σ i = -1 ∨ cX σ s + wZ κ i < cX σ i)) → wX2_costBy_63 post (wX2_costBy_2 post (fun σ_1 => post σ_1) k) (nI s) (nI i) (u.1 51 s + r) u := fun r hr z => by
      unfold wX2_costBy_63
      rw [nI_1, c2]
      refine ⟨v14, kk _ ⟨f.wI (by decide) (by omega) (by omega), by rw [wI_n (by decide)]; exact g1, rest _ (fun a ha e => ?_) ?_⟩⟩
      · unfold cX; rw [wI_1, uN e]
      · unfold rlx
        rw [if_pos z]
        show ((wI u 51 i (u.1 51 s + r)).1 51 i).toInt = _
        rw [wI_1, uS]
        exact iAdd us hr (by omega) (by omega)
    have hok : okHouse (nI i) (vx u) := by rw [hvu]; exact okH_nI hi hi2
    unfold wX2_costBy_2
    rw [eH, cs, c2, g1, hn s hs, bT1 (by omega) (by omega), bT', nI_1]
    refine ⟨fun z => absurd z (nI_ge hi2 (by omega)), fun _ => ⟨vs, fun z => no (fun q => z q.1), fun z => ⟨vs, X_sq ho hok (fun r hr => ⟨v14, ?_⟩)⟩⟩⟩
    rw [c2, hvu] at hr
    refine ⟨fun w => yes r hr ⟨z, Or.inl ?_⟩, fun w => ⟨v14, ?_⟩⟩
    · rw [← ui]; unfold cX; rw [w]; rfl
    · have e51 : (u.1 51 s + r).toInt = cX σ s + wZ κ i := iAdd us hr (by omega) (by omega)
      have wn : ¬ cX σ i = -1 := fun q => w (iExt (show (u.1 51 i).toInt = -1 by rw [← q, ← ui]; rfl) nm1)
      have ui' : (u.1 51 i).toInt = cX σ i := ui
      rw [iLe, e51, ui']
      exact ⟨fun q => no (by omega), fun q => yes r hr ⟨z, by omega⟩⟩
theorem X_reckonTo {t : Nat} {σ : Sto} {post : Sto → Prop} (h : OX σ) (ht : t < nH (vx σ)) (hq : ∀ τ, qx σ τ → (∀ a, a < nH (vx σ) → τ.1 50 a = nI (bset (nbB (vx σ) a) (nH (vx σ)))) → (∀ a, a < nH (vx σ) → cX τ a = cZ (vx σ) t a ∧ -1 ≤ cX τ a ∧ cX τ a ≤ 15000000) → post τ) : wX2_reckonTo (nI t) σ post := by
  have hi := h.1
  have h14 := nH_le hi
  have hv : ∀ u, qx σ u → vx u = vx σ := fun u f => f.vx
  unfold wX2_reckonTo
  refine X_findNeighbours h (fun u f g => ?_)
  generalize hκ : vx σ = κ at *
  refine fillI_ok (by decide) ?_
  have f1 : qx σ (wA u 51 (fun i => if i < 14 then (-1 : Int32) else u.1 51 i)) := f.wA (by decide) (by decide) (by decide)
  have hv1 := hv _ f1
  have hok : okHouse (nI t) (vx (wA u 51 (fun i => if i < 14 then (-1 : Int32) else u.1 51 i))) := by rw [hv1]; exact okH_nI hi ht
  have ct : (nI t).toNatClampNeg = t := nI_clamp (by omega)
  refine X_sq (h.qx f1) hok (fun r hr => ⟨vp_in_nI (by omega) (by omega), ?_⟩)
  rw [hv1, ct] at hr
  rw [ct]
  generalize hu2 : wI (wA u 51 (fun i => if i < 14 then (-1 : Int32) else u.1 51 i)) 51 t r = u2
  have f2 : qx σ u2 := by rw [← hu2]; exact f1.wI (by decide) (by omega) (by omega)
  have n2 : u2.1 50 = u.1 50 := by rw [← hu2, wI_n (by decide), wA_n (by decide)]
  have c2 : ∀ a, a < nH κ → cX u2 a = if a = t then wZ κ t else -1 := fun a ha => by
    unfold cX
    rw [← hu2, wI_1]
    by_cases e : a = t
    · rw [e, uS, if_pos rfl]; exact hr
    · rw [uN e, if_neg e, wA_1, if_pos (by omega)]; rfl
  have hw : ∀ a, a < nH κ → 1 ≤ wZ κ a ∧ wZ κ a ≤ 1000000 := fun a ha => wZ_b hi ha
  have wt := hw t ht
  have d0 : DJ (nH κ) (tgB κ) (wZ κ) t (cX u2) (Nat.testBit 0) (1000000 * ((0 : Nat) + 1 : Int)) := by
    refine ⟨fun a ha q => ?_, ?_, fun a ha => ?_, fun b _ q => ?_, fun b _ q => ?_⟩
    · rw [c2 a ha] at q ⊢
      by_cases e : a = t
      · rw [if_pos e]; exact ⟨0, e, rfl⟩
      · rw [if_neg e] at q; exact absurd rfl q
    · rw [c2 t ht, if_pos rfl]; omega
    · rw [c2 a ha]; split <;> omega
    · rw [Nat.zero_testBit] at q; cases q
    · rw [Nat.zero_testBit] at q; cases q
  have done : ∀ v : Sto, ∀ S M, qx σ v → v.1 50 = u.1 50 → DJ (nH κ) (tgB κ) (wZ κ) t (cX v) S M → M ≤ 15000000 → (∀ a, a < nH κ → S a = false → cX v a = -1) → post v := fun v S M q1 q2 q3 q4 q5 => by
    have cl := q3.fin q5
    refine hq v q1 (fun a ha => by rw [q2]; exact g a ha) (fun a ha => ⟨cstZ_eq q3.1 cl a ha, ?_⟩)
    have := q3.2.2.1 a ha
    omega
  refine pk_loop (fun k i (x : Int32 × Sto) => wX2_reckonTo_30 post (fun σ_1 => post σ_1) (fun σ_2 => post σ_2) k x.1 (nI i) x.2) (fun i x => ∃ m, x.1 = nI m ∧ m < 16384 ∧ cnt m.testBit (nH κ) = i ∧ qx σ x.2 ∧ x.2.1 50 = u.1 50 ∧ DJ (nH κ) (tgB κ) (wZ κ) t (cX x.2) m.testBit (1000000 * ((i : Int) + 1))) (nH κ) 0 (0, u2) (Nat.zero_le _) ⟨0, rfl, by decide, ?_, f2, n2, d0⟩ ?_ ?_
  · have : ∀ n, cnt (Nat.testBit 0) n = 0 := fun n => by
      induction n with
      | zero => rfl
      | succ n ih =>
        show cnt _ n + _ = 0
        rw [ih, Nat.zero_testBit]; rfl
    exact this _
  · intro k x hx
    obtain ⟨x, v⟩ := x
    obtain ⟨m, a1, a2, a3, a4, a5, a6⟩ := hx
    dsimp only at a1 a4 a5 a6 ⊢
    have eH : v.1 1 2 = nI (nH κ) := by rw [← nH_I hi, ← hv v a4]; rfl
    unfold wX2_reckonTo_30
    rw [eH]
    refine ⟨fun _ => done v _ _ a4 a5 a6 (by omega) (fun a ha q => ?_), fun z => absurd (nI_le (Nat.le_refl _) (by omega)) z⟩
    rw [cnt_full a3 a ha] at q
    cases q
  · intro k i x hi2 hx kk
    obtain ⟨x, v⟩ := x
    obtain ⟨m, a1, a2, a3, a4, a5, a6⟩ := hx
    dsimp only at a1 a4 a5 a6 ⊢
    have hvv := hv v a4
    have eH : v.1 1 2 = nI (nH κ) := by rw [← nH_I hi, ← hvv]; rfl
    unfold wX2_reckonTo_30
    rw [eH, a1]
    refine ⟨fun z => absurd z (nI_ge hi2 (by omega)), fun _ => X_cheapest (h.qx a4) a2 (fun r hr => ?_)⟩
    rw [hvv] at hr
    rcases hr with ⟨e1, e2⟩ | ⟨s, e1, e2, e3, e4, e5⟩
    · exact ⟨fun z => absurd e1 z, fun _ => done v _ _ a4 a5 a6 (by omega) e2⟩
    · have bs := a6.2.2.1 s e2
      refine ⟨fun _ => ?_, fun z => ?_⟩
      · rw [e1]
        refine X_costBy (h.qx a4) (by rw [hvv]; exact e2) (fun a ha => ?_) (by omega) (fun w q1 q2 q3 => ?_)
        · rw [hvv] at ha ⊢
          rw [a5]; exact g a ha
        · rw [hvv] at q3
          rw [bSh s (by omega), bO, nI_1]
          have tb : ∀ a, (m ||| 2 ^ s).testBit a = (m.testBit a || decide (a = s)) := fun a => by
            rw [Nat.testBit_or, Nat.testBit_two_pow]
            congr 1
            exact decide_eq_decide.mpr ⟨Eq.symm, Eq.symm⟩
          refine kk (_, w) ⟨m ||| 2 ^ s, rfl, Nat.or_lt_two_pow (n := 14) a2 (Nat.pow_lt_pow_right (by decide) (by omega)), ?_, a4.trans q1, by rw [q2]; exact a5, ?_⟩
          · rw [cnt_set (P := m.testBit) (s := s) e3 (fun a _ => tb a), if_pos e2, a3]
          · have := a6.step (fun a b => tgB_s κ a b) hw ht e2 e3 e4 e5 q3 (S' := (m ||| 2 ^ s).testBit) (fun a _ => tb a)
            rw [show (1000000 * (((i + 1 : Nat) : Int) + 1)) = 1000000 * ((i : Int) + 1) + 1000000 by omega]
            exact this
      · rw [e1] at z
        have := congrArg Int32.toInt z
        rw [nI_toInt (by omega), nm1] at this
        omega
noncomputable def S_chain (a t : Int32) (κ : Kp) : Int32 := @ite _ (okHouse a κ ∧ okHouse t κ ∧ a ≠ t) (Classical.propDecidable _) (Int32.ofInt (cZ κ t.toNatClampNeg a.toNatClampNeg)) (-2)
theorem okH_I {a : Int32} {κ : Kp} (h : okHouse a κ) (hi : Inv κ) : a = nI a.toNatClampNeg := iExt (toN (h.r hi).1).symm (nI_toInt (by have := h14n (h.r hi); omega))
theorem X_chain (a t : Int32) : SpX (wX10_chain a t) (S_chain a t) (fun κ => κ) := by
  intro σ post h hp
  have hh := hp σ h rfl fm.refl
  unfold S_chain at hh hp
  have no : ¬ (okHouse a (vx σ) ∧ okHouse t (vx σ) ∧ a ≠ t) → post (-2) σ := fun q => by rwa [if_neg q] at hh
  unfold wX10_chain
  refine noHouse_ok (br_n (fun h1 => ?_) (fun h1 => no (fun q => h1 q.1)))
  refine noHouse_ok (br_n (fun h2 => ⟨fun h3 => ?_, fun h3 => no (fun q => q.2.2 h3)⟩) (fun h2 => no (fun q => h2 q.2.1)))
  have ok : okHouse a (vx σ) ∧ okHouse t (vx σ) ∧ a ≠ t := ⟨h1, h2, h3⟩
  rw [okH_I ok.2.1 h.1]
  refine X_reckonTo h ok.2.1.lh (fun τ f _ g => ⟨vp_iff.mpr (ok.1.r h.1), ?_⟩)
  have := hp τ (h.qx f) f.vx f.fm
  rw [if_pos ok] at this
  have ga := g a.toNatClampNeg ok.1.lh
  rw [oI (show (τ.1 51 a.toNatClampNeg).toInt = _ from ga.1) (by omega) (by omega)]
  exact this
noncomputable def vaB (κ : Kp) (fr t b : Nat) : Bool := (decide (b ≠ fr) && tgB κ fr b) && (decide (cZ κ t b ≠ -1) && decide (cZ κ t b + wZ κ fr = cZ κ t fr))
noncomputable def vaZ (κ : Kp) (fr t : Nat) : Int32 := match fstD (vaB κ fr t) 0 (nH κ) with
  | some b => nI b
  | none => -1
noncomputable def S_via (a t : Int32) (κ : Kp) : Int32 := @ite _ (okHouse a κ ∧ okHouse t κ ∧ a ≠ t) (Classical.propDecidable _) (vaZ κ a.toNatClampNeg t.toNatClampNeg) (-2)
theorem X_nextFrom {s t : Nat} {σ : Sto} {post : Int32 → Sto → Prop} (h : OX σ) (hs : s < nH (vx σ)) (hn : ∀ a, a < nH (vx σ) → σ.1 50 a = nI (bset (nbB (vx σ) a) (nH (vx σ)))) (hc : ∀ a, a < nH (vx σ) → cX σ a = cZ (vx σ) t a ∧ -1 ≤ cX σ a ∧ cX σ a ≤ 15000000) (hq : post (vaZ (vx σ) s t) σ) : wX2_nextFrom (nI s) σ post := by
  have hi := h.1
  have h14 := nH_le hi
  generalize hκ : vx σ = κ at *
  have cs : (nI s).toNatClampNeg = s := nI_clamp (by omega)
  have vs : vp_in (nI s) 14 := vp_in_nI (by omega) (by omega)
  have eH : σ.1 1 2 = nI (nH κ) := by rw [← nH_I hi, ← hκ]; rfl
  refine pk_loop (fun k i (_ : Unit) => wX2_nextFrom_2 post (fun σ_1 => post ((-1 : Int32)) σ_1) (fun x2_2 σ_2 => post x2_2 σ_2) k (nI s) (nI i) σ) (fun i _ => ∀ b, b < i → vaB κ s t b = false) (nH κ) 0 () (Nat.zero_le _) (fun b x => absurd x (Nat.not_lt_zero _)) ?_ ?_
  · intro k _ hx
    unfold wX2_nextFrom_2
    rw [eH]
    refine ⟨fun _ => ?_, fun z => absurd (nI_le (Nat.le_refl _) (by omega)) z⟩
    have e : vaZ κ s t = -1 := by
      unfold vaZ
      rw [fst_none (fun x _ b => hx x (by omega))]
    rw [e] at hq
    exact hq
  · intro k i _ hi2 hx kk
    have c2 : (nI i).toNatClampNeg = i := nI_clamp (by omega)
    have v14 : vp_in (nI i) 14 := vp_in_nI (by omega) (by omega)
    have bl := bset_14 (nbB κ s) h14
    have bT' : (bset (nbB κ s) (nH κ)).testBit i = (decide (i ≠ s) && tgB κ s i) := by
      rw [bset_t, decide_eq_true hi2, Bool.true_and]
      rfl
    have no : vaB κ s t i = false → wX2_nextFrom_2 post (fun σ_1 => post ((-1 : Int32)) σ_1) (fun x2_2 σ_2 => post x2_2 σ_2) k (nI s) (nI (i + 1)) σ := fun z => by
      refine kk () (fun b hb => ?_)
      by_cases e : b = i
      · rw [e]; exact z
      · exact hx b (by omega)
    have ci := hc i hi2
    have cS := hc s hs
    have wb := wZ_b hi hs
    unfold wX2_nextFrom_2 wX2_nextFrom_41 wX2_nextFrom_42
    rw [eH, cs, c2, hn s hs, bT1 (by omega) (by omega), bT', nI_1]
    refine ⟨fun z => absurd z (nI_ge hi2 (by omega)), fun _ => ⟨vs, fun z => ⟨fun _ => no ?_, fun w => absurd rfl w⟩, fun z => ⟨v14, fun w => ⟨fun _ => no ?_, fun w => absurd rfl w⟩, fun w => ⟨fun q => absurd q (by decide), fun _ => ⟨v14, X_sq h (by rw [hκ]; exact okH_nI hi hs) (fun r hr => ⟨vs, ?_⟩)⟩⟩⟩⟩⟩
    · unfold vaB
      rw [show (decide (i ≠ s) && tgB κ s i) = false by simpa using z, Bool.false_and]
    · have : cZ κ t i = -1 := by rw [← ci.1]; unfold cX; rw [w]; rfl
      unfold vaB
      rw [this, decide_eq_false (p := (-1 : Int) ≠ -1) (fun q => q rfl), Bool.false_and, Bool.and_false]
    · rw [hκ, cs] at hr
      have wn : cZ κ t i ≠ -1 := fun q => w (iExt (show (σ.1 51 i).toInt = -1 by rw [← q, ← ci.1]; rfl) nm1)
      have e1 : (σ.1 51 i + r).toInt = cZ κ t i + wZ κ s := iAdd (by rw [← ci.1]; rfl) hr (by omega) (by omega)
      have e2 : (σ.1 51 s).toInt = cZ κ t s := by rw [← cS.1]; rfl
      rw [iEq, e1, e2]
      refine ⟨fun q => no ?_, fun q => ?_⟩
      · unfold vaB
        rw [decide_eq_false q, Bool.and_false, Bool.and_false]
      · have tr : vaB κ s t i = true := by
          unfold vaB
          rw [z, decide_eq_true wn, decide_eq_true q]; rfl
        have e : vaZ κ s t = nI i := by
          unfold vaZ
          rw [fst_spec (Nat.zero_le i) (by omega) tr (fun x _ b => hx x b)]
        rw [e] at hq
        exact hq
theorem X_via (a t : Int32) : SpX (wX10_via a t) (S_via a t) (fun κ => κ) := by
  intro σ post h hp
  have hh := hp σ h rfl fm.refl
  unfold S_via at hh hp
  have no : ¬ (okHouse a (vx σ) ∧ okHouse t (vx σ) ∧ a ≠ t) → post (-2) σ := fun q => by rwa [if_neg q] at hh
  unfold wX10_via
  refine noHouse_ok (br_n (fun h1 => ?_) (fun h1 => no (fun q => h1 q.1)))
  refine noHouse_ok (br_n (fun h2 => ⟨fun h3 => ?_, fun h3 => no (fun q => q.2.2 h3)⟩) (fun h2 => no (fun q => h2 q.2.1)))
  have ok : okHouse a (vx σ) ∧ okHouse t (vx σ) ∧ a ≠ t := ⟨h1, h2, h3⟩
  have eA := okH_I ok.1 h.1
  have eT := okH_I ok.2.1 h.1
  have la := ok.1.lh
  have lt := ok.2.1.lh
  generalize a.toNatClampNeg = s at *
  generalize t.toNatClampNeg = d at *
  rw [eA, eT]
  refine X_reckonTo h lt (fun τ f g1 g => ?_)
  have := hp τ (h.qx f) f.vx f.fm
  rw [if_pos ok, ← f.vx] at this
  rw [← f.vx] at la g1 g
  exact X_nextFrom (h.qx f) la g1 g this

/-! repeats: the class -/
theorem wJ_1 {σ : Sto} {c : Nat} {f : Nat → Int64} : (wJ σ c f).1 = σ.1 := rfl
theorem wJ_n {σ : Sto} {c c' : Nat} {f : Nat → Int64} (h : c' ≠ c) : (wJ σ c f).2 c' = σ.2 c' := (wJ_o h).2.symm
theorem qx.wJ {σ τ : Sto} {c : Nat} {f : Nat → Int64} (h : qx σ τ) (hc : scr c = true) : qx σ (wJ τ c f) := by
  refine ⟨fun c' x => ⟨(h.1 c' x).1, ?_⟩, h.2.1, h.2.2⟩
  rw [wJ_n (fun e => by rw [e, hc] at x; cases x)]; exact (h.1 c' x).2
def RG (κ : Kp) (p n : Nat) (τ : Sto) : Prop := ∀ a, a < 14 → (τ.2 55 a).toInt = tot (kq κ a p) (vW κ) n ∧ (τ.2 56 a).toInt = tot (kq κ a p) (vQ κ) n
theorem rp_b {κ : Kp} (h : Inv κ) (a p : Nat) {m : Nat} (hm : m ≤ nR κ) : (-480000 ≤ tot (kq κ a p) (vW κ) m ∧ tot (kq κ a p) (vW κ) m ≤ 480000) ∧ 0 ≤ tot (kq κ a p) (vQ κ) m ∧ tot (kq κ a p) (vQ κ) m ≤ 28800000000 := by
  have b1 := tot_c (P := kq κ a p) (f := vW κ) (n := m) (fun r hr _ => vW_b h (show r < nR κ by omega))
  have b2 := tot_c (P := kq κ a p) (f := vQ κ) (n := m) (fun r hr _ => vQ_b h (show r < nR κ by omega))
  have c := kq_le h a p hm
  omega
theorem X_gatherR {p : Int32} {σ : Sto} {post : Sto → Prop} (h : OX σ) (hp : okS p) (hq : ∀ τ, qx σ τ → RG (vx σ) p.toNatClampNeg (nR (vx σ)) τ → post τ) : wX8_gather p σ post := by
  have hi := h.1
  have hle := nR_le hi
  have hv : ∀ u, qx σ u → vx u = vx σ := fun u f => f.vx
  generalize hκ : vx σ = κ at *
  unfold wX8_gather
  refine fillL_ok (by decide) (fillL_ok (by decide) ?_)
  refine pk_loop (fun k i u => wX8_gather_18 post (fun σ_1 => post σ_1) k p (nI i) u) (fun i u => qx σ u ∧ RG κ p.toNatClampNeg i u) (nR κ) 0 _ (Nat.zero_le _) ⟨(qx.refl.wJ (by decide)).wJ (by decide), fun a ha => ?_⟩ ?_ ?_
  · rw [wJ_2, if_pos ha, wJ_n (by decide), wJ_2, if_pos ha]
    exact ⟨rfl, rfl⟩
  · intro k u hu
    have eR : u.1 1 5 = nI (nR κ) := by rw [← nR_I hi, ← hv u hu.1]; rfl
    unfold wX8_gather_18
    rw [eR]
    exact ⟨fun _ => hq u hu.1 hu.2, fun z => absurd (nI_le (Nat.le_refl _) (by omega)) z⟩
  · intro k m u hm hu kk
    obtain ⟨f, g⟩ := hu
    have hvu := hv u f
    have ho := h.qx f
    have eR : u.1 1 5 = nI (nR κ) := by rw [← nR_I hi, ← hvu]; rfl
    have c2 : (nI m).toNatClampNeg = m := nI_clamp (by omega)
    have mT : (nI m).toInt = m := nI_toInt (by omega)
    have v150 : vp_in (nI m) 150 := vp_in_nI (by omega) (by omega)
    have gm := hi.2.2.2.2.2.2.2.1 m hm
    have hH := hi.2.2.1
    unfold wX8_gather_18
    rw [eR, c2, nI_1]
    refine ⟨fun q => absurd q (nI_ge hm (by omega)), fun _ => X_isKnownOf (by omega) hp.1 ⟨fun z => ?_, fun z => ⟨v150, ?_⟩⟩⟩
    · rw [c2, hvu] at z
      have zf : ∀ a, kq κ a p.toNatClampNeg m = false := fun a => by
        unfold kq
        cases hk : kn κ m with
        | false => rfl
        | true =>
          rw [hk, Bool.and_true] at z
          rw [z]
          simp
      refine kk u ⟨f, fun a ha => ?_⟩
      rw [tot_s0 (zf a), tot_s0 (zf a)]
      exact g a ha
    · rw [c2, hvu] at z
      simp only [Bool.and_eq_true, decide_eq_true_eq] at z
      obtain ⟨z1, z2⟩ := z
      have e38 : (u.1 38 m).toInt = rdZ κ m := by
        have := (ho.2 p.toNatClampNeg hp.lt).2.2 m (by rw [hvu]; exact hm) (by rw [hvu]; exact z2) (by rw [hvu]; exact z1)
        rw [hvu] at this
        exact this
      have e15 : u.1 15 m = κ 3 m := by rw [← vx_rd (c := 3) (by decide) (show m < 150 by omega), hvu]
      have rb := rdZ_b hi hm
      refine near_ok (iL e38) (show (1000 : Int64).toInt = 1000 from rfl) (by omega) (by decide) (fun r hr => ?_)
      rw [if_neg (by decide)] at hr
      rw [e15]
      generalize hA : (κ 3 m).toNatClampNeg = A
      have hAn : (A : Int) = (κ 3 m).toInt := by rw [← hA]; exact toN gm.1.1
      have vA : vp_in (κ 3 m) 14 := vp_iff.mpr (by omega)
      have vb := vW_b hi hm
      have qb := vQ_b hi hm
      have hr' : r.toInt = vW κ m := hr
      have sqr : (r * r).toInt = vQ κ m := lMul hr' hr' (by unfold vQ at qb; omega) (by unfold vQ at qb; omega)
      have kqh : ∀ a, kq κ a p.toNatClampNeg m = decide (a = A) := fun a => by
        unfold kq
        rw [z2, Bool.true_and, ← Bool.decide_and]
        exact decide_eq_decide.mpr (by omega)
      have gA := g A (by omega)
      have bA := rp_b hi A p.toNatClampNeg (show m ≤ nR κ by omega)
      refine ⟨v150, vA, vA, v150, vA, vA, kk _ ⟨(f.wL (by decide)).wL (by decide), fun a ha => ?_⟩⟩
      by_cases e : a = A
      · subst e
        rw [tot_s1 (by rw [kqh a, decide_eq_true rfl]), tot_s1 (by rw [kqh a, decide_eq_true rfl])]
        rw [wL_n (show (55 : Nat) ≠ 56 by decide), wL_2, uLS, wL_2, uLS]
        exact ⟨lAdd gA.1 hr' (by omega) (by omega), lAdd gA.2 sqr (by omega) (by omega)⟩
      · rw [tot_s0 (by rw [kqh a, decide_eq_false e]), tot_s0 (by rw [kqh a, decide_eq_false e])]
        rw [wL_n (show (55 : Nat) ≠ 56 by decide), wL_2, uLN e, wL_2, uLN e]
        exact g a ha
theorem RG.s {κ : Kp} {p : Nat} {τ : Sto} (g : RG κ p (nR κ) τ) {a : Nat} (ha : a < 14) : (τ.2 55 a).toInt = rS κ a p := (g a ha).1
theorem RG.q {κ : Kp} {p : Nat} {τ : Sto} (g : RG κ p (nR κ) τ) {a : Nat} (ha : a < 14) : (τ.2 56 a).toInt = rQ κ a p := (g a ha).2
theorem X_spread {κ : Kp} {p a : Nat} {n : Int64} {N : Int} {σ : Sto} {post : Int64 → Sto → Prop} (hi : Inv κ) (g : RG κ p (nR κ) σ) (ha : a < 14) (hn : n.toInt = N) (hN : 0 ≤ N ∧ N ≤ 8) (hq : ∀ r : Int64, r.toInt = N * rQ κ a p - rS κ a p * rS κ a p → post r σ) : wX8_spread (nI a) n σ post := by
  have ca : (nI a).toNatClampNeg = a := nI_clamp (by omega)
  have va : vp_in (nI a) 14 := vp_in_nI (by omega) (by omega)
  have b : _ ∧ 0 ≤ rQ κ a p ∧ rQ κ a p ≤ 28800000000 := rp_b hi a p (Nat.le_refl _)
  have b1 : -480000 ≤ rS κ a p ∧ rS κ a p ≤ 480000 := b.1
  have m1 := mulB (x := N) (y := rQ κ a p) (A := 8) (B := 28800000000) (M := 230400000000) ⟨by omega, by omega⟩ ⟨by omega, by omega⟩ (by decide)
  have m2 := mulB (x := rS κ a p) (y := rS κ a p) (A := 480000) (B := 480000) (M := 230400000000) ⟨by omega, by omega⟩ ⟨by omega, by omega⟩ (by decide)
  unfold wX8_spread
  rw [ca]
  exact ⟨va, va, va, hq _ (lSub (lMul hn (g.q ha) (by omega) (by omega)) (lMul (g.s ha) (g.s ha) (by omega) (by omega)) (by omega) (by omega))⟩
theorem X_known {σ : Sto} (h : OX σ) {a p : Nat} (ha : a < 14) (hp : p < 4) : (σ.1 (40 + p) a).toInt = cN (vx σ) a p := ((h.2 p hp).2.1 a ha).1
noncomputable def S_within (a p w : Int32) (κ : Kp) : Int64 := @ite _ (okHouse a κ ∧ okS p ∧ 0 ≤ w.toInt ∧ w.toInt ≤ 1) (Classical.propDecidable _) (if cN κ a.toNatClampNeg p.toNatClampNeg < 2 then -9223372036854775805 else Int64.ofInt (loW w (spr κ a.toNatClampNeg p.toNatClampNeg) (btN (cN κ a.toNatClampNeg p.toNatClampNeg)))) (-9223372036854775806)
theorem spr_bb {κ : Kp} (h : Inv κ) (a p : Nat) : 0 ≤ spr κ a p ∧ spr κ a p ≤ 230400000000 := by
  have s := spr_b h a p
  have c8 := cN_le h a p
  have m := mulB (x := (cN κ a p : Int)) (y := (cN κ a p : Int)) (A := 8) (B := 8) (M := 64) ⟨by omega, by omega⟩ ⟨by omega, by omega⟩ (by decide)
  omega
theorem X_within (a p w : Int32) : SpX (wX10_within a p w) (S_within a p w) (fun κ => κ) := by
  intro σ post h hp
  have hh := hp σ h rfl fm.refl
  unfold S_within at hp hh
  have no : ¬ (okHouse a (vx σ) ∧ okS p ∧ 0 ≤ w.toInt ∧ w.toInt ≤ 1) → post (-9223372036854775806) σ := fun q => by rwa [if_neg q] at hh
  unfold wX10_within
  refine noHouse_ok (br_n (fun h1 => ?_) (fun h1 => no (fun q => h1 q.1)))
  refine noPiece_ok (br_n (fun h2 => ?_) (fun h2 => no (fun q => h2 q.2.1)))
  simp only [iLt, iLe, n0, n1]
  refine ⟨fun q => no (by omega), fun q1 => ⟨fun q2 => ?_, fun q => no (by omega)⟩⟩
  have h1' : okHouse a (vx σ) := h1
  have h2' : okS p := h2
  have ok : okHouse a (vx σ) ∧ okS p ∧ 0 ≤ w.toInt ∧ w.toInt ≤ 1 := ⟨h1, h2, by omega, q2⟩
  have ra := h1'.r h.1
  have eN := X_known h (h14n ra) h2'.lt
  have c8 := cN_le h.1 a.toNatClampNeg p.toNatClampNeg
  unfold wX8_reckonWithin
  refine ⟨h2'.in, vp_iff.mpr ra, ?_⟩
  rw [lLe, iL eN, show (2 : Int64).toInt = 2 from rfl]
  refine ⟨fun z => X_gatherR h h2 (fun τ f g => ?_), fun z => ⟨fun e => (by cases e), fun _ => ?_⟩⟩
  · have z2 : 2 ≤ cN (vx σ) a.toNatClampNeg p.toNatClampNeg := by omega
    have t := sc_tab z2 c8
    have sb := spr_bb h.1 a.toNatClampNeg p.toNatClampNeg
    rw [okH_I h1' h.1]
    have ca : (nI a.toNatClampNeg).toNatClampNeg = a.toNatClampNeg := by rw [← okH_I h1' h.1]
    rw [ca]
    refine X_spread h.1 g (h14n ra) (iL eN) (by omega) (fun r hr => ?_)
    have hr' : r.toInt = spr (vx σ) a.toNatClampNeg p.toNatClampNeg := hr
    have eB : ((σ.1 (40 + p.toNatClampNeg) a.toNatClampNeg).toInt64 * ((σ.1 (40 + p.toNatClampNeg) a.toNatClampNeg).toInt64 - (1 : Int64))).toInt = btN (cN (vx σ) a.toNatClampNeg p.toNatClampNeg) := by
      have e1 : ((σ.1 (40 + p.toNatClampNeg) a.toNatClampNeg).toInt64 - (1 : Int64)).toInt = (cN (vx σ) a.toNatClampNeg p.toNatClampNeg : Int) - 1 := lSub (iL eN) rfl (by omega) (by omega)
      exact lMul (iL eN) e1 (by unfold btN at t; omega) (by unfold btN at t; omega)
    refine X_become hr' eB (by omega) (by omega) (by omega) (fun u v hu hv => ⟨fun _ => X_side (u := u) (v := v) ?_ ?_ hu hv (fun r2 hr2 => ?_), fun e => by cases e⟩)
    · rw [wL_2, uLN (by decide), wL_2, uLS]
    · rw [wL_2, uLS]
    · have f2 := (f.wL (c := 11) (i := 0) (v := u) (by decide)).wL (c := 11) (i := 1) (v := v) (by decide)
      have := hp _ (h.qx f2) f2.vx f2.fm
      rw [if_pos ok, if_neg (by omega)] at this
      have lb := loW_b (w := w) (B := 230400000000) t.1.1 (by omega) ⟨by omega, sb.2⟩
      rw [oL hr2 (by omega) (by omega)]
      exact this
  · rw [if_pos ok, if_pos (by omega)] at hh
    exact hh
theorem X_scaled {κ : Kp} {p : Int32} {a : Nat} {σ : Sto} {post : Int64 → Sto → Prop} (h : OX σ) (hκ : vx σ = κ) (hp : okS p) (g : RG κ p.toNatClampNeg (nR κ) σ) (ha : a < 14) (hq : ∀ r : Int64, r.toInt = scW κ a p.toNatClampNeg → post r σ) : wX8_scaledWithin (nI a) p σ post := by
  have hi : Inv κ := by rw [← hκ]; exact h.1
  have ca : (nI a).toNatClampNeg = a := nI_clamp (by omega)
  have va : vp_in (nI a) 14 := vp_in_nI (by omega) (by omega)
  have eN := X_known h ha hp.lt
  rw [hκ] at eN
  have c8 := cN_le hi a p.toNatClampNeg
  unfold wX8_scaledWithin
  rw [ca, iLe, eN, show (2 : Int32).toInt = 2 from rfl]
  refine ⟨hp.in, va, fun z => ?_, fun z => hq _ ?_⟩
  · have z2 : 2 ≤ cN κ a p.toNatClampNeg := by omega
    have t := sc_tab z2 c8
    have sb := spr_bb hi a p.toNatClampNeg
    have ws := scW_b hi z2
    refine X_spread hi g ha (iL eN) (by omega) (fun r hr => ?_)
    have hr' : r.toInt = spr κ a p.toNatClampNeg := hr
    have e1 : (σ.1 (40 + p.toNatClampNeg) a - (1 : Int32)).toInt = (cN κ a p.toNatClampNeg : Int) - 1 := iSub eN n1 (by omega) (by omega)
    have eB : (σ.1 (40 + p.toNatClampNeg) a * (σ.1 (40 + p.toNatClampNeg) a - (1 : Int32))).toInt = btN (cN κ a p.toNatClampNeg) := iMul eN e1 (by unfold btN at t; omega) (by unfold btN at t; omega)
    refine ⟨fun e => ?_, hq _ ?_⟩
    · rw [iEq, eB, n0] at e
      omega
    · rw [ws.1]
      have eD : ((840 : Int32) / (σ.1 (40 + p.toNatClampNeg) a * (σ.1 (40 + p.toNatClampNeg) a - (1 : Int32)))).toInt = kSc (cN κ a p.toNatClampNeg) := by
        rw [Int32.toInt_div_of_ne_right _ _ (fun e => by rw [iEq, eB, nm1] at e; omega), eB]
        show ((840 : Int).tdiv (btN _)) = _
        rw [Int.tdiv_eq_ediv_of_nonneg (by decide)]
        rfl
      exact lMul hr' (iL eD) (by rw [← ws.1]; omega) (by rw [← ws.1]; omega)
  · unfold scW
    rw [if_pos (by omega)]
    rfl
theorem X_widestOf {κ : Kp} {p : Int32} {σ : Sto} {post : Int32 → Sto → Prop} (h : OX σ) (hκ : vx σ = κ) (hp : okS p) (g : RG κ p.toNatClampNeg (nR κ) σ) (hq : ∀ r : Int32, r.toInt = (wdF κ p.toNatClampNeg (nH κ)).1 → post r σ) : wX8_widestOf p σ post := by
  have hi : Inv κ := by rw [← hκ]; exact h.1
  have h14 := nH_le hi
  have eH : σ.1 1 2 = nI (nH κ) := by rw [← nH_I hi, ← hκ]; rfl
  refine pk_loop (fun k i (y : Int32 × Int64) => wX8_widestOf_9 post (fun x2_1 σ_1 => post x2_1 σ_1) k p y.1 y.2 (nI i) σ) (fun i y => y.1.toInt = (wdF κ p.toNatClampNeg i).1 ∧ y.2.toInt = (wdF κ p.toNatClampNeg i).2) (nH κ) 0 (-1, -1) (Nat.zero_le _) ⟨rfl, rfl⟩ ?_ ?_
  · intro k y hy
    obtain ⟨x, y⟩ := y
    obtain ⟨a1, a2⟩ := hy
    dsimp only at a1 a2 ⊢
    unfold wX8_widestOf_9
    rw [eH]
    exact ⟨fun _ => hq x a1, fun z => absurd (nI_le (Nat.le_refl _) (by omega)) z⟩
  · intro k i y hi2 hy kk
    obtain ⟨x, y⟩ := y
    obtain ⟨a1, a2⟩ := hy
    dsimp only at a1 a2 ⊢
    have e : wdF κ p.toNatClampNeg (i + 1) = if (wdF κ p.toNatClampNeg i).2 < scW κ i p.toNatClampNeg then ((i : Int), scW κ i p.toNatClampNeg) else wdF κ p.toNatClampNeg i := rfl
    unfold wX8_widestOf_9
    rw [eH]
    refine ⟨fun z => absurd z (nI_ge hi2 (by omega)), fun _ => X_scaled h hκ hp g (by omega) (fun r hr => ?_)⟩
    rw [lLe, hr, a2, nI_1]
    refine ⟨fun z => kk (x, y) ?_, fun z => kk (nI i, r) ?_⟩
    · rw [e, if_neg (by omega)]; exact ⟨a1, a2⟩
    · rw [e, if_pos (by omega)]; exact ⟨nI_toInt (by omega), hr⟩
noncomputable def S_widest (p : Int32) (κ : Kp) : Int32 := @ite _ (okS p) (Classical.propDecidable _) (Int32.ofInt (wdF κ p.toNatClampNeg (nH κ)).1) (-2)
theorem wdF_b {κ : Kp} (h : Inv κ) (p : Nat) : -1 ≤ (wdF κ p (nH κ)).1 ∧ (wdF κ p (nH κ)).1 < 14 := by
  have h14 := nH_le h
  rcases wdF_i h (p := p) (nH κ) with g | ⟨k, g1, g2, g3, g4⟩ <;> omega
theorem X_widestQ {p : Int32} {σ : Sto} {post : Int32 → Sto → Prop} (h : OX σ) (hq : ∀ τ, qx σ τ → post (S_widest p (vx σ)) τ) : wX10_widest p σ post := by
  have hh := hq σ qx.refl
  unfold S_widest at hq hh
  unfold wX10_widest
  refine noPiece_ok (And.symm (br_n (fun (h1 : okS p) => ?_) (fun (h1 : ¬ okS p) => by rwa [if_neg h1] at hh)))
  refine X_gatherR h h1 (fun τ f g => X_widestOf (h.qx f) f.vx h1 g (fun r hr => ?_))
  have := hq τ f
  rw [if_pos h1] at this
  have b := wdF_b h.1 p.toNatClampNeg
  rw [oI hr (by omega) (by omega)]
  exact this
theorem X_widest (p : Int32) : SpX (wX10_widest p) (S_widest p) (fun κ => κ) := fun σ post h hp => X_widestQ h (fun τ f => hp τ (h.qx f) f.vx f.fm)
noncomputable def S_share (p w : Int32) (κ : Kp) : Int64 := @ite _ (okS p ∧ 0 ≤ w.toInt ∧ w.toInt ≤ 1) (Classical.propDecidable _) (if (wdF κ p.toNatClampNeg (nH κ)).1 = -1 then -9223372036854775805 else if shB κ p.toNatClampNeg (nH κ) = 0 then w.toInt64 else Int64.ofInt (loW w (wdF κ p.toNatClampNeg (nH κ)).2 (shB κ p.toNatClampNeg (nH κ)))) (-9223372036854775806)
theorem X_share (p w : Int32) : SpX (wX10_share p w) (S_share p w) (fun κ => κ) := by
  intro σ post h hp
  have hh := hp σ h rfl fm.refl
  unfold S_share at hp hh
  have no : ¬ (okS p ∧ 0 ≤ w.toInt ∧ w.toInt ≤ 1) → post (-9223372036854775806) σ := fun q => by rwa [if_neg q] at hh
  unfold wX10_share
  refine noPiece_ok (br_n (fun h1 => ?_) (fun h1 => no (fun q => h1 q.1)))
  simp only [iLt, iLe, n0, n1]
  refine ⟨fun q => no (by omega), fun q1 => ⟨fun q2 => ?_, fun q => no (by omega)⟩⟩
  have ok : okS p ∧ 0 ≤ w.toInt ∧ w.toInt ≤ 1 := ⟨h1, by omega, q2⟩
  have hi := h.1
  have h14 := nH_le hi
  unfold wX8_reckonShare
  refine X_gatherR h h1 (fun u f g => X_widestOf (h.qx f) f.vx h1 g (fun r hr => ?_))
  have ho := h.qx f
  have hvu := f.vx
  generalize hκ : vx σ = κ at *
  have rE : r = -1 ↔ (wdF κ p.toNatClampNeg (nH κ)).1 = -1 := by rw [iEq, hr, nm1]
  rw [rE]
  refine ⟨fun z => ?_, fun z => ⟨fun e => (by cases e), fun _ => ?_⟩⟩
  · rcases wdF_i hi (p := p.toNatClampNeg) (nH κ) with g0 | ⟨k, g1, g2, g3, g4⟩
    · exact absurd g0.1 z
    · have er : r = nI k := iExt (hr.trans g2) (nI_toInt (by omega))
      have eH : u.1 1 2 = nI (nH κ) := by rw [← nH_I hi, ← hvu]; rfl
      have ws := scW_b hi g4
      rw [er]
      refine pk_loop (fun k2 i (y : Int64) => wX8_reckonShare_23 _ _ k2 p (nI k) y (nI i) u) (fun i y => y.toInt = shB κ p.toNatClampNeg i) (nH κ) 0 0 (Nat.zero_le _) rfl ?_ ?_
      · intro k2 y hy
        unfold wX8_reckonShare_23
        rw [eH]
        refine ⟨fun _ => X_scaled ho hvu h1 g (by omega) (fun s hs => ?_), fun z => absurd (nI_le (Nat.le_refl _) (by omega)) z⟩
        have sb := shB_b hi p.toNatClampNeg (nH κ) h14
        have f2 : ∀ a b : Int64, qx σ (wL (wL u 11 0 a) 11 1 b) := fun a b => (f.wL (c := 11) (i := 0) (v := a) (by decide)).wL (c := 11) (i := 1) (v := b) (by decide)
        rcases Int.lt_or_le 0 (shB κ p.toNatClampNeg (nH κ)) with q | q
        · refine X_become hs hy (by omega) q (by omega) (fun a b ha hb => ⟨fun _ => X_side (u := a) (v := b) ?_ ?_ ha hb (fun r2 hr2 => ?_), fun e => by cases e⟩)
          · rw [wL_2, uLN (by decide), wL_2, uLS]
          · rw [wL_2, uLS]
          · have := hp _ (h.qx (f2 a b)) (by rw [(f2 a b).vx, hκ]) (f2 a b).fm
            rw [if_pos ok, if_neg z, if_neg (by omega), g3] at this
            have lb := loW_b (w := w) (B := 84672000000000) q (by omega) (a := scW κ k p.toNatClampNeg) ⟨by omega, by omega⟩
            rw [oL hr2 (by omega) (by omega)]
            exact this
        · have y0 : y.toInt = 0 := by omega
          refine X_become0 hs y0 (by omega) ⟨fun _ => ?_, fun e => by cases e⟩
          have := hp _ (h.qx (f2 0 1)) (by rw [(f2 0 1).vx, hκ]) (f2 0 1).fm
          rw [if_pos ok, if_neg z, if_pos (by omega)] at this
          unfold wX5_side
          rw [wL_2, uLS, uLN (by decide), wL_2, uLS]
          refine ⟨fun e => ?_, fun e => ?_⟩
          · have : w = 1 := iExt (show w.toInt = 1 by have : ¬ w.toInt = 0 := fun q => e (iExt q n0); omega) n1
            subst this
            exact this
          · subst e
            exact this
      · intro k2 i y hi2 hy kk
        have c2 : (nI i).toNatClampNeg = i := nI_clamp (by omega)
        have sb := shB_b hi p.toNatClampNeg i (by omega)
        unfold shB at sb hy
        unfold wX8_reckonShare_23
        rw [eH]
        refine ⟨fun z => absurd z (nI_ge hi2 (by omega)), fun _ => X_scaled ho hvu h1 g (by omega) (fun s hs => maxL_ok (show (0 : Int64).toInt = 0 from rfl) hs (fun s2 hs2 => ?_))⟩
        rw [nI_1]
        refine kk _ ?_
        show _ = tot _ _ _
        rcases Nat.lt_or_ge (cN κ i p.toNatClampNeg) 2 with q | q
        · have e : scW κ i p.toNatClampNeg = -1 := by unfold scW; rw [if_pos q]
          rw [e, if_neg (by decide)] at hs2
          rw [tot_s0 (decide_eq_false (by omega)), lAdd hy hs2 (by omega) (by omega), Int.add_zero]
        · have wi := scW_b hi q
          have e2 : s2.toInt = scW κ i p.toNatClampNeg := by
            rw [hs2]
            split <;> omega
          rw [tot_s1 (decide_eq_true q)]
          exact lAdd hy e2 (by omega) (by omega)
  · have := hp u ho hvu f.fm
    rw [if_pos ok, if_pos z] at this
    exact this
theorem cN_0 {κ : Kp} {a p : Nat} (h : cN κ a p = 0) : rS κ a p = 0 ∧ rQ κ a p = 0 := by
  have z : ∀ (f : Nat → Int) m, cnt (kq κ a p) m = 0 → tot (kq κ a p) f m = 0 := fun f m => by
    induction m with
    | zero => intro _; rfl
    | succ m ih =>
      intro hm
      cases q : kq κ a p m with
      | false => rw [tot_s0 q]; rw [cnt_s0 q] at hm; exact ih hm
      | true => rw [cnt_s1 q] at hm; omega
  exact ⟨z _ _ h, z _ _ h⟩
theorem maxI_ok {x y : Int32} {a b : Int} {σ : Sto} {post : Int32 → Sto → Prop} (hx : x.toInt = a) (hy : y.toInt = b) (h : ∀ r : Int32, r.toInt = (if a < b then b else a) → post r σ) : wJ9_max_7cf53 x y σ post := by
  unfold wJ9_max_7cf53
  rw [iLt, hx, hy]
  exact ⟨fun z => h _ (by rw [if_pos z]; exact hy), fun z => h _ (by rw [if_neg z]; exact hx)⟩
theorem X_likeMany {κ : Kp} {p : Int32} {σ : Sto} {post : Int32 → Sto → Prop} (h : OX σ) (hκ : vx σ = κ) (hp : okS p) (hy : ∀ r : Int32, eqM κ p.toNatClampNeg (nH κ) → r.toInt = mxN κ p.toNatClampNeg (nH κ) → post r σ) (hn : ¬ eqM κ p.toNatClampNeg (nH κ) → post 0 σ) : wX8_likeMany p σ post := by
  have hi : Inv κ := by rw [← hκ]; exact h.1
  have h14 := nH_le hi
  have eH : σ.1 1 2 = nI (nH κ) := by rw [← nH_I hi, ← hκ]; rfl
  have up : ∀ i, i ≤ nH κ → eqM κ p.toNatClampNeg (nH κ) → eqM κ p.toNatClampNeg i := fun i hle hE => by
    have key : ∀ d, i + d ≤ nH κ → eqM κ p.toNatClampNeg (i + d) → eqM κ p.toNatClampNeg i := fun d => by
      induction d with
      | zero => intro _ e; exact e
      | succ d ih => intro hl e; exact ih (by omega) (eqM_s.mp e).1
    exact key (nH κ - i) (by omega) (by rw [show i + (nH κ - i) = nH κ by omega]; exact hE)
  refine pk_loop (fun k i (y : Int32) => wX8_likeMany_4 post (fun x2_1 σ_1 => post x2_1 σ_1) (fun σ_2 => post ((0 : Int32)) σ_2) k p y (nI i) σ) (fun i y => y.toInt = mxN κ p.toNatClampNeg i ∧ eqM κ p.toNatClampNeg i) (nH κ) 0 0 (Nat.zero_le _) ⟨rfl, eqM_0 rfl⟩ ?_ ?_
  · intro k y hyy
    unfold wX8_likeMany_4
    rw [eH]
    exact ⟨fun _ => hy y hyy.2 hyy.1, fun z => absurd (nI_le (Nat.le_refl _) (by omega)) z⟩
  · intro k i y hi2 hyy kk
    obtain ⟨a1, a2⟩ := hyy
    have c2 : (nI i).toNatClampNeg = i := nI_clamp (by omega)
    have eN := X_known h (show i < 14 by omega) hp.lt
    rw [hκ] at eN
    have m8 := mxN_le hi (p := p.toNatClampNeg) i
    have c8 := cN_le hi i p.toNatClampNeg
    have go : (cN κ i p.toNatClampNeg = 0 ∨ mxN κ p.toNatClampNeg i = 0 ∨ cN κ i p.toNatClampNeg = mxN κ p.toNatClampNeg i) → wX8_likeMany_45 post (wX8_likeMany_4 post (fun x2_1 σ_1 => post x2_1 σ_1) (fun σ_2 => post ((0 : Int32)) σ_2) k) p y (nI i) (σ.1 (40 + p.toNatClampNeg) i) σ := fun z => by
      unfold wX8_likeMany_45
      refine maxI_ok a1 eN (fun r hr => ?_)
      rw [nI_1]
      refine kk r ⟨?_, eqM_s.mpr ⟨a2, z⟩⟩
      rw [hr]
      show _ = ((max (mxN κ p.toNatClampNeg i) (cN κ i p.toNatClampNeg) : Nat) : Int)
      split <;> omega
    unfold wX8_likeMany_4
    rw [eH, c2]
    refine ⟨fun z => absurd z (nI_ge hi2 (by omega)), fun _ => ⟨hp.in, vp_in_nI (by omega) (by omega), fun z => go ?_, fun z => ⟨fun w => go ?_, fun w => ⟨fun q => go ?_, fun q => hn (fun e => ?_)⟩⟩⟩⟩
    · rw [iLe, eN, n0] at z
      omega
    · rw [iLe, a1, n0] at w
      omega
    · rw [iEq, eN, a1] at q
      omega
    · rw [iEq, eN, a1] at q
      rw [iLe, a1, n0] at w
      rw [iLe, eN, n0] at z
      have := (eqM_s.mp (up (i + 1) (by omega) e)).2
      omega
noncomputable def S_parts (p t w : Int32) (κ : Kp) : Int64 := @ite _ (okS p ∧ (0 ≤ t.toInt ∧ t.toInt ≤ 1) ∧ 0 ≤ w.toInt ∧ w.toInt ≤ 1) (Classical.propDecidable _) (@ite _ (eqM κ p.toNatClampNeg (nH κ) ∧ 2 ≤ mxN κ p.toNatClampNeg (nH κ) ∧ 2 ≤ ptN κ p.toNatClampNeg) (Classical.propDecidable _) (if ¬ t = 0 ∧ aprt κ p.toNatClampNeg ≤ 0 then w.toInt64 else Int64.ofInt (loW w (prA κ p.toNatClampNeg t) (prB κ p.toNatClampNeg t))) (-9223372036854775805)) (-9223372036854775806)

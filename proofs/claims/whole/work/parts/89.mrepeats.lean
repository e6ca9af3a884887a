/-! repeats: the model -/
theorem M_repeats {a : Nat} {p : Int32} {σ : Sto} {post : Sto → Prop} (h : OM σ) (ha : a < nH (vm σ)) (hp : okS p) (hq : ∀ τ, WK τ → qm σ τ → (τ.2 67 27).toInt = rS (vm σ) a p.toNatClampNeg → (τ.2 67 28).toInt = rQ (vm σ) a p.toNatClampNeg → post τ) : wX11_repeats (nI a) p σ post := by
  have hi := h.1
  have h14 := nH_le hi
  have hle := nR_le hi
  have hv : ∀ u, qm σ u → vm u = vm σ := fun u f => f.vm
  generalize hκ : vm σ = κ at *
  have aT : (nI a).toInt = a := nI_toInt (by omega)
  have q0 : qd σ (wL (wL σ 67 27 0) 67 28 0) := (qd.refl.wL (by decide) (by omega)).wL (by decide) (by omega)
  unfold wX11_repeats
  refine works_Q (h.qd q0) (fun τ wk f f2 => ?_)
  have l67 : τ.2 67 = (wL (wL σ 67 27 0) 67 28 0).2 67 := f2.2.2 67 (by omega)
  refine pk_loop (fun k i u => wX11_repeats_16 post (fun σ_1 => post σ_1) k (nI a) p (nI i) u) (fun i u => WK u ∧ qm σ u ∧ (u.2 67 27).toInt = tot (kq κ a p.toNatClampNeg) (vW κ) i ∧ (u.2 67 28).toInt = tot (kq κ a p.toNatClampNeg) (vQ κ) i) (nR κ) 0 τ (Nat.zero_le _) ⟨wk, q0.1.trans f, ?_, ?_⟩ ?_ ?_
  · rw [l67, wL_2, uLN (by decide), wL_2, uLS]; rfl
  · rw [l67, wL_2, uLS]; rfl
  · intro k u hu
    obtain ⟨w, q, g1, g2⟩ := hu
    have eR : u.1 67 4 = nI (nR κ) := by rw [← nR_I hi, ← hv u q]; rfl
    unfold wX11_repeats_16
    rw [eR]
    exact ⟨fun _ => hq u w q g1 g2, fun z => absurd (nI_le (Nat.le_refl _) (by omega)) z⟩
  · intro k m u hm hu kk
    obtain ⟨w, q, g1, g2⟩ := hu
    have hvu := hv u q
    have eR : u.1 67 4 = nI (nR κ) := by rw [← nR_I hi, ← hvu]; rfl
    have c2 : (nI m).toNatClampNeg = m := nI_clamp (by omega)
    have mT : (nI m).toInt = m := nI_toInt (by omega)
    have v150 : vp_in (nI m) 150 := vp_in_nI (by omega) (by omega)
    have h3 := hi.2.2.2.1
    have hm3 : (m : Int) < (κ 0 3).toInt := by unfold nR at hm; omega
    have e70 : u.1 70 m = κ 3 m := by rw [← vm_rd (c := 3) (cell := 70) (by decide) (show m < 150 by omega), hvu]
    have e71 : u.1 71 m = κ 4 m := by rw [← vm_rd (c := 4) (cell := 71) (by decide) (show m < 150 by omega), hvu]
    have i3 : κ 3 m = nI a ↔ (κ 3 m).toInt = a := by rw [iEq, aT]
    have i4 : κ 4 m = p ↔ (κ 4 m).toInt = p.toNatClampNeg := by rw [iEq, toN hp.1]
    have no : kq κ a p.toNatClampNeg m = false → wX11_repeats_16 post (fun σ_1 => post σ_1) k (nI a) p (nI (m + 1)) u := fun z => kk u ⟨w, q, by rw [tot_s0 z]; exact g1, by rw [tot_s0 z]; exact g2⟩
    unfold wX11_repeats_16
    rw [eR, c2, nI_1, e70, e71, i3, i4]
    refine ⟨fun z => absurd z (nI_ge hm (by omega)), fun _ => ⟨v150, fun z => no ?_, fun z => ⟨v150, fun y => no ?_, fun y => M_isKnown (by omega) ?_⟩⟩⟩
    · unfold kq; rw [decide_eq_false z, Bool.false_and, Bool.and_false]
    · unfold kq; rw [decide_eq_false y, Bool.and_false, Bool.and_false]
    · rw [c2, hvu]
      refine ⟨fun x => no (by unfold kq; rw [x, Bool.false_and]), fun x => ?_⟩
      have kt : kq κ a p.toNatClampNeg m = true := by unfold kq; rw [x, decide_eq_true z, decide_eq_true y]; rfl
      refine M_reducedOf hi hvu ⟨by omega, by omega⟩ (fun p' hp' => ?_) (fun r hr => ?_)
      · obtain ⟨n, t1, t2⟩ := w.dm.1 p' hp'
        rw [hvu] at t2
        exact ⟨n, t1, t2⟩
      · rw [c2] at hr
        have rb := rdZ_b hi hm
        refine nearM_ok hr (show (1000 : Int64).toInt = 1000 from rfl) (by omega) (by decide) (fun r2 hr2 => ?_)
        have hr' : r2.toInt = vW κ m := hr2
        have vb := vW_b hi hm
        have qb := vQ_b hi hm
        have sqr : (r2 * r2).toInt = vQ κ m := lMul hr' hr' (by unfold vQ at qb; omega) (by unfold vQ at qb; omega)
        have bA := rp_b hi a p.toNatClampNeg (show m ≤ nR κ by omega)
        have e28 : ∀ x : Int64, (wL u 67 27 x).2 67 28 = u.2 67 28 := fun x => by rw [wL_2, uLN (by decide)]
        have qq : ∀ x y : Int64, qd u (wL (wL u 67 27 x) 67 28 y) := fun x y => (qd.refl.wL (by decide) (by omega)).wL (by decide) (by omega)
        refine kk _ ⟨w.qd (qq _ _), q.trans (qq _ _).1, ?_, ?_⟩
        · rw [wL_2, uLN (by decide), wL_2, uLS, tot_s1 kt]
          exact lAdd g1 hr' (by omega) (by omega)
        · rw [wL_2, uLS, tot_s1 kt]
          exact lAdd g2 sqr (by omega) (by omega)
theorem M_wTop {a : Nat} {p : Int32} {σ : Sto} {post : Int64 → Sto → Prop} (h : OM σ) (ha : a < nH (vm σ)) (hp : okS p) (hq : ∀ τ (r : Int64), WK τ → qm σ τ → (τ.2 67 27).toInt = rS (vm σ) a p.toNatClampNeg → r.toInt = spr (vm σ) a p.toNatClampNeg → post r τ) : wX11_withinTop (nI a) p σ post := by
  have hi := h.1
  have h14 := nH_le hi
  have ca : (nI a).toNatClampNeg = a := nI_clamp (by omega)
  have aT : (nI a).toInt = a := nI_toInt (by omega)
  unfold wX11_withinTop
  refine M_repeats h ha hp (fun τ wk f g1 g2 => ?_)
  obtain ⟨v, e⟩ := ix56 (a := nI a) (by omega) hp
  rw [ca] at e
  have g := (wk.dm.2 a p.toNatClampNeg (by omega) hp.lt).1
  rw [f.vm] at g
  have c8 := cN_le hi a p.toNatClampNeg
  have b := rp_b hi a p.toNatClampNeg (Nat.le_refl _)
  have b1 : -480000 ≤ rS (vm σ) a p.toNatClampNeg ∧ rS (vm σ) a p.toNatClampNeg ≤ 480000 := b.1
  have b2 : 0 ≤ rQ (vm σ) a p.toNatClampNeg ∧ rQ (vm σ) a p.toNatClampNeg ≤ 28800000000 := b.2
  have m1 := mulB (x := (cN (vm σ) a p.toNatClampNeg : Int)) (y := rQ (vm σ) a p.toNatClampNeg) (A := 8) (B := 28800000000) (M := 230400000000) ⟨by omega, by omega⟩ ⟨by omega, by omega⟩ (by decide)
  have m2 := mulB (x := rS (vm σ) a p.toNatClampNeg) (y := rS (vm σ) a p.toNatClampNeg) (A := 480000) (B := 480000) (M := 230400000000) ⟨by omega, by omega⟩ ⟨by omega, by omega⟩ (by decide)
  refine ⟨v, ?_⟩
  rw [e]
  exact hq τ _ wk f g1 (lSub (lMul (iL g) g2 (by omega) (by omega)) (lMul g1 g1 (by omega) (by omega)) (by omega) (by omega))
theorem M_wBot {a : Nat} {p : Int32} {σ : Sto} {post : Int64 → Sto → Prop} (wk : WK σ) (ha : a < nH (vm σ)) (hp : okS p) (hq : ∀ r : Int64, r.toInt = btN (cN (vm σ) a p.toNatClampNeg) → post r σ) : wX11_withinBottom (nI a) p σ post := by
  have hi := wk.1.1
  have h14 := nH_le hi
  have ca : (nI a).toNatClampNeg = a := nI_clamp (by omega)
  have aT : (nI a).toInt = a := nI_toInt (by omega)
  unfold wX11_withinBottom
  obtain ⟨v, e⟩ := ix56 (a := nI a) (by omega) hp
  rw [ca] at e
  have g := (wk.dm.2 a p.toNatClampNeg (by omega) hp.lt).1
  have c8 := cN_le hi a p.toNatClampNeg
  refine ⟨v, ?_⟩
  rw [e]
  have e1 := lSub (iL g) (show (1 : Int64).toInt = 1 from rfl) (by omega) (by omega)
  have m := mulB (x := (cN (vm σ) a p.toNatClampNeg : Int)) (y := (cN (vm σ) a p.toNatClampNeg : Int) - 1) (A := 8) (B := 8) (M := 64) ⟨by omega, by omega⟩ ⟨by omega, by omega⟩ (by decide)
  exact hq _ (lMul (iL g) e1 (by omega) (by omega))
theorem M_isRep {a : Nat} {p : Int32} {σ : Sto} {post : Bool → Sto → Prop} (h : OM σ) (ha : a < nH (vm σ)) (hp : okS p) (hq : ∀ τ, WK τ → qm σ τ → qw σ τ → post (decide (2 ≤ cN (vm σ) a p.toNatClampNeg)) τ) : wX11_isRepeat (nI a) p σ post := by
  have hi := h.1
  have h14 := nH_le hi
  have ca : (nI a).toNatClampNeg = a := nI_clamp (by omega)
  have aT : (nI a).toInt = a := nI_toInt (by omega)
  unfold wX11_isRepeat
  refine works_Q h (fun τ wk f f2 => ?_)
  obtain ⟨v, e⟩ := ix56 (a := nI a) (by omega) hp
  rw [ca] at e
  have g := (wk.dm.2 a p.toNatClampNeg (by omega) hp.lt).1
  rw [f.vm] at g
  refine ⟨v, ?_⟩
  rw [e, iLe, g, n1]
  have := hq τ wk f f2
  refine ⟨fun z => ?_, fun z => ?_⟩
  · rw [decide_eq_false (by omega)] at this; exact this
  · rw [decide_eq_true (by omega)] at this; exact this
theorem M_within (a p w : Int32) : SpM (wX11_within a p w) (S_within a p w) (fun κ => κ) := by
  intro σ post h hp
  have hh := hp σ h rfl fx.refl
  unfold S_within at hp hh
  have no : ¬ (okHouse a (vm σ) ∧ okS p ∧ 0 ≤ w.toInt ∧ w.toInt ≤ 1) → post (-9223372036854775806) σ := fun q => by rwa [if_neg q] at hh
  unfold wX11_within
  refine isHouse_ok h.1.2.2.1.1 (br_d' (fun h1 => ?_) (fun h1 => no (fun q => h1 q.1)))
  refine isPiece_ok (br_d' (fun h2 => ?_) (fun h2 => no (fun q => h2 q.2.1)))
  refine in_ok (br_d (fun h3 => ?_) (fun h3 => no (fun q => h3 q.2.2)))
  rw [n0, n1] at h3
  have ok : okHouse a (vm σ) ∧ okS p ∧ 0 ≤ w.toInt ∧ w.toInt ≤ 1 := ⟨h1, h2, h3⟩
  have lh := ok.1.lh
  rw [okH_I ok.1 h.1]
  generalize a.toNatClampNeg = A at *
  refine M_isRep h lh ok.2.1 (fun τ wk f _ => And.symm (br_d' (fun z => ?_) (fun z => ?_)))
  · have e := f.vm
    refine M_wTop wk.1 (by rw [e]; exact lh) ok.2.1 (fun u r wk2 f2 _ hr => ?_)
    rw [e] at hr
    have e2 := (f.trans f2).vm
    refine M_wBot wk2 (by rw [e2]; exact lh) ok.2.1 (fun r2 hr2 => ?_)
    rw [e2] at hr2
    have c8 := cN_le h.1 A p.toNatClampNeg
    have t := sc_tab z c8
    have sb := spr_bb h.1 A p.toNatClampNeg
    refine M_lowest hr hr2 (by omega) (by omega) (fun v hv => ?_)
    have := hp u wk2.1 e2 (f.trans f2).fx
    rw [if_pos ok, if_neg (by omega)] at this
    have lb := loW_b (w := w) (B := 230400000000) t.1.1 (by omega) ⟨by omega, sb.2⟩
    rw [oL hv (by omega) (by omega)]
    exact this
  · have := hp τ wk.1 f.vm f.fx
    rw [if_pos ok, if_pos (by omega)] at this
    exact this
theorem M_widestOf {p : Int32} {σ : Sto} {post : Int32 → Sto → Prop} (h : OM σ) (hp : okS p) (hq : ∀ τ (r : Int32), OM τ → qm σ τ → (nH (vm σ) = 0 ∨ WK τ) → r.toInt = (wdF (vm σ) p.toNatClampNeg (nH (vm σ))).1 → post r τ) : wX11_widestOf p σ post := by
  have hi := h.1
  have h14 := nH_le hi
  have hv : ∀ u, qm σ u → vm u = vm σ := fun u f => f.vm
  generalize hκ : vm σ = κ at *
  refine pk_loop (fun k i (y : Int32 × Sto) => wX11_widestOf_4 post (fun x2_1 σ_1 => post x2_1 σ_1) k p y.1 (nI i) y.2) (fun i y => y.1.toInt = (wdF κ p.toNatClampNeg i).1 ∧ OM y.2 ∧ qm σ y.2 ∧ (i = 0 ∨ WK y.2)) (nH κ) 0 (-1, σ) (Nat.zero_le _) ⟨rfl, h, qm.refl, Or.inl rfl⟩ ?_ ?_
  · intro k y hy
    obtain ⟨x, u⟩ := y
    obtain ⟨a1, a2, a3, a4⟩ := hy
    dsimp only at a1 a2 a3 a4 ⊢
    have eH : u.1 67 1 = nI (nH κ) := by rw [← nH_I hi, ← hv u a3]; rfl
    unfold wX11_widestOf_4
    rw [eH]
    exact ⟨fun _ => hq u x a2 a3 a4 a1, fun z => absurd (nI_le (Nat.le_refl _) (by omega)) z⟩
  · intro k i y hi2 hy kk
    obtain ⟨x, u⟩ := y
    obtain ⟨a1, a2, a3, a4⟩ := hy
    dsimp only at a1 a2 a3 a4 ⊢
    have hvu := hv u a3
    have eH : u.1 67 1 = nI (nH κ) := by rw [← nH_I hi, ← hvu]; rfl
    have es : wdF κ p.toNatClampNeg (i + 1) = if (wdF κ p.toNatClampNeg i).2 < scW κ i p.toNatClampNeg then ((i : Int), scW κ i p.toNatClampNeg) else wdF κ p.toNatClampNeg i := rfl
    have wi := wdF_i hi (p := p.toNatClampNeg) i
    have keep : ∀ v, WK v → qm σ v → ¬ (wdF κ p.toNatClampNeg i).2 < scW κ i p.toNatClampNeg → wX11_widestOf_60 post (wX11_widestOf_4 post (fun x2_1 σ_1 => post x2_1 σ_1) k) p x (nI i) v := fun v w q z => by
      unfold wX11_widestOf_60 wX11_widestOf_61 wX11_widestOf_73
      rw [nI_1]
      refine ⟨fun _ => kk (x, v) ⟨?_, w.1, q, Or.inr w⟩, fun e => absurd rfl e⟩
      rw [es, if_neg z]; exact a1
    have take : ∀ v, WK v → qm σ v → (wdF κ p.toNatClampNeg i).2 < scW κ i p.toNatClampNeg → wX11_widestOf_56 post (wX11_widestOf_4 post (fun x2_1 σ_1 => post x2_1 σ_1) k) p x (nI i) v := fun v w q z => by
      unfold wX11_widestOf_56 wX11_widestOf_61 wX11_widestOf_73
      rw [nI_1]
      refine ⟨fun e => absurd e (by decide), fun _ => kk (nI i, v) ⟨?_, w.1, q, Or.inr w⟩⟩
      rw [es, if_pos z]; exact nI_toInt (by omega)
    unfold wX11_widestOf_4
    rw [eH]
    refine ⟨fun z => absurd z (nI_ge hi2 (by omega)), fun _ => M_isRep a2 (by rw [hvu]; exact hi2) hp (fun τ wk f _ => ?_)⟩
    rw [hvu]
    have q3 := a3.trans f
    have hvt := hv τ q3
    refine br_d' (fun z => ?_) (fun z => keep τ wk q3 ?_)
    · have ws := scW_b hi z
      refine ⟨fun e => take τ wk q3 ?_, fun e => ?_⟩
      · have e1 : (wdF κ p.toNatClampNeg i).1 = -1 := by rw [← a1, e]; rfl
        rcases wi with g | ⟨k2, g1, g2, g3, g4⟩ <;> omega
      · have e1 : (wdF κ p.toNatClampNeg i).1 ≠ -1 := fun q => e (iExt (a1.trans q) nm1)
        rcases wi with g | ⟨b, g1, g2, g3, g4⟩
        · exact absurd g.1 e1
        · have ex : x = nI b := iExt (a1.trans g2) (nI_toInt (by omega))
          rw [ex] at keep take ⊢
          have wb := scW_b hi g4
          have sa := spr_bb hi i p.toNatClampNeg
          have sb := spr_bb hi b p.toNatClampNeg
          have ca := cN_le hi i p.toNatClampNeg
          have cb := cN_le hi b p.toNatClampNeg
          have ta := sc_tab z ca
          have tb := sc_tab g4 cb
          refine M_wTop wk.1 (by rw [hvt]; exact hi2) hp (fun u1 r1 w1 f1 _ h1 => ?_)
          rw [hvt] at h1
          have q4 := q3.trans f1
          refine M_wBot w1 (by rw [hv u1 q4]; omega) hp (fun r2 h2 => ?_)
          rw [hv u1 q4] at h2
          refine M_wTop w1.1 (by rw [hv u1 q4]; omega) hp (fun u2 r3 w2 f3 _ h3 => ?_)
          rw [hv u1 q4] at h3
          have q5 := q4.trans f3
          refine M_wBot w2 (by rw [hv u2 q5]; exact hi2) hp (fun r4 h4 => ?_)
          rw [hv u2 q5] at h4
          have m1 := mulB (x := spr κ i p.toNatClampNeg) (y := btN (cN κ b p.toNatClampNeg)) (A := 230400000000) (B := 56) (M := 12902400000000) ⟨by omega, by omega⟩ ⟨by omega, by omega⟩ (by decide)
          have m2 := mulB (x := spr κ b p.toNatClampNeg) (y := btN (cN κ i p.toNatClampNeg)) (A := 230400000000) (B := 56) (M := 12902400000000) ⟨by omega, by omega⟩ ⟨by omega, by omega⟩ (by decide)
          rw [lLe, lMul h1 h2 (by omega) (by omega), lMul h3 h4 (by omega) (by omega), sc_cmp z ca g4 cb, ← ws.1, ← wb.1, ← g3]
          exact ⟨fun q => keep u2 w2 q5 (by omega), fun q => take u2 w2 q5 (by omega)⟩
    · have e : scW κ i p.toNatClampNeg = -1 := by unfold scW; rw [if_pos (by omega)]
      rcases wi with g | ⟨b, g1, g2, g3, g4⟩
      · omega
      · have := scW_b hi g4
        omega
theorem M_widest (p : Int32) : SpM (wX11_widest p) (S_widest p) (fun κ => κ) := by
  intro σ post h hp
  unfold S_widest at hp
  unfold wX11_widest
  refine isPiece_ok (br_d' (fun (h1 : okS p) => ?_) (fun (h1 : ¬ okS p) => by have := hp σ h rfl fx.refl; rwa [if_neg h1] at this))
  refine M_widestOf h h1 (fun τ r o f _ hr => ?_)
  have := hp τ o f.vm f.fx
  rw [if_pos h1] at this
  have b := wdF_b h.1 p.toNatClampNeg
  rw [oI hr (by omega) (by omega)]
  exact this
theorem M_scl {n : Nat} {r : Int64} (h2 : 2 ≤ n) (h8 : n ≤ 8) (hr : r.toInt = btN n) : ¬ r = 0 ∧ ((840 : Int64) / r).toInt = kSc n := by
  have t := sc_tab h2 h8
  refine ⟨fun e => ?_, ?_⟩
  · rw [lEq, hr, show (0 : Int64).toInt = 0 from rfl] at e
    omega
  · rw [lDiv (show (840 : Int64).toInt = 840 from rfl) hr (by omega), Int.tdiv_eq_ediv_of_nonneg (by decide)]
    rfl
theorem M_share (p w : Int32) : SpM (wX11_share p w) (S_share p w) (fun κ => κ) := by
  intro σ post h hp
  have hh := hp σ h rfl fx.refl
  unfold S_share at hp hh
  have no : ¬ (okS p ∧ 0 ≤ w.toInt ∧ w.toInt ≤ 1) → post (-9223372036854775806) σ := fun q => by rwa [if_neg q] at hh
  unfold wX11_share
  refine isPiece_ok (br_d' (fun h1 => ?_) (fun h1 => no (fun q => h1 q.1)))
  refine in_ok (br_d (fun h3 => ?_) (fun h3 => no (fun q => h3 q.2)))
  rw [n0, n1] at h3
  have ok : okS p ∧ 0 ≤ w.toInt ∧ w.toInt ≤ 1 := ⟨h1, h3⟩
  have hi := h.1
  have h14 := nH_le hi
  refine M_widestOf h h1 (fun u r o f wz hr => ?_)
  have hv : ∀ u, qm σ u → vm u = vm σ := fun u f => f.vm
  generalize hκ : vm σ = κ at *
  have rE : r = -1 ↔ (wdF κ p.toNatClampNeg (nH κ)).1 = -1 := by rw [iEq, hr, nm1]
  rw [rE]
  refine ⟨fun z => ?_, fun z => ?_⟩
  · rcases wdF_i hi (p := p.toNatClampNeg) (nH κ) with g0 | ⟨b, g1, g2, g3, g4⟩
    · exact absurd g0.1 z
    · have er : r = nI b := iExt (hr.trans g2) (nI_toInt (by omega))
      have ws := scW_b hi g4
      have cb := cN_le hi b p.toNatClampNeg
      rw [er]
      refine pk_loop (fun k2 i (y : Int64 × Sto) => wX11_share_41 post _ k2 p w (nI b) y.1 (nI i) y.2) (fun i y => y.1.toInt = shB κ p.toNatClampNeg i ∧ WK y.2 ∧ qm σ y.2) (nH κ) 0 (0, u) (Nat.zero_le _) ⟨rfl, wz.resolve_left (by omega), f⟩ ?_ ?_
      · intro k2 y hy
        obtain ⟨y, v⟩ := y
        obtain ⟨a1, a2, a3⟩ := hy
        dsimp only at a1 a2 a3 ⊢
        have hvv := hv v a3
        have eH : v.1 67 1 = nI (nH κ) := by rw [← nH_I hi, ← hvv]; rfl
        have sb := shB_b hi p.toNatClampNeg (nH κ) h14
        have y0 : y = 0 ↔ shB κ p.toNatClampNeg (nH κ) = 0 := by rw [lEq, a1]; exact Iff.rfl
        unfold wX11_share_41
        rw [eH, y0]
        refine ⟨fun _ => ⟨fun q => ?_, fun q => ?_⟩, fun z => absurd (nI_le (Nat.le_refl _) (by omega)) z⟩
        · refine M_wTop a2.1 (by rw [hvv]; exact g1) h1 (fun u1 r1 w1 f1 _ e1 => ?_)
          rw [hvv] at e1
          have q4 := a3.trans f1
          refine M_wBot w1 (by rw [hv u1 q4]; exact g1) h1 (fun r2 e2 => ?_)
          rw [hv u1 q4] at e2
          have sc := M_scl g4 cb e2
          have sp := spr_bb hi b p.toNatClampNeg
          have t := sc_tab g4 cb
          have eP : (r1 * ((840 : Int64) / r2)).toInt = scW κ b p.toNatClampNeg := by
            rw [ws.1]
            exact lMul e1 sc.2 (by rw [← ws.1]; omega) (by rw [← ws.1]; omega)
          refine ⟨sc.1, M_lowest eP a1 (by omega) (by omega) (fun v2 hv2 => ?_)⟩
          have := hp u1 w1.1 (by rw [hv u1 q4]) q4.fx
          rw [if_pos ok, if_neg z, if_neg q, g3] at this
          have lb := loW_b (w := w) (B := 84672000000000) (show 0 < shB κ p.toNatClampNeg (nH κ) by omega) (by omega) (a := scW κ b p.toNatClampNeg) ⟨by omega, by omega⟩
          rw [oL hv2 (by omega) (by omega)]
          exact this
        · have := hp v a2.1 (by rw [hvv]) a3.fx
          rw [if_pos ok, if_neg z, if_pos q] at this
          exact this
      · intro k2 i y hi2 hy kk
        obtain ⟨y, v⟩ := y
        obtain ⟨a1, a2, a3⟩ := hy
        dsimp only at a1 a2 a3 ⊢
        have hvv := hv v a3
        have eH : v.1 67 1 = nI (nH κ) := by rw [← nH_I hi, ← hvv]; rfl
        have sb := shB_b hi p.toNatClampNeg i (by omega)
        unfold shB at sb a1 kk
        unfold wX11_share_41 wX11_share_85
        rw [eH, nI_1, Int64.add_zero]
        refine ⟨fun z => absurd z (nI_ge hi2 (by omega)), fun _ => M_isRep a2.1 (by rw [hvv]; exact hi2) h1 (fun τ wk f1 _ => ?_)⟩
        rw [hvv]
        have q4 := a3.trans f1
        refine br_d' (fun q => ?_) (fun q => kk (y, τ) ⟨by rw [tot_s0 (decide_eq_false q)]; exact a1, wk, q4⟩)
        refine M_wTop wk.1 (by rw [hv τ q4]; exact hi2) h1 (fun u1 r1 w1 f2 _ e1 => ?_)
        rw [hv τ q4] at e1
        have q5 := q4.trans f2
        refine M_wBot w1 (by rw [hv u1 q5]; exact hi2) h1 (fun r2 e2 => ?_)
        rw [hv u1 q5] at e2
        have ci := cN_le hi i p.toNatClampNeg
        have sc := M_scl q ci e2
        have wi := scW_b hi q
        have eP : (r1 * ((840 : Int64) / r2)).toInt = scW κ i p.toNatClampNeg := by
          rw [wi.1]
          exact lMul e1 sc.2 (by rw [← wi.1]; omega) (by rw [← wi.1]; omega)
        refine ⟨sc.1, kk (_, u1) ⟨?_, w1, q5⟩⟩
        rw [tot_s1 (decide_eq_true q)]
        exact lAdd a1 eP (by omega) (by omega)
  · have := hp u o (by rw [hv u f]) f.fx
    rw [if_pos ok, if_pos z] at this
    exact this

/-! common -/
theorem works_Q {σ : Sto} {post : Sto → Prop} (ho : OM σ) (h : ∀ τ, WK τ → qm σ τ → qw σ τ → post τ) : wX11_works σ post := M_worksQ ho (fun τ a _ c d e => h τ ⟨a, c⟩ d e)
theorem takes_Q {a p : Int32} {σ : Sto} {post : Bool → Sto → Prop} (ho : OM σ) (ha : 0 ≤ a.toInt ∧ a.toInt < 14) (hp : okS p) (hq : ∀ τ, WK τ → qm σ τ → qw σ τ → post (decide (0 < cN (vm σ) a.toNatClampNeg p.toNatClampNeg)) τ) : wX11_takes a p σ post := by
  refine works_Q ho (fun τ wk f f2 => ?_)
  have := takes_W (post := post) wk ha hp (by rw [f.vm]; exact hq τ wk f f2)
  exact (this.2 (by rw [wk.2]; decide))
def reZ (κ : Kp) (a : Nat) : Int := 1000 * (κ 0 4).toInt * dZ κ a
def loZ (κ : Kp) (p a : Nat) : Int := tL κ a p - reZ κ a
def spB (κ : Kp) (p : Nat) (x : Int) (b : Nat) : Bool := pt κ p b && decide (-(reZ κ b) ≤ tL κ b p - x ∧ tL κ b p - x ≤ reZ κ b)
def spN (κ : Kp) (p : Nat) (x : Int) : Nat := cnt (spB κ p x) (nH κ)
def cmF (κ : Kp) (p : Nat) : Nat → Nat × Int
  | 0 => (0, 0)
  | a + 1 => if pt κ p a = true then (if (cmF κ p a).1 < spN κ p (loZ κ p a) ∨ (spN κ p (loZ κ p a) = (cmF κ p a).1 ∧ loZ κ p a < (cmF κ p a).2) then (spN κ p (loZ κ p a), loZ κ p a) else cmF κ p a) else cmF κ p a
theorem reZ_b {κ : Kp} (h : Inv κ) {a : Nat} (ha : a < nH κ) : -5000000 ≤ reZ κ a ∧ reZ κ a ≤ 5000000 := by
  have d := dZ_b h ha
  have f := h.2.2.2.2.1
  exact mulB (A := 5000) (B := 1000) ⟨by omega, by omega⟩ ⟨by omega, by omega⟩ (by decide)
theorem loZ_b {κ : Kp} (h : Inv κ) {p a : Nat} (ha : a < nH κ) : -65000000 ≤ loZ κ p a ∧ loZ κ p a ≤ 65000000 := by
  have r := reZ_b h ha
  have t := tL_b h a p
  unfold loZ
  omega
theorem cmF_b {κ : Kp} (h : Inv κ) {p : Nat} : ∀ n, n ≤ nH κ → (cmF κ p n).1 ≤ 14 ∧ -65000000 ≤ (cmF κ p n).2 ∧ (cmF κ p n).2 ≤ 65000000
  | 0, _ => ⟨Nat.zero_le _, by show (-65000000 : Int) ≤ 0; decide, by show (0 : Int) ≤ 65000000; decide⟩
  | n + 1, hn => by
    have ih := cmF_b h (p := p) n (by omega)
    have l := loZ_b h (p := p) (show n < nH κ by omega)
    have c := cnt_le (P := spB κ p (loZ κ p n)) (n := nH κ)
    have h14 := nH_le h
    show (if _ then (if _ then _ else _) else _ : Nat × Int).1 ≤ 14 ∧ -65000000 ≤ (if _ then (if _ then _ else _) else _ : Nat × Int).2 ∧ (if _ then (if _ then _ else _) else _ : Nat × Int).2 ≤ 65000000
    by_cases q : pt κ p n = true
    · rw [if_pos q]
      by_cases q2 : (cmF κ p n).1 < spN κ p (loZ κ p n) ∨ (spN κ p (loZ κ p n) = (cmF κ p n).1 ∧ loZ κ p n < (cmF κ p n).2)
      · rw [if_pos q2]
        unfold spN
        exact ⟨by dsimp only; omega, l.1, l.2⟩
      · rw [if_neg q2]; exact ih
    · rw [if_neg q]; exact ih
theorem X_reach {a : Int32} {σ : Sto} {post : Int32 → Sto → Prop} (h : OX σ) (ha : okHouse a (vx σ)) (hq : ∀ r : Int32, r.toInt = reZ (vx σ) a.toNatClampNeg → post r σ) : wX0_reachOf a σ post := by
  have ra := ha.r h.1
  have da := dZ_b h.1 ha.lh
  have fF := h.1.2.2.2.2.1
  have rb := reZ_b h.1 ha.lh
  have ea : (σ.1 14 a.toNatClampNeg).toInt = dZ (vx σ) a.toNatClampNeg := by unfold dZ; rw [vx_r (c := 2) (by omega) (h14n ra)]; rfl
  have eF : (σ.1 3 3).toInt = (vx σ 0 4).toInt := rfl
  have e1 : ((1000 : Int32) * σ.1 3 3).toInt = 1000 * (vx σ 0 4).toInt := iMul rfl eF (by omega) (by omega)
  unfold reZ at rb hq
  exact ⟨vp_iff.mpr ra, hq _ (iMul e1 ea (by omega) (by omega))⟩
theorem absI_ok {x : Int32} {a : Int} {σ : Sto} {post : Int32 → Sto → Prop} (hx : x.toInt = a) (ha : -2147483648 < a) (h : ∀ r : Int32, r.toInt = (if 0 ≤ a then a else -a) → post r σ) : wJ9_abs_0f7a4 x σ post := by
  unfold wJ9_abs_0f7a4
  rw [iLe, hx, n0]
  exact ⟨fun z => h _ (by rw [hx, if_pos z]), fun z => h _ (by rw [if_neg z]; exact iNeg hx ha)⟩
theorem okH_nI {κ : Kp} (hi : Inv κ) {i : Nat} (h : i < nH κ) : okHouse (nI i) κ := by
  have h14 := nH_le hi
  have iT : (nI i).toInt = i := nI_toInt (by omega)
  have := hi.2.2.1
  unfold okHouse
  unfold nH at h
  omega
theorem X_spans {x p : Int32} {X : Int} {σ : Sto} {post : Int32 → Sto → Prop} (h : OX σ) (hp : okS p) (hx : x.toInt = X) (hb : -65000000 ≤ X ∧ X ≤ 65000000) (hq : post (nI (spN (vx σ) p.toNatClampNeg X)) σ) : wX0_spansAt x p σ post := by
  have hi := h.1
  have h14 := nH_le hi
  have eH : σ.1 1 2 = nI (nH (vx σ)) := by rw [← nH_I hi]; rfl
  refine pk_loop (fun k i (y : Int32) => wX0_spansAt_5 post (fun x3_1 σ_1 => post x3_1 σ_1) k x p y (nI i) σ) (fun i y => y = nI (cnt (spB (vx σ) p.toNatClampNeg X) i)) (nH (vx σ)) 0 0 (Nat.zero_le _) rfl ?_ ?_
  · intro k y hy
    unfold wX0_spansAt_5
    rw [eH, hy]
    exact ⟨fun _ => hq, fun z => absurd (nI_le (Nat.le_refl _) (by omega)) z⟩
  · intro k i y hi2 hy kk
    have c2 : (nI i).toNatClampNeg = i := nI_clamp (by omega)
    have iT : (nI i).toInt = i := nI_toInt (by omega)
    have tb := tL_b hi i p.toNatClampNeg
    have rb := reZ_b hi hi2
    have no : spB (vx σ) p.toNatClampNeg X i = false → wX0_spansAt_5 post (fun x3_1 σ_1 => post x3_1 σ_1) k x p y (nI (i + 1)) σ := fun z => by
      refine kk _ ?_
      show _ = nI (cnt _ i + _)
      rw [z, if_neg (by decide)]; exact hy
    unfold wX0_spansAt_5
    rw [eH, c2, nI_1]
    refine ⟨fun z => absurd z (nI_ge hi2 (by omega)), fun _ => ⟨hp.in, vp_in_nI (by omega) (by omega), absI_ok (iSub (X_mean h (by omega) hp.lt) hx (by omega) (by omega)) (by omega) (fun r hr => X_takes h (by omega) hp ?_)⟩⟩
    rw [c2]
    refine br_d' (fun z => X_reach h (okH_nI hi hi2) (fun r2 hr2 => ?_)) (fun z => no (by unfold spB pt; rw [decide_eq_false z]; rfl))
    rw [c2] at hr2
    rw [iLt, hr, hr2]
    refine ⟨fun w => no ?_, fun w => ?_⟩
    · unfold spB
      rw [decide_eq_false (fun q => by split at w <;> omega), Bool.and_false]
    · refine kk _ ?_
      show _ = nI (cnt _ i + _)
      have : spB (vx σ) p.toNatClampNeg X i = true := by
        unfold spB pt
        rw [decide_eq_true z, decide_eq_true (by split at w <;> omega)]
        rfl
      rw [this, if_pos rfl, hy, nI_1]
theorem X_meet {p : Int32} {σ : Sto} {post : Sto → Prop} (h : OX σ) (hp : okS p) (hq : ∀ τ, qx σ τ → τ.1 3 4 = nI (cmF (vx σ) p.toNatClampNeg (nH (vx σ))).1 → (τ.1 3 5).toInt = (cmF (vx σ) p.toNatClampNeg (nH (vx σ))).2 → post τ) : wX0_meet p σ post := by
  have hi := h.1
  have h14 := nH_le hi
  have hv : ∀ u, qx σ u → vx u = vx σ := fun u f => f.vx
  generalize hκ : vx σ = κ at *
  refine pk_loop (fun k i u => wX0_meet_12 post (fun σ_1 => post σ_1) k p (nI i) u) (fun i u => qx σ u ∧ u.1 3 4 = nI (cmF κ p.toNatClampNeg i).1 ∧ (u.1 3 5).toInt = (cmF κ p.toNatClampNeg i).2) (nH κ) 0 _ (Nat.zero_le _) ⟨(qx.refl.wI (by decide) (by decide) (by decide)).wI (by decide) (by decide) (by decide), ?_, ?_⟩ ?_ ?_
  · rw [wI_1, uN (by decide), wI_1, uS]; rfl
  · rw [wI_1, uS]; rfl
  · intro k u hu
    have eH : u.1 1 2 = nI (nH κ) := by rw [← nH_I hi, ← hv u hu.1]; rfl
    unfold wX0_meet_12
    rw [eH]
    exact ⟨fun _ => hq u hu.1 hu.2.1 hu.2.2, fun z => absurd (nI_le (Nat.le_refl _) (by omega)) z⟩
  · intro k i u hi2 hu kk
    obtain ⟨f, g1, g2⟩ := hu
    have hvu := hv u f
    have ho := h.qx f
    have eH : u.1 1 2 = nI (nH κ) := by rw [← nH_I hi, ← hvu]; rfl
    have c2 : (nI i).toNatClampNeg = i := nI_clamp (by omega)
    have iT : (nI i).toInt = i := nI_toInt (by omega)
    have cb := cmF_b hi (p := p.toNatClampNeg) i (by omega)
    have lb := loZ_b hi (p := p.toNatClampNeg) hi2
    have tb := tL_b hi i p.toNatClampNeg
    have rb := reZ_b hi hi2
    have sl := cnt_le (P := spB κ p.toNatClampNeg (loZ κ p.toNatClampNeg i)) (n := nH κ)
    have hok : okHouse (nI i) (vx u) := by rw [hvu]; exact okH_nI hi hi2
    unfold wX0_meet_12
    rw [eH, c2, nI_1]
    refine ⟨fun z => absurd z (nI_ge hi2 (by omega)), fun _ => X_takes ho (by omega) hp ?_⟩
    rw [c2, hvu]
    refine br_d' (fun z => ⟨hp.in, vp_in_nI (by omega) (by omega), X_reach ho hok (fun r hr => ?_)⟩) (fun z => ?_)
    · rw [c2, hvu] at hr
      have pz : pt κ p.toNatClampNeg i = true := decide_eq_true z
      have eM := X_mean ho (a := i) (p := p.toNatClampNeg) (by omega) hp.lt
      rw [hvu] at eM
      have eL : (u.1 (45 + p.toNatClampNeg) i - r).toInt = loZ κ p.toNatClampNeg i := iSub eM hr (by omega) (by omega)
      refine X_spans ho hp eL lb ?_
      rw [hvu, g1]
      have ys : (cmF κ p.toNatClampNeg i).1 < spN κ p.toNatClampNeg (loZ κ p.toNatClampNeg i) ∨ (spN κ p.toNatClampNeg (loZ κ p.toNatClampNeg i) = (cmF κ p.toNatClampNeg i).1 ∧ loZ κ p.toNatClampNeg i < (cmF κ p.toNatClampNeg i).2) → wX0_meet_87 post (wX0_meet_12 post (fun σ_1 => post σ_1) k) p (nI i) (u.1 (45 + p.toNatClampNeg) i - r) (nI (spN κ p.toNatClampNeg (loZ κ p.toNatClampNeg i))) u := fun w => by
        have e : cmF κ p.toNatClampNeg (i + 1) = (spN κ p.toNatClampNeg (loZ κ p.toNatClampNeg i), loZ κ p.toNatClampNeg i) := by
          show (if _ then (if _ then _ else _) else _) = _
          rw [if_pos pz, if_pos w]
        unfold wX0_meet_87
        rw [nI_1]
        refine kk _ ⟨(f.wI (by decide) (by decide) (by decide)).wI (by decide) (by decide) (by decide), ?_, ?_⟩
        · rw [wI_1, uN (by decide), wI_1, uS, e]
        · rw [wI_1, uS, e]; exact eL
      have no : ¬ ((cmF κ p.toNatClampNeg i).1 < spN κ p.toNatClampNeg (loZ κ p.toNatClampNeg i) ∨ (spN κ p.toNatClampNeg (loZ κ p.toNatClampNeg i) = (cmF κ p.toNatClampNeg i).1 ∧ loZ κ p.toNatClampNeg i < (cmF κ p.toNatClampNeg i).2)) → wX0_meet_12 post (fun σ_1 => post σ_1) k p (nI (i + 1)) u := fun w => by
        have e : cmF κ p.toNatClampNeg (i + 1) = cmF κ p.toNatClampNeg i := by
          show (if _ then (if _ then _ else _) else _) = _
          rw [if_pos pz, if_neg w]
        exact kk _ ⟨f, by rw [e]; exact g1, by rw [e]; exact g2⟩
      have sl2 : spN κ p.toNatClampNeg (loZ κ p.toNatClampNeg i) ≤ nH κ := sl
      rw [nI_ltI (by omega) (by omega), nI_eq (by omega) (by omega), iLe, g2, eL]
      refine ⟨fun w => ys (Or.inl w), fun w => ⟨fun v => no (by omega), fun v => ⟨fun y => no (by omega), fun y => ys (by omega)⟩⟩⟩
    · have e : cmF κ p.toNatClampNeg (i + 1) = cmF κ p.toNatClampNeg i := by
        show (if _ then _ else _) = _
        rw [if_neg (show ¬ pt κ p.toNatClampNeg i = true from fun w => z (of_decide_eq_true w))]
      exact kk _ ⟨f, by rw [e]; exact g1, by rw [e]; exact g2⟩
noncomputable def S_common (p x : Int32) (κ : Kp) : Int32 := @ite _ (okS p ∧ 0 ≤ x.toInt ∧ x.toInt ≤ 1) (Classical.propDecidable _) (if x = 0 then nI (cmF κ p.toNatClampNeg (nH κ)).1 else if (cmF κ p.toNatClampNeg (nH κ)).1 = 0 then -2147483647 else Int32.ofInt (cmF κ p.toNatClampNeg (nH κ)).2) (-2147483648)
theorem nI_z {n : Nat} (h : n < 2 ^ 31) : nI n = 0 ↔ n = 0 := by rw [show (0 : Int32) = nI 0 from rfl, nI_eq h (by omega)]
theorem X_commonQ {p x : Int32} {σ : Sto} {post : Int32 → Sto → Prop} (h : OX σ) (hq : ∀ τ, qx σ τ → post (S_common p x (vx σ)) τ) : wX10_common p x σ post := by
  have hh := hq σ qx.refl
  unfold S_common at hq hh
  have no : ¬ (okS p ∧ 0 ≤ x.toInt ∧ x.toInt ≤ 1) → post (-2147483648) σ := fun q => by rwa [if_neg q] at hh
  unfold wX10_common
  refine noPiece_ok (br_n (fun h1 => ?_) (fun h1 => no (fun q => h1 q.1)))
  simp only [iLt, iLe, n0, n1]
  refine ⟨fun q => no (by omega), fun q1 => ⟨fun q2 => ?_, fun q => no (by omega)⟩⟩
  have ok : okS p ∧ 0 ≤ x.toInt ∧ x.toInt ≤ 1 := ⟨h1, by omega, q2⟩
  refine X_meet h h1 (fun τ f g1 g2 => ?_)
  have := hq τ f
  rw [if_pos ok] at this
  have cb := cmF_b h.1 (p := p.toNatClampNeg) (nH (vx σ)) (Nat.le_refl _)
  rw [g1, nI_z (by omega), oI g2 (by omega) (by omega)]
  refine ⟨fun w => ⟨fun v => ?_, fun v => ?_⟩, fun w => ?_⟩
  · rw [if_neg w, if_neg v] at this; exact this
  · rw [if_neg w, if_pos v] at this; exact this
  · rw [if_pos w] at this; exact this
theorem X_common (p x : Int32) : SpX (wX10_common p x) (S_common p x) (fun κ => κ) := by
  intro σ post h hp
  exact X_commonQ h (fun τ f => hp τ (h.qx f) f.vx f.fm)
theorem amount_ok {x : Int64} {a : Int} {σ : Sto} {post : Int64 → Sto → Prop} (hx : x.toInt = a) (ha : -9223372036854775808 < a) (h : ∀ r : Int64, r.toInt = (if 0 ≤ a then a else -a) → post r σ) : wX11_amount x σ post := by
  unfold wX11_amount
  rw [lLe, hx, show (0 : Int64).toInt = 0 from rfl]
  exact ⟨fun z => h _ (by rw [hx, if_pos z]), fun z => h _ (by rw [if_neg z]; exact lNeg hx ha)⟩
theorem M_reachV {κ : Kp} {σ : Sto} (hi : Inv κ) (hv : vm σ = κ) {i : Nat} (h : i < nH κ) : ((1000 : Int64) * (σ.1 67 12).toInt64 * (σ.1 69 i).toInt64).toInt = reZ κ i := by
  have h14 := nH_le hi
  have fF := hi.2.2.2.2.1
  have rb := reZ_b hi h
  have ea : (σ.1 69 i).toInt = dZ κ i := by
    unfold dZ
    rw [← hv, vm_r (c := 2) (by omega) (by omega) (show i < 14 by omega), show (axm 2).2.2 + i = i from Nat.zero_add _]
    rfl
  have eF : (σ.1 67 12).toInt = (κ 0 4).toInt := by rw [← hv]; rfl
  have e1 : ((1000 : Int64) * (σ.1 67 12).toInt64).toInt = 1000 * (κ 0 4).toInt := lMul rfl (iL eF) (by omega) (by omega)
  unfold reZ at rb ⊢
  exact lMul e1 (iL ea) (by omega) (by omega)
theorem M_commonOf {p : Int32} {σ : Sto} {post : Int32 → Sto → Prop} (h : OM σ) (hp : okS p) (hq : ∀ τ, OM τ → qm σ τ → (τ.2 67 21).toInt = (cmF (vm σ) p.toNatClampNeg (nH (vm σ))).2 → post (nI (cmF (vm σ) p.toNatClampNeg (nH (vm σ))).1) τ) : wX11_commonOf p σ post := by
  have hi := h.1
  have h14 := nH_le hi
  have hv : ∀ u, qm σ u → vm u = vm σ := fun u f => f.vm
  generalize hκ : vm σ = κ at *
  have q0 : qd σ (wL σ 67 21 0) := qd.refl.wL (by decide) (by omega)
  refine pk_loop (fun k i (x : Int32 × Sto) => wX11_commonOf_9 post (fun x2_2 σ_2 => post x2_2 σ_2) k p x.1 (nI i) x.2) (fun i x => x.1 = nI (cmF κ p.toNatClampNeg i).1 ∧ OM x.2 ∧ qm σ x.2 ∧ (x.2.2 67 21).toInt = (cmF κ p.toNatClampNeg i).2) (nH κ) 0 (0, wL σ 67 21 0) (Nat.zero_le _) ⟨rfl, h.qd q0, q0.1, ?_⟩ ?_ ?_
  · dsimp only
    rw [wL_2, uLS]; rfl
  · intro k x hx
    obtain ⟨x, u⟩ := x
    obtain ⟨a1, a2, a3, a4⟩ := hx
    dsimp only at a1 a2 a3 a4 ⊢
    have eH : u.1 67 1 = nI (nH κ) := by rw [← nH_I hi, ← hv u a3]; rfl
    unfold wX11_commonOf_9
    rw [eH, a1]
    exact ⟨fun _ => hq u a2 a3 a4, fun z => absurd (nI_le (Nat.le_refl _) (by omega)) z⟩
  · intro k i x hi2 hx kk
    obtain ⟨x, u⟩ := x
    obtain ⟨a1, a2, a3, a4⟩ := hx
    dsimp only at a1 a2 a3 a4 ⊢
    have eH : u.1 67 1 = nI (nH κ) := by rw [← nH_I hi, ← hv u a3]; rfl
    have c2 : (nI i).toNatClampNeg = i := nI_clamp (by omega)
    have iT : (nI i).toInt = i := nI_toInt (by omega)
    have cb := cmF_b hi (p := p.toNatClampNeg) i (by omega)
    have lb := loZ_b hi (p := p.toNatClampNeg) hi2
    have tb := tL_b hi i p.toNatClampNeg
    have rb := reZ_b hi hi2
    unfold wX11_commonOf_9
    rw [eH, c2, nI_1]
    refine ⟨fun z => absurd z (nI_ge hi2 (by omega)), fun _ => takes_Q a2 (by omega) hp (fun τ wk f f2 => ?_)⟩
    rw [c2, hv u a3]
    have q3 : qm σ τ := a3.trans f
    have hvt := hv τ q3
    have a5 : (τ.2 67 21).toInt = (cmF κ p.toNatClampNeg i).2 := by rw [f2.2.2 67 (by omega)]; exact a4
    refine br_d' (fun z => ?_) (fun z => ?_)
    · have pz : pt κ p.toNatClampNeg i = true := decide_eq_true z
      refine toldOf_W wk (by omega) hp (by rw [c2, hvt]; exact z) (fun r hr => ⟨vp_in_nI (by omega) (by omega), ?_⟩)
      rw [c2, hvt] at hr
      have eL : (r - (1000 : Int64) * (τ.1 67 12).toInt64 * (τ.1 69 i).toInt64).toInt = loZ κ p.toNatClampNeg i := lSub hr (M_reachV hi hvt hi2) (by omega) (by omega)
      generalize (r - (1000 : Int64) * (τ.1 67 12).toInt64 * (τ.1 69 i).toInt64) = lo at eL
      have eH2 : τ.1 67 1 = nI (nH κ) := by rw [← nH_I hi, ← hvt]; rfl
      refine pk_loop (fun k2 j (y : Int32) => wX11_commonOf_58 post _ k2 p x (nI i) lo y (nI j) τ) (fun j y => y = nI (cnt (spB κ p.toNatClampNeg (loZ κ p.toNatClampNeg i)) j)) (nH κ) 0 0 (Nat.zero_le _) rfl ?_ ?_
      · intro k2 y hy
        unfold wX11_commonOf_58
        rw [eH2, hy, a1]
        refine ⟨fun _ => ?_, fun z => absurd (nI_le (Nat.le_refl _) (by omega)) z⟩
        have sl2 : spN κ p.toNatClampNeg (loZ κ p.toNatClampNeg i) ≤ nH κ := cnt_le
        have en : cnt (spB κ p.toNatClampNeg (loZ κ p.toNatClampNeg i)) (nH κ) = spN κ p.toNatClampNeg (loZ κ p.toNatClampNeg i) := rfl
        rw [en]
        have ys : (cmF κ p.toNatClampNeg i).1 < spN κ p.toNatClampNeg (loZ κ p.toNatClampNeg i) ∨ (spN κ p.toNatClampNeg (loZ κ p.toNatClampNeg i) = (cmF κ p.toNatClampNeg i).1 ∧ loZ κ p.toNatClampNeg i < (cmF κ p.toNatClampNeg i).2) → wX11_commonOf_150 post (wX11_commonOf_9 post (fun x2_2 σ_2 => post x2_2 σ_2) k) p (nI i) lo (nI (spN κ p.toNatClampNeg (loZ κ p.toNatClampNeg i))) τ := fun w => by
          have e : cmF κ p.toNatClampNeg (i + 1) = (spN κ p.toNatClampNeg (loZ κ p.toNatClampNeg i), loZ κ p.toNatClampNeg i) := by
            show (if _ then (if _ then _ else _) else _) = _
            rw [if_pos pz, if_pos w]
          have qq : qd τ (wL τ 67 21 lo) := qd.refl.wL (by decide) (by omega)
          unfold wX11_commonOf_150
          rw [nI_1]
          refine kk (_, wL τ 67 21 lo) ⟨by rw [e]; rfl, wk.1.qd qq, q3.trans qq.1, ?_⟩
          dsimp only
          rw [wL_2, uLS, e]; exact eL
        have no : ¬ ((cmF κ p.toNatClampNeg i).1 < spN κ p.toNatClampNeg (loZ κ p.toNatClampNeg i) ∨ (spN κ p.toNatClampNeg (loZ κ p.toNatClampNeg i) = (cmF κ p.toNatClampNeg i).1 ∧ loZ κ p.toNatClampNeg i < (cmF κ p.toNatClampNeg i).2)) → wX11_commonOf_9 post (fun x2_2 σ_2 => post x2_2 σ_2) k p (nI (cmF κ p.toNatClampNeg i).1) (nI (i + 1)) τ := fun w => by
          have e : cmF κ p.toNatClampNeg (i + 1) = cmF κ p.toNatClampNeg i := by
            show (if _ then (if _ then _ else _) else _) = _
            rw [if_pos pz, if_neg w]
          exact kk (_, τ) ⟨by rw [e]; rfl, wk.1, q3, by rw [e]; exact a5⟩
        rw [nI_ltI (by omega) (by omega), nI_eq (by omega) (by omega), lLe, a5, eL, nI_1]
        refine ⟨fun w => ys (Or.inl w), fun w => ⟨fun v => no (by omega), fun v => ⟨fun y => no (by omega), fun y => ys (by omega)⟩⟩⟩
      · intro k2 j y hj hy kk2
        have d2 : (nI j).toNatClampNeg = j := nI_clamp (by omega)
        have jT : (nI j).toInt = j := nI_toInt (by omega)
        have tj := tL_b hi j p.toNatClampNeg
        have rj := reZ_b hi hj
        have no : spB κ p.toNatClampNeg (loZ κ p.toNatClampNeg i) j = false → wX11_commonOf_118 post (wX11_commonOf_58 post _ k2) p x (nI i) lo (nI j) y τ := fun z => by
          unfold wX11_commonOf_118 wX11_commonOf_119
          rw [nI_1, Int32.add_zero]
          refine kk2 _ ?_
          show _ = nI (cnt _ j + _)
          rw [z, if_neg (by decide)]; exact hy
        unfold wX11_commonOf_58
        rw [eH2]
        refine ⟨fun z => absurd z (nI_ge hj (by omega)), fun _ => takes_W wk (by omega) hp ?_⟩
        rw [d2, hvt]
        refine br_d' (fun z => ?_) (fun z => no (by unfold spB pt; rw [decide_eq_false z]; rfl))
        refine toldOf_W wk (by omega) hp (by rw [d2, hvt]; exact z) (fun r2 hr2 => ?_)
        rw [d2, hvt] at hr2
        refine amount_ok (lSub hr2 eL (by omega) (by omega)) (by omega) (fun r3 hr3 => ⟨vp_in_nI (by omega) (by omega), ?_⟩)
        rw [lLt, M_reachV hi hvt hj, hr3]
        refine ⟨fun w => no ?_, fun w => ?_⟩
        · unfold spB
          rw [decide_eq_false (fun q => by split at w <;> omega), Bool.and_false]
        · unfold wX11_commonOf_119
          rw [nI_1]
          refine kk2 _ ?_
          show _ = nI (cnt _ j + _)
          have : spB κ p.toNatClampNeg (loZ κ p.toNatClampNeg i) j = true := by
            unfold spB pt
            rw [decide_eq_true z, decide_eq_true (by split at w <;> omega)]
            rfl
          rw [this, if_pos rfl, hy, nI_1]
    · have e : cmF κ p.toNatClampNeg (i + 1) = cmF κ p.toNatClampNeg i := by
        show (if _ then _ else _) = _
        rw [if_neg (show ¬ pt κ p.toNatClampNeg i = true from fun w => z (of_decide_eq_true w))]
      exact kk (x, τ) ⟨by rw [e]; exact a1, wk.1, q3, by rw [e]; exact a5⟩
theorem M_common (p x : Int32) : SpM (wX11_common p x) (S_common p x) (fun κ => κ) := by
  intro σ post h hp
  have no : ¬ (okS p ∧ 0 ≤ x.toInt ∧ x.toInt ≤ 1) → post (-2147483648) σ := fun q => by
    have := hp σ h rfl fx.refl
    unfold S_common at this
    rwa [if_neg q] at this
  unfold wX11_common
  refine isPiece_ok (br_d' (fun h1 => ?_) (fun h1 => no (fun q => h1 q.1)))
  refine in_ok (br_d (fun h2 => ?_) (fun h2 => no (fun q => h2 q.2)))
  rw [n0, n1] at h2
  have ok : okS p ∧ 0 ≤ x.toInt ∧ x.toInt ≤ 1 := ⟨h1, h2⟩
  refine M_commonOf h h1 (fun τ a f g => ?_)
  have := hp τ a f.vm f.fx
  unfold S_common at this
  rw [if_pos ok] at this
  have cb := cmF_b h.1 (p := p.toNatClampNeg) (nH (vm σ)) (Nat.le_refl _)
  rw [nI_z (by omega), oI (lI g (by omega) (by omega)) (by omega) (by omega)]
  refine ⟨fun w => ⟨fun v => ?_, fun v => ?_⟩, fun w => ?_⟩
  · rw [if_neg w, if_neg v] at this; exact this
  · rw [if_neg w, if_pos v] at this; exact this
  · rw [if_pos w] at this; exact this

/-! who takes part, what is told -/
def WK (σ : Sto) : Prop := OM σ ∧ σ.1 67 13 = 1
theorem WK.dm {σ : Sto} (h : WK σ) : DM (vm σ) σ := (h.1.2.1.resolve_left (by rw [h.2]; decide)).2
theorem WK.qd {σ τ : Sto} (h : WK σ) (f : qd σ τ) : WK τ := ⟨h.1.qd f, by rw [f.2.2]; exact h.2⟩
theorem works_W {σ : Sto} {post : Sto → Prop} (h : WK σ) (hp : post σ) : wX11_works σ post := ⟨fun q => absurd q (by rw [h.2]; decide), fun _ => hp⟩
theorem works_K {σ : Sto} {post : Sto → Prop} (ho : OM σ) (h : ∀ τ, WK τ → qm σ τ → post τ) : wX11_works σ post := M_works ho (fun τ a _ c d => h τ ⟨a, c⟩ d)
theorem ix56 {a p : Int32} (ha : 0 ≤ a.toInt ∧ a.toInt < 14) (hp : okS p) : vp_in ((4 : Int32) * a + p) 56 ∧ ((4 : Int32) * a + p).toNatClampNeg = 4 * a.toNatClampNeg + p.toNatClampNeg := by
  unfold okS at hp
  have e1 : ((4 : Int32) * a).toInt = 4 * a.toInt := iMul n4 rfl (by omega) (by omega)
  have e2 : ((4 : Int32) * a + p).toInt = 4 * a.toInt + p.toInt := iAdd e1 rfl (by omega) (by omega)
  refine ⟨vp_iff.mpr (by rw [e2]; omega), ?_⟩
  rw [tnc, tnc, tnc, e2]
  omega
theorem h14n {a : Int32} (ha : 0 ≤ a.toInt ∧ a.toInt < 14) : a.toNatClampNeg < 14 := by rw [tnc]; omega
theorem takes_W {a p : Int32} {σ : Sto} {post : Bool → Sto → Prop} (h : WK σ) (ha : 0 ≤ a.toInt ∧ a.toInt < 14) (hp : okS p) (hq : post (decide (0 < cN (vm σ) a.toNatClampNeg p.toNatClampNeg)) σ) : wX11_takes a p σ post := by
  obtain ⟨v, e⟩ := ix56 ha hp
  have g := (h.dm.2 a.toNatClampNeg p.toNatClampNeg (h14n ha) hp.lt).1
  refine works_W h ⟨v, ?_⟩
  rw [e, iLe, n0, g]
  refine ⟨fun z => ?_, fun z => ?_⟩
  · rw [decide_eq_false (by omega)] at hq; exact hq
  · rw [decide_eq_true (by omega)] at hq; exact hq
theorem takes_K {a p : Int32} {σ : Sto} {post : Bool → Sto → Prop} (ho : OM σ) (ha : 0 ≤ a.toInt ∧ a.toInt < 14) (hp : okS p) (hq : ∀ τ, WK τ → qm σ τ → post (decide (0 < cN (vm σ) a.toNatClampNeg p.toNatClampNeg)) τ) : wX11_takes a p σ post := by
  refine works_K ho (fun τ wk f => ?_)
  have := takes_W (post := post) wk ha hp (by rw [f.vm]; exact hq τ wk f)
  exact (this.2 (by rw [wk.2]; decide))
theorem toldOf_W {a p : Int32} {σ : Sto} {post : Int64 → Sto → Prop} (h : WK σ) (ha : 0 ≤ a.toInt ∧ a.toInt < 14) (hp : okS p) (hc : 0 < cN (vm σ) a.toNatClampNeg p.toNatClampNeg) (hq : ∀ r : Int64, r.toInt = tL (vm σ) a.toNatClampNeg p.toNatClampNeg → post r σ) : wX11_toldOf a p σ post := by
  obtain ⟨v, e⟩ := ix56 ha hp
  have g := h.dm.2 a.toNatClampNeg p.toNatClampNeg (h14n ha) hp.lt
  have sb := sM_b h.1.1 a.toNatClampNeg p.toNatClampNeg (Nat.le_refl _)
  unfold sM at g
  unfold cN at g hc
  unfold wX11_toldOf
  rw [e]
  refine ⟨v, v, nearM_ok g.2 (iL g.1) (by omega) (by omega) (fun r hr => hq r ?_)⟩
  rw [hr]
  unfold tL cN
  rw [if_neg (by omega)]
  rfl
theorem X_takes {a p : Int32} {σ : Sto} {post : Bool → Sto → Prop} (h : OX σ) (ha : 0 ≤ a.toInt ∧ a.toInt < 14) (hp : okS p) (hq : post (decide (0 < cN (vx σ) a.toNatClampNeg p.toNatClampNeg)) σ) : wX7_takesPart a p σ post := by
  have g := ((h.2 p.toNatClampNeg hp.lt).2.1 a.toNatClampNeg (h14n ha)).1
  refine ⟨hp.in, vp_iff.mpr ha, ?_⟩
  rw [iLe, n0, g]
  refine ⟨fun z => ?_, fun z => ?_⟩
  · rw [decide_eq_false (by omega)] at hq; exact hq
  · rw [decide_eq_true (by omega)] at hq; exact hq
theorem X_mean {a p : Nat} {σ : Sto} (h : OX σ) (ha : a < 14) (hp : p < 4) : (σ.1 (45 + p) a).toInt = tL (vx σ) a p := ((h.2 p hp).2.1 a ha).2
theorem okHouse.r {a : Int32} {κ : Kp} (h : okHouse a κ) (hi : Inv κ) : 0 ≤ a.toInt ∧ a.toInt < 14 := by
  have := hi.2.2.1
  unfold okHouse at h
  omega
theorem oI {x : Int32} {z : Int} (h : x.toInt = z) (h1 : -2147483648 ≤ z) (h2 : z < 2147483648) : x = Int32.ofInt z := iExt h (Int32.toInt_ofInt_of_le (by omega) (by omega))
/-! drift, many, told -/
noncomputable def S_drift (p d : Int32) (κ : Kp) : Int32 := @ite _ (okS p ∧ 0 ≤ d.toInt ∧ d.toInt ≤ 399) (Classical.propDecidable _) (Int32.ofInt (driftZ κ p.toNatClampNeg d.toNatClampNeg)) (-2147483648)
theorem n399 : (399 : Int32).toInt = 399 := rfl
theorem X_drift (p d : Int32) : SpX (wX10_drift p d) (S_drift p d) (fun κ => κ) := by
  intro σ post h hp
  have hh := hp σ h rfl fm.refl
  unfold S_drift at hh
  have no : ¬ (okS p ∧ 0 ≤ d.toInt ∧ d.toInt ≤ 399) → post (-2147483648) σ := fun q => by rwa [if_neg q] at hh
  unfold wX10_drift
  refine noPiece_ok (br_n (fun h1 => ?_) (fun h1 => no (fun q => h1 q.1)))
  simp only [iLt, iLe, n0, n399]
  refine ⟨fun q => no (by omega), fun q1 => ⟨fun q2 => ?_, fun q => no (by omega)⟩⟩
  have ok : okS p ∧ 0 ≤ d.toInt ∧ d.toInt ≤ 399 := ⟨h1, by omega, q2⟩
  obtain ⟨⟨n, t1, t2⟩, -, -⟩ := h.2 p.toNatClampNeg ok.1.lt
  refine X_driftOn h.1 ok.1 (by omega) ⟨t1, t2⟩ (fun r hr hb => ?_)
  rw [if_pos ok] at hh
  rw [oI hr (by omega) (by omega)]
  exact hh
theorem M_drift (p d : Int32) : SpM (wX11_drift p d) (S_drift p d) (fun κ => κ) := by
  intro σ post h hp
  have no : ¬ (okS p ∧ 0 ≤ d.toInt ∧ d.toInt ≤ 399) → post (-2147483648) σ := fun q => by
    have := hp σ h rfl fx.refl
    unfold S_drift at this
    rwa [if_neg q] at this
  unfold wX11_drift
  refine isPiece_ok (br_d' (fun h1 => ?_) (fun h1 => no (fun q => h1 q.1)))
  refine in_ok (br_d (fun h2 => ?_) (fun h2 => no (fun q => h2 q.2)))
  rw [n0, n399] at h2
  have ok : okS p ∧ 0 ≤ d.toInt ∧ d.toInt ≤ 399 := ⟨h1, h2⟩
  refine works_K h (fun τ wk f => ?_)
  obtain ⟨n, t1, t2⟩ := wk.dm.1 p.toNatClampNeg ok.1.lt
  refine M_driftOf wk.1.1 ok.1 (by omega) ⟨t1, t2⟩ (fun r hr => ?_)
  have b := driftZ_b wk.1.1 p.toNatClampNeg d.toNatClampNeg
  have := hp τ wk.1 f.vm f.fx
  unfold S_drift at this
  rw [if_pos ok] at this
  rw [oI hr (by omega) (by omega), f.vm]
  exact this
noncomputable def S_many (a p : Int32) (κ : Kp) : Int32 := @ite _ (okHouse a κ ∧ okS p) (Classical.propDecidable _) (nI (cN κ a.toNatClampNeg p.toNatClampNeg)) (-2)
theorem cN_le {κ : Kp} (h : Inv κ) (a p : Nat) : cN κ a p ≤ 8 := kq_le h a p (Nat.le_refl _)
theorem X_many (a p : Int32) : SpX (wX10_many a p) (S_many a p) (fun κ => κ) := by
  intro σ post h hp
  have hh := hp σ h rfl fm.refl
  unfold S_many at hh
  have no : ¬ (okHouse a (vx σ) ∧ okS p) → post (-2) σ := fun q => by rwa [if_neg q] at hh
  unfold wX10_many
  refine noHouse_ok (br_n (fun h1 => ?_) (fun h1 => no (fun q => h1 q.1)))
  refine noPiece_ok (And.symm (br_n (fun h2 => ?_) (fun h2 => no (fun q => h2 q.2))))
  have ok : okHouse a (vx σ) ∧ okS p := ⟨h1, h2⟩
  have ha := ok.1.r h.1
  have g := ((h.2 p.toNatClampNeg ok.2.lt).2.1 a.toNatClampNeg (h14n ha)).1
  have c8 := cN_le h.1 a.toNatClampNeg p.toNatClampNeg
  refine ⟨ok.2.in, vp_iff.mpr ha, ?_⟩
  rw [if_pos ok] at hh
  rw [iExt g (nI_toInt (by omega))]
  exact hh
theorem M_many (a p : Int32) : SpM (wX11_many a p) (S_many a p) (fun κ => κ) := by
  intro σ post h hp
  have no : ¬ (okHouse a (vm σ) ∧ okS p) → post (-2) σ := fun q => by
    have := hp σ h rfl fx.refl
    unfold S_many at this
    rwa [if_neg q] at this
  unfold wX11_many
  refine isHouse_ok h.1.2.2.1.1 (br_d' (fun h1 => ?_) (fun h1 => no (fun q => h1 q.1)))
  refine isPiece_ok (br_d (fun h2 => ?_) (fun h2 => no (fun q => h2 q.2)))
  have ok : okHouse a (vm σ) ∧ okS p := ⟨h1, h2⟩
  have ha := ok.1.r h.1
  refine works_K h (fun τ wk f => ?_)
  obtain ⟨v, e⟩ := ix56 ha ok.2
  have g := (wk.dm.2 a.toNatClampNeg p.toNatClampNeg (h14n ha) ok.2.lt).1
  have c8 := cN_le wk.1.1 a.toNatClampNeg p.toNatClampNeg
  have := hp τ wk.1 f.vm f.fx
  unfold S_many at this
  rw [if_pos ok] at this
  refine ⟨v, ?_⟩
  rw [e, iExt g (nI_toInt (by omega)), f.vm]
  exact this
noncomputable def tldI (κ : Kp) (a p : Nat) : Int32 := if 0 < cN κ a p then Int32.ofInt (tL κ a p) else (-2147483647)
noncomputable def S_told (a p : Int32) (κ : Kp) : Int32 := @ite _ (okHouse a κ ∧ okS p) (Classical.propDecidable _) (tldI κ a.toNatClampNeg p.toNatClampNeg) (-2147483648)
theorem X_told (a p : Int32) : SpX (wX10_told a p) (S_told a p) (fun κ => κ) := by
  intro σ post h hp
  have hh := hp σ h rfl fm.refl
  unfold S_told at hh
  have no : ¬ (okHouse a (vx σ) ∧ okS p) → post (-2147483648) σ := fun q => by rwa [if_neg q] at hh
  unfold wX10_told
  refine noHouse_ok (br_n (fun h1 => ?_) (fun h1 => no (fun q => h1 q.1)))
  refine noPiece_ok (And.symm (br_n (fun h2 => ?_) (fun h2 => no (fun q => h2 q.2))))
  have ok : okHouse a (vx σ) ∧ okS p := ⟨h1, h2⟩
  have ha := ok.1.r h.1
  rw [if_pos ok] at hh
  unfold tldI at hh
  refine X_takes h ha ok.2 (br_d' (fun z => ⟨ok.2.in, vp_iff.mpr ha, ?_⟩) (fun z => ?_))
  · rw [if_pos z] at hh
    have b := tL_b h.1 a.toNatClampNeg p.toNatClampNeg
    rw [oI (X_mean h (h14n ha) ok.2.lt) (by omega) (by omega)]
    exact hh
  · rw [if_neg z] at hh; exact hh
theorem M_toldOrNot {a p : Int32} {σ : Sto} {post : Int32 → Sto → Prop} (h : OM σ) (ha : 0 ≤ a.toInt ∧ a.toInt < 14) (hp : okS p) (hq : ∀ τ, WK τ → qm σ τ → post (tldI (vm σ) a.toNatClampNeg p.toNatClampNeg) τ) : wX11_toldOrNot a p σ post := by
  unfold tldI at hq
  refine takes_K h ha hp (fun τ wk f => br_d' (fun z => ?_) (fun z => ?_))
  · refine toldOf_W wk ha hp (by rw [f.vm]; exact z) (fun r hr => ?_)
    have b := tL_b wk.1.1 a.toNatClampNeg p.toNatClampNeg
    have := hq τ wk f
    rw [if_pos z] at this
    rw [oI (lI hr (by omega) (by omega)) (by omega) (by omega), f.vm]
    exact this
  · have := hq τ wk f
    rwa [if_neg z] at this
theorem M_told (a p : Int32) : SpM (wX11_told a p) (S_told a p) (fun κ => κ) := by
  intro σ post h hp
  have no : ¬ (okHouse a (vm σ) ∧ okS p) → post (-2147483648) σ := fun q => by
    have := hp σ h rfl fx.refl
    unfold S_told at this
    rwa [if_neg q] at this
  unfold wX11_told
  refine isHouse_ok h.1.2.2.1.1 (br_d' (fun h1 => ?_) (fun h1 => no (fun q => h1 q.1)))
  refine isPiece_ok (br_d' (fun h2 => ?_) (fun h2 => no (fun q => h2 q.2)))
  have ok : okHouse a (vm σ) ∧ okS p := ⟨h1, h2⟩
  refine M_toldOrNot h (ok.1.r h.1) ok.2 (fun τ wk f => ?_)
  have := hp τ wk.1 f.vm f.fx
  unfold S_told at this
  rw [if_pos ok] at this
  exact this

/-! known readings; about -/
theorem X_isKnown {x : Int32} {σ : Sto} {post : Bool → Sto → Prop} (hx : 0 ≤ x.toInt ∧ x.toInt < 150) (h : post (kn (vx σ) x.toNatClampNeg) σ) : wX1_isKnown x σ post := by
  have hl : x.toNatClampNeg < 150 := by rw [tnc]; omega
  have hin : vp_in x 150 := vp_iff.mpr (by omega)
  have e7 : vx σ 7 x.toNatClampNeg = σ.1 19 x.toNatClampNeg := vx_r (c := 7) (by omega) hl
  have e8 : vx σ 8 x.toNatClampNeg = σ.1 20 x.toNatClampNeg := vx_r (c := 8) (by omega) hl
  have e1 : vx σ 0 1 = σ.1 1 1 := rfl
  have e0 : vx σ 0 0 = σ.1 1 0 := rfl
  have key : ∀ y : Int32, y.toInt = kto (vx σ) → wX1_isKnown_19 post x y σ := by
    intro y hy
    unfold kn at h
    rw [← hy, e7, e8] at h
    unfold wX1_isKnown_19
    simp only [iLt, iLe, iEq, nm1]
    refine ⟨hin, hin, fun h1 => ?_, fun h1 => ⟨fun h2 => ?_, fun h2 => ⟨fun h3 => ?_, fun h3 => ?_⟩⟩⟩
    · rw [decide_eq_false (by omega)] at h; exact h
    · rw [decide_eq_true (by omega)] at h; exact h
    · rw [decide_eq_false (by omega)] at h; exact h
    · rw [decide_eq_true (by omega)] at h; exact h
  unfold wX1_isKnown
  simp only [iEq, nm1]
  refine ⟨fun q => key _ ?_, fun q => key _ ?_⟩
  · unfold kto; rw [e1, if_neg q]
  · unfold kto; rw [e1, e0, if_pos q]
theorem vm_rd {σ : Sto} {c i cell : Nat} (hc : (c, cell) ∈ ([(3, 70), (4, 71), (5, 72), (6, 73), (7, 74), (8, 75)] : List (Nat × Nat))) (hi : i < 150) : vm σ c i = σ.1 cell i := by
  simp only [List.mem_cons, Prod.mk.injEq, List.not_mem_nil, or_false] at hc
  rcases hc with ⟨rfl, rfl⟩ | ⟨rfl, rfl⟩ | ⟨rfl, rfl⟩ | ⟨rfl, rfl⟩ | ⟨rfl, rfl⟩ | ⟨rfl, rfl⟩
  · rw [vm_r (c := 3) (by omega) (by omega) hi, show (axm 3).2.2 + i = i from Nat.zero_add i]; rfl
  · rw [vm_r (c := 4) (by omega) (by omega) hi, show (axm 4).2.2 + i = i from Nat.zero_add i]; rfl
  · rw [vm_r (c := 5) (by omega) (by omega) hi, show (axm 5).2.2 + i = i from Nat.zero_add i]; rfl
  · rw [vm_r (c := 6) (by omega) (by omega) hi, show (axm 6).2.2 + i = i from Nat.zero_add i]; rfl
  · rw [vm_r (c := 7) (by omega) (by omega) hi, show (axm 7).2.2 + i = i from Nat.zero_add i]; rfl
  · rw [vm_r (c := 8) (by omega) (by omega) hi, show (axm 8).2.2 + i = i from Nat.zero_add i]; rfl
theorem vx_rd {σ : Sto} {c i cell : Nat} (hc : (c, cell) ∈ ([(3, 15), (4, 16), (5, 17), (6, 18), (7, 19), (8, 20)] : List (Nat × Nat))) (hi : i < 150) : vx σ c i = σ.1 cell i := by
  simp only [List.mem_cons, Prod.mk.injEq, List.not_mem_nil, or_false] at hc
  rcases hc with ⟨rfl, rfl⟩ | ⟨rfl, rfl⟩ | ⟨rfl, rfl⟩ | ⟨rfl, rfl⟩ | ⟨rfl, rfl⟩ | ⟨rfl, rfl⟩
  · exact vx_r (c := 3) (by omega) hi
  · exact vx_r (c := 4) (by omega) hi
  · exact vx_r (c := 5) (by omega) hi
  · exact vx_r (c := 6) (by omega) hi
  · exact vx_r (c := 7) (by omega) hi
  · exact vx_r (c := 8) (by omega) hi
theorem M_isKnown {x : Int32} {σ : Sto} {post : Bool → Sto → Prop} (hx : 0 ≤ x.toInt ∧ x.toInt < 150) (h : post (kn (vm σ) x.toNatClampNeg) σ) : wX11_isKnown x σ post := by
  have hl : x.toNatClampNeg < 150 := by rw [tnc]; omega
  have hin : vp_in x 150 := vp_iff.mpr (by omega)
  have e7 : vm σ 7 x.toNatClampNeg = σ.1 74 x.toNatClampNeg := vm_rd (by decide) hl
  have e8 : vm σ 8 x.toNatClampNeg = σ.1 75 x.toNatClampNeg := vm_rd (by decide) hl
  have e1 : vm σ 0 1 = σ.1 67 11 := rfl
  have e0 : vm σ 0 0 = σ.1 67 0 := rfl
  have key : ∀ y : Int32, y.toInt = kto (vm σ) → wX11_isKnown_19 post x y σ := by
    intro y hy
    unfold kn at h
    rw [← hy, e7, e8] at h
    unfold wX11_isKnown_19
    simp only [iLt, iLe, iEq, nm1]
    refine ⟨hin, fun h1 => ?_, fun h1 => ⟨hin, fun h2 => ?_, fun h2 => ⟨hin, fun h3 => ?_, fun h3 => ?_⟩⟩⟩
    · rw [decide_eq_false (by omega)] at h; exact h
    · rw [decide_eq_true (by omega)] at h; exact h
    · rw [decide_eq_false (by omega)] at h; exact h
    · rw [decide_eq_true (by omega)] at h; exact h
  unfold wX11_isKnown
  simp only [iEq, nm1]
  refine ⟨fun q => key _ ?_, fun q => key _ ?_⟩
  · unfold kto; rw [e1, if_neg q]
  · unfold kto; rw [e1, e0, if_pos q]
theorem noReading_ok {a : Int32} {σ : Sto} {post : Bool → Sto → Prop} (h : post (!decide (0 ≤ a.toInt ∧ a.toInt < (σ.1 1 5).toInt)) σ) : wX10_noReading a σ post := by
  unfold wX10_noReading
  simp only [iLt, n0]
  refine ⟨fun h1 => ?_, fun h1 => ⟨fun h2 => ?_, fun h2 => ?_⟩⟩
  · rw [decide_eq_false (by omega)] at h; exact h
  · rw [decide_eq_true (by omega)] at h; exact h
  · rw [decide_eq_false (by omega)] at h; exact h
theorem inReading_ok {a : Int32} {σ : Sto} {post : Bool → Sto → Prop} (hi : 0 ≤ (σ.1 67 4).toInt) (h : post (decide (0 ≤ a.toInt ∧ a.toInt < (σ.1 67 4).toInt)) σ) : wX11_in a 0 (σ.1 67 4 - 1) σ post := by
  refine in_ok ?_
  have e : (σ.1 67 4 - 1).toInt = (σ.1 67 4).toInt - 1 := iSub rfl (by decide) (by omega) (by have := iR (σ.1 67 4); omega)
  rw [e, show decide ((0 : Int32).toInt ≤ a.toInt ∧ a.toInt ≤ (σ.1 67 4).toInt - 1) = decide (0 ≤ a.toInt ∧ a.toInt < (σ.1 67 4).toInt) from decide_eq_decide.mpr (by rw [n0]; omega)]
  exact h
def okRd (a : Int32) (κ : Kp) : Prop := 0 ≤ a.toInt ∧ a.toInt < (κ 0 3).toInt
theorem okRd.r {a : Int32} {κ : Kp} (h : okRd a κ) (hi : Inv κ) : 0 ≤ a.toInt ∧ a.toInt < 150 := by
  have := hi.2.2.2.1
  unfold okRd at h
  omega
theorem okRd.lt {a : Int32} {κ : Kp} (h : okRd a κ) (hi : Inv κ) : a.toNatClampNeg < 150 := by have := h.r hi; rw [tnc]; omega
theorem okRd.in {a : Int32} {κ : Kp} (h : okRd a κ) (hi : Inv κ) : vp_in a 150 := by have := h.r hi; exact vp_iff.mpr (by omega)
def ab (r : Nat) (w : Int32) (κ : Kp) : Int32 := if w = 0 then κ 3 r else if w = 1 then κ 4 r else if w = 2 then κ 5 r else if w = 3 then κ 6 r else if w = 4 then κ 7 r else if w = 5 then κ 8 r else if w = 6 then (if kn κ r = false then 0 else 1) else -30000
noncomputable def S_about (a w : Int32) (κ : Kp) : Int32 := @ite _ (okRd a κ) (Classical.propDecidable _) (ab a.toNatClampNeg w κ) (-30000)
theorem X_about (a w : Int32) : SpX (wX10_about a w) (S_about a w) (fun κ => κ) := by
  intro σ post h hp
  have hh := hp σ h rfl fm.refl
  unfold S_about at hh
  unfold wX10_about
  refine noReading_ok (And.symm (br_n (fun h1 => ?_) (fun h1 => ?_)))
  · have hk : okRd a (vx σ) := h1
    have hl := hk.lt h.1
    have hin := hk.in h.1
    rw [if_pos hk] at hh
    unfold ab at hh
    rw [vx_rd (c := 3) (cell := 15) (by decide) hl, vx_rd (c := 4) (cell := 16) (by decide) hl, vx_rd (c := 5) (cell := 17) (by decide) hl, vx_rd (c := 6) (cell := 18) (by decide) hl, vx_rd (c := 7) (cell := 19) (by decide) hl, vx_rd (c := 8) (cell := 20) (by decide) hl] at hh
    refine ⟨fun q => ⟨hin, by rw [if_pos q] at hh; exact hh⟩, fun q => ?_⟩
    rw [if_neg q] at hh
    refine ⟨fun q => ⟨hin, by rw [if_pos q] at hh; exact hh⟩, fun q => ?_⟩
    rw [if_neg q] at hh
    refine ⟨fun q => ⟨hin, by rw [if_pos q] at hh; exact hh⟩, fun q => ?_⟩
    rw [if_neg q] at hh
    refine ⟨fun q => ⟨hin, by rw [if_pos q] at hh; exact hh⟩, fun q => ?_⟩
    rw [if_neg q] at hh
    refine ⟨fun q => ⟨hin, by rw [if_pos q] at hh; exact hh⟩, fun q => ?_⟩
    rw [if_neg q] at hh
    refine ⟨fun q => ⟨hin, by rw [if_pos q] at hh; exact hh⟩, fun q => ?_⟩
    rw [if_neg q] at hh
    refine ⟨fun q => X_isKnown (hk.r h.1) ⟨fun z => ?_, fun z => ?_⟩, fun q => ?_⟩
    · rw [if_pos q, if_pos z] at hh; exact hh
    · rw [if_pos q, if_neg (by rw [z]; decide)] at hh; exact hh
    · rw [if_neg q] at hh; exact hh
  · rw [if_neg (show ¬ okRd a (vx σ) from h1)] at hh
    exact hh
theorem M_about (a w : Int32) : SpM (wX11_about a w) (S_about a w) (fun κ => κ) := by
  intro σ post h hp
  have hh := hp σ h rfl fx.refl
  unfold S_about at hh
  unfold wX11_about
  refine inReading_ok h.1.2.2.2.1.1 (br_d (fun h1 => ?_) (fun h1 => ?_))
  · have hk : okRd a (vm σ) := h1
    have hl := hk.lt h.1
    have hin := hk.in h.1
    rw [if_pos hk] at hh
    unfold ab at hh
    rw [vm_rd (c := 3) (cell := 70) (by decide) hl, vm_rd (c := 4) (cell := 71) (by decide) hl, vm_rd (c := 5) (cell := 72) (by decide) hl, vm_rd (c := 6) (cell := 73) (by decide) hl, vm_rd (c := 7) (cell := 74) (by decide) hl, vm_rd (c := 8) (cell := 75) (by decide) hl] at hh
    refine ⟨fun q => ⟨hin, by rw [if_pos q] at hh; exact hh⟩, fun q => ?_⟩
    rw [if_neg q] at hh
    refine ⟨fun q => ⟨hin, by rw [if_pos q] at hh; exact hh⟩, fun q => ?_⟩
    rw [if_neg q] at hh
    refine ⟨fun q => ⟨hin, by rw [if_pos q] at hh; exact hh⟩, fun q => ?_⟩
    rw [if_neg q] at hh
    refine ⟨fun q => ⟨hin, by rw [if_pos q] at hh; exact hh⟩, fun q => ?_⟩
    rw [if_neg q] at hh
    refine ⟨fun q => ⟨hin, by rw [if_pos q] at hh; exact hh⟩, fun q => ?_⟩
    rw [if_neg q] at hh
    refine ⟨fun q => ⟨hin, by rw [if_pos q] at hh; exact hh⟩, fun q => ?_⟩
    rw [if_neg q] at hh
    refine ⟨fun q => M_isKnown (hk.r h.1) ⟨fun z => ?_, fun z => ?_⟩, fun q => ?_⟩
    · rw [if_pos q, if_pos z] at hh; exact hh
    · rw [if_pos q, if_neg (by rw [z]; decide)] at hh; exact hh
    · rw [if_neg q] at hh; exact hh
  · rw [if_neg (show ¬ okRd a (vm σ) from h1)] at hh
    exact hh

/-! doubt, factor, type, wipe -/
theorem n0 : (0 : Int32).toInt = 0 := rfl
theorem n1 : (1 : Int32).toInt = 1 := rfl
theorem n5 : (5 : Int32).toInt = 5 := rfl
theorem n60 : (60 : Int32).toInt = 60 := rfl
theorem n255 : (255 : Int32).toInt = 255 := rfl
theorem n1000 : (1000 : Int32).toInt = 1000 := rfl
theorem Inv.kupc {κ : Kp} {c j : Nat} {v : Int32} (h : Inv κ) (hc : c = 2 ∨ 9 ≤ c) (h2 : c = 2 → 1 ≤ v.toInt ∧ v.toInt ≤ 1000) (h9 : c = 9 → 0 ≤ v.toInt ∧ v.toInt ≤ 255) (h10 : c = 10 → -1 ≤ v.toInt ∧ v.toInt ≤ 2) (h11 : c = 11 → 0 ≤ v.toInt ∧ v.toInt ≤ 60) : Inv (kup κ c j v) := by
  have hh := h
  obtain ⟨g1, g2, g3, g4, g5, g6, g7, g8, g9, g10, g11⟩ := h
  refine hh.chg (fun i _ => kup_n (by omega)) (by rw [kup_n (by omega)]; exact g5) (by rw [kup_n (by omega)]; exact g6) (fun i => kup_n (by omega)) (fun i hi => ?_) (fun c' i a b => kup_n (by omega)) (fun i hi => ?_) (fun i hi => ⟨?_, ?_⟩)
  · by_cases e : 2 = c ∧ i = j
    · obtain ⟨rfl, rfl⟩ := e; rw [kup_s]; exact h2 rfl
    · rw [kup_n e]; exact (g7 i hi).2
  · by_cases e : 9 = c ∧ i = j
    · obtain ⟨rfl, rfl⟩ := e; rw [kup_s]; exact h9 rfl
    · rw [kup_n e]; exact g10 i hi
  · by_cases e : 10 = c ∧ i = j
    · obtain ⟨rfl, rfl⟩ := e; rw [kup_s]; exact h10 rfl
    · rw [kup_n e]; exact (g11 i hi).1
  · by_cases e : 11 = c ∧ i = j
    · obtain ⟨rfl, rfl⟩ := e; rw [kup_s]; exact h11 rfl
    · rw [kup_n e]; exact (g11 i hi).2
theorem Inv.kup0 {κ : Kp} {j : Nat} {v : Int32} (h : Inv κ) (hj : 4 ≤ j) (h4 : j = 4 → 1 ≤ v.toInt ∧ v.toInt ≤ 5) (h5 : j = 5 → 0 ≤ v.toInt ∧ v.toInt ≤ 60) : Inv (kup κ 0 j v) := by
  have hh := h
  obtain ⟨g1, g2, g3, g4, g5, g6, g7, g8, g9, g10, g11⟩ := h
  refine hh.chg (fun i _ => kup_n (by omega)) ?_ ?_ (fun i => kup_n (by omega)) (fun i hi => by rw [kup_n (by omega)]; exact (g7 i hi).2) (fun c' i a b => kup_n (by omega)) (fun i hi => by rw [kup_n (by omega)]; exact g10 i hi) (fun i hi => by rw [kup_n (by omega), kup_n (by omega)]; exact g11 i hi)
  · by_cases e : 4 = j
    · subst e; rw [kup_s]; exact h4 rfl
    · rw [kup_n (by omega)]; exact g5
  · by_cases e : 5 = j
    · subst e; rw [kup_s]; exact h5 rfl
    · rw [kup_n (by omega)]; exact g6
def okHouse (a : Int32) (κ : Kp) : Prop := 0 ≤ a.toInt ∧ a.toInt < (κ 0 2).toInt
theorem okHouse.lt {a : Int32} {κ : Kp} (h : okHouse a κ) (hi : Inv κ) : a.toNatClampNeg < 14 := by
  have := hi.2.2.1
  unfold okHouse at h
  rw [tnc]
  omega
theorem okHouse.in {a : Int32} {κ : Kp} (h : okHouse a κ) (hi : Inv κ) : vp_in a 14 := by
  have := hi.2.2.1
  unfold okHouse at h
  exact vp_iff.mpr (by omega)
theorem vx_r {σ : Sto} {c i : Nat} (hc : c ≠ 0) (hi : i < (axc c).2) : vx σ c i = σ.1 (axc c).1 i := by unfold vx; rw [if_neg hc, if_pos hi]
theorem vm_r {σ : Sto} {c i : Nat} (hc : c ≠ 0) (h10 : c ≠ 10) (hi : i < (axm c).2.1) : vm σ c i = σ.1 (axm c).1 ((axm c).2.2 + i) := by unfold vm; rw [if_neg hc, if_neg h10, if_pos hi]
theorem decHouse (a : Int32) (κ : Kp) : okHouse a κ ∨ ¬ okHouse a κ := Classical.em _
noncomputable def S_doubt (a d : Int32) (κ : Kp) : Int32 := @ite _ (okHouse a κ ∧ 1 ≤ d.toInt ∧ d.toInt ≤ 1000) (Classical.propDecidable _) (κ 2 a.toNatClampNeg) (-2)
noncomputable def U_doubt (a d : Int32) (κ : Kp) : Kp := @ite _ (okHouse a κ ∧ 1 ≤ d.toInt ∧ d.toInt ≤ 1000) (Classical.propDecidable _) (kup κ 2 a.toNatClampNeg d) κ
theorem X_doubt (a d : Int32) : SpX (wX10_doubt a d) (S_doubt a d) (U_doubt a d) := by
  intro σ post h hp
  have hd : vx σ 0 2 = σ.1 1 2 := rfl
  have no : ¬ (okHouse a (vx σ) ∧ 1 ≤ d.toInt ∧ d.toInt ≤ 1000) → post (-2) σ := fun q => by
    have := hp σ h (by unfold U_doubt; rw [if_neg q]) fm.refl
    unfold S_doubt at this
    rwa [if_neg q] at this
  unfold wX10_doubt
  refine noHouse_ok (br_n (fun h1 => ?_) (fun h1 => no (fun q => h1 q.1)))
  simp only [iLt, iLe, n1, n1000]
  refine ⟨fun h2 => no (by omega), fun h2 => ⟨fun h3 => ?_, fun h3 => no (by omega)⟩⟩
  have hk : okHouse a (vx σ) := h1
  have ok : okHouse a (vx σ) ∧ 1 ≤ d.toInt ∧ d.toInt ≤ 1000 := ⟨hk, by omega, h3⟩
  have hv : vx (wI σ 14 a.toNatClampNeg d) = kup (vx σ) 2 a.toNatClampNeg d := vx_a2 (hk.lt h.1)
  refine ⟨hk.in h.1, hk.in h.1, ?_⟩
  have := hp (wI σ 14 a.toNatClampNeg d) (ox_upd h (fun c a _ _ => wI_n (by omega)) hv (SD.mkc (Or.inr (Or.inl rfl))) (h.1.kupc (Or.inl rfl) (fun _ => by omega) (fun q => by omega) (fun q => by omega) (fun q => by omega))) (by rw [hv]; unfold U_doubt; rw [if_pos ok]) (fm.refl.wI (by omega))
  unfold S_doubt at this
  rw [if_pos ok, vx_r (c := 2) (by omega) (hk.lt h.1)] at this
  exact this
theorem M_doubt (a d : Int32) : SpM (wX11_doubt a d) (S_doubt a d) (U_doubt a d) := by
  intro σ post h hp
  have hd : vm σ 0 2 = σ.1 67 1 := rfl
  have no : ¬ (okHouse a (vm σ) ∧ 1 ≤ d.toInt ∧ d.toInt ≤ 1000) → post (-2) σ := fun q => by
    have := hp σ h (by unfold U_doubt; rw [if_neg q]) fx.refl
    unfold S_doubt at this
    rwa [if_neg q] at this
  unfold wX11_doubt
  refine isHouse_ok h.1.2.2.1.1 (br_d' (fun h1 => ?_) (fun h1 => no (fun q => h1 q.1)))
  have hk : okHouse a (vm σ) := h1
  refine in_ok (br_d (fun h2 => ?_) (fun h2 => no (fun q => h2 q.2)))
  rw [n1, n1000] at h2
  have ok : okHouse a (vm σ) ∧ 1 ≤ d.toInt ∧ d.toInt ≤ 1000 := ⟨hk, h2⟩
  have hv : vm (wI σ 69 a.toNatClampNeg d) = kup (vm σ) 2 a.toNatClampNeg d := vm_a2 (hk.lt h.1)
  refine ⟨hk.in h.1, hk.in h.1, ?_⟩
  have := hp (wI σ 69 a.toNatClampNeg d) (om_upd h hv (h.1.kupc (Or.inl rfl) (fun _ => h2) (fun q => by omega) (fun q => by omega) (fun q => by omega)) (Or.inr ⟨by rw [wI_n (by omega)], fun c a b => ⟨wI_n (by omega), rfl⟩, SD.mkc (Or.inr (Or.inl rfl))⟩) ⟨wI_n (by omega), wI_n (by omega)⟩) (by rw [hv]; unfold U_doubt; rw [if_pos ok]) (fx.refl.wI (by omega))
  unfold S_doubt at this
  rw [if_pos ok, vm_r (c := 2) (by omega) (by omega) (hk.lt h.1), show (axm 2).2.2 + a.toNatClampNeg = a.toNatClampNeg from Nat.zero_add _] at this
  exact this
/-! factor -/
def S_factor (k : Int32) (κ : Kp) : Int32 := if 1 ≤ k.toInt ∧ k.toInt ≤ 5 then κ 0 4 else -2
def U_factor (k : Int32) (κ : Kp) : Kp := if 1 ≤ k.toInt ∧ k.toInt ≤ 5 then kup κ 0 4 k else κ
theorem X_factor (k : Int32) : SpX (wX10_factor k) (S_factor k) (U_factor k) := by
  intro σ post h hp
  have no : ¬ (1 ≤ k.toInt ∧ k.toInt ≤ 5) → post (-2) σ := fun q => by
    have := hp σ h (by unfold U_factor; rw [if_neg q]) fm.refl
    unfold S_factor at this
    rwa [if_neg q] at this
  unfold wX10_factor
  simp only [iLt, iLe, n1, n5]
  refine ⟨fun h2 => no (by omega), fun h2 => ⟨fun h3 => ?_, fun h3 => no (by omega)⟩⟩
  have ok : 1 ≤ k.toInt ∧ k.toInt ≤ 5 := by omega
  have hv : vx (wI σ 3 3 k) = kup (vx σ) 0 4 k := vx_sc (by decide)
  have := hp (wI σ 3 3 k) (ox_upd h (fun c a _ _ => wI_n (by omega)) hv (SD.mk0 (by omega) (by omega)) (h.1.kup0 (by omega) (fun _ => ok) (fun q => by omega))) (by rw [hv]; unfold U_factor; rw [if_pos ok]) (fm.refl.wI (by omega))
  unfold S_factor at this
  rw [if_pos ok] at this
  exact this
theorem M_factor (k : Int32) : SpM (wX11_factor k) (S_factor k) (U_factor k) := by
  intro σ post h hp
  have no : ¬ (1 ≤ k.toInt ∧ k.toInt ≤ 5) → post (-2) σ := fun q => by
    have := hp σ h (by unfold U_factor; rw [if_neg q]) fx.refl
    unfold S_factor at this
    rwa [if_neg q] at this
  unfold wX11_factor
  refine in_ok (br_d (fun ok => ?_) no)
  rw [n1, n5] at ok
  have hv : vm (wI σ 67 12 k) = kup (vm σ) 0 4 k := vm_sc (by decide)
  have := hp (wI σ 67 12 k) (om_upd h hv (h.1.kup0 (by omega) (fun _ => ok) (fun q => by omega)) (Or.inr ⟨by rw [wI_1, uN (by omega)], fun c a b => ⟨wI_n (by omega), rfl⟩, SD.mk0 (by omega) (by omega)⟩) ⟨wI_n (by omega), wI_n (by omega)⟩) (by rw [hv]; unfold U_factor; rw [if_pos ok]) (fx.refl.wI (by omega))
  unfold S_factor at this
  rw [if_pos ok] at this
  exact this
/-! type, wipe -/
def S_type (b : Int32) (κ : Kp) : Int32 := if ¬ (0 ≤ b.toInt ∧ b.toInt ≤ 255) then -2 else if (κ 0 5).toInt = 60 then -4 else κ 0 5 + 1
def U_type (b : Int32) (κ : Kp) : Kp := if ¬ (0 ≤ b.toInt ∧ b.toInt ≤ 255) then κ else if (κ 0 5).toInt = 60 then κ else kup (kup κ 9 (κ 0 5).toNatClampNeg b) 0 5 (κ 0 5 + 1)
theorem Inv.type {κ : Kp} {b : Int32} (h : Inv κ) (hb : 0 ≤ b.toInt ∧ b.toInt ≤ 255) (h6 : ¬ (κ 0 5).toInt = 60) : Inv (kup (kup κ 9 (κ 0 5).toNatClampNeg b) 0 5 (κ 0 5 + 1)) := by
  have g := h.2.2.2.2.2.1
  have hv : (κ 0 5 + 1).toInt = (κ 0 5).toInt + 1 := iAdd rfl (by decide) (by omega) (by omega)
  exact (h.kupc (Or.inr (by omega)) (fun q => by omega) (fun _ => hb) (fun q => by omega) (fun q => by omega)).kup0 (by omega) (fun q => by omega) (fun _ => by rw [hv]; omega)
theorem X_type (b : Int32) : SpX (wX10_type b) (S_type b) (U_type b) := by
  intro σ post h hp
  have hd : vx σ 0 5 = σ.1 8 4 := rfl
  have hi := h.1.2.2.2.2.2.1
  rw [hd] at hi
  have no : ¬ (0 ≤ b.toInt ∧ b.toInt ≤ 255) → post (-2) σ := fun q => by
    have := hp σ h (by unfold U_type; rw [if_pos q]) fm.refl
    unfold S_type at this
    rwa [if_pos q] at this
  unfold wX10_type
  simp only [iLt, iLe, n0, n255, n60]
  refine ⟨fun h2 => no (by omega), fun h2 => ⟨fun h3 => ⟨fun h4 => ?_, fun h4 => ?_⟩, fun h3 => no (by omega)⟩⟩
  · have hb : ¬ ¬ (0 ≤ b.toInt ∧ b.toInt ≤ 255) := by omega
    have h6 : ¬ (vx σ 0 5).toInt = 60 := by rw [hd]; omega
    have hin : vp_in (σ.1 8 4) 60 := vp_iff.mpr (by omega)
    have hv : vx (wI (wI σ 59 (σ.1 8 4).toNatClampNeg b) 8 4 (σ.1 8 4 + 1)) = kup (kup (vx σ) 9 (σ.1 8 4).toNatClampNeg b) 0 5 (σ.1 8 4 + 1) := by
      rw [vx_sc (j := 5) (by decide), vx_a9 (vp_lt hin)]
    refine ⟨hin, ?_⟩
    have := hp (wI (wI σ 59 (σ.1 8 4).toNatClampNeg b) 8 4 (σ.1 8 4 + 1)) (ox_upd h (fun c a _ _ => by rw [wI_n (by omega), wI_n (by omega)]) hv ((SD.mkc (Or.inr (Or.inr (by omega)))).trans (SD.mk0 (by omega) (by omega))) (h.1.type (by omega) h6)) (by rw [hv]; unfold U_type; rw [if_neg hb, if_neg h6]; rfl) ((fm.refl.wI (by omega)).wI (by omega))
    unfold S_type at this
    rw [if_neg hb, if_neg h6] at this
    exact this
  · have hb : ¬ ¬ (0 ≤ b.toInt ∧ b.toInt ≤ 255) := by omega
    have h6 : (vx σ 0 5).toInt = 60 := by rw [hd]; omega
    have := hp σ h (by unfold U_type; rw [if_neg hb, if_pos h6]) fm.refl
    unfold S_type at this
    rwa [if_neg hb, if_pos h6] at this
theorem M_type (b : Int32) : SpM (wX11_type b) (S_type b) (U_type b) := by
  intro σ post h hp
  have hd : vm σ 0 5 = σ.1 67 29 := rfl
  have hi := h.1.2.2.2.2.2.1
  rw [hd] at hi
  have no : ¬ (0 ≤ b.toInt ∧ b.toInt ≤ 255) → post (-2) σ := fun q => by
    have := hp σ h (by unfold U_type; rw [if_pos q]) fx.refl
    unfold S_type at this
    rwa [if_pos q] at this
  unfold wX11_type
  refine in_ok (br_d (fun h1 => ?_) no)
  rw [n0, n255] at h1
  have hb : ¬ ¬ (0 ≤ b.toInt ∧ b.toInt ≤ 255) := by omega
  simp only [iEq, n60]
  refine ⟨fun h3 => ?_, fun h3 => ?_⟩
  · have h6 : ¬ (vm σ 0 5).toInt = 60 := by rw [hd]; omega
    have hin : vp_in (σ.1 67 29) 60 := vp_iff.mpr (by omega)
    have hv : vm (wI (wI σ 85 (σ.1 67 29).toNatClampNeg b) 67 29 (σ.1 67 29 + 1)) = kup (kup (vm σ) 9 (σ.1 67 29).toNatClampNeg b) 0 5 (σ.1 67 29 + 1) := by
      rw [vm_sc (j := 5) (by decide), vm_a9 (vp_lt hin)]
    refine ⟨hin, ?_⟩
    have := hp (wI (wI σ 85 (σ.1 67 29).toNatClampNeg b) 67 29 (σ.1 67 29 + 1)) (om_upd h hv (h.1.type h1 h6) (Or.inr ⟨by rw [wI_1, uN (by omega), wI_n (by omega)], fun c a b => ⟨by rw [wI_n (by omega), wI_n (by omega)], rfl⟩, (SD.mkc (Or.inr (Or.inr (by omega)))).trans (SD.mk0 (by omega) (by omega))⟩) ⟨by rw [wI_n (by omega), wI_n (by omega)], by rw [wI_n (by omega), wI_n (by omega)]⟩) (by rw [hv]; unfold U_type; rw [if_neg hb, if_neg h6]; rfl) ((fx.refl.wI (by omega)).wI (by omega))
    unfold S_type at this
    rw [if_neg hb, if_neg h6] at this
    exact this
  · have h6 : (vm σ 0 5).toInt = 60 := by rw [hd]; omega
    have := hp σ h (by unfold U_type; rw [if_neg hb, if_pos h6]) fx.refl
    unfold S_type at this
    rwa [if_neg hb, if_pos h6] at this
theorem X_wipe : SpX wX10_wipe (fun κ => κ 0 5) (fun κ => kup κ 0 5 0) := by
  intro σ post h hp
  have hv : vx (wI σ 8 4 0) = kup (vx σ) 0 5 0 := vx_sc (by decide)
  exact hp (wI σ 8 4 0) (ox_upd h (fun c a _ _ => wI_n (by omega)) hv (SD.mk0 (by omega) (by omega)) (h.1.kup0 (by omega) (fun q => by omega) (fun _ => by decide))) hv (fm.refl.wI (by omega))
theorem M_wipe : SpM wX11_wipe (fun κ => κ 0 5) (fun κ => kup κ 0 5 0) := by
  intro σ post h hp
  have hv : vm (wI σ 67 29 0) = kup (vm σ) 0 5 0 := vm_sc (by decide)
  exact hp (wI σ 67 29 0) (om_upd h hv (h.1.kup0 (by omega) (fun q => by omega) (fun _ => by decide)) (Or.inr ⟨by rw [wI_1, uN (by omega)], fun c a b => ⟨wI_n (by omega), rfl⟩, SD.mk0 (by omega) (by omega)⟩) ⟨wI_n (by omega), wI_n (by omega)⟩) hv (fx.refl.wI (by omega))

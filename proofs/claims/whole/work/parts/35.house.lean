theorem vx_a1 {σ : Sto} {j : Nat} {v : Int32} (h : j < 14) : vx (wI σ 13 j v) = kup (vx σ) 1 j v := vx_ar (c := 1) (by omega) h
theorem vx_a2 {σ : Sto} {j : Nat} {v : Int32} (h : j < 14) : vx (wI σ 14 j v) = kup (vx σ) 2 j v := vx_ar (c := 2) (by omega) h
theorem vx_a3 {σ : Sto} {j : Nat} {v : Int32} (h : j < 150) : vx (wI σ 15 j v) = kup (vx σ) 3 j v := vx_ar (c := 3) (by omega) h
theorem vx_a4 {σ : Sto} {j : Nat} {v : Int32} (h : j < 150) : vx (wI σ 16 j v) = kup (vx σ) 4 j v := vx_ar (c := 4) (by omega) h
theorem vx_a5 {σ : Sto} {j : Nat} {v : Int32} (h : j < 150) : vx (wI σ 17 j v) = kup (vx σ) 5 j v := vx_ar (c := 5) (by omega) h
theorem vx_a6 {σ : Sto} {j : Nat} {v : Int32} (h : j < 150) : vx (wI σ 18 j v) = kup (vx σ) 6 j v := vx_ar (c := 6) (by omega) h
theorem vx_a7 {σ : Sto} {j : Nat} {v : Int32} (h : j < 150) : vx (wI σ 19 j v) = kup (vx σ) 7 j v := vx_ar (c := 7) (by omega) h
theorem vx_a8 {σ : Sto} {j : Nat} {v : Int32} (h : j < 150) : vx (wI σ 20 j v) = kup (vx σ) 8 j v := vx_ar (c := 8) (by omega) h
theorem vx_a9 {σ : Sto} {j : Nat} {v : Int32} (h : j < 60) : vx (wI σ 59 j v) = kup (vx σ) 9 j v := vx_ar (c := 9) (by omega) h
theorem vx_a10 {σ : Sto} {j : Nat} {v : Int32} (h : j < 4) : vx (wI σ 65 j v) = kup (vx σ) 10 j v := vx_ar (c := 10) (by omega) h
theorem vx_a11 {σ : Sto} {j : Nat} {v : Int32} (h : j < 4) : vx (wI σ 66 j v) = kup (vx σ) 11 j v := vx_ar (c := 11) (by omega) h
theorem vx_a12 {σ : Sto} {j : Nat} {v : Int32} (h : j < 60) : vx (wI σ 61 j v) = kup (vx σ) 12 j v := vx_ar (c := 12) (by omega) h
theorem vx_a13 {σ : Sto} {j : Nat} {v : Int32} (h : j < 60) : vx (wI σ 62 j v) = kup (vx σ) 13 j v := vx_ar (c := 13) (by omega) h
theorem vx_a14 {σ : Sto} {j : Nat} {v : Int32} (h : j < 60) : vx (wI σ 63 j v) = kup (vx σ) 14 j v := vx_ar (c := 14) (by omega) h
theorem vx_a15 {σ : Sto} {j : Nat} {v : Int32} (h : j < 60) : vx (wI σ 64 j v) = kup (vx σ) 15 j v := vx_ar (c := 15) (by omega) h
theorem vm_a1 {σ : Sto} {j : Nat} {v : Int32} (h : j < 14) : vm (wI σ 68 j v) = kup (vm σ) 1 j v := by
  have := vm_ar (σ := σ) (c := 1) (j := j) (v := v) (by omega) (by omega) h
  rw [show (axm 1).2.2 + j = j from Nat.zero_add j] at this
  exact this
theorem vm_a2 {σ : Sto} {j : Nat} {v : Int32} (h : j < 14) : vm (wI σ 69 j v) = kup (vm σ) 2 j v := by
  have := vm_ar (σ := σ) (c := 2) (j := j) (v := v) (by omega) (by omega) h
  rw [show (axm 2).2.2 + j = j from Nat.zero_add j] at this
  exact this
theorem vm_a3 {σ : Sto} {j : Nat} {v : Int32} (h : j < 150) : vm (wI σ 70 j v) = kup (vm σ) 3 j v := by
  have := vm_ar (σ := σ) (c := 3) (j := j) (v := v) (by omega) (by omega) h
  rw [show (axm 3).2.2 + j = j from Nat.zero_add j] at this
  exact this
theorem vm_a4 {σ : Sto} {j : Nat} {v : Int32} (h : j < 150) : vm (wI σ 71 j v) = kup (vm σ) 4 j v := by
  have := vm_ar (σ := σ) (c := 4) (j := j) (v := v) (by omega) (by omega) h
  rw [show (axm 4).2.2 + j = j from Nat.zero_add j] at this
  exact this
theorem vm_a5 {σ : Sto} {j : Nat} {v : Int32} (h : j < 150) : vm (wI σ 72 j v) = kup (vm σ) 5 j v := by
  have := vm_ar (σ := σ) (c := 5) (j := j) (v := v) (by omega) (by omega) h
  rw [show (axm 5).2.2 + j = j from Nat.zero_add j] at this
  exact this
theorem vm_a6 {σ : Sto} {j : Nat} {v : Int32} (h : j < 150) : vm (wI σ 73 j v) = kup (vm σ) 6 j v := by
  have := vm_ar (σ := σ) (c := 6) (j := j) (v := v) (by omega) (by omega) h
  rw [show (axm 6).2.2 + j = j from Nat.zero_add j] at this
  exact this
theorem vm_a7 {σ : Sto} {j : Nat} {v : Int32} (h : j < 150) : vm (wI σ 74 j v) = kup (vm σ) 7 j v := by
  have := vm_ar (σ := σ) (c := 7) (j := j) (v := v) (by omega) (by omega) h
  rw [show (axm 7).2.2 + j = j from Nat.zero_add j] at this
  exact this
theorem vm_a8 {σ : Sto} {j : Nat} {v : Int32} (h : j < 150) : vm (wI σ 75 j v) = kup (vm σ) 8 j v := by
  have := vm_ar (σ := σ) (c := 8) (j := j) (v := v) (by omega) (by omega) h
  rw [show (axm 8).2.2 + j = j from Nat.zero_add j] at this
  exact this
theorem vm_a9 {σ : Sto} {j : Nat} {v : Int32} (h : j < 60) : vm (wI σ 85 j v) = kup (vm σ) 9 j v := by
  have := vm_ar (σ := σ) (c := 9) (j := j) (v := v) (by omega) (by omega) h
  rw [show (axm 9).2.2 + j = j from Nat.zero_add j] at this
  exact this
theorem vm_a11 {σ : Sto} {j : Nat} {v : Int32} (h : j < 4) : vm (wI σ 88 j v) = kup (vm σ) 11 j v := by
  have := vm_ar (σ := σ) (c := 11) (j := j) (v := v) (by omega) (by omega) h
  rw [show (axm 11).2.2 + j = j from Nat.zero_add j] at this
  exact this
/-! house -/
def S_house (w : Int32) (κ : Kp) : Int32 := if ¬ (0 ≤ w.toInt ∧ w.toInt ≤ 1) then -2 else if (κ 0 2).toInt = 14 then -4 else κ 0 2 + 1 - 1
def U_house (w : Int32) (κ : Kp) : Kp := if ¬ (0 ≤ w.toInt ∧ w.toInt ≤ 1) then κ else if (κ 0 2).toInt = 14 then κ else kup (kup (kup κ 1 (κ 0 2).toNatClampNeg w) 2 (κ 0 2).toNatClampNeg 10) 0 2 (κ 0 2 + 1)
theorem tnc {x : Int32} : x.toNatClampNeg = x.toInt.toNat := rfl
theorem Inv.house {κ : Kp} {w : Int32} (h : Inv κ) (h1 : 0 ≤ w.toInt ∧ w.toInt ≤ 1) (h2 : ¬ (κ 0 2).toInt = 14) : Inv (kup (kup (kup κ 1 (κ 0 2).toNatClampNeg w) 2 (κ 0 2).toNatClampNeg 10) 0 2 (κ 0 2 + 1)) := by
  obtain ⟨g1, g2, g3, g4, g5, g6, g7, g8, g9, g10, g11⟩ := h
  have hv : (κ 0 2 + 1).toInt = (κ 0 2).toInt + 1 := iAdd rfl (by decide) (by omega) (by omega)
  generalize hK : kup (kup (kup κ 1 (κ 0 2).toNatClampNeg w) 2 (κ 0 2).toNatClampNeg 10) 0 2 (κ 0 2 + 1) = κ'
  have e : ∀ i, i ≠ 2 → κ' 0 i = κ 0 i := fun i hi => by rw [← hK, kup_n (by omega), kup_n (by omega), kup_n (by omega)]
  have ec : ∀ c i, 3 ≤ c → κ' c i = κ c i := fun c i hc => by rw [← hK, kup_n (by omega), kup_n (by omega), kup_n (by omega)]
  have e2 : κ' 0 2 = κ 0 2 + 1 := by rw [← hK, kup_s]
  have hr : nR κ' = nR κ := by unfold nR; rw [e 3 (by omega)]
  have hn : nH κ' = nH κ + 1 := by unfold nH; rw [e2, hv]; omega
  refine ⟨by rw [e 0 (by omega)]; exact g1, by rw [e 0 (by omega), e 1 (by omega)]; exact g2, by rw [e2, hv]; omega, by rw [e 3 (by omega)]; exact g4, by rw [e 4 (by omega)]; exact g5, by rw [e 5 (by omega)]; exact g6, fun a ha => ?_, fun r hr2 => ?_, fun a p => ?_, fun i hi => ?_, fun i hi => ?_⟩
  · by_cases ea : a = (κ 0 2).toNatClampNeg
    · have a1 : κ' 1 a = w := by rw [← hK, kup_n (by omega), kup_n (by omega), ea, kup_s]
      have a2 : κ' 2 a = 10 := by rw [← hK, kup_n (by omega), ea, kup_s]
      rw [a1, a2]
      exact ⟨h1, by decide, by decide⟩
    · have a1 : κ' 1 a = κ 1 a := by rw [← hK, kup_n (by omega), kup_n (by omega), kup_n (by omega)]
      have a2 : κ' 2 a = κ 2 a := by rw [← hK, kup_n (by omega), kup_n (by omega), kup_n (by omega)]
      rw [a1, a2]
      refine g7 a ?_
      rw [hn] at ha
      rw [tnc] at ea
      unfold nH at ha ⊢
      omega
  · rw [hr] at hr2
    have := g8 r hr2
    rw [e2, hv, e 0 (by omega), ec 3 r (by omega), ec 4 r (by omega), ec 5 r (by omega), ec 6 r (by omega), ec 7 r (by omega), ec 8 r (by omega)]
    omega
  · rw [hr, cnt_congr (Q := aq κ a p) (fun r _ => by unfold aq; rw [ec 3 r (by omega), ec 4 r (by omega)])]
    exact g9 a p
  · rw [ec 9 i (by omega)]; exact g10 i hi
  · rw [ec 10 i (by omega), ec 11 i (by omega)]; exact g11 i hi
theorem X_house (w : Int32) : SpX (wX10_house w) (S_house w) (U_house w) := by
  intro σ post h hp
  have hd : vx σ 0 2 = σ.1 1 2 := rfl
  have hi := h.1.2.2.1
  rw [hd] at hi
  have b1 : ¬ (0 ≤ w.toInt ∧ w.toInt ≤ 1) → post (-2) σ := fun q => by
    have := hp σ h (by unfold U_house; rw [if_pos q]) fm.refl
    unfold S_house at this
    rwa [if_pos q] at this
  unfold wX10_house
  simp only [iLt, show (0 : Int32).toInt = 0 from rfl, show (2 : Int32).toInt = 2 from rfl, show (14 : Int32).toInt = 14 from rfl]
  refine ⟨fun h1 => b1 (by omega), fun h1 => ⟨fun h2 => ⟨fun h3 => ?_, fun h3 => ?_⟩, fun h2 => b1 (by omega)⟩⟩
  · have hin : vp_in (σ.1 1 2) 14 := vp_iff.mpr (by omega)
    have hw : ¬ ¬ (0 ≤ w.toInt ∧ w.toInt ≤ 1) := by omega
    have h14 : ¬ (vx σ 0 2).toInt = 14 := by rw [hd]; omega
    have a1 : ∀ σ' : Sto, vx (wI σ' 13 (σ.1 1 2).toNatClampNeg w) = kup (vx σ') 1 (σ.1 1 2).toNatClampNeg w := fun σ' => vx_ar (c := 1) (by omega) (vp_lt hin)
    have a2 : ∀ σ' : Sto, vx (wI σ' 14 (σ.1 1 2).toNatClampNeg 10) = kup (vx σ') 2 (σ.1 1 2).toNatClampNeg 10 := fun σ' => vx_ar (c := 2) (by omega) (vp_lt hin)
    unfold wX1_addHouse
    refine ⟨hin, hin, ?_⟩
    have hv : vx (wI (wI (wI σ 13 (σ.1 1 2).toNatClampNeg w) 14 (σ.1 1 2).toNatClampNeg 10) 1 2 (σ.1 1 2 + 1)) = kup (kup (kup (vx σ) 1 (σ.1 1 2).toNatClampNeg w) 2 (σ.1 1 2).toNatClampNeg 10) 0 2 (σ.1 1 2 + 1) := by
      rw [vx_sc (j := 2) (by decide), a2, a1]
    have := hp (wI (wI (wI σ 13 (σ.1 1 2).toNatClampNeg w) 14 (σ.1 1 2).toNatClampNeg 10) 1 2 (σ.1 1 2 + 1)) (ox_upd h (fun c a _ _ => by rw [wI_n (by omega), wI_n (by omega), wI_n (by omega)]) hv (((SD.mkc (Or.inl rfl)).trans (SD.mkc (Or.inr (Or.inl rfl)))).trans (SD.mk0 (by omega) (by omega))) (Inv.house h.1 (by omega) h14)) (by rw [hv]; unfold U_house; rw [if_neg hw, if_neg h14]; rfl) (((fm.refl.wI (by omega)).wI (by omega)).wI (by omega))
    unfold S_house at this
    rw [if_neg hw, if_neg h14] at this
    exact this
  · have hw : ¬ ¬ (0 ≤ w.toInt ∧ w.toInt ≤ 1) := by omega
    have h14 : (vx σ 0 2).toInt = 14 := by rw [hd]; omega
    have := hp σ h (by unfold U_house; rw [if_neg hw, if_pos h14]) fm.refl
    unfold S_house at this
    rwa [if_neg hw, if_pos h14] at this
theorem M_house (w : Int32) : SpM (wX11_house w) (S_house w) (U_house w) := by
  intro σ post h hp
  have hd : vm σ 0 2 = σ.1 67 1 := rfl
  have hi := h.1.2.2.1
  rw [hd] at hi
  have b1 : ¬ (0 ≤ w.toInt ∧ w.toInt ≤ 1) → post (-2) σ := fun q => by
    have := hp σ h (by unfold U_house; rw [if_pos q]) fx.refl
    unfold S_house at this
    rwa [if_pos q] at this
  unfold wX11_house
  refine in_ok (br_d (fun h1 => ?_) (fun h1 => b1 (by rw [show (0 : Int32).toInt = 0 from rfl, show (1 : Int32).toInt = 1 from rfl] at h1; exact h1)))
  rw [show (0 : Int32).toInt = 0 from rfl, show (1 : Int32).toInt = 1 from rfl] at h1
  have hw : ¬ ¬ (0 ≤ w.toInt ∧ w.toInt ≤ 1) := by omega
  simp only [iEq, show (14 : Int32).toInt = 14 from rfl]
  refine ⟨fun h3 => ?_, fun h3 => ?_⟩
  · have hin : vp_in (σ.1 67 1) 14 := vp_iff.mpr (by omega)
    have h14 : ¬ (vm σ 0 2).toInt = 14 := by rw [hd]; omega
    refine ⟨hin, hin, ?_⟩
    generalize hτ : wI (wI (wI (wI σ 68 (σ.1 67 1).toNatClampNeg w) 69 (σ.1 67 1).toNatClampNeg 10) 67 1 (σ.1 67 1 + 1)) 67 13 0 = τ
    have hv : vm τ = kup (kup (kup (vm σ) 1 (σ.1 67 1).toNatClampNeg w) 2 (σ.1 67 1).toNatClampNeg 10) 0 2 (σ.1 67 1 + 1) := by
      rw [← hτ, qm.vm (qm.refl.wI (by decide) (fun _ => by decide)), vm_sc (j := 2) (by decide), vm_a2 (vp_lt hin), vm_a1 (vp_lt hin)]
    have := hp τ (om_upd h hv (Inv.house h.1 h1 h14) (Or.inl (by rw [← hτ, wI_1, uS])) ⟨by rw [← hτ]; simp [wI_n], by rw [← hτ]; simp [wI_n]⟩) (by rw [hv]; unfold U_house; rw [if_neg hw, if_neg h14]; rfl) (by rw [← hτ]; exact (((fx.refl.wI (by omega)).wI (by omega)).wI (by omega)).wI (by omega))
    unfold S_house at this
    rw [if_neg hw, if_neg h14] at this
    exact this
  · have h14 : (vm σ 0 2).toInt = 14 := by rw [hd]; omega
    have := hp σ h (by unfold U_house; rw [if_neg hw, if_pos h14]) fx.refl
    unfold S_house at this
    rwa [if_neg hw, if_pos h14] at this

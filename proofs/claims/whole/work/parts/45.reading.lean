/-! reading, takeBack, asOf: the model's side, and the class's over what 'renew' must do (RenewOk) -/
theorem n8 : (8 : Int32).toInt = 8 := rfl
theorem n150 : (150 : Int32).toInt = 150 := rfl
theorem nm20 : (-20000 : Int32).toInt = -20000 := rfl
theorem n20 : (20000 : Int32).toInt = 20000 := rfl
theorem cnt_8 {κ : Kp} (h : Inv κ) {a p : Nat} : nI (cnt (aq κ a p) (nR κ)) = 8 ↔ cnt (aq κ a p) (nR κ) = 8 := by
  have := h.2.2.2.2.2.2.2.2.1 a p
  rw [show (8 : Int32) = nI 8 from rfl, nI_eq (by omega) (by omega)]
theorem M_readingMore (a p o v : Int32) : SpM (wX11_readingMore a p o v) (S_reading a p o v) (U_reading a p o v) := by
  intro σ post h hp
  have no : ¬ okRead a p o v (vm σ) → post (-2) σ := fun q => by
    have := hp σ h (by unfold U_reading; rw [if_neg q]) fx.refl
    unfold S_reading at this
    rwa [if_neg q] at this
  have hd : vm σ 0 0 = σ.1 67 0 := rfl
  have h3 : vm σ 0 3 = σ.1 67 4 := rfl
  unfold wX11_readingMore
  refine isHouse_ok h.1.2.2.1.1 (br_d' (fun h1 => ?_) (fun h1 => no (fun q => h1 q.1)))
  refine isPiece_ok (br_d' (fun h2 => ?_) (fun h2 => no (fun q => h2 q.2.1)))
  refine in_ok (br_d' (fun h4 => ?_) (fun h4 => no (fun q => h4 q.2.2.1)))
  refine in_ok (br_d (fun h5 => ?_) (fun h5 => no (fun q => h5 q.2.2.2)))
  have ok : okRead a p o v (vm σ) := ⟨h1, h2, h4, h5⟩
  refine M_readLoop h.1 h1.1 h2.1 ?_
  have full : fullRead a p (vm σ) → post (-4) σ := fun q => by
    have := hp σ h (by unfold U_reading; rw [if_pos ok, if_pos q]) fx.refl
    unfold S_reading at this
    rwa [if_pos ok, if_pos q] at this
  have hn : σ.1 67 4 = nI (nR (vm σ)) := nR_I h.1
  have hle := nR_le h.1
  refine ⟨fun q => full (Or.inl ?_), fun q1 => And.symm ⟨fun q => full (Or.inr ((cnt_8 h.1).mp q)), fun q2 => ?_⟩⟩
  · rw [hn, show (150 : Int32) = nI 150 from rfl, nI_eq (by omega) (by omega)] at q; exact q
  · have n1 : nR (vm σ) ≠ 150 := fun z => q1 (by rw [hn, z]; rfl)
    have nf : ¬ fullRead a p (vm σ) := fun z => z.elim n1 (fun y => q2 ((cnt_8 h.1).mpr y))
    have hin : vp_in (σ.1 67 4) 150 := by rw [hn]; exact vp_in_nI (by omega) (by omega)
    have hl : (σ.1 67 4).toNatClampNeg < 150 := vp_lt hin
    refine ⟨hin, hin, hin, hin, hin, hin, ?_⟩
    generalize hτ : wI (wI (wI (wI (wI (wI (wI (wI σ 70 (σ.1 67 4).toNatClampNeg a) 71 (σ.1 67 4).toNatClampNeg p) 72 (σ.1 67 4).toNatClampNeg o) 73 (σ.1 67 4).toNatClampNeg v) 74 (σ.1 67 4).toNatClampNeg (σ.1 67 0)) 75 (σ.1 67 4).toNatClampNeg (-1)) 67 4 (σ.1 67 4 + 1)) 67 13 0 = τ
    have hv : vm τ = krd (vm σ) a p o v := by
      rw [← hτ, qm.vm (qm.refl.wI (by decide) (fun _ => by decide)), vm_sc (j := 3) (by decide), vm_a8 hl, vm_a7 hl, vm_a6 hl, vm_a5 hl, vm_a4 hl, vm_a3 hl]
      rfl
    have := hp τ (om_upd h hv (h.1.reading ok nf) (Or.inl (by rw [← hτ, wI_1, uS])) ⟨by rw [← hτ]; simp [wI_n], by rw [← hτ]; simp [wI_n]⟩) (by rw [hv]; unfold U_reading; rw [if_pos ok, if_neg nf]) (by rw [← hτ]; exact (((((((fx.refl.wI (by omega)).wI (by omega)).wI (by omega)).wI (by omega)).wI (by omega)).wI (by omega)).wI (by omega)).wI (by omega))
    unfold S_reading at this
    rw [if_pos ok, if_neg nf] at this
    exact this
theorem M_reading (a p o v : Int32) : SpM (wX11_reading a p o v) (S_reading a p o v) (U_reading a p o v) := fun σ post h hp => M_readingMore a p o v σ post h hp
/-- renew: the tables of the piece are made, those of others stay -/
def RenewOk : Prop := ∀ (p : Int32) (σ : Sto) (post : Sto → Prop), 0 ≤ p.toInt → p.toInt ≤ 3 → Inv (vx σ) → (∀ τ, vx τ = vx σ → fm σ τ → DXp (vx σ) τ p.toNatClampNeg → (∀ q, q < 4 → q ≠ p.toNatClampNeg → DXp (vx σ) σ q → DXp (vx σ) τ q) → post τ) → wX7_renew p σ post
/-- a piece that no change touches -/
def SDp (κ κ' : Kp) (p : Nat) : Prop := (∀ d, pC κ' p d = pC κ p d) ∧ (∀ d, pS κ' p d = pS κ p d) ∧ (∀ a, cN κ' a p = cN κ a p) ∧ (∀ a, tL κ' a p = tL κ a p) ∧ ∀ r, r < nR κ' → kn κ' r = true → (κ' 4 r).toInt = p → r < nR κ ∧ kn κ r = true ∧ (κ 4 r).toInt = p ∧ rdZ κ' r = rdZ κ r
theorem SDp.DXp {κ κ' : Kp} {σ : Sto} {p : Nat} (h : SDp κ κ' p) (g : DXp κ σ p) : DXp κ' σ p := by
  obtain ⟨h1, h2, h3, h4, h5⟩ := h
  obtain ⟨⟨n, g1, q1, q2, q3, q4⟩, g3, g4⟩ := g
  refine ⟨⟨n, g1, q1, q2, fun i hi => ?_, fun d hd => ?_⟩, fun a ha => ?_, fun r a b c => ?_⟩
  · rw [h1, h2]; exact q3 i hi
  · rw [h1]; exact q4 d hd
  · rw [h3, h4]; exact g3 a ha
  · obtain ⟨z1, z2, z3, z4⟩ := h5 r a b c
    rw [z4]
    exact g4 r z1 z2 z3
theorem X_tell_open (hren : RenewOk) (hs : ∀ (κ : Kp) (a p o v : Int32) (q : Nat), Inv κ → okRead a p o v κ → q < 4 → q ≠ p.toNatClampNeg → SDp κ (krd κ a p o v) q) (a p o v : Int32) : SpX (wX10_tell a p o v) (S_reading a p o v) (U_reading a p o v) := by
  intro σ post h hp
  have no : ¬ okRead a p o v (vx σ) → post (-2) σ := fun q => by
    have := hp σ h (by unfold U_reading; rw [if_neg q]) fm.refl
    unfold S_reading at this
    rwa [if_neg q] at this
  have hd : vx σ 0 0 = σ.1 1 0 := rfl
  have h3 : vx σ 0 3 = σ.1 1 5 := rfl
  unfold wX10_tell
  refine noHouse_ok (br_n (fun h1 => ?_) (fun h1 => no (fun q => h1 q.1)))
  refine noPiece_ok (br_n (fun h2 => ?_) (fun h2 => no (fun q => h2 q.2.1)))
  have hn : σ.1 1 5 = nI (nR (vx σ)) := nR_I h.1
  have hle := nR_le h.1
  have nok : ¬ (0 ≤ o.toInt ∧ o.toInt ≤ (σ.1 1 0).toInt ∧ -20000 ≤ v.toInt ∧ v.toInt ≤ 20000) → post (-2) σ := fun q => no (fun z => q ⟨z.2.2.1.1, z.2.2.1.2, z.2.2.2⟩)
  simp only [iLt, iLe, n0, n150, nm20, n20]
  refine ⟨fun q => nok (by omega), fun h4 => ⟨fun q => nok (by omega), fun h5 => ⟨fun q => nok (by omega), fun h6 => ⟨fun h7 => ?_, fun q => nok (by omega)⟩⟩⟩⟩
  have ok : okRead a p o v (vx σ) := ⟨h1, h2, ⟨by omega, by rw [hd]; omega⟩, by omega⟩
  have full : fullRead a p (vx σ) → post (-4) σ := fun q => by
    have := hp σ h (by unfold U_reading; rw [if_pos ok, if_pos q]) fm.refl
    unfold S_reading at this
    rwa [if_pos ok, if_pos q] at this
  have hni : (σ.1 1 5).toInt = nR (vx σ) := by rw [hn, nI_toInt (by omega)]
  refine ⟨fun q => full (Or.inl (by omega)), fun q1 => X_readingsOf h.1 h1.1 h2.1 ?_⟩
  have h8 := h.1.2.2.2.2.2.2.2.2.1 a.toNatClampNeg p.toNatClampNeg
  rw [nI_toInt (by omega), n8]
  refine ⟨fun q2 => ?_, fun q2 => full (Or.inr (by omega))⟩
  have nf : ¬ fullRead a p (vx σ) := fun z => z.elim (by omega) (by omega)
  have hin : vp_in (σ.1 1 5) 150 := vp_iff.mpr (by omega)
  have hl : (σ.1 1 5).toNatClampNeg < 150 := vp_lt hin
  refine ⟨hin, hin, hin, hin, hin, hin, ?_⟩
  generalize hτ : wI (wI (wI (wI (wI (wI (wI σ 15 (σ.1 1 5).toNatClampNeg a) 16 (σ.1 1 5).toNatClampNeg p) 17 (σ.1 1 5).toNatClampNeg o) 18 (σ.1 1 5).toNatClampNeg v) 19 (σ.1 1 5).toNatClampNeg (σ.1 1 0)) 20 (σ.1 1 5).toNatClampNeg (-1)) 1 5 (σ.1 1 5 + 1) = τ
  have hv : vx τ = krd (vx σ) a p o v := by
    rw [← hτ, vx_sc (j := 3) (by decide), vx_a8 hl, vx_a7 hl, vx_a6 hl, vx_a5 hl, vx_a4 hl, vx_a3 hl]
    rfl
  have hfm : fm σ τ := by rw [← hτ]; exact ((((((fm.refl.wI (by omega)).wI (by omega)).wI (by omega)).wI (by omega)).wI (by omega)).wI (by omega)).wI (by omega)
  have hcell : ∀ c, 21 ≤ c → c < 49 → c ≠ 37 → τ.1 c = σ.1 c := fun c x y z => by rw [← hτ, wI_n (by omega), wI_n (by omega), wI_n (by omega), wI_n (by omega), wI_n (by omega), wI_n (by omega), wI_n (by omega)]
  have hinv := h.1.reading ok nf
  refine hren p τ _ h2.1 h2.2 (by rw [hv]; exact hinv) (fun τ2 e1 e2 e3 e4 => ?_)
  rw [hv] at e1 e3 e4
  have := hp τ2 ⟨by rw [e1]; exact hinv, fun q hq => by
    rw [e1]
    by_cases eq : q = p.toNatClampNeg
    · rw [eq]; exact e3
    · exact e4 q hq eq ((hs (vx σ) a p o v q h.1 ok hq eq).DXp ((h.2 q hq).cells hq hcell))⟩ (by rw [e1]; unfold U_reading; rw [if_pos ok, if_neg nf]) (hfm.trans e2)
  unfold S_reading at this
  rw [if_pos ok, if_neg nf] at this
  exact this

/-! how many readings of a house and a piece -/
theorem toN {x : Int32} (h : 0 ≤ x.toInt) : ((x.toNatClampNeg : Nat) : Int) = x.toInt := by rw [tnc]; omega
theorem eqN {x y : Int32} (h : 0 ≤ y.toInt) : x = y ↔ x.toInt = (y.toNatClampNeg : Int) := by rw [toN h, iEq]
theorem nR_I {κ : Kp} (h : Inv κ) : κ 0 3 = nI (nR κ) := iExt rfl (by have := h.2.2.2.1; unfold nR; rw [nI_toInt (by omega)]; omega)
theorem nH_I {κ : Kp} (h : Inv κ) : κ 0 2 = nI (nH κ) := iExt rfl (by have := h.2.2.1; unfold nH; rw [nI_toInt (by omega)]; omega)
theorem nR_le {κ : Kp} (h : Inv κ) : nR κ ≤ 150 := by have := h.2.2.2.1; unfold nR; omega
theorem nH_le {κ : Kp} (h : Inv κ) : nH κ ≤ 14 := by have := h.2.2.1; unfold nH; omega
theorem X_readingsOf {a p : Int32} {σ : Sto} {post : Int32 → Sto → Prop} (ho : Inv (vx σ)) (ha : 0 ≤ a.toInt) (hp : 0 ≤ p.toInt) (h : post (nI (cnt (aq (vx σ) a.toNatClampNeg p.toNatClampNeg) (nR (vx σ)))) σ) : wX1_readingsOf a p σ post := by
  have hn : σ.1 1 5 = nI (nR (vx σ)) := nR_I ho
  have hle := nR_le ho
  unfold wX1_readingsOf
  refine pk_loop (fun k i (c : Nat) => wX1_readingsOf_5 post (fun x3_1 σ_1 => post x3_1 σ_1) k a p (nI c) (nI i) σ) (fun i c => c = cnt (aq (vx σ) a.toNatClampNeg p.toNatClampNeg) i) (nR (vx σ)) 0 0 (Nat.zero_le _) rfl ?_ ?_
  · intro k c hc
    unfold wX1_readingsOf_5
    rw [hn]
    exact ⟨fun _ => by rw [hc]; exact h, fun q => absurd (nI_le (Nat.le_refl _) (by omega)) q⟩
  · intro k i c hi hc kk
    unfold wX1_readingsOf_5
    rw [hn]
    have hin : vp_in (nI i) 150 := vp_in_nI (by omega) (by omega)
    have hcl : (nI i).toNatClampNeg = i := nI_clamp (by omega)
    rw [hcl, ← vx_rd (c := 3) (cell := 15) (by decide) (show i < 150 by omega), ← vx_rd (c := 4) (cell := 16) (by decide) (show i < 150 by omega), nI_1]
    refine ⟨fun q => absurd q (nI_ge hi (by omega)), fun _ => ⟨hin, fun q1 => ?_, fun q1 => ⟨hin, fun q2 => ?_, fun q2 => ?_⟩⟩⟩
    · refine kk c ?_
      show c = cnt _ i + _
      rw [if_neg (by unfold aq; rw [decide_eq_false (fun z => q1 ((eqN ha).mpr z))]; simp), hc]
      rfl
    · refine kk c ?_
      show c = cnt _ i + _
      rw [if_neg (by unfold aq; rw [decide_eq_false (p := (vx σ 4 i).toInt = _) (fun z => q2 ((eqN hp).mpr z))]; simp), hc]
      rfl
    · rw [nI_1]
      refine kk (c + 1) ?_
      show c + 1 = cnt _ i + _
      rw [if_pos (by unfold aq; rw [decide_eq_true ((eqN ha).mp q1), decide_eq_true ((eqN hp).mp q2)]; rfl), hc]
theorem M_readLoop {a p o v : Int32} {σ : Sto} {post : Int32 → Sto → Prop} {K : Int32 → Int32 → Int32 → Int32 → Int32 → Sto → Prop} (ho : Inv (vm σ)) (ha : 0 ≤ a.toInt) (hp : 0 ≤ p.toInt) (h : K a p o v (nI (cnt (aq (vm σ) a.toNatClampNeg p.toNatClampNeg) (nR (vm σ)))) σ) : ∃ k, wX11_readingMore_50 post K k a p o v 0 0 σ := by
  have hn : σ.1 67 4 = nI (nR (vm σ)) := nR_I ho
  have hle := nR_le ho
  refine pk_loop (fun k i (c : Nat) => wX11_readingMore_50 post K k a p o v (nI c) (nI i) σ) (fun i c => c = cnt (aq (vm σ) a.toNatClampNeg p.toNatClampNeg) i) (nR (vm σ)) 0 0 (Nat.zero_le _) rfl ?_ ?_
  · intro k c hc
    unfold wX11_readingMore_50
    rw [hn]
    exact ⟨fun _ => by rw [hc]; exact h, fun q => absurd (nI_le (Nat.le_refl _) (by omega)) q⟩
  · intro k i c hi hc kk
    unfold wX11_readingMore_50 wX11_readingMore_87 wX11_readingMore_88
    rw [hn]
    have hin : vp_in (nI i) 150 := vp_in_nI (by omega) (by omega)
    have hcl : (nI i).toNatClampNeg = i := nI_clamp (by omega)
    rw [hcl, ← vm_rd (c := 3) (cell := 70) (by decide) (show i < 150 by omega), ← vm_rd (c := 4) (cell := 71) (by decide) (show i < 150 by omega), nI_1, nI_1]
    have z0 : nI c + 0 = nI c := by rw [← nI_0, nI_add]; rfl
    refine ⟨fun q => absurd q (nI_ge hi (by omega)), fun _ => ⟨hin, fun q1 => ?_, fun q1 => ⟨hin, fun q2 => ?_, fun q2 => ?_⟩⟩⟩
    · rw [z0]
      refine kk c ?_
      show c = cnt _ i + _
      rw [if_neg (by unfold aq; rw [decide_eq_false (fun z => q1 ((eqN ha).mpr z))]; simp), hc]
      rfl
    · rw [z0]
      refine kk c ?_
      show c = cnt _ i + _
      rw [if_neg (by unfold aq; rw [decide_eq_false (p := (vm σ 4 i).toInt = _) (fun z => q2 ((eqN hp).mpr z))]; simp), hc]
      rfl
    · refine kk (c + 1) ?_
      show c + 1 = cnt _ i + _
      rw [if_pos (by unfold aq; rw [decide_eq_true ((eqN ha).mp q1), decide_eq_true ((eqN hp).mp q2)]; rfl), hc]
/-! a reading more -/
def krd (κ : Kp) (a p o v : Int32) : Kp := kup (kup (kup (kup (kup (kup (kup κ 3 (nR κ) a) 4 (nR κ) p) 5 (nR κ) o) 6 (nR κ) v) 7 (nR κ) (κ 0 0)) 8 (nR κ) (-1)) 0 3 (κ 0 3 + 1)
def okRead (a p o v : Int32) (κ : Kp) : Prop := okHouse a κ ∧ (0 ≤ p.toInt ∧ p.toInt ≤ 3) ∧ (0 ≤ o.toInt ∧ o.toInt ≤ (κ 0 0).toInt) ∧ (-20000 ≤ v.toInt ∧ v.toInt ≤ 20000)
def fullRead (a p : Int32) (κ : Kp) : Prop := nR κ = 150 ∨ cnt (aq κ a.toNatClampNeg p.toNatClampNeg) (nR κ) = 8
noncomputable def S_reading (a p o v : Int32) (κ : Kp) : Int32 := @ite _ (okRead a p o v κ) (Classical.propDecidable _) (@ite _ (fullRead a p κ) (Classical.propDecidable _) (-4) (κ 0 3 + 1 - 1)) (-2)
noncomputable def U_reading (a p o v : Int32) (κ : Kp) : Kp := @ite _ (okRead a p o v κ) (Classical.propDecidable _) (@ite _ (fullRead a p κ) (Classical.propDecidable _) κ (krd κ a p o v)) κ
section KRD
variable {κ : Kp} {a p o v : Int32}
theorem krd_0 {i : Nat} (h : i ≠ 3) : krd κ a p o v 0 i = κ 0 i := by unfold krd; rw [kup_n (by omega), kup_n (by omega), kup_n (by omega), kup_n (by omega), kup_n (by omega), kup_n (by omega), kup_n (by omega)]
theorem krd_03 : krd κ a p o v 0 3 = κ 0 3 + 1 := by unfold krd; rw [kup_s]
theorem krd_c {c i : Nat} (h0 : c ≠ 0) (h : i ≠ nR κ ∨ c < 3 ∨ 9 ≤ c) : krd κ a p o v c i = κ c i := by unfold krd; rw [kup_n (by omega), kup_n (by omega), kup_n (by omega), kup_n (by omega), kup_n (by omega), kup_n (by omega), kup_n (by omega)]
theorem krd_3 : krd κ a p o v 3 (nR κ) = a := by unfold krd; rw [kup_n (by omega), kup_n (by omega), kup_n (by omega), kup_n (by omega), kup_n (by omega), kup_n (by omega), kup_s]
theorem krd_4 : krd κ a p o v 4 (nR κ) = p := by unfold krd; rw [kup_n (by omega), kup_n (by omega), kup_n (by omega), kup_n (by omega), kup_n (by omega), kup_s]
theorem krd_5 : krd κ a p o v 5 (nR κ) = o := by unfold krd; rw [kup_n (by omega), kup_n (by omega), kup_n (by omega), kup_n (by omega), kup_s]
theorem krd_6 : krd κ a p o v 6 (nR κ) = v := by unfold krd; rw [kup_n (by omega), kup_n (by omega), kup_n (by omega), kup_s]
theorem krd_7 : krd κ a p o v 7 (nR κ) = κ 0 0 := by unfold krd; rw [kup_n (by omega), kup_n (by omega), kup_s]
theorem krd_8 : krd κ a p o v 8 (nR κ) = -1 := by unfold krd; rw [kup_n (by omega), kup_s]
theorem krd_nR (h : Inv κ) : nR (krd κ a p o v) = nR κ + 1 := by
  have := h.2.2.2.1
  unfold nR
  rw [krd_03, iAdd (a := (κ 0 3).toInt) (b := 1) rfl (by decide) (by omega) (by omega)]
  omega
theorem Inv.reading (h : Inv κ) (ok : okRead a p o v κ) (nf : ¬ fullRead a p κ) : Inv (krd κ a p o v) := by
  have hh := h
  obtain ⟨g1, g2, g3, g4, g5, g6, g7, g8, g9, g10, g11⟩ := h
  obtain ⟨o1, o2, o3, o4⟩ := ok
  unfold okHouse at o1
  have hn : nR κ ≠ 150 := fun q => nf (Or.inl q)
  have hnr : (nR κ : Int) = (κ 0 3).toInt := by unfold nR; omega
  have hR := krd_nR (a := a) (p := p) (o := o) (v := v) hh
  have hH : nH (krd κ a p o v) = nH κ := by unfold nH; rw [krd_0 (by omega)]
  refine ⟨by rw [krd_0 (by omega)]; exact g1, by rw [krd_0 (by omega), krd_0 (by omega)]; exact g2, by rw [krd_0 (by omega)]; exact g3, ?_, by rw [krd_0 (by omega)]; exact g5, by rw [krd_0 (by omega)]; exact g6, fun i hi => ?_, fun r hr => ?_, fun a' p' => ?_, fun i hi => by rw [krd_c (by omega) (by omega)]; exact g10 i hi, fun i hi => by rw [krd_c (by omega) (by omega), krd_c (by omega) (by omega)]; exact g11 i hi⟩
  · rw [krd_03, iAdd (a := (κ 0 3).toInt) (b := 1) rfl (by decide) (by omega) (by omega)]
    omega
  · rw [hH] at hi
    rw [krd_c (by omega) (by omega), krd_c (by omega) (by omega)]
    exact g7 i hi
  · rw [hR] at hr
    rw [krd_0 (by omega), krd_0 (by omega)]
    by_cases e : r = nR κ
    · subst e
      rw [krd_3, krd_4, krd_5, krd_6, krd_7, krd_8, nm1]
      omega
    · rw [krd_c (by omega) (by omega), krd_c (by omega) (by omega), krd_c (by omega) (by omega), krd_c (by omega) (by omega), krd_c (by omega) (by omega), krd_c (by omega) (by omega)]
      exact g8 r (by omega)
  · rw [hR]
    show cnt _ (nR κ) + _ ≤ 8
    have e : cnt (aq (krd κ a p o v) a' p') (nR κ) = cnt (aq κ a' p') (nR κ) := cnt_congr (fun r hr => by unfold aq; rw [krd_c (by omega) (by omega), krd_c (by omega) (by omega)])
    rw [e]
    have := g9 a' p'
    by_cases q : aq (krd κ a p o v) a' p' (nR κ) = true
    · rw [if_pos q]
      unfold aq at q
      rw [krd_3, krd_4] at q
      simp only [Bool.and_eq_true, decide_eq_true_eq] at q
      have ea : a' = a.toNatClampNeg := by rw [tnc]; omega
      have ep : p' = p.toNatClampNeg := by rw [tnc]; omega
      have h8 : cnt (aq κ a' p') (nR κ) ≠ 8 := fun z => nf (Or.inr (by rw [← ea, ← ep]; exact z))
      omega
    · rw [if_neg q]; omega
end KRD

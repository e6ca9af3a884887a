/-! small methods: guards -/
theorem in_ok {a b c : Int32} {σ : Sto} {post : Bool → Sto → Prop} (h : post (decide (b.toInt ≤ a.toInt ∧ a.toInt ≤ c.toInt)) σ) : wX11_in a b c σ post := by
  unfold wX11_in
  simp only [iLt]
  refine ⟨fun h1 => ?_, fun h1 => ⟨fun h2 => ?_, fun h2 => ?_⟩⟩
  · rw [decide_eq_false (by omega)] at h; exact h
  · rw [decide_eq_false (by omega)] at h; exact h
  · rw [decide_eq_true (by omega)] at h; exact h
theorem isPiece_ok {a : Int32} {σ : Sto} {post : Bool → Sto → Prop} (h : post (decide (0 ≤ a.toInt ∧ a.toInt ≤ 3)) σ) : wX11_isPiece a σ post := in_ok h
theorem isSheet_ok {a : Int32} {σ : Sto} {post : Bool → Sto → Prop} (h : post (decide (0 ≤ a.toInt ∧ a.toInt ≤ 3)) σ) : wX11_isSheet a σ post := in_ok h
theorem isHouse_ok {a : Int32} {σ : Sto} {post : Bool → Sto → Prop} (hi : 0 ≤ (σ.1 67 1).toInt) (h : post (decide (0 ≤ a.toInt ∧ a.toInt < (σ.1 67 1).toInt)) σ) : wX11_isHouse a σ post := by
  unfold wX11_isHouse
  refine in_ok ?_
  have e : (σ.1 67 1 - 1).toInt = (σ.1 67 1).toInt - 1 := iSub rfl (by decide) (by omega) (by have := iR (σ.1 67 1); omega)
  rw [e]
  rw [show decide ((0 : Int32).toInt ≤ a.toInt ∧ a.toInt ≤ (σ.1 67 1).toInt - 1) = decide (0 ≤ a.toInt ∧ a.toInt < (σ.1 67 1).toInt) from decide_eq_decide.mpr (by rw [show (0 : Int32).toInt = 0 by decide]; omega)]
  exact h
theorem noHouse_ok {a : Int32} {σ : Sto} {post : Bool → Sto → Prop} (h : post (!decide (0 ≤ a.toInt ∧ a.toInt < (σ.1 1 2).toInt)) σ) : wX10_noHouse a σ post := by
  unfold wX10_noHouse
  simp only [iLt, show (0 : Int32).toInt = 0 from rfl]
  refine ⟨fun h1 => ?_, fun h1 => ⟨fun h2 => ?_, fun h2 => ?_⟩⟩
  · rw [decide_eq_false (by omega)] at h; exact h
  · rw [decide_eq_true (by omega)] at h; exact h
  · rw [decide_eq_false (by omega)] at h; exact h
theorem noPiece_ok {a : Int32} {σ : Sto} {post : Bool → Sto → Prop} (h : post (!decide (0 ≤ a.toInt ∧ a.toInt ≤ 3)) σ) : wX10_noPiece a σ post := by
  unfold wX10_noPiece
  simp only [iLt, show (0 : Int32).toInt = 0 from rfl, show (4 : Int32).toInt = 4 from rfl]
  refine ⟨fun h1 => ?_, fun h1 => ⟨fun h2 => ?_, fun h2 => ?_⟩⟩
  · rw [decide_eq_false (by omega)] at h; exact h
  · rw [decide_eq_true (by omega)] at h; exact h
  · rw [decide_eq_false (by omega)] at h; exact h
theorem noSheet_ok {a : Int32} {σ : Sto} {post : Bool → Sto → Prop} (h : post (!decide (0 ≤ a.toInt ∧ a.toInt ≤ 3)) σ) : wX10_noSheet a σ post := noPiece_ok (a := a) (σ := σ) (post := post) h
theorem noType_ok {a : Int32} {σ : Sto} {post : Bool → Sto → Prop} (h : post (!decide (0 ≤ a.toInt ∧ a.toInt ≤ 2)) σ) : wX10_noType a σ post := by
  unfold wX10_noType
  simp only [iLt, show (0 : Int32).toInt = 0 from rfl, show (3 : Int32).toInt = 3 from rfl]
  refine ⟨fun h1 => ?_, fun h1 => ⟨fun h2 => ?_, fun h2 => ?_⟩⟩
  · rw [decide_eq_false (by omega)] at h; exact h
  · rw [decide_eq_true (by omega)] at h; exact h
  · rw [decide_eq_false (by omega)] at h; exact h
/-- a branch on a decided guard -/
theorem br_d {p : Prop} [Decidable p] {A B : Prop} (ht : p → A) (hf : ¬ p → B) : ((decide p = true) → A) ∧ ((decide p = false) → B) := ⟨fun h => ht (of_decide_eq_true h), fun h => hf (of_decide_eq_false h)⟩
theorem br_d' {p : Prop} [Decidable p] {A B : Prop} (ht : p → A) (hf : ¬ p → B) : ((decide p = false) → B) ∧ ((decide p = true) → A) := (br_d ht hf).symm
theorem br_n {p : Prop} [Decidable p] {A B : Prop} (ht : p → A) (hf : ¬ p → B) : (((!decide p) = true) → B) ∧ (((!decide p) = false) → A) := ⟨fun h => hf (by simpa using h), fun h => ht (by simpa using h)⟩
/-! Inv under a change -/
theorem Inv.chg {κ κ' : Kp} (h : Inv κ) (e0 : ∀ i, i ≤ 3 → κ' 0 i = κ 0 i) (f4 : 1 ≤ (κ' 0 4).toInt ∧ (κ' 0 4).toInt ≤ 5) (f5 : 0 ≤ (κ' 0 5).toInt ∧ (κ' 0 5).toInt ≤ 60) (e1 : ∀ i, κ' 1 i = κ 1 i) (e2 : ∀ i, i < nH κ → 1 ≤ (κ' 2 i).toInt ∧ (κ' 2 i).toInt ≤ 1000) (e3 : ∀ c i, 3 ≤ c → c ≤ 8 → κ' c i = κ c i) (t : ∀ i, i < 60 → 0 ≤ (κ' 9 i).toInt ∧ (κ' 9 i).toInt ≤ 255)
    (s : ∀ s, s < 4 → (-1 ≤ (κ' 10 s).toInt ∧ (κ' 10 s).toInt ≤ 2) ∧ 0 ≤ (κ' 11 s).toInt ∧ (κ' 11 s).toInt ≤ 60) : Inv κ' := by
  obtain ⟨h1, h2, h3, h4, -, -, h7, h8, h9, -, -⟩ := h
  have hn : nH κ' = nH κ := by unfold nH; rw [e0 2 (by omega)]
  have hr : nR κ' = nR κ := by unfold nR; rw [e0 3 (by omega)]
  refine ⟨?_, ?_, ?_, ?_, f4, f5, fun a ha => ?_, fun r hr2 => ?_, fun a p => ?_, t, s⟩
  · rw [e0 0 (by omega)]; exact h1
  · rw [e0 0 (by omega), e0 1 (by omega)]; exact h2
  · rw [e0 2 (by omega)]; exact h3
  · rw [e0 3 (by omega)]; exact h4
  · rw [hn] at ha
    rw [e1]
    exact ⟨(h7 a ha).1, e2 a ha⟩
  · rw [hr] at hr2
    rw [e0 0 (by omega), e0 2 (by omega), e3 3 r (by omega) (by omega), e3 4 r (by omega) (by omega), e3 5 r (by omega) (by omega), e3 6 r (by omega) (by omega), e3 7 r (by omega) (by omega), e3 8 r (by omega) (by omega)]
    exact h8 r hr2
  · rw [hr]
    rw [cnt_congr (Q := aq κ a p) (fun r _ => by unfold aq; rw [e3 3 r (by omega) (by omega), e3 4 r (by omega) (by omega)])]
    exact h9 a p
/-! pass -/
def okPass (n : Int32) (κ : Kp) : Bool := decide (1 ≤ n.toInt ∧ n.toInt ≤ 100 ∧ (κ 0 0).toInt + n.toInt ≤ 399)
def S_pass (n : Int32) (κ : Kp) : Int32 := if okPass n κ = true then κ 0 0 + n else -2
def U_pass (n : Int32) (κ : Kp) : Kp := if okPass n κ = true then kup κ 0 0 (κ 0 0 + n) else κ
theorem Inv.day {κ : Kp} {v : Int32} (h : Inv κ) (h1 : (κ 0 0).toInt ≤ v.toInt) (h2 : v.toInt ≤ 399) : Inv (kup κ 0 0 v) := by
  obtain ⟨g1, g2, g3, g4, g5, g6, g7, g8, g9, g10, g11⟩ := h
  have e : ∀ i, i ≠ 0 → kup κ 0 0 v 0 i = κ 0 i := fun i hi => kup_n (by omega)
  have ec : ∀ c i, c ≠ 0 → kup κ 0 0 v c i = κ c i := fun c i hc => kup_n (by omega)
  have hn : nH (kup κ 0 0 v) = nH κ := by unfold nH; rw [e 2 (by omega)]
  have hr : nR (kup κ 0 0 v) = nR κ := by unfold nR; rw [e 3 (by omega)]
  refine ⟨by rw [kup_s]; omega, by rw [kup_s, e 1 (by omega)]; omega, by rw [e 2 (by omega)]; exact g3, by rw [e 3 (by omega)]; exact g4, by rw [e 4 (by omega)]; exact g5, by rw [e 5 (by omega)]; exact g6, fun a ha => ?_, fun r hr2 => ?_, fun a p => ?_, fun i hi => ?_, fun i hi => ?_⟩
  · rw [hn] at ha
    rw [ec 1 a (by omega), ec 2 a (by omega)]; exact g7 a ha
  · rw [hr] at hr2
    have := g8 r hr2
    rw [kup_s, e 2 (by omega), ec 3 r (by omega), ec 4 r (by omega), ec 5 r (by omega), ec 6 r (by omega), ec 7 r (by omega), ec 8 r (by omega)]
    omega
  · rw [hr, cnt_congr (Q := aq κ a p) (fun r _ => by unfold aq; rw [ec 3 r (by omega), ec 4 r (by omega)])]
    exact g9 a p
  · rw [ec 9 i (by omega)]; exact g10 i hi
  · rw [ec 10 i (by omega), ec 11 i (by omega)]; exact g11 i hi
theorem X_pass (n : Int32) : SpX (wX10_pass n) (S_pass n) (U_pass n) := by
  intro σ post h hp
  have hd : vx σ 0 0 = σ.1 1 0 := rfl
  have hi := h.1.1
  rw [hd] at hi
  unfold wX10_pass
  have no : okPass n (vx σ) = false → post (-2) σ := fun q => by
    have := hp σ h (by unfold U_pass; rw [if_neg (by rw [q]; decide)]) fm.refl
    unfold S_pass at this
    rwa [if_neg (by rw [q]; decide)] at this
  have e399 : (399 - σ.1 1 0).toInt = 399 - (σ.1 1 0).toInt := iSub (by decide) rfl (by omega) (by omega)
  simp only [iLt, iLe, e399, show (1 : Int32).toInt = 1 from rfl, show (100 : Int32).toInt = 100 from rfl]
  refine ⟨fun h1 => no (decide_eq_false (by rw [hd]; omega)), fun h1 => ⟨fun h2 => no (decide_eq_false (by rw [hd]; omega)), fun h2 => ⟨fun h3 => ?_, fun h3 => no (decide_eq_false (by rw [hd]; omega))⟩⟩⟩
  have hok : okPass n (vx σ) = true := decide_eq_true (by rw [hd]; omega)
  have ev : (σ.1 1 0 + n).toInt = (σ.1 1 0).toInt + n.toInt := iAdd rfl rfl (by omega) (by omega)
  have hv : vx (wI σ 1 0 (σ.1 1 0 + n)) = kup (vx σ) 0 0 (σ.1 1 0 + n) := vx_sc (by decide)
  have := hp (wI σ 1 0 (σ.1 1 0 + n)) (ox_upd h (fun c a _ _ => wI_n (by omega)) hv (SD.day h.1 (by rw [hd, ev]; omega)) (Inv.day h.1 (by rw [hd, ev]; omega) (by rw [ev]; omega))) (by rw [hv]; unfold U_pass; rw [if_pos hok]; rfl) (fm.refl.wI (by omega))
  unfold S_pass at this
  rw [if_pos hok] at this
  exact this
theorem M_pass (n : Int32) : SpM (wX11_pass n) (S_pass n) (U_pass n) := by
  intro σ post h hp
  have hd : vm σ 0 0 = σ.1 67 0 := rfl
  have hi := h.1.1
  rw [hd] at hi
  unfold wX11_pass
  have no : okPass n (vm σ) = false → post (-2) σ := fun q => by
    have := hp σ h (by unfold U_pass; rw [if_neg (by rw [q]; decide)]) fx.refl
    unfold S_pass at this
    rwa [if_neg (by rw [q]; decide)] at this
  refine in_ok (br_d' (fun h1 => ?_) (fun h1 => no (decide_eq_false (by rw [hd]; rw [show (1 : Int32).toInt = 1 from rfl, show (100 : Int32).toInt = 100 from rfl] at h1; omega))))
  rw [show (1 : Int32).toInt = 1 from rfl, show (100 : Int32).toInt = 100 from rfl] at h1
  have ev : (σ.1 67 0 + n).toInt = (σ.1 67 0).toInt + n.toInt := iAdd rfl rfl (by omega) (by omega)
  simp only [iLe, ev, show (399 : Int32).toInt = 399 from rfl]
  refine ⟨fun h2 => ?_, fun h2 => no (decide_eq_false (by rw [hd]; omega))⟩
  have hok : okPass n (vm σ) = true := decide_eq_true (by rw [hd]; omega)
  have hv : vm (wI (wI σ 67 0 (σ.1 67 0 + n)) 67 13 0) = kup (vm σ) 0 0 (σ.1 67 0 + n) := by
    rw [qm.vm (qm.refl.wI (by decide) (fun _ => by decide)), vm_sc (j := 0) (by decide)]
  have := hp (wI (wI σ 67 0 (σ.1 67 0 + n)) 67 13 0) (om_upd h hv (Inv.day h.1 (by rw [hd, ev]; omega) (by rw [ev]; omega)) (Or.inl (by rw [wI_1, uS])) ⟨by rw [wI_n (by omega), wI_n (by omega)], by rw [wI_n (by omega), wI_n (by omega)]⟩) (by rw [hv]; unfold U_pass; rw [if_pos hok]; rfl) ((fx.refl.wI (by omega)).wI (by omega))
  unfold S_pass at this
  rw [if_pos hok] at this
  exact this

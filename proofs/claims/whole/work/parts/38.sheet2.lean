/-! sheet, lose -/
theorem n3 : (3 : Int32).toInt = 3 := rfl
theorem n2 : (2 : Int32).toInt = 2 := rfl
def okS (a : Int32) : Prop := 0 ≤ a.toInt ∧ a.toInt ≤ 3
theorem okS.lt {a : Int32} (h : okS a) : a.toNatClampNeg < 4 := by unfold okS at h; rw [tnc]; omega
theorem okS.in {a : Int32} (h : okS a) : vp_in a 4 := by unfold okS at h; exact vp_iff.mpr (by omega)
def okT (t : Int32) : Prop := 0 ≤ t.toInt ∧ t.toInt ≤ 2
/-- a finding -/
theorem X_find {σ : Sto} {f : Int32} {post : Int32 → Sto → Prop} (h : OX σ) (hp : ∀ τ, OX τ → vx τ = kup (vx σ) 0 6 f → fm σ τ → post (-10 - f) τ) : wX9_find f σ post := by
  have hv : vx (wI σ 9 3 f) = kup (vx σ) 0 6 f := vx_sc (by decide)
  exact hp _ (ox_upd h (fun c a _ _ => wI_n (by omega)) hv (SD.mk0 (by omega) (by omega)) (h.1.kup0 (by omega) (fun q => by omega) (fun q => by omega))) hv (fm.refl.wI (by omega))
theorem M_find0 {σ : Sto} {f : Int32} (h : OM σ) : OM (wI σ 67 41 f) ∧ vm (wI σ 67 41 f) = kup (vm σ) 0 6 f ∧ fx σ (wI σ 67 41 f) := by
  have hv : vm (wI σ 67 41 f) = kup (vm σ) 0 6 f := vm_sc (by decide)
  exact ⟨om_upd h hv (h.1.kup0 (by omega) (fun q => by omega) (fun q => by omega)) (Or.inr ⟨by rw [wI_1, uN (by omega)], fun c a b => ⟨wI_n (by omega), rfl⟩, SD.mk0 (by omega) (by omega)⟩) ⟨wI_n (by omega), wI_n (by omega)⟩, hv, fx.refl.wI (by omega)⟩
theorem M_find {σ : Sto} {f : Int32} {post : Int32 → Sto → Prop} (h : OM σ) (hp : ∀ τ, OM τ → vm τ = kup (vm σ) 0 6 f → fx σ τ → post (-10 - f) τ) : wX11_meets f σ post := hp _ (M_find0 h).1 (M_find0 h).2.1 (M_find0 h).2.2
noncomputable def S_sheet (a t n : Int32) (κ : Kp) : Int32 := @ite _ (okS a ∧ okT t ∧ n.toInt ≤ 60) (Classical.propDecidable _) (if 0 ≤ n.toInt then n else -10 - 5) (-2)
noncomputable def U_sheet (a t n : Int32) (κ : Kp) : Kp := @ite _ (okS a ∧ okT t ∧ n.toInt ≤ 60) (Classical.propDecidable _) (if 0 ≤ n.toInt then kr (kup (kup κ 10 a.toNatClampNeg t) 11 a.toNatClampNeg n) (12 + a.toNatClampNeg) (fun _ => 0) else kup κ 0 6 5) κ
theorem Inv.sheet {κ : Kp} {t n : Int32} {s : Nat} (h : Inv κ) (ht : okT t) (hn : 0 ≤ n.toInt ∧ n.toInt ≤ 60) : Inv (kr (kup (kup κ 10 s t) 11 s n) (12 + s) (fun _ => 0)) := by
  unfold okT at ht
  exact ((h.kupc (Or.inr (by omega)) (fun q => by omega) (fun q => by omega) (fun _ => by omega) (fun q => by omega)).kupc (Or.inr (by omega)) (fun q => by omega) (fun q => by omega) (fun q => by omega) (fun _ => hn)).krow (by omega)
theorem SD.sheet {κ : Kp} {t n : Int32} {s : Nat} : SD κ (kr (kup (kup κ 10 s t) 11 s n) (12 + s) (fun _ => 0)) := ((SD.mkc (Or.inr (Or.inr (by omega)))).trans (SD.mkc (Or.inr (Or.inr (by omega))))).trans (sd_row (by omega))
theorem X_sheet (a t n : Int32) : SpX (wX10_sheet a t n) (S_sheet a t n) (U_sheet a t n) := by
  intro σ post h hp
  have no : ¬ (okS a ∧ okT t ∧ n.toInt ≤ 60) → post (-2) σ := fun q => by
    have := hp σ h (by unfold U_sheet; rw [if_neg q]) fm.refl
    unfold S_sheet at this
    rwa [if_neg q] at this
  unfold wX10_sheet
  refine noSheet_ok (br_n (fun h1 => ?_) (fun h1 => no (fun q => h1 q.1)))
  refine noType_ok (br_n (fun h2 => ?_) (fun h2 => no (fun q => h2 q.2.1)))
  simp only [iLe, n60, n0]
  refine ⟨fun h3 => ?_, fun h3 => no (fun q => h3 q.2.2)⟩
  have hs : okS a := h1
  have ok : okS a ∧ okT t ∧ n.toInt ≤ 60 := ⟨h1, h2, h3⟩
  refine ⟨fun h4 => ?_, fun h4 => ?_⟩
  · unfold wX9_make
    refine ⟨hs.in, hs.in, hs.in, fillI_ok (by omega) ?_⟩
    generalize hτ : wA (wI (wI σ 65 a.toNatClampNeg t) 66 a.toNatClampNeg n) (61 + a.toNatClampNeg) (fun i => if i < 60 then 0 else (wI (wI σ 65 a.toNatClampNeg t) 66 a.toNatClampNeg n).1 (61 + a.toNatClampNeg) i) = τ
    have hv : vx τ = kr (kup (kup (vx σ) 10 a.toNatClampNeg t) 11 a.toNatClampNeg n) (12 + a.toNatClampNeg) (fun _ => 0) := by
      rw [← hτ, vx_row hs.lt, vx_a11 hs.lt, vx_a10 hs.lt]
      congr 1
      funext i
      by_cases q : i < 60 <;> simp [q]
    have hl := hs.lt
    have := hp τ (ox_upd h (fun c a b _ => by rw [← hτ, wA_n' (by omega), wI_n (by omega), wI_n (by omega)]) hv SD.sheet (h.1.sheet h2 ⟨h4, h3⟩)) (by rw [hv]; unfold U_sheet; rw [if_pos ok, if_pos h4]) (by rw [← hτ]; exact ((fm.refl.wI (by omega)).wI (by omega)).wA (by omega))
    unfold S_sheet at this
    rw [if_pos ok, if_pos h4] at this
    exact this
  · refine X_find h (fun τ a1 a2 a3 => ?_)
    have := hp τ a1 (by rw [a2]; unfold U_sheet; rw [if_pos ok, if_neg h4]) a3
    unfold S_sheet at this
    rw [if_pos ok, if_neg h4] at this
    exact this
theorem i60 {a x : Int32} (ha : okS a) (hx : 0 ≤ x.toInt ∧ x.toInt < 60) : ((60 : Int32) * a + x).toInt = 60 * a.toInt + x.toInt ∧ vp_in ((60 : Int32) * a + x) 240 ∧ ((60 : Int32) * a + x).toNatClampNeg = 60 * a.toNatClampNeg + x.toNatClampNeg := by
  unfold okS at ha
  have e1 : ((60 : Int32) * a).toInt = 60 * a.toInt := iMul (by decide) rfl (by omega) (by omega)
  have e2 : ((60 : Int32) * a + x).toInt = 60 * a.toInt + x.toInt := iAdd e1 rfl (by omega) (by omega)
  refine ⟨e2, vp_iff.mpr (by rw [e2]; omega), ?_⟩
  rw [tnc, tnc, tnc, e2]
  omega
theorem sheetM_loop {a n : Int32} {σ : Sto} {post : Int32 → Sto → Prop} {K : Int32 → Sto → Prop} (ha : okS a) (h : K n (wA σ 89 (fun i => if 60 * a.toNatClampNeg ≤ i ∧ i < 60 * a.toNatClampNeg + 60 then 0 else σ.1 89 i))) : ∃ k, wX11_sheet_59 post K k a n 0 σ := by
  refine pk_loop (fun k i s => wX11_sheet_59 post K k a n (nI i) s) (fun i s => s = wA σ 89 (fun j => if 60 * a.toNatClampNeg ≤ j ∧ j < 60 * a.toNatClampNeg + i then 0 else σ.1 89 j)) 60 0 σ (Nat.zero_le _) ?_ ?_ ?_
  · have : (fun j => if 60 * a.toNatClampNeg ≤ j ∧ j < 60 * a.toNatClampNeg + 0 then 0 else σ.1 89 j) = σ.1 89 := by
      funext j
      rw [if_neg (by omega)]
    rw [this, wA_self]
  · intro k s hs
    unfold wX11_sheet_59
    exact ⟨fun _ => by rw [hs]; exact h, fun q => absurd (nI_le (Nat.le_refl 60) (by omega)) q⟩
  · intro k i s hi hs kk
    unfold wX11_sheet_59
    have hx : 0 ≤ (nI i).toInt ∧ (nI i).toInt < 60 := by rw [nI_toInt (by omega)]; omega
    obtain ⟨-, e2, e3⟩ := i60 ha hx
    refine ⟨fun q => absurd q (nI_ge (b := 60) hi (by omega)), fun _ => ⟨e2, ?_⟩⟩
    rw [nI_1, e3, nI_clamp (by omega)]
    refine kk _ ?_
    rw [hs, wI_wA]
    congr 1
    funext j
    unfold upd
    by_cases e1 : j = 60 * a.toNatClampNeg + i
    · rw [if_pos e1, if_pos (by omega)]
    · rw [if_neg e1]
      show (if 60 * a.toNatClampNeg ≤ j ∧ j < 60 * a.toNatClampNeg + i then 0 else σ.1 89 j) = _
      by_cases e4 : 60 * a.toNatClampNeg ≤ j ∧ j < 60 * a.toNatClampNeg + i
      · rw [if_pos e4, if_pos (by omega)]
      · rw [if_neg e4, if_neg (by omega)]
theorem vm_there {σ : Sto} {s : Nat} {t : Int32} (hs : s < 4) : vm (wI (wI σ 86 s 1) 87 s t) = kup (vm σ) 10 s t := by
  funext c i
  unfold vm
  by_cases e0 : c = 0
  · subst e0
    rw [if_pos rfl, kup_n (by omega), if_pos rfl]
    unfold sm
    split <;> first | rw [wI_n (by omega), wI_n (by omega)] | rfl
  · rw [if_neg e0]
    by_cases e10 : c = 10
    · subst e10
      rw [if_pos rfl]
      by_cases ei : i = s
      · subst ei
        rw [kup_s, if_pos hs, wI_n (show 86 ≠ 87 by omega), wI_1, uS, if_neg (by decide), wI_1, uS]
      · rw [kup_n (by omega), if_neg (show ¬ 10 = 0 by omega), if_pos rfl, wI_n (show 86 ≠ 87 by omega), wI_1, uN ei, wI_1, uN ei, wI_n (show 87 ≠ 86 by omega)]
    · rw [if_neg e10, kup_n (by omega), if_neg e0, if_neg e10]
      rcases Nat.lt_or_ge c 16 with q | q
      · have g := axm_lt c q
        rw [wI_n (by omega), wI_n (by omega)]
      · rw [axm_big q]; rfl
theorem M_sheet (a t n : Int32) : SpM (wX11_sheet a t n) (S_sheet a t n) (U_sheet a t n) := by
  intro σ post h hp
  have no : ¬ (okS a ∧ okT t ∧ n.toInt ≤ 60) → post (-2) σ := fun q => by
    have := hp σ h (by unfold U_sheet; rw [if_neg q]) fx.refl
    unfold S_sheet at this
    rwa [if_neg q] at this
  unfold wX11_sheet
  refine isSheet_ok (br_d' (fun h1 => ?_) (fun h1 => no (fun q => h1 q.1)))
  refine in_ok (br_d' (fun h2 => ?_) (fun h2 => no (fun q => h2 q.2.1)))
  rw [n0, n2] at h2
  simp only [iLe, n60, n0]
  refine ⟨fun h3 => ?_, fun h3 => no (fun q => h3 q.2.2)⟩
  have hs : okS a := h1
  have ok : okS a ∧ okT t ∧ n.toInt ≤ 60 := ⟨h1, h2, h3⟩
  refine ⟨fun h4 => ?_, fun h4 => ?_⟩
  · refine ⟨hs.in, hs.in, hs.in, sheetM_loop hs ?_⟩
    generalize hρ : wI (wI (wI σ 86 a.toNatClampNeg 1) 87 a.toNatClampNeg t) 88 a.toNatClampNeg n = ρ
    generalize hτ : wA ρ 89 (fun i => if 60 * a.toNatClampNeg ≤ i ∧ i < 60 * a.toNatClampNeg + 60 then 0 else ρ.1 89 i) = τ
    have hv : vm τ = kr (kup (kup (vm σ) 10 a.toNatClampNeg t) 11 a.toNatClampNeg n) (12 + a.toNatClampNeg) (fun _ => 0) := by
      rw [← hτ, vm_items hs.lt (fun i q => by rw [if_neg q]), ← hρ, vm_a11 hs.lt, vm_there hs.lt]
      congr 1
      funext i
      by_cases q : i < 60
      · rw [if_pos q, if_pos (by omega)]
      · rw [if_neg q]
    have hc : ∀ c, c < 86 → τ.1 c = σ.1 c := fun c hc => by rw [← hτ, wA_n' (by omega), ← hρ, wI_n (by omega), wI_n (by omega), wI_n (by omega)]
    have hc2 : τ.2 = σ.2 := by rw [← hτ, ← hρ]; rfl
    have := hp τ (om_upd2 h hv (h.1.sheet h2 ⟨h4, h3⟩) (Or.inr ⟨by rw [hc 67 (by omega)], fun c _ b => ⟨hc c (by omega), by rw [hc2]⟩, SD.sheet⟩) (fun s q => by
      have g := h.2.2 s q
      have c86 : τ.1 86 = upd (σ.1 86) a.toNatClampNeg 1 := by rw [← hτ, wA_n' (by omega), ← hρ, wI_n (by omega), wI_n (by omega), wI_1]
      have c87 : τ.1 87 = upd (σ.1 87) a.toNatClampNeg t := by rw [← hτ, wA_n' (by omega), ← hρ, wI_n (by omega), wI_1, wI_n (by omega)]
      rw [c86, c87]
      by_cases e : s = a.toNatClampNeg
      · rw [e, uS, uS]; exact ⟨Or.inr rfl, h2.1⟩
      · rw [uN e, uN e]; exact g)) (by rw [hv]; unfold U_sheet; rw [if_pos ok, if_pos h4]) (by rw [← hτ, ← hρ]; exact (((fx.refl.wI (by omega)).wI (by omega)).wI (by omega)).wA (by omega))
    unfold S_sheet at this
    rw [if_pos ok, if_pos h4] at this
    exact this
  · refine M_find h (fun τ a1 a2 a3 => ?_)
    have := hp τ a1 (by rw [a2]; unfold U_sheet; rw [if_pos ok, if_neg h4]) a3
    unfold S_sheet at this
    rw [if_pos ok, if_neg h4] at this
    exact this

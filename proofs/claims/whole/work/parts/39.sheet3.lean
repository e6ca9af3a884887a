/-! lose, put, get -/
theorem nm1 : (-1 : Int32).toInt = -1 := rfl
theorem vm_lost {σ : Sto} {s : Nat} (hs : s < 4) : vm (wI σ 86 s 0) = kup (vm σ) 10 s (-1) := by
  funext c i
  unfold vm
  by_cases e0 : c = 0
  · subst e0
    rw [if_pos rfl, kup_n (by omega), if_pos rfl]
    unfold sm
    split <;> first | rw [wI_n (by omega)] | rfl
  · rw [if_neg e0]
    by_cases e10 : c = 10
    · subst e10
      rw [if_pos rfl]
      by_cases ei : i = s
      · subst ei
        rw [kup_s, if_pos hs, wI_1, uS, if_pos rfl]
      · rw [kup_n (by omega), if_neg (show ¬ 10 = 0 by omega), if_pos rfl, wI_1, uN ei, wI_n (show 87 ≠ 86 by omega)]
    · rw [if_neg e10, kup_n (by omega), if_neg e0, if_neg e10]
      rcases Nat.lt_or_ge c 16 with q | q
      · have g := axm_lt c q
        rw [wI_n (by omega)]
      · rw [axm_big q]; rfl
theorem vm_10 {σ : Sto} {s : Nat} (hs : s < 4) : vm σ 10 s = if σ.1 86 s = 0 then -1 else σ.1 87 s := by
  unfold vm
  rw [if_neg (by omega), if_pos rfl, if_pos hs]
theorem vm_10_lost {σ : Sto} {s : Nat} (h : OM σ) (hs : s < 4) : vm σ 10 s = -1 ↔ σ.1 86 s = 0 := by
  rw [vm_10 hs]
  by_cases e : σ.1 86 s = 0
  · simp [e]
  · rw [if_neg e]
    have g := (h.2.2 s hs).2
    refine ⟨fun q => ?_, fun q => absurd q e⟩
    rw [q, nm1] at g
    omega
theorem vm_11 {σ : Sto} {s : Nat} (hs : s < 4) : vm σ 11 s = σ.1 88 s := by
  rw [vm_r (c := 11) (by omega) (by omega) hs, show (axm 11).2.2 + s = s from Nat.zero_add s]
  rfl
theorem vx_10 {σ : Sto} {s : Nat} (hs : s < 4) : vx σ 10 s = σ.1 65 s := vx_r (c := 10) (by omega) hs
theorem vx_11 {σ : Sto} {s : Nat} (hs : s < 4) : vx σ 11 s = σ.1 66 s := vx_r (c := 11) (by omega) hs
noncomputable def S_lose (a : Int32) (κ : Kp) : Int32 := @ite _ (okS a) (Classical.propDecidable _) (if κ 10 a.toNatClampNeg = -1 then -10 - 1 else κ 11 a.toNatClampNeg) (-2)
noncomputable def U_lose (a : Int32) (κ : Kp) : Kp := @ite _ (okS a) (Classical.propDecidable _) (if κ 10 a.toNatClampNeg = -1 then kup κ 0 6 1 else kup κ 10 a.toNatClampNeg (-1)) κ
theorem X_lose (a : Int32) : SpX (wX10_lose a) (S_lose a) (U_lose a) := by
  intro σ post h hp
  unfold wX10_lose
  refine noSheet_ok (And.symm (br_n (fun h1 => ?_) (fun h1 => ?_)))
  · have hs : okS a := h1
    refine ⟨hs.in, fun h2 => ⟨fun _ => ⟨hs.in, hs.in, ?_⟩, fun q => (by cases q)⟩, fun h2 => ⟨fun q => (by cases q), fun _ => ?_⟩⟩
    · have hv : vx (wI σ 65 a.toNatClampNeg (-1)) = kup (vx σ) 10 a.toNatClampNeg (-1) := vx_a10 hs.lt
      have h2' : ¬ vx σ 10 a.toNatClampNeg = -1 := by rw [vx_10 hs.lt]; exact h2
      have := hp (wI σ 65 a.toNatClampNeg (-1)) (ox_upd h (fun c a b _ => wI_n (by omega)) hv (SD.mkc (Or.inr (Or.inr (by omega)))) (h.1.kupc (Or.inr (by omega)) (fun q => by omega) (fun q => by omega) (fun _ => by decide) (fun q => by omega))) (by rw [hv]; unfold U_lose; rw [if_pos hs, if_neg h2']) (fm.refl.wI (by omega))
      unfold S_lose at this
      rw [if_pos hs, if_neg h2', vx_11 hs.lt] at this
      exact this
    · have h2' : vx σ 10 a.toNatClampNeg = -1 := by rw [vx_10 hs.lt]; exact h2
      refine X_find h (fun τ a1 a2 a3 => ?_)
      have := hp τ a1 (by rw [a2]; unfold U_lose; rw [if_pos hs, if_pos h2']) a3
      unfold S_lose at this
      rw [if_pos hs, if_pos h2'] at this
      exact this
  · have h1 : ¬ okS a := h1
    have := hp σ h (by unfold U_lose; rw [if_neg h1]) fm.refl
    unfold S_lose at this
    rwa [if_neg h1] at this
theorem M_lose (a : Int32) : SpM (wX11_lose a) (S_lose a) (U_lose a) := by
  intro σ post h hp
  unfold wX11_lose
  refine isSheet_ok (br_d (fun h1 => ?_) (fun h1 => ?_))
  · have hs : okS a := h1
    refine ⟨hs.in, fun h2 => ⟨hs.in, hs.in, ?_⟩, fun h2 => ?_⟩
    · have hv : vm (wI σ 86 a.toNatClampNeg 0) = kup (vm σ) 10 a.toNatClampNeg (-1) := vm_lost hs.lt
      have h2' : ¬ vm σ 10 a.toNatClampNeg = -1 := fun q => h2 ((vm_10_lost h hs.lt).mp q)
      have := hp (wI σ 86 a.toNatClampNeg 0) (om_upd2 h hv (h.1.kupc (Or.inr (by omega)) (fun q => by omega) (fun q => by omega) (fun _ => by decide) (fun q => by omega)) (Or.inr ⟨by rw [wI_n (by omega)], fun c a b => ⟨wI_n (by omega), rfl⟩, SD.mkc (Or.inr (Or.inr (by omega)))⟩) (fun s q => by
        have g := h.2.2 s q
        rw [wI_1, wI_n (show 87 ≠ 86 by omega)]
        by_cases e : s = a.toNatClampNeg
        · rw [e, uS]; rw [e] at g; exact ⟨Or.inl rfl, g.2⟩
        · rw [uN e]; exact g)) (by rw [hv]; unfold U_lose; rw [if_pos hs, if_neg h2']) (fx.refl.wI (by omega))
      unfold S_lose at this
      rw [if_pos hs, if_neg h2', vm_11 hs.lt] at this
      exact this
    · have h2' : vm σ 10 a.toNatClampNeg = -1 := (vm_10_lost h hs.lt).mpr h2
      refine M_find h (fun τ a1 a2 a3 => ?_)
      have := hp τ a1 (by rw [a2]; unfold U_lose; rw [if_pos hs, if_pos h2']) a3
      unfold S_lose at this
      rw [if_pos hs, if_pos h2'] at this
      exact this
  · have h1 : ¬ okS a := h1
    have := hp σ h (by unfold U_lose; rw [if_neg h1]) fx.refl
    unfold S_lose at this
    rwa [if_neg h1] at this
/-- what is found against an item -/
def Fd0 (a t i : Int32) (κ : Kp) : Int32 := if κ 10 a.toNatClampNeg = -1 then 1 else if κ 10 a.toNatClampNeg = t then (if 0 ≤ i.toInt ∧ i.toInt < (κ 11 a.toNatClampNeg).toInt then 0 else 2) else 3
theorem X_against {a t i : Int32} {σ : Sto} {post : Int32 → Sto → Prop} (hs : okS a) (h : post (Fd0 a t i (vx σ)) σ) : wX9_against a t i σ post := by
  unfold Fd0 at h
  rw [vx_10 hs.lt, vx_11 hs.lt] at h
  refine ⟨hs.in, fun h2 => ⟨fun _ => ⟨hs.in, fun h3 => ⟨fun h4 => ?_, fun h4 => ⟨hs.in, fun h5 => ?_, fun h5 => ?_⟩⟩, fun h3 => ?_⟩, fun q => (by cases q)⟩, fun h2 => ⟨fun q => (by cases q), fun _ => ?_⟩⟩
  · rw [if_neg h2, if_pos h3, if_neg (by rw [iLt, n0] at h4; omega)] at h; exact h
  · rw [if_neg h2, if_pos h3, if_pos (by rw [iLt, n0] at h4; rw [iLt] at h5; omega)] at h; exact h
  · rw [if_neg h2, if_pos h3, if_neg (by rw [iLt] at h5; omega)] at h; exact h
  · rw [if_neg h2, if_neg h3] at h; exact h
  · rw [if_pos h2] at h; exact h
theorem M_lacks {a t i : Int32} {σ : Sto} {post : Int32 → Sto → Prop} (ho : OM σ) (hs : okS a) (h : post (Fd0 a t i (vm σ)) σ) : wX11_lacks a t i σ post := by
  have g := (ho.1.2.2.2.2.2.2.2.2.2.2 a.toNatClampNeg hs.lt).2
  unfold Fd0 at h
  rw [vm_11 hs.lt] at h g
  refine ⟨hs.in, fun h2 => ⟨hs.in, fun h3 => ⟨hs.in, in_ok (br_d' (fun h4 => ?_) (fun h4 => ?_))⟩, fun h3 => ?_⟩, fun h2 => ?_⟩
  all_goals have e10 := vm_10 (σ := σ) hs.lt
  · rw [if_neg (fun q => h2 ((vm_10_lost ho hs.lt).mp q)), e10, if_neg h2, if_pos h3] at h
    rw [iSub (a := (σ.1 88 a.toNatClampNeg).toInt) (b := 1) rfl (by decide) (by omega) (by omega), n0] at h4
    rw [if_pos (by omega)] at h
    exact h
  · rw [if_neg (fun q => h2 ((vm_10_lost ho hs.lt).mp q)), e10, if_neg h2, if_pos h3] at h
    rw [iSub (a := (σ.1 88 a.toNatClampNeg).toInt) (b := 1) rfl (by decide) (by omega) (by omega), n0] at h4
    rw [if_neg (by omega)] at h
    exact h
  · rw [if_neg (fun q => h2 ((vm_10_lost ho hs.lt).mp q)), e10, if_neg h2, if_neg h3] at h
    exact h
  · rw [if_pos ((vm_10_lost ho hs.lt).mpr h2)] at h
    exact h

/-! put, get -/
def nar (ty v : Int32) : Int32 := if ty = 0 then v.toInt8.toInt32 else if ty = 1 then v.toInt16.toInt32 else v
theorem Fd0_0 {a t i : Int32} {κ : Kp} (h : Fd0 a t i κ = 0) : ¬ κ 10 a.toNatClampNeg = -1 ∧ κ 10 a.toNatClampNeg = t ∧ 0 ≤ i.toInt ∧ i.toInt < (κ 11 a.toNatClampNeg).toInt := by
  unfold Fd0 at h
  by_cases h1 : κ 10 a.toNatClampNeg = -1
  · rw [if_pos h1] at h; exact absurd h (by decide)
  · rw [if_neg h1] at h
    by_cases h2 : κ 10 a.toNatClampNeg = t
    · rw [if_pos h2] at h
      by_cases h3 : 0 ≤ i.toInt ∧ i.toInt < (κ 11 a.toNatClampNeg).toInt
      · exact ⟨h1, h2, h3⟩
      · rw [if_neg h3] at h; exact absurd h (by decide)
    · rw [if_neg h2] at h; exact absurd h (by decide)
theorem Fd0_le {a t i : Int32} {κ : Kp} : Fd0 a t i κ ≤ 0 ↔ Fd0 a t i κ = 0 := by
  unfold Fd0
  split
  · decide
  · split
    · split <;> decide
    · decide
theorem vx_it {σ : Sto} {s i : Nat} {v : Int32} (hs : s < 4) (hi : i < 60) : vx (wI σ (61 + s) i v) = kup (vx σ) (12 + s) i v := by
  match s, hs with
  | 0, _ => exact vx_ar (c := 12) (by omega) hi
  | 1, _ => exact vx_ar (c := 13) (by omega) hi
  | 2, _ => exact vx_ar (c := 14) (by omega) hi
  | 3, _ => exact vx_ar (c := 15) (by omega) hi
theorem vm_it {σ : Sto} {s i : Nat} {v : Int32} (hs : s < 4) (hi : i < 60) : vm (wI σ 89 (60 * s + i) v) = kup (vm σ) (12 + s) i v := by
  match s, hs with
  | 0, _ => exact vm_ar (c := 12) (by omega) (by omega) hi
  | 1, _ => exact vm_ar (c := 13) (by omega) (by omega) hi
  | 2, _ => exact vm_ar (c := 14) (by omega) (by omega) hi
  | 3, _ => exact vm_ar (c := 15) (by omega) (by omega) hi
theorem vx_itr {σ : Sto} {s i : Nat} (hs : s < 4) (hi : i < 60) : vx σ (12 + s) i = σ.1 (61 + s) i := by
  match s, hs with
  | 0, _ => exact vx_r (c := 12) (by omega) hi
  | 1, _ => exact vx_r (c := 13) (by omega) hi
  | 2, _ => exact vx_r (c := 14) (by omega) hi
  | 3, _ => exact vx_r (c := 15) (by omega) hi
theorem vm_itr {σ : Sto} {s i : Nat} (hs : s < 4) (hi : i < 60) : vm σ (12 + s) i = σ.1 89 (60 * s + i) := by
  match s, hs with
  | 0, _ => exact vm_r (c := 12) (by omega) (by omega) hi
  | 1, _ => exact vm_r (c := 13) (by omega) (by omega) hi
  | 2, _ => exact vm_r (c := 14) (by omega) (by omega) hi
  | 3, _ => exact vm_r (c := 15) (by omega) (by omega) hi
theorem X_store {a i v : Int32} {σ : Sto} {post : Sto → Prop} (hs : okS a) (hi : 0 ≤ i.toInt ∧ i.toInt < 60) (h : post (wI σ (61 + a.toNatClampNeg) i.toNatClampNeg (nar (σ.1 65 a.toNatClampNeg) v))) : wX9_store a i v σ post := by
  have hin : vp_in i 60 := vp_iff.mpr (by omega)
  unfold nar at h
  refine ⟨hs.in, hs.in, fun h1 => ⟨fun h2 => ⟨hin, ?_⟩, fun h2 => ⟨hin, ?_⟩⟩, fun h1 => ⟨hin, ?_⟩⟩
  · rw [if_neg h1, if_neg h2] at h; exact h
  · rw [if_neg h1, if_pos h2] at h; exact h
  · rw [if_pos h1] at h; exact h
theorem M_lay {a i v : Int32} {σ : Sto} {post : Sto → Prop} (hs : okS a) (hi : 0 ≤ i.toInt ∧ i.toInt < 60) (h : post (wI σ 89 (60 * a.toNatClampNeg + i.toNatClampNeg) (nar (σ.1 87 a.toNatClampNeg) v))) : wX11_lay a i v σ post := by
  obtain ⟨-, e2, e3⟩ := i60 hs hi
  unfold nar at h
  unfold wX11_lay
  rw [e3]
  refine ⟨hs.in, fun h1 => ⟨hs.in, fun h2 => ⟨e2, ?_⟩, fun h2 => ⟨e2, ?_⟩⟩, fun h1 => ⟨e2, ?_⟩⟩
  · rw [if_neg h1, if_neg h2] at h; exact h
  · rw [if_neg h1, if_pos h2] at h; exact h
  · rw [if_pos h1] at h; exact h
noncomputable def S_put (a t i v : Int32) (κ : Kp) : Int32 := @ite _ (okS a ∧ okT t) (Classical.propDecidable _) (if Fd0 a t i κ = 0 then 1 else -10 - Fd0 a t i κ) (-2)
noncomputable def U_put (a t i v : Int32) (κ : Kp) : Kp := @ite _ (okS a ∧ okT t) (Classical.propDecidable _) (if Fd0 a t i κ = 0 then kup κ (12 + a.toNatClampNeg) i.toNatClampNeg (nar (κ 10 a.toNatClampNeg) v) else kup κ 0 6 (Fd0 a t i κ)) κ
theorem X_put (a t i v : Int32) : SpX (wX10_put a t i v) (S_put a t i v) (U_put a t i v) := by
  intro σ post h hp
  have no : ¬ (okS a ∧ okT t) → post (-2) σ := fun q => by
    have := hp σ h (by unfold U_put; rw [if_neg q]) fm.refl
    unfold S_put at this
    rwa [if_neg q] at this
  unfold wX10_put
  refine noSheet_ok (br_n (fun h1 => ?_) (fun h1 => no (fun q => h1 q.1)))
  refine noType_ok (And.symm (br_n (fun h2 => ?_) (fun h2 => no (fun q => h2 q.2))))
  have hs : okS a := h1
  have ok : okS a ∧ okT t := ⟨h1, h2⟩
  refine X_against hs ⟨fun h3 => ?_, fun h3 => ?_⟩
  · obtain ⟨f1, f2, f3, f4⟩ := Fd0_0 h3
    have g := (h.1.2.2.2.2.2.2.2.2.2.2 a.toNatClampNeg hs.lt).2
    have hl := hs.lt
    have hi : i.toNatClampNeg < 60 := by rw [tnc]; omega
    refine X_store hs (by omega) ?_
    have hv := vx_it (σ := σ) (v := nar (σ.1 65 a.toNatClampNeg) v) hs.lt hi
    have := hp _ (ox_upd h (fun c _ b _ => wI_n (by omega)) hv (SD.mkc (Or.inr (Or.inr (by omega)))) (h.1.kupc (Or.inr (by omega)) (fun q => by omega) (fun q => by omega) (fun q => by omega) (fun q => by omega))) (by rw [hv]; unfold U_put; rw [if_pos ok, if_pos h3, vx_10 hs.lt]) (fm.refl.wI (by omega))
    unfold S_put at this
    rw [if_pos ok, if_pos h3] at this
    exact this
  · refine X_find h (fun τ a1 a2 a3 => ?_)
    have := hp τ a1 (by rw [a2]; unfold U_put; rw [if_pos ok, if_neg h3]) a3
    unfold S_put at this
    rw [if_pos ok, if_neg h3] at this
    exact this
theorem M_put (a t i v : Int32) : SpM (wX11_put a t i v) (S_put a t i v) (U_put a t i v) := by
  intro σ post h hp
  have no : ¬ (okS a ∧ okT t) → post (-2) σ := fun q => by
    have := hp σ h (by unfold U_put; rw [if_neg q]) fx.refl
    unfold S_put at this
    rwa [if_neg q] at this
  unfold wX11_put
  refine isSheet_ok (br_d' (fun h1 => ?_) (fun h1 => no (fun q => h1 q.1)))
  refine in_ok (br_d (fun h2 => ?_) (fun h2 => no (fun q => h2 q.2)))
  rw [n0, n2] at h2
  have hs : okS a := h1
  have ok : okS a ∧ okT t := ⟨h1, h2⟩
  refine M_lacks h hs ⟨fun h3 => ?_, fun h3 => ?_⟩
  · have h3 := Fd0_le.mp h3
    obtain ⟨f1, f2, f3, f4⟩ := Fd0_0 h3
    have g := (h.1.2.2.2.2.2.2.2.2.2.2 a.toNatClampNeg hs.lt).2
    have hi : i.toNatClampNeg < 60 := by rw [tnc]; omega
    refine M_lay hs (by omega) ?_
    have hv := vm_it (σ := σ) (v := nar (σ.1 87 a.toNatClampNeg) v) hs.lt hi
    have e10 : vm σ 10 a.toNatClampNeg = σ.1 87 a.toNatClampNeg := by
      rw [vm_10 hs.lt, if_neg (fun q => f1 ((vm_10_lost h hs.lt).mpr q))]
    have := hp _ (om_upd h hv (h.1.kupc (Or.inr (by omega)) (fun q => by omega) (fun q => by omega) (fun q => by omega) (fun q => by omega)) (Or.inr ⟨by rw [wI_n (by omega)], fun c a b => ⟨wI_n (by omega), rfl⟩, SD.mkc (Or.inr (Or.inr (by omega)))⟩) ⟨wI_n (by omega), wI_n (by omega)⟩) (by rw [hv]; unfold U_put; rw [if_pos ok, if_pos h3, e10]) (fx.refl.wI (by omega))
    unfold S_put at this
    rw [if_pos ok, if_pos h3] at this
    exact this
  · have h3 : ¬ Fd0 a t i (vm σ) = 0 := fun q => h3 (Fd0_le.mpr q)
    refine M_find h (fun τ a1 a2 a3 => ?_)
    have := hp τ a1 (by rw [a2]; unfold U_put; rw [if_pos ok, if_neg h3]) a3
    unfold S_put at this
    rw [if_pos ok, if_neg h3] at this
    exact this
noncomputable def S_get (a t i : Int32) (κ : Kp) : Int32 := @ite _ (okS a ∧ okT t) (Classical.propDecidable _) (if Fd0 a t i κ = 0 then κ (12 + a.toNatClampNeg) i.toNatClampNeg else (-2147483648)) (-2147483648)
noncomputable def U_get (a t i : Int32) (κ : Kp) : Kp := @ite _ (okS a ∧ okT t) (Classical.propDecidable _) (if Fd0 a t i κ = 0 then κ else kup κ 0 6 (Fd0 a t i κ)) κ
theorem X_get (a t i : Int32) : SpX (wX10_get a t i) (S_get a t i) (U_get a t i) := by
  intro σ post h hp
  have no : ¬ (okS a ∧ okT t) → post (-2147483648) σ := fun q => by
    have := hp σ h (by unfold U_get; rw [if_neg q]) fm.refl
    unfold S_get at this
    rwa [if_neg q] at this
  unfold wX10_get
  refine noSheet_ok (br_n (fun h1 => ?_) (fun h1 => no (fun q => h1 q.1)))
  refine noType_ok (And.symm (br_n (fun h2 => ?_) (fun h2 => no (fun q => h2 q.2))))
  have hs : okS a := h1
  have ok : okS a ∧ okT t := ⟨h1, h2⟩
  refine X_against hs ⟨fun h3 => ?_, fun h3 => ?_⟩
  · obtain ⟨f1, f2, f3, f4⟩ := Fd0_0 h3
    have g := (h.1.2.2.2.2.2.2.2.2.2.2 a.toNatClampNeg hs.lt).2
    have hi : i.toNatClampNeg < 60 := by rw [tnc]; omega
    refine ⟨hs.in, vp_iff.mpr (by omega), ?_⟩
    have := hp σ h (by unfold U_get; rw [if_pos ok, if_pos h3]) fm.refl
    unfold S_get at this
    rw [if_pos ok, if_pos h3, vx_itr hs.lt hi] at this
    exact this
  · refine X_find (post := fun _ s => post (-2147483648) s) h (fun τ a1 a2 a3 => ?_)
    have := hp τ a1 (by rw [a2]; unfold U_get; rw [if_pos ok, if_neg h3]) a3
    unfold S_get at this
    rw [if_pos ok, if_neg h3] at this
    exact this
theorem M_get (a t i : Int32) : SpM (wX11_get a t i) (S_get a t i) (U_get a t i) := by
  intro σ post h hp
  have no : ¬ (okS a ∧ okT t) → post (-2147483648) σ := fun q => by
    have := hp σ h (by unfold U_get; rw [if_neg q]) fx.refl
    unfold S_get at this
    rwa [if_neg q] at this
  unfold wX11_get
  refine isSheet_ok (br_d' (fun h1 => ?_) (fun h1 => no (fun q => h1 q.1)))
  refine in_ok (br_d (fun h2 => ?_) (fun h2 => no (fun q => h2 q.2)))
  rw [n0, n2] at h2
  have hs : okS a := h1
  have ok : okS a ∧ okT t := ⟨h1, h2⟩
  refine M_lacks h hs ⟨fun h3 => ?_, fun h3 => ?_⟩
  · have h3 := Fd0_le.mp h3
    obtain ⟨f1, f2, f3, f4⟩ := Fd0_0 h3
    have g := (h.1.2.2.2.2.2.2.2.2.2.2 a.toNatClampNeg hs.lt).2
    have hi : i.toNatClampNeg < 60 := by rw [tnc]; omega
    obtain ⟨-, e2, e3⟩ := i60 hs (x := i) (by omega)
    refine ⟨e2, ?_⟩
    have := hp σ h (by unfold U_get; rw [if_pos ok, if_pos h3]) fx.refl
    unfold S_get at this
    rw [if_pos ok, if_pos h3, vm_itr hs.lt hi] at this
    rw [e3]
    exact this
  · have h3 : ¬ Fd0 a t i (vm σ) = 0 := fun q => h3 (Fd0_le.mpr q)
    have q := M_find0 (f := Fd0 a t i (vm σ)) h
    have := hp _ q.1 (by rw [q.2.1]; unfold U_get; rw [if_pos ok, if_neg h3]) q.2.2
    unfold S_get at this
    rw [if_pos ok, if_neg h3] at this
    exact this

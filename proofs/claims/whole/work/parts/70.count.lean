/-! count -/
theorem X_knownReadings {σ : Sto} {post : Int32 → Sto → Prop} (h : OX σ) (hq : post (nI (cnt (kn (vx σ)) (nR (vx σ)))) σ) : wX1_knownReadings σ post := by
  have hi := h.1
  have hle := nR_le hi
  have eR : σ.1 1 5 = nI (nR (vx σ)) := by rw [← nR_I hi]; rfl
  refine pk_loop (fun k i (x : Int32) => wX1_knownReadings_4 post (fun x1_1 σ_1 => post x1_1 σ_1) k x (nI i) σ) (fun i x => x = nI (cnt (kn (vx σ)) i)) (nR (vx σ)) 0 0 (Nat.zero_le _) rfl ?_ ?_
  · intro k x hx
    unfold wX1_knownReadings_4
    rw [eR, hx]
    exact ⟨fun _ => hq, fun z => absurd (nI_le (Nat.le_refl _) (by omega)) z⟩
  · intro k i x hi2 hx kk
    have c2 : (nI i).toNatClampNeg = i := nI_clamp (by omega)
    have iT : (nI i).toInt = i := nI_toInt (by omega)
    unfold wX1_knownReadings_4
    rw [eR]
    refine ⟨fun z => absurd z (nI_ge hi2 (by omega)), fun _ => X_isKnown (by omega) ?_⟩
    rw [c2, nI_1, hx, nI_1]
    refine ⟨fun z => kk _ ?_, fun z => kk _ ?_⟩
    · show _ = nI (cnt _ i + _)
      rw [z, if_neg (by decide)]; rfl
    · show _ = nI (cnt _ i + _)
      rw [z, if_pos rfl]
theorem M_knownMany {σ : Sto} {post : Int32 → Sto → Prop} (h : OM σ) (hq : post (nI (cnt (kn (vm σ)) (nR (vm σ)))) σ) : wX11_knownMany σ post := by
  have hi := h.1
  have hle := nR_le hi
  have eR : σ.1 67 4 = nI (nR (vm σ)) := by rw [← nR_I hi]; rfl
  refine pk_loop (fun k i (x : Int32) => wX11_knownMany_4 post (fun x1_1 σ_1 => post x1_1 σ_1) k x (nI i) σ) (fun i x => x = nI (cnt (kn (vm σ)) i)) (nR (vm σ)) 0 0 (Nat.zero_le _) rfl ?_ ?_
  · intro k x hx
    unfold wX11_knownMany_4
    rw [eR, hx]
    exact ⟨fun _ => hq, fun z => absurd (nI_le (Nat.le_refl _) (by omega)) z⟩
  · intro k i x hi2 hx kk
    have c2 : (nI i).toNatClampNeg = i := nI_clamp (by omega)
    have iT : (nI i).toInt = i := nI_toInt (by omega)
    unfold wX11_knownMany_4
    rw [eR]
    refine ⟨fun z => absurd z (nI_ge hi2 (by omega)), fun _ => M_isKnown (by omega) ?_⟩
    rw [c2]
    unfold wX11_knownMany_26
    rw [nI_1, hx, nI_1, Int32.add_zero]
    refine ⟨fun z => kk _ ?_, fun z => kk _ ?_⟩
    · show _ = nI (cnt _ i + _)
      rw [z, if_neg (by decide)]; rfl
    · show _ = nI (cnt _ i + _)
      rw [z, if_pos rfl]
theorem M_twoWays {p : Int32} {σ : Sto} {post : Int32 → Sto → Prop} (h : OM σ) (hp : okS p) (hq : ∀ τ, OM τ → qm σ τ → post (nI (ptN (vm σ) p.toNatClampNeg)) τ) : wX11_wayMany p 0 σ (fun r s => wX11_wayMany p 1 s (fun r2 s2 => post (r + r2) s2)) := by
  refine M_wayMany h hp (by decide) (fun τ o1 f1 => M_wayMany o1 hp (by decide) (fun υ o2 f2 => ?_))
  rw [f1.vm, nI_add]
  have e := wy_split h.1 p.toNatClampNeg (nH (vm σ)) (Nat.le_refl _)
  have := hq υ o2 (f1.trans f2)
  unfold ptN at this
  rw [← e] at this
  exact this
theorem X_bits {p : Int32} {σ : Sto} {post : Int32 → Sto → Prop} (h : OX σ) (hp : okS p) (hq : post (nI (ptN (vx σ) p.toNatClampNeg)) σ) : wX7_takingPart p σ (fun r s => wJ6_bitCount_0f7a4 r s post) := by
  refine X_takingPart h hp (bc_ok (bset_14 _ (nH_le h.1)) ?_)
  rw [pc_bset (nH_le h.1)]
  exact hq
def S_count (x : Int32) (κ : Kp) : Int32 :=
  if x = 0 then κ 0 0 else if x = 1 then κ 0 2 else if x = 2 then κ 0 3 else if x = 3 then nI (cnt (kn κ) (nR κ)) else
  if x = 4 then nI (ptN κ 0) else if x = 5 then nI (ptN κ 1) else if x = 6 then nI (ptN κ 2) else if x = 7 then nI (ptN κ 3) else
  if x = 8 then κ 0 6 else if x = 9 then κ 0 5 else if x = 10 then κ 0 4 else -2
theorem X_countQ {x : Int32} {σ : Sto} {post : Int32 → Sto → Prop} (h : OX σ) (hq : post (S_count x (vx σ)) σ) : wX10_count x σ post := by
  unfold S_count at hq
  refine ⟨fun e => ?_, fun e => ⟨fun e1 => ?_, fun e1 => ⟨fun e2 => ?_, fun e2 => ⟨fun e3 => ?_, fun e3 => ⟨fun e4 => ?_, fun e4 => ⟨fun e5 => ?_, fun e5 => ⟨fun e6 => ?_, fun e6 => ⟨fun e7 => ?_, fun e7 => ⟨fun e8 => ?_, fun e8 => ⟨fun e9 => ?_, fun e9 => ⟨fun e10 => ?_, fun e10 => ?_⟩⟩⟩⟩⟩⟩⟩⟩⟩⟩⟩
  · rw [if_pos e] at hq; exact hq
  · rw [if_neg e, if_pos e1] at hq; exact hq
  · rw [if_neg e, if_neg e1, if_pos e2] at hq; exact hq
  · rw [if_neg e, if_neg e1, if_neg e2, if_pos e3] at hq; exact X_knownReadings h hq
  · rw [if_neg e, if_neg e1, if_neg e2, if_neg e3, if_pos e4] at hq
    rw [e4]
    exact X_bits h ⟨by decide, by decide⟩ hq
  · rw [if_neg e, if_neg e1, if_neg e2, if_neg e3, if_neg e4, if_pos e5] at hq
    rw [e5]
    exact X_bits h ⟨by decide, by decide⟩ hq
  · rw [if_neg e, if_neg e1, if_neg e2, if_neg e3, if_neg e4, if_neg e5, if_pos e6] at hq
    rw [e6]
    exact X_bits h ⟨by decide, by decide⟩ hq
  · rw [if_neg e, if_neg e1, if_neg e2, if_neg e3, if_neg e4, if_neg e5, if_neg e6, if_pos e7] at hq
    rw [e7]
    exact X_bits h ⟨by decide, by decide⟩ hq
  · rw [if_neg e, if_neg e1, if_neg e2, if_neg e3, if_neg e4, if_neg e5, if_neg e6, if_neg e7, if_pos e8] at hq; exact hq
  · rw [if_neg e, if_neg e1, if_neg e2, if_neg e3, if_neg e4, if_neg e5, if_neg e6, if_neg e7, if_neg e8, if_pos e9] at hq; exact hq
  · rw [if_neg e, if_neg e1, if_neg e2, if_neg e3, if_neg e4, if_neg e5, if_neg e6, if_neg e7, if_neg e8, if_neg e9, if_pos e10] at hq; exact hq
  · rw [if_neg e, if_neg e1, if_neg e2, if_neg e3, if_neg e4, if_neg e5, if_neg e6, if_neg e7, if_neg e8, if_neg e9, if_neg e10] at hq; exact hq
theorem M_countQ {x : Int32} {σ : Sto} {post : Int32 → Sto → Prop} (h : OM σ) (hp : ∀ τ, OM τ → qm σ τ → post (S_count x (vm σ)) τ) : wX11_count x σ post := by
  have hq := hp σ h qm.refl
  unfold S_count at hq hp
  refine ⟨fun e => ?_, fun e => ⟨fun e1 => ?_, fun e1 => ⟨fun e2 => ?_, fun e2 => ⟨fun e3 => ?_, fun e3 => ⟨fun e4 => ?_, fun e4 => ⟨fun e5 => ?_, fun e5 => ⟨fun e6 => ?_, fun e6 => ⟨fun e7 => ?_, fun e7 => ⟨fun e8 => ?_, fun e8 => ⟨fun e9 => ?_, fun e9 => ⟨fun e10 => ?_, fun e10 => ?_⟩⟩⟩⟩⟩⟩⟩⟩⟩⟩⟩
  · rw [if_pos e] at hq; exact hq
  · rw [if_neg e, if_pos e1] at hq; exact hq
  · rw [if_neg e, if_neg e1, if_pos e2] at hq; exact hq
  · rw [if_neg e, if_neg e1, if_neg e2, if_pos e3] at hq; exact M_knownMany h hq
  · rw [if_neg e, if_neg e1, if_neg e2, if_neg e3, if_pos e4] at hp
    rw [e4]
    exact M_twoWays h ⟨by decide, by decide⟩ hp
  · rw [if_neg e, if_neg e1, if_neg e2, if_neg e3, if_neg e4, if_pos e5] at hp
    rw [e5]
    exact M_twoWays h ⟨by decide, by decide⟩ hp
  · rw [if_neg e, if_neg e1, if_neg e2, if_neg e3, if_neg e4, if_neg e5, if_pos e6] at hp
    rw [e6]
    exact M_twoWays h ⟨by decide, by decide⟩ hp
  · rw [if_neg e, if_neg e1, if_neg e2, if_neg e3, if_neg e4, if_neg e5, if_neg e6, if_pos e7] at hp
    rw [e7]
    exact M_twoWays h ⟨by decide, by decide⟩ hp
  · rw [if_neg e, if_neg e1, if_neg e2, if_neg e3, if_neg e4, if_neg e5, if_neg e6, if_neg e7, if_pos e8] at hq; exact hq
  · rw [if_neg e, if_neg e1, if_neg e2, if_neg e3, if_neg e4, if_neg e5, if_neg e6, if_neg e7, if_neg e8, if_pos e9] at hq; exact hq
  · rw [if_neg e, if_neg e1, if_neg e2, if_neg e3, if_neg e4, if_neg e5, if_neg e6, if_neg e7, if_neg e8, if_neg e9, if_pos e10] at hq; exact hq
  · rw [if_neg e, if_neg e1, if_neg e2, if_neg e3, if_neg e4, if_neg e5, if_neg e6, if_neg e7, if_neg e8, if_neg e9, if_neg e10] at hq; exact hq
theorem X_count (x : Int32) : SpX (wX10_count x) (S_count x) (fun κ => κ) := fun σ post h hp => X_countQ h (hp σ h rfl fm.refl)
theorem M_count (x : Int32) : SpM (wX11_count x) (S_count x) (fun κ => κ) := fun σ post h hp => M_countQ h (fun τ a f => hp τ a f.vm f.fx)

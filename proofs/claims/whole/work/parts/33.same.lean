theorem cnt_congr {P Q : Nat → Bool} : ∀ {n : Nat}, (∀ r, r < n → P r = Q r) → cnt P n = cnt Q n
  | 0, _ => rfl
  | n + 1, h => by
    show cnt P n + _ = cnt Q n + _
    rw [cnt_congr (fun r hr => h r (by omega)), h n (by omega)]
theorem tot_congr {P Q : Nat → Bool} {f g : Nat → Int} : ∀ {n : Nat}, (∀ r, r < n → P r = Q r ∧ (Q r = true → f r = g r)) → tot P f n = tot Q g n
  | 0, _ => rfl
  | n + 1, h => by
    show tot P f n + _ = tot Q g n + _
    rw [tot_congr (fun r hr => h r (by omega)), (h n (by omega)).1]
    by_cases q : Q n = true
    · rw [if_pos q, if_pos q, (h n (by omega)).2 q]
    · rw [if_neg q, if_neg q]
theorem cnt_le {P : Nat → Bool} : ∀ {n : Nat}, cnt P n ≤ n
  | 0 => Nat.le_refl _
  | n + 1 => by
    have h := cnt_le (P := P) (n := n)
    show cnt P n + _ ≤ n + 1
    split <;> omega
theorem cnt_mono {P Q : Nat → Bool} : ∀ {n : Nat}, (∀ r, r < n → P r = true → Q r = true) → cnt P n ≤ cnt Q n
  | 0, _ => Nat.le_refl _
  | n + 1, h => by
    have h1 := cnt_mono (fun r hr => h r (Nat.lt_succ_of_lt hr))
    have h2 := h n (Nat.lt_succ_self n)
    show cnt P n + _ ≤ cnt Q n + _
    by_cases a : P n = true
    · rw [if_pos a, if_pos (h2 a)]; omega
    · rw [if_neg a]; omega
/-- nothing that the tables rest on differs -/
def SD (κ κ' : Kp) : Prop := nR κ' = nR κ ∧ ∀ r, r < nR κ → kn κ' r = kn κ r ∧ κ' 3 r = κ 3 r ∧ κ' 4 r = κ 4 r ∧ κ' 5 r = κ 5 r ∧ κ' 6 r = κ 6 r
section SDL
variable {κ κ' : Kp}
theorem sd_kq (h : SD κ κ') (a p r : Nat) (hr : r < nR κ) : kq κ' a p r = kq κ a p r := by
  obtain ⟨h1, h2, h3, h4, h5⟩ := h.2 r hr
  unfold kq
  rw [h1, h2, h3]
theorem sd_kb (h : SD κ κ') (p d r : Nat) (hr : r < nR κ) : kb κ' p d r = kb κ p d r := by
  obtain ⟨h1, h2, h3, h4, h5⟩ := h.2 r hr
  unfold kb
  rw [sd_kq h 0 p r hr, h4]
theorem sd_pC (h : SD κ κ') (p d : Nat) : pC κ' p d = pC κ p d := by
  unfold pC
  rw [h.1]
  exact cnt_congr (fun r hr => sd_kb h p d r hr)
theorem sd_pS (h : SD κ κ') (p d : Nat) : pS κ' p d = pS κ p d := by
  unfold pS
  rw [h.1]
  exact tot_congr (fun r hr => ⟨sd_kb h p d r hr, fun _ => by rw [(h.2 r hr).2.2.2.2]⟩)
theorem sd_isP (h : SD κ κ') (p : Nat) : isP κ' p = isP κ p := by
  funext d
  unfold isP
  rw [sd_pC h]
theorem sd_driftZ (h : SD κ κ') (p d : Nat) : driftZ κ' p d = driftZ κ p d := by
  unfold driftZ
  rw [sd_isP h]
  have e1 : pC κ' p = pC κ p := funext fun d => sd_pC h p d
  have e2 : pS κ' p = pS κ p := funext fun d => sd_pS h p d
  rw [e1, e2]
theorem sd_rdZ (h : SD κ κ') (r : Nat) (hr : r < nR κ) : rdZ κ' r = rdZ κ r := by
  obtain ⟨h1, h2, h3, h4, h5⟩ := h.2 r hr
  unfold rdZ
  rw [sd_driftZ h, h3, h4, h5]
theorem sd_cN (h : SD κ κ') (a p : Nat) : cN κ' a p = cN κ a p := by
  unfold cN
  rw [h.1]
  exact cnt_congr (fun r hr => sd_kq h a p r hr)
theorem sd_sM (h : SD κ κ') (a p : Nat) : sM κ' a p = sM κ a p := by
  unfold sM
  rw [h.1]
  exact tot_congr (fun r hr => ⟨sd_kq h a p r hr, fun _ => sd_rdZ h r hr⟩)
theorem sd_tL (h : SD κ κ') (a p : Nat) : tL κ' a p = tL κ a p := by
  unfold tL
  rw [sd_cN h, sd_sM h]
theorem sd_PT (h : SD κ κ') {p n : Nat} {D S C : Nat → Int} (g : PT κ p n D S C) : PT κ' p n D S C := by
  obtain ⟨g1, g2, g3, g4⟩ := g
  refine ⟨g1, g2, fun i hi => ?_, fun d hd => ?_⟩
  · rw [sd_pC h, sd_pS h]; exact g3 i hi
  · rw [sd_pC h]; exact g4 d hd
theorem sd_DXp (h : SD κ κ') {σ : Sto} {p : Nat} (g : DXp κ σ p) : DXp κ' σ p := by
  obtain ⟨⟨n, g1, g2⟩, g3, g4⟩ := g
  refine ⟨⟨n, g1, sd_PT h g2⟩, fun a ha => ?_, fun r hr h1 h2 => ?_⟩
  · rw [sd_cN h, sd_tL h]; exact g3 a ha
  · rw [h.1] at hr
    rw [(h.2 r hr).1] at h1
    rw [(h.2 r hr).2.2.1] at h2
    rw [sd_rdZ h r hr]
    exact g4 r hr h1 h2
theorem sd_DM (h : SD κ κ') {σ : Sto} (g : DM κ σ) : DM κ' σ := by
  refine ⟨fun p hp => ?_, fun a p ha hp => ?_⟩
  · obtain ⟨n, g1, g2⟩ := g.1 p hp
    exact ⟨n, g1, sd_PT h g2⟩
  · rw [sd_cN h, sd_sM h]; exact g.2 a p ha hp
end SDL
theorem ox_upd {σ τ : Sto} {κ' : Kp} (h : OX σ) (e : ∀ c, 21 ≤ c → c < 49 → c ≠ 37 → τ.1 c = σ.1 c) (hv : vx τ = κ') (hs : SD (vx σ) κ') (hi : Inv κ') : OX τ := by
  unfold OX
  rw [hv]
  exact ⟨hi, fun p hp => (sd_DXp hs (h.2 p hp)).cells hp e⟩
theorem om_upd {σ τ : Sto} {κ' : Kp} (h : OM σ) (hv : vm τ = κ') (hi : Inv κ') (hw : τ.1 67 13 = 0 ∨ (τ.1 67 13 = σ.1 67 13 ∧ (∀ c, 76 ≤ c → c ≤ 81 → τ.1 c = σ.1 c ∧ τ.2 c = σ.2 c) ∧ SD (vm σ) κ')) (hb : τ.1 86 = σ.1 86 ∧ τ.1 87 = σ.1 87) : OM τ := by
  unfold OM WM
  rw [hv, hb.1, hb.2]
  refine ⟨hi, ?_, h.2.2⟩
  rcases hw with hw | ⟨h1, h2, h3⟩
  · exact Or.inl hw
  · rw [h1]
    exact h.2.1.imp id (fun g => ⟨g.1, (sd_DM h3 g.2).cells h2⟩)
/-- scalars alone differ, and not how many readings there are, nor what is known -/
theorem SD.mk0 {κ : Kp} {j : Nat} {v : Int32} (hj : 2 ≤ j) (h3 : j ≠ 3) : SD κ (kup κ 0 j v) := by
  have e0 : ∀ i, i ≠ j → kup κ 0 j v 0 i = κ 0 i := fun i hi => kup_n (by omega)
  refine ⟨by unfold nR; rw [e0 3 (by omega)], fun r _ => ⟨?_, kup_n (by omega), kup_n (by omega), kup_n (by omega), kup_n (by omega)⟩⟩
  unfold kn kto
  rw [e0 0 (by omega), e0 1 (by omega), kup_n (by omega), kup_n (by omega)]
theorem SD.mkc {κ : Kp} {c j : Nat} {v : Int32} (hc : c = 1 ∨ c = 2 ∨ 9 ≤ c) : SD κ (kup κ c j v) := by
  have e0 : ∀ i, kup κ c j v 0 i = κ 0 i := fun i => kup_n (by omega)
  refine ⟨by unfold nR; rw [e0 3], fun r _ => ⟨?_, kup_n (by omega), kup_n (by omega), kup_n (by omega), kup_n (by omega)⟩⟩
  unfold kn kto
  rw [e0 0, e0 1, kup_n (by omega), kup_n (by omega)]
theorem SD.refl {κ : Kp} : SD κ κ := ⟨rfl, fun _ _ => ⟨rfl, rfl, rfl, rfl, rfl⟩⟩
theorem SD.trans {κ κ' κ'' : Kp} (h1 : SD κ κ') (h2 : SD κ' κ'') : SD κ κ'' := by
  refine ⟨h2.1.trans h1.1, fun r hr => ?_⟩
  obtain ⟨a1, a2, a3, a4, a5⟩ := h1.2 r hr
  obtain ⟨b1, b2, b3, b4, b5⟩ := h2.2 r (by rw [h1.1]; exact hr)
  exact ⟨b1.trans a1, b2.trans a2, b3.trans a3, b4.trans a4, b5.trans a5⟩
/-- days pass: what is known stays -/
theorem SD.day {κ : Kp} {v : Int32} (h : Inv κ) (hv : (κ 0 0).toInt ≤ v.toInt) : SD κ (kup κ 0 0 v) := by
  have e0 : ∀ i, i ≠ 0 → kup κ 0 0 v 0 i = κ 0 i := fun i hi => kup_n (by omega)
  refine ⟨by unfold nR; rw [e0 3 (by omega)], fun r hr => ⟨?_, kup_n (by omega), kup_n (by omega), kup_n (by omega), kup_n (by omega)⟩⟩
  obtain ⟨-, h1, -, -, -, -, -, h2, -⟩ := h
  have h3 := h2 r hr
  unfold kn kto
  rw [e0 1 (by omega), kup_s, kup_n (by omega), kup_n (by omega)]
  by_cases q : (κ 0 1).toInt = -1
  · rw [if_pos q, if_pos q]
    exact decide_eq_decide.mpr (by omega)
  · rw [if_neg q, if_neg q]

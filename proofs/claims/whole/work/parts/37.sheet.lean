/-! sheets: rows replaced -/
def kr (κ : Kp) (c : Nat) (f : Nat → Int32) : Kp := fun c' i => if c' = c then f i else κ c' i
theorem kr_s {κ : Kp} {c i : Nat} {f : Nat → Int32} : kr κ c f c i = f i := by simp [kr]
theorem kr_n {κ : Kp} {c c' i : Nat} {f : Nat → Int32} (h : c' ≠ c) : kr κ c f c' i = κ c' i := by simp [kr, h]
theorem wA_1' {σ : Sto} {c : Nat} {f : Nat → Int32} : (wA σ c f).1 c = f := by simp [wA]
theorem wA_n' {σ : Sto} {c c' : Nat} {f : Nat → Int32} (h : c' ≠ c) : (wA σ c f).1 c' = σ.1 c' := by simp [wA, h]
theorem wI_wA {σ : Sto} {c i : Nat} {f : Nat → Int32} {v : Int32} : wI (wA σ c f) c i v = wA σ c (upd f i v) := by
  unfold wI
  rw [wA_1']
  unfold wA
  congr 1
  funext c'
  by_cases e : c' = c <;> simp [e]
theorem wA_self {σ : Sto} {c : Nat} : wA σ c (σ.1 c) = σ := by
  unfold wA
  have : (fun c' => if c' = c then σ.1 c else σ.1 c') = σ.1 := by
    funext c'
    by_cases e : c' = c <;> simp [e]
  rw [this]
theorem fm.wA {σ τ : Sto} {c : Nat} {f : Nat → Int32} (h : fm σ τ) (hc : c < 67) : fm σ (wA τ c f) := fun c' h' => ⟨by rw [wA_n' (by omega)]; exact (h c' h').1, (h c' h').2⟩
theorem fx.wA {σ τ : Sto} {c : Nat} {f : Nat → Int32} (h : fx σ τ) (hc : 67 ≤ c) : fx σ (wA τ c f) := fun c' h' => ⟨by rw [wA_n' (by omega)]; exact (h c' h').1, (h c' h').2⟩
theorem vx_wA {σ : Sto} {c : Nat} {f : Nat → Int32} (h0 : 1 ≤ c) (hc : c < 16) : vx (wA σ (axc c).1 f) = kr (vx σ) c (fun i => if i < (axc c).2 then f i else 0) := by
  funext c' i
  have g := axc_ge c hc h0
  unfold vx
  by_cases e0 : c' = 0
  · subst e0
    rw [if_pos rfl, kr_n (by omega), if_pos rfl]
    unfold sx
    split <;> first | rw [wA_n' (by omega)] | rfl
  · rw [if_neg e0]
    by_cases ec : c' = c
    · subst ec
      rw [kr_s, wA_1']
    · rw [kr_n ec, if_neg e0]
      rcases Nat.lt_or_ge c' 16 with q | q
      · rw [wA_n' (fun e => ec (axc_inj c' q c hc (by omega) h0 e))]
      · rw [axc_big q]; rfl
theorem vx_row {σ : Sto} {s : Nat} {f : Nat → Int32} (hs : s < 4) : vx (wA σ (61 + s) f) = kr (vx σ) (12 + s) (fun i => if i < 60 then f i else 0) := by
  match s, hs with
  | 0, _ => exact vx_wA (c := 12) (by omega) (by omega)
  | 1, _ => exact vx_wA (c := 13) (by omega) (by omega)
  | 2, _ => exact vx_wA (c := 14) (by omega) (by omega)
  | 3, _ => exact vx_wA (c := 15) (by omega) (by omega)
theorem vm_items {σ : Sto} {s : Nat} {f : Nat → Int32} (hs : s < 4) (ho : ∀ i, ¬ (60 * s ≤ i ∧ i < 60 * s + 60) → f i = σ.1 89 i) : vm (wA σ 89 f) = kr (vm σ) (12 + s) (fun i => if i < 60 then f (60 * s + i) else 0) := by
  funext c i
  unfold vm
  by_cases e0 : c = 0
  · subst e0
    rw [if_pos rfl, kr_n (by omega), if_pos rfl]
    unfold sm
    split <;> first | rw [wA_n' (by omega)] | rfl
  · rw [if_neg e0]
    by_cases e10 : c = 10
    · subst e10
      rw [if_pos rfl, kr_n (by omega), if_neg (show ¬ 10 = 0 by omega), if_pos rfl, wA_n' (by omega), wA_n' (by omega)]
    · rw [if_neg e10]
      rcases Nat.lt_or_ge c 16 with q | q
      · by_cases e89 : 12 ≤ c
        · have ha : axm c = (89, 60, 60 * (c - 12)) := by
            have : c = 12 ∨ c = 13 ∨ c = 14 ∨ c = 15 := by omega
            rcases this with rfl | rfl | rfl | rfl <;> rfl
          rw [ha]
          show (if i < 60 then (wA σ 89 f).1 89 (60 * (c - 12) + i) else 0) = _
          rw [wA_1']
          by_cases ec : c = 12 + s
          · subst ec
            rw [kr_s, show 12 + s - 12 = s by omega]
          · rw [kr_n ec, if_neg e0, if_neg e10, ha]
            show (if i < 60 then f (60 * (c - 12) + i) else 0) = (if i < 60 then σ.1 89 (60 * (c - 12) + i) else 0)
            split
            · exact ho _ (by omega)
            · rfl
        · have hn : (axm c).1 ≠ 89 := by
            have : ∀ a, a < 12 → (axm a).1 ≠ 89 := by decide
            exact this c (by omega)
          rw [wA_n' hn, kr_n (by omega), if_neg e0, if_neg e10]
      · rw [axm_big q]
        by_cases ec : c = 12 + s
        · omega
        · rw [kr_n ec, if_neg e0, if_neg e10, axm_big q]; rfl
theorem Inv.krow {κ : Kp} {c : Nat} {f : Nat → Int32} (h : Inv κ) (hc : 12 ≤ c) : Inv (kr κ c f) := by
  have hh := h
  obtain ⟨g1, g2, g3, g4, g5, g6, g7, g8, g9, g10, g11⟩ := h
  exact hh.chg (fun i _ => kr_n (by omega)) (by rw [kr_n (by omega)]; exact g5) (by rw [kr_n (by omega)]; exact g6) (fun i => kr_n (by omega)) (fun i hi => by rw [kr_n (by omega)]; exact (g7 i hi).2) (fun c' i a b => kr_n (by omega)) (fun i hi => by rw [kr_n (by omega)]; exact g10 i hi) (fun i hi => by rw [kr_n (by omega), kr_n (by omega)]; exact g11 i hi)
theorem sd_row {κ : Kp} {c : Nat} {f : Nat → Int32} (hc : 9 ≤ c) : SD κ (kr κ c f) := by
  have e0 : ∀ i, kr κ c f 0 i = κ 0 i := fun i => kr_n (by omega)
  refine ⟨by unfold nR; rw [e0 3], fun r _ => ⟨?_, kr_n (by omega), kr_n (by omega), kr_n (by omega), kr_n (by omega)⟩⟩
  unfold kn kto
  rw [e0 0, e0 1, kr_n (by omega), kr_n (by omega)]
theorem om_upd2 {σ τ : Sto} {κ' : Kp} (h : OM σ) (hv : vm τ = κ') (hi : Inv κ') (hw : τ.1 67 13 = 0 ∨ (τ.1 67 13 = σ.1 67 13 ∧ (∀ c, 76 ≤ c → c ≤ 81 → τ.1 c = σ.1 c ∧ τ.2 c = σ.2 c) ∧ SD (vm σ) κ')) (hb : ∀ s, s < 4 → (τ.1 86 s = 0 ∨ τ.1 86 s = 1) ∧ 0 ≤ (τ.1 87 s).toInt) : OM τ := by
  unfold OM WM
  rw [hv]
  refine ⟨hi, ?_, hb⟩
  rcases hw with hw | ⟨h1, h2, h3⟩
  · exact Or.inl hw
  · rw [h1]
    exact h.2.1.imp id (fun g => ⟨g.1, (sd_DM h3 g.2).cells h2⟩)
theorem fillI_ok {c n : Nat} {v : Int32} {σ : Sto} {post : Sto → Prop} (hn : n < 2 ^ 31) (h : post (wA σ c (fun i => if i < n then v else σ.1 c i))) : wJ7_fill_53178 c n v σ post := by
  unfold wJ7_fill_53178
  refine pk_loop (fun k i s => wJ7_fill_53178_5 post c n (fun σ_1 => post σ_1) k v (nI i) (Int32.ofNat n) s) (fun i s => s = wA σ c (fun j => if j < i then v else σ.1 c j)) n 0 σ (Nat.zero_le _) ?_ ?_ ?_
  · have : (fun j => if j < 0 then v else σ.1 c j) = σ.1 c := by funext j; simp
    rw [this, wA_self]
  · intro k s hs
    unfold wJ7_fill_53178_5
    exact ⟨fun _ => by rw [hs]; exact h, fun q => absurd (nI_le (Nat.le_refl n) hn) q⟩
  · intro k i s hi hs kk
    unfold wJ7_fill_53178_5
    refine ⟨fun q => absurd q (nI_ge hi hn), fun _ => ⟨vp_in_nI hi hn, ?_⟩⟩
    rw [nI_1]
    refine kk _ ?_
    rw [hs, nI_clamp (by omega), wI_wA]
    congr 1
    funext j
    unfold upd
    by_cases e1 : j = i
    · simp [e1]
    · by_cases e2 : j < i
      · simp [e1, e2, Nat.lt_succ_of_lt e2]
      · simp [e1, e2, show ¬ j < i + 1 by omega]

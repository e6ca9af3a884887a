/-! rows in order -/
def RwL (σ : Sto) (c : Nat) (L : List Int) : Prop := ∀ k, k < L.length → (σ.2 c k).toInt = L.getD k 0
def SL (M l : List Int) : Prop := M.Pairwise (fun a b => a ≤ b) ∧ M.Perm l
def srt (l : List Int) : List Int := l.mergeSort (fun a b => decide (a ≤ b))
theorem srt_p (l : List Int) : (srt l).Perm l := List.mergeSort_perm _ _
theorem SL_srt {M l : List Int} (h : SL M l) : M = srt l := by
  refine List.Perm.eq_of_pairwise (le := fun a b => a ≤ b) (fun a b _ _ h1 h2 => Int.le_antisymm h1 h2) h.1 ?_ (h.2.trans (srt_p l).symm)
  have := List.pairwise_mergeSort (le := fun (a b : Int) => decide (a ≤ b)) (fun a b c h1 h2 => by simp at h1 h2 ⊢; omega) (fun a b => by simp; omega) l
  exact this.imp (fun h => of_decide_eq_true h)
theorem SL_perm {M l m : List Int} (h : SL M l) (p : l.Perm m) : SL M m := ⟨h.1, h.2.trans p⟩
theorem SL_len {M l : List Int} (h : SL M l) : M.length = l.length := h.2.length_eq
theorem srt_eq {l m : List Int} (p : l.Perm m) : srt l = srt m := by
  refine SL_srt (M := srt l) ⟨?_, (srt_p l).trans p⟩
  have := List.pairwise_mergeSort (le := fun (a b : Int) => decide (a ≤ b)) (fun a b c h1 h2 => by simp at h1 h2 ⊢; omega) (fun a b => by simp; omega) l
  exact this.imp (fun h => of_decide_eq_true h)
theorem gD_i {L : List Int} {k : Nat} (h : k < L.length) : L.getD k 0 = L[k] := by
  rw [List.getD_eq_getElem?_getD, List.getElem?_eq_getElem h]; rfl
theorem insG {L : List Int} {v : Int} {a k : Nat} (ha : a ≤ L.length) : (L.take a ++ v :: L.drop a).getD k 0 = if k < a then L.getD k 0 else if k = a then v else L.getD (k - 1) 0 := by
  have hl : (L.take a).length = a := by rw [List.length_take]; omega
  rw [List.getD_eq_getElem?_getD, List.getElem?_append, hl]
  by_cases q : k < a
  · rw [if_pos q, if_pos q, List.getElem?_take, if_pos q, List.getD_eq_getElem?_getD]
  · rw [if_neg q, if_neg q]
    by_cases e : k = a
    · rw [if_pos e, e, Nat.sub_self]; rfl
    · rw [if_neg e, show k - a = (k - 1 - a) + 1 by omega, List.getElem?_cons_succ, List.getElem?_drop, show a + (k - 1 - a) = k - 1 by omega, List.getD_eq_getElem?_getD]
theorem insSL {L l : List Int} {v : Int} {a : Nat} (h : SL L l) (ha : a ≤ L.length) (h1 : a = 0 ∨ L.getD (a - 1) 0 ≤ v) (h2 : ∀ k, a ≤ k → k < L.length → v < L.getD k 0) : SL (L.take a ++ v :: L.drop a) (v :: l) := by
  have pw := List.pairwise_iff_getElem.mp h.1
  refine ⟨?_, ?_⟩
  · have pp := h.1
    rw [← List.take_append_drop a L, List.pairwise_append] at pp
    rw [List.pairwise_append]
    refine ⟨pp.1, List.pairwise_cons.mpr ⟨fun y hy => ?_, pp.2.1⟩, fun x hx y hy => ?_⟩
    · obtain ⟨i, hi, e⟩ := List.mem_iff_getElem.mp hy
      rw [List.length_drop] at hi
      have := h2 (a + i) (by omega) (by omega)
      rw [gD_i (by omega)] at this
      rw [List.getElem_drop] at e
      omega
    · rcases List.mem_cons.mp hy with e | e
      · rw [e]
        obtain ⟨i, hi, e2⟩ := List.mem_iff_getElem.mp hx
        rw [List.length_take] at hi
        rw [List.getElem_take] at e2
        rcases h1 with z | z
        · omega
        · rw [gD_i (by omega)] at z
          by_cases q : i = a - 1
          · subst q; omega
          · have := pw i (a - 1) (by omega) (by omega) (by omega)
            omega
      · exact pp.2.2 x hx y e
  · refine List.perm_middle.trans (List.Perm.cons v ?_)
    rw [List.take_append_drop]
    exact h.2
theorem nI_m1 (k : Nat) : nI (k + 1) + (-1 : Int32) = nI k := by
  rw [← nI_1, Int32.add_assoc]
  show nI k + 0 = _
  rw [Int32.add_zero]
/-- a long row alone has changed -/
def fr1 (c : Nat) (σ τ : Sto) : Prop := τ.1 = σ.1 ∧ ∀ c', c' ≠ c → τ.2 c' = σ.2 c'
theorem fr1.refl {c : Nat} {σ : Sto} : fr1 c σ σ := ⟨rfl, fun _ _ => rfl⟩
theorem fr1.wL {c i : Nat} {v : Int64} {σ τ : Sto} (h : fr1 c σ τ) : fr1 c σ (wL τ c i v) := ⟨h.1, fun c' e => by rw [wL_n e]; exact h.2 c' e⟩
theorem fr1.qx {c : Nat} {σ τ : Sto} (h : fr1 c σ τ) (hc : scr c = true) : qx σ τ := ⟨fun c' x => ⟨by rw [h.1], h.2 c' (fun e => by rw [e, hc] at x; cases x)⟩, by rw [h.1], by rw [h.1]⟩
theorem ins_loop {c n0 : Nat} {v : Int64} {V : Int} {W : Nat → Int32 → Sto → Prop} {K : Int32 → Sto → Prop} {σ : Sto} {L l : List Int} (hn : n0 < 2147483648) (hW : ∀ n x s, (((x ≤ 0) → K x s) ∧ ((¬ (x ≤ 0)) → (vp_in (x - ((1 : Int32))) n0 ∧ ((((s.2 c (x - ((1 : Int32))).toNatClampNeg) ≤ v) → K x s) ∧ ((¬ ((s.2 c (x - ((1 : Int32))).toNatClampNeg) ≤ v)) → (vp_in (x - ((1 : Int32))) n0 ∧ (vp_in x n0 ∧ (W n (x + (-1 : Int32)) (wL s c x.toNatClampNeg (s.2 c (x - ((1 : Int32))).toNatClampNeg))))))))) → W (n + 1) x s)) (hv : v.toInt = V) (hR : RwL σ c L) (hS : SL L l) (hm : L.length < n0) (hq : ∀ (a : Nat) (s : Sto), a < n0 → fr1 c σ s → RwL (wL s c a v) c (L.take a ++ v.toInt :: L.drop a) → SL (L.take a ++ v.toInt :: L.drop a) (V :: l) → K (nI a) s) : ∃ n, W n (nI L.length) σ := by
  refine ⟨_, pk_loopD (fun n a s => W n (nI a) s) (fun a s => a ≤ L.length ∧ fr1 c σ s ∧ (∀ k, k < a → (s.2 c k).toInt = L.getD k 0) ∧ ∀ k, a ≤ k → k < L.length → (s.2 c (k + 1)).toInt = L.getD k 0 ∧ V < L.getD k 0) ?_ ?_ L.length σ ⟨Nat.le_refl _, fr1.refl, hR, fun k a b => by omega⟩⟩
  · intro n s hs
    obtain ⟨h0, h1, h2, h3⟩ := hs
    refine hW n _ s ⟨fun _ => ?_, fun z => absurd (by decide) z⟩
    refine hq 0 s (by omega) h1 ?_ ?_
    · intro k hk
      rw [insG (by omega), wL_2]
      rw [List.length_append, List.length_cons, List.length_drop, List.length_take] at hk
      rw [if_neg (by omega)]
      by_cases e : k = 0
      · rw [if_pos e, e, uLS]
      · rw [if_neg e, uLN e]
        have := (h3 (k - 1) (by omega) (by omega)).1
        rw [show k - 1 + 1 = k by omega] at this
        exact this
    · rw [← hv]
      exact insSL hS (by omega) (Or.inl rfl) (fun k a b => by rw [hv]; exact (h3 k a b).2)
  · intro n a s hs kk
    obtain ⟨h0, h1, h2, h3⟩ := hs
    have ca : (nI a).toNatClampNeg = a := nI_clamp (by omega)
    have ca1 : (nI (a + 1)).toNatClampNeg = a + 1 := nI_clamp (by omega)
    have va := h2 a (by omega)
    refine hW n _ s ?_
    rw [nI_pred, nI_m1, ca, ca1, lLe, va, hv]
    refine ⟨fun z => absurd z (nI_nle (by omega) (by omega)), fun _ => ⟨vp_in_nI (by omega) (by omega), fun z => ?_, fun z => ⟨vp_in_nI (by omega) (by omega), vp_in_nI (by omega) (by omega), kk _ ⟨by omega, h1.wL, fun k hk => ?_, fun k hk1 hk2 => ?_⟩⟩⟩⟩
    · refine hq (a + 1) s (by omega) h1 ?_ ?_
      · intro k hk
        rw [insG h0, wL_2]
        rw [List.length_append, List.length_cons, List.length_drop, List.length_take] at hk
        by_cases q : k < a + 1
        · rw [if_pos q, uLN (by omega)]; exact h2 k q
        · rw [if_neg q]
          by_cases e : k = a + 1
          · rw [if_pos e, e, uLS]
          · rw [if_neg e, uLN e]
            have := (h3 (k - 1) (by omega) (by omega)).1
            rw [show k - 1 + 1 = k by omega] at this
            exact this
      · rw [← hv]
        exact insSL hS h0 (Or.inr (by rw [hv]; exact z)) (fun k a b => by rw [hv]; exact (h3 k a b).2)
    · rw [wL_2, uLN (by omega)]; exact h2 k (by omega)
    · rw [wL_2]
      by_cases e : k = a
      · rw [e, uLS]
        exact ⟨va, by omega⟩
      · rw [uLN (by omega)]
        exact h3 k (by omega) hk2
theorem ins_len {L : List Int} {a : Nat} {v : Int} (h : a ≤ L.length) : (L.take a ++ v :: L.drop a).length = L.length + 1 := by
  rw [List.length_append, List.length_cons, List.length_drop, List.length_take]; omega
theorem X_order {c n0 m : Nat} {v : Int64} {V : Int} {σ : Sto} {post : Sto → Prop} {L l : List Int} (hn : n0 < 2147483648) (hv : v.toInt = V) (hR : RwL σ c L) (hS : SL L l) (hl : L.length = m) (hm : m < n0) (hq : ∀ τ M, fr1 c σ τ → RwL τ c M → SL M (V :: l) → post τ) : wX10_putInOrder c n0 (nI m) v σ post := by
  unfold wX10_putInOrder
  refine ⟨fun z => absurd z (nI_pos (by omega)), fun _ => ⟨fun _ => ?_, fun z => absurd (nI_lt (a := m) (b := n0) hm (by omega)) z⟩⟩
  rw [← hl]
  refine ins_loop (W := fun n x s => wX10_putInOrder_14 post c n0 (fun (x2_1 : Int64) (x4_1 : Int32) (σ_1 : Sto) => wX10_putInOrder_46 post c n0 x2_1 x4_1 σ_1) n v x s) (K := fun x s => wX10_putInOrder_46 post c n0 v x s) (c := c) hn (fun n x s h => h) hv hR hS (by omega) (fun a s ha f r sl => ?_)
  unfold wX10_putInOrder_46
  rw [nI_clamp (by omega)]
  exact ⟨vp_in_nI ha (by omega), hq _ _ f.wL r sl⟩
theorem M_add {v : Int64} {V : Int} {m : Nat} {σ : Sto} {post : Sto → Prop} {L l : List Int} (hv : v.toInt = V) (hR : RwL σ 84 L) (hS : SL L l) (hl : L.length = m) (hc : σ.1 67 23 = nI m) (hm : m < 105) (hq : ∀ τ M, (∃ s, fr1 84 σ s ∧ τ = wI s 67 23 (nI (m + 1))) → RwL τ 84 M → SL M (V :: l) → post τ) : wX11_add v σ post := by
  unfold wX11_add
  rw [hc, ← hl]
  refine ins_loop (W := fun n x s => wX11_add_5 post (fun (x1_1 : Int64) (x3_1 : Int32) (σ_1 : Sto) => wX11_add_42 post x1_1 x3_1 σ_1) n v x s) (K := fun x s => wX11_add_42 post v x s) (c := 84) (n0 := 105) (by decide) (fun n x s h => h) hv hR hS (by omega) (fun a s ha f r sl => ?_)
  unfold wX11_add_42
  rw [nI_clamp (by omega), f.1, hc, nI_1]
  exact ⟨vp_in_nI ha (by omega), hq _ _ ⟨_, f.wL, rfl⟩ r sl⟩
def twZ (L : List Int) : Int := L.getD ((L.length - 1) / 2) 0 + L.getD (L.length / 2) 0
theorem nI_half {n : Nat} (h : n < 1000) : nI n / (2 : Int32) = nI (n / 2) := by
  have e1 : (nI n).toInt = n := nI_toInt (by omega)
  refine iExt (a := ((n / 2 : Nat) : Int)) ?_ (nI_toInt (by omega))
  rw [Int32.toInt_div_of_ne_right _ _ (by decide), e1]
  show ((n : Int).tdiv 2) = _
  rw [Int.tdiv_eq_ediv_of_nonneg (by omega)]
  omega
theorem X_twice {c n0 m : Nat} {σ : Sto} {post : Int64 → Sto → Prop} {L : List Int} (hn : n0 < 1000) (hR : RwL σ c L) (hl : L.length = m) (h0 : 0 < m) (hm : m ≤ n0) (hb : ∀ k, k < m → -4000000000000000000 ≤ L.getD k 0 ∧ L.getD k 0 ≤ 4000000000000000000) (hq : ∀ r : Int64, r.toInt = twZ L → post r σ) : wX6_twiceMiddle c n0 (nI m) σ post := by
  obtain ⟨k, rfl⟩ : ∃ k, m = k + 1 := ⟨m - 1, by omega⟩
  unfold wX6_twiceMiddle
  rw [nI_pred, nI_half (by omega), nI_half (by omega), nI_clamp (by omega), nI_clamp (by omega)]
  refine ⟨fun z => absurd z (nI_nle (by omega) (by omega)), fun _ => ⟨vp_in_nI (by omega) (by omega), vp_in_nI (by omega) (by omega), hq _ ?_⟩⟩
  unfold twZ
  rw [hl, Nat.add_sub_cancel]
  have b1 := hb (k / 2) (by omega)
  have b2 := hb ((k + 1) / 2) (by omega)
  exact lAdd (hR _ (by omega)) (hR _ (by omega)) (by omega) (by omega)
/-- the middle as the model keeps it -/
theorem M_middle {m : Nat} {σ : Sto} {post : Sto → Prop} {L : List Int} (hR : RwL σ 84 L) (hl : L.length = m) (hc : σ.1 67 23 = nI m) (h0 : 0 < m) (hm : m ≤ 105) (hb : ∀ k, k < m → -4000000000000000000 ≤ L.getD k 0 ∧ L.getD k 0 ≤ 4000000000000000000) (hq : ∀ (t b : Int64) (B : Int), b.toInt = B → (B = 1 ∨ B = 2) → 2 * t.toInt = twZ L * B → post (wL (wL σ 67 25 t) 67 26 b)) : wX11_middle σ post := by
  have e1 : (nI m).toInt = m := nI_toInt (by omega)
  have em : nI m - nI m / (2 : Int32) * (2 : Int32) = nI (m % 2) := by
    have h2 : (nI m / (2 : Int32)).toInt = ((m / 2 : Nat) : Int) := by rw [nI_half (by omega)]; exact nI_toInt (by omega)
    have h3 : (nI m / (2 : Int32) * (2 : Int32)).toInt = ((m / 2 : Nat) : Int) * 2 := iMul h2 rfl (by omega) (by omega)
    refine iExt (iSub e1 h3 (by omega) (by omega)) ?_
    rw [nI_toInt (by omega)]
    omega
  unfold wX11_middle wX11_middle_15 wX11_middle_60
  rw [hc, em, nI_half (by omega)]
  have tw : twZ L = L.getD ((m - 1) / 2) 0 + L.getD (m / 2) 0 := by unfold twZ; rw [hl]
  rcases Nat.mod_two_eq_zero_or_one m with q | q
  · rw [q]
    obtain ⟨k, hk⟩ : ∃ k, m / 2 = k + 1 := ⟨m / 2 - 1, by omega⟩
    rw [hk, nI_pred, nI_clamp (by omega), nI_clamp (by omega)]
    refine ⟨fun _ => ⟨fun _ => ⟨vp_in_nI (by omega) (by omega), vp_in_nI (by omega) (by omega), fun _ => hq _ 2 2 rfl (Or.inr rfl) ?_, fun z => absurd rfl z⟩, fun z => absurd rfl z⟩, fun z => absurd z (by decide)⟩
    have b1 := hb k (by omega)
    have b2 := hb (k + 1) (by omega)
    rw [lAdd (hR k (by omega)) (hR (k + 1) (by omega)) (by omega) (by omega), tw, hk, show (m - 1) / 2 = k by omega]
    omega
  · rw [q, nI_clamp (by omega)]
    refine ⟨fun z => absurd rfl z, fun _ => ⟨fun z => absurd z (by decide), fun _ => ⟨vp_in_nI (by omega) (by omega), fun z => absurd z (by decide), fun _ => hq _ 1 1 rfl (Or.inl rfl) ?_⟩⟩⟩
    rw [hR (m / 2) (by omega), tw, show (m - 1) / 2 = m / 2 by omega]
    omega

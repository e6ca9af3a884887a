theorem axm_lt : ∀ a, a < 16 → (axm a).1 ≠ 67 ∧ (axm a).1 ≠ 86 ∧ (axm a).1 ≠ 87 ∧ ((axm a).1 = 0 ∨ 68 ≤ (axm a).1 ∧ ((axm a).1 < 76 ∨ 85 ≤ (axm a).1) ∧ (axm a).1 < 90) := by decide
def axq (a b : Nat) : Bool := (axm a).2.1 == 0 || (axm b).2.1 == 0 || (axm a).1 != (axm b).1 || a == b || ((axm a).1 == 89 && (axm a).2.1 == 60 && (axm b).2.1 == 60 && (decide ((axm a).2.2 + 60 ≤ (axm b).2.2) || decide ((axm b).2.2 + 60 ≤ (axm a).2.2)))
theorem axq_ok : ∀ a, a < 16 → ∀ b, b < 16 → axq a b = true := by decide
theorem axm_inj (a : Nat) (ha : a < 16) (b : Nat) (hb : b < 16) (h1 : 0 < (axm a).2.1) (h2 : 0 < (axm b).2.1) (h3 : (axm a).1 = (axm b).1) : a = b ∨ (axm a).1 = 89 ∧ (axm a).2.1 = 60 ∧ (axm b).2.1 = 60 ∧ ((axm a).2.2 + 60 ≤ (axm b).2.2 ∨ (axm b).2.2 + 60 ≤ (axm a).2.2) := by
  have h := axq_ok a ha b hb
  unfold axq at h
  simp only [Bool.or_eq_true, Bool.and_eq_true, beq_iff_eq, bne_iff_ne, decide_eq_true_eq] at h
  omega
theorem vm_ar {σ : Sto} {c j : Nat} {v : Int32} (h1 : c ≠ 0) (h10 : c ≠ 10) (hj : j < (axm c).2.1) : vm (wI σ (axm c).1 ((axm c).2.2 + j) v) = kup (vm σ) c j v := by
  have hc : c < 16 := by
    rcases Nat.lt_or_ge c 16 with q | q
    · exact q
    · rw [axm_big q] at hj; exact absurd hj (Nat.not_lt_zero _)
  funext c' i
  have g := axm_lt c hc
  unfold vm
  by_cases e0 : c' = 0
  · subst e0
    rw [if_pos rfl, kup_n (by omega), if_pos rfl]
    unfold sm
    split <;> first | rw [wI_n (by omega)] | rfl
  · rw [if_neg e0]
    by_cases e10 : c' = 10
    · subst e10
      rw [if_pos rfl, kup_n (by omega), if_neg (show ¬ 10 = 0 by omega), if_pos rfl, wI_n (by omega), wI_n (by omega)]
    · rw [if_neg e10]
      by_cases ec : c' = c
      · subst ec
        by_cases ei : i = j
        · subst ei
          rw [kup_s, if_pos hj, wI_1, uS]
        · rw [kup_n (by omega), if_neg e0, if_neg e10]
          split
          · rw [wI_1, uN (by omega)]
          · rfl
      · rw [kup_n (by omega), if_neg e0, if_neg e10]
        split
        · rename_i hi
          rcases Nat.lt_or_ge c' 16 with q | q
          · by_cases ea : (axm c').1 = (axm c).1
            · rcases axm_inj c' q c hc (by omega) (by omega) ea with e | ⟨e1, e2, e3, e4⟩
              · exact absurd e ec
              · rw [ea, wI_1, uN (by omega)]
            · rw [wI_n ea]
          · rw [axm_big q] at hi; exact absurd hi (Nat.not_lt_zero _)
        · rfl
theorem vm_sc {σ : Sto} {i j : Nat} {v : Int32} (h : (i, j) ∈ ([(0, 0), (11, 1), (1, 2), (4, 3), (12, 4), (29, 5), (41, 6)] : List (Nat × Nat))) : vm (wI σ 67 i v) = kup (vm σ) 0 j v := by
  funext c' k
  unfold vm
  by_cases e0 : c' = 0
  · subst e0
    rw [if_pos rfl]
    simp only [List.mem_cons, Prod.mk.injEq, List.not_mem_nil, or_false] at h
    rcases h with ⟨rfl, rfl⟩ | ⟨rfl, rfl⟩ | ⟨rfl, rfl⟩ | ⟨rfl, rfl⟩ | ⟨rfl, rfl⟩ | ⟨rfl, rfl⟩ | ⟨rfl, rfl⟩ <;> unfold sm kup <;> split <;> simp_all [wI, wA, upd]
  · rw [if_neg e0, kup_n (by omega), if_neg e0]
    by_cases e10 : c' = 10
    · rw [if_pos e10, if_pos e10, wI_n (by omega), wI_n (by omega)]
    · rw [if_neg e10, if_neg e10]
      split
      · rename_i q
        rcases Nat.lt_or_ge c' 16 with q2 | q2
        · have := axm_lt c' q2
          rw [wI_n this.1]
        · rw [axm_big q2] at q; exact absurd q (Nat.not_lt_zero _)
      · rfl
/-! what a class's method leaves of the other's cells; what a question leaves -/
def fm (σ τ : Sto) : Prop := ∀ c, 67 ≤ c → τ.1 c = σ.1 c ∧ τ.2 c = σ.2 c
def fx (σ τ : Sto) : Prop := ∀ c, c < 67 → τ.1 c = σ.1 c ∧ τ.2 c = σ.2 c
theorem fm.refl {σ : Sto} : fm σ σ := fun _ _ => ⟨rfl, rfl⟩
theorem fx.refl {σ : Sto} : fx σ σ := fun _ _ => ⟨rfl, rfl⟩
theorem fm.trans {σ τ υ : Sto} (h1 : fm σ τ) (h2 : fm τ υ) : fm σ υ := fun c h => ⟨(h2 c h).1.trans (h1 c h).1, (h2 c h).2.trans (h1 c h).2⟩
theorem fx.trans {σ τ υ : Sto} (h1 : fx σ τ) (h2 : fx τ υ) : fx σ υ := fun c h => ⟨(h2 c h).1.trans (h1 c h).1, (h2 c h).2.trans (h1 c h).2⟩
theorem fm.wI {σ τ : Sto} {c i : Nat} {v : Int32} (h : fm σ τ) (hc : c < 67) : fm σ (wI τ c i v) := fun c' h' => ⟨by rw [wI_n (by omega)]; exact (h c' h').1, (h c' h').2⟩
theorem fm.wL {σ τ : Sto} {c i : Nat} {v : Int64} (h : fm σ τ) (hc : c < 67) : fm σ (wL τ c i v) := fun c' h' => ⟨(h c' h').1, by rw [wL_n (by omega)]; exact (h c' h').2⟩
theorem fx.wI {σ τ : Sto} {c i : Nat} {v : Int32} (h : fx σ τ) (hc : 67 ≤ c) : fx σ (wI τ c i v) := fun c' h' => ⟨by rw [wI_n (by omega)]; exact (h c' h').1, (h c' h').2⟩
theorem fx.wL {σ τ : Sto} {c i : Nat} {v : Int64} (h : fx σ τ) (hc : 67 ≤ c) : fx σ (wL τ c i v) := fun c' h' => ⟨(h c' h').1, by rw [wL_n (by omega)]; exact (h c' h').2⟩
def scr (c : Nat) : Bool := c == 3 || c == 5 || c == 7 || c == 8 || (10 ≤ c && c ≤ 12) || (49 ≤ c && c ≤ 58)
/-- the class's scratch alone has changed -/
def qx (σ τ : Sto) : Prop := (∀ c, scr c = false → τ.1 c = σ.1 c ∧ τ.2 c = σ.2 c) ∧ τ.1 3 3 = σ.1 3 3 ∧ τ.1 8 4 = σ.1 8 4
theorem qx.refl {σ : Sto} : qx σ σ := ⟨fun _ _ => ⟨rfl, rfl⟩, rfl, rfl⟩
theorem qx.trans {σ τ υ : Sto} (h1 : qx σ τ) (h2 : qx τ υ) : qx σ υ := ⟨fun c h => ⟨(h2.1 c h).1.trans (h1.1 c h).1, (h2.1 c h).2.trans (h1.1 c h).2⟩, h2.2.1.trans h1.2.1, h2.2.2.trans h1.2.2⟩
theorem qx.wI {σ τ : Sto} {c i : Nat} {v : Int32} (h : qx σ τ) (hc : scr c = true) (h3 : c = 3 → i ≠ 3) (h8 : c = 8 → i ≠ 4) : qx σ (wI τ c i v) := by
  refine ⟨fun c' h' => ⟨?_, (h.1 c' h').2⟩, ?_, ?_⟩
  · rw [wI_n (fun e => by rw [e, hc] at h'; cases h')]; exact (h.1 c' h').1
  · by_cases e : 3 = c
    · subst e
      rw [wI_1, uN (fun q => h3 rfl q.symm)]; exact h.2.1
    · rw [wI_n e]; exact h.2.1
  · by_cases e : 8 = c
    · subst e
      rw [wI_1, uN (fun q => h8 rfl q.symm)]; exact h.2.2
    · rw [wI_n e]; exact h.2.2
theorem qx.wL {σ τ : Sto} {c i : Nat} {v : Int64} (h : qx σ τ) (hc : scr c = true) : qx σ (wL τ c i v) := by
  refine ⟨fun c' h' => ⟨(h.1 c' h').1, ?_⟩, h.2.1, h.2.2⟩
  rw [wL_n (fun e => by rw [e, hc] at h'; cases h')]; exact (h.1 c' h').2
theorem qx.fm {σ τ : Sto} (h : qx σ τ) : fm σ τ := fun c hc => h.1 c (by unfold scr; simp; omega)
theorem vx_congr {σ τ : Sto} (h : ∀ c, scr c = false → c < 67 → τ.1 c = σ.1 c) (h3 : τ.1 3 3 = σ.1 3 3) (h8 : τ.1 8 4 = σ.1 8 4) : vx τ = vx σ := by
  funext c i
  unfold vx
  by_cases e0 : c = 0
  · rw [if_pos e0, if_pos e0]
    unfold sx
    split <;> first | exact congrFun (h 1 (by decide) (by omega)) _ | exact h3 | exact h8 | exact congrFun (h 9 (by decide) (by omega)) _ | rfl
  · rw [if_neg e0, if_neg e0]
    split
    · rename_i q
      rcases Nat.lt_or_ge c 16 with q2 | q2
      · have g := axc_ge c q2 (by omega)
        rw [h (axc c).1 (by unfold scr; simp; omega) g.2.1]
      · rw [axc_big q2] at q; exact absurd q (Nat.not_lt_zero _)
    · rfl
theorem qx.vx {σ τ : Sto} (h : qx σ τ) : vx τ = vx σ := vx_congr (fun c a _ => (h.1 c a).1) h.2.1 h.2.2
theorem fx.vx {σ τ : Sto} (h : fx σ τ) : vx τ = vx σ := vx_congr (fun c _ a => (h c a).1) (congrFun (h 3 (by omega)).1 3) (congrFun (h 8 (by omega)).1 4)
def scm (c : Nat) : Bool := c == 67 || (76 ≤ c && c ≤ 84) || c == 90
def cpl (i : Nat) : Bool := i == 0 || i == 1 || i == 4 || i == 11 || i == 12 || i == 29 || i == 41
/-- the model's scratch and its worked tables alone have changed -/
def qm (σ τ : Sto) : Prop := (∀ c, scm c = false → τ.1 c = σ.1 c ∧ τ.2 c = σ.2 c) ∧ ∀ i, cpl i = true → τ.1 67 i = σ.1 67 i
theorem qm.refl {σ : Sto} : qm σ σ := ⟨fun _ _ => ⟨rfl, rfl⟩, fun _ _ => rfl⟩
theorem qm.trans {σ τ υ : Sto} (h1 : qm σ τ) (h2 : qm τ υ) : qm σ υ := ⟨fun c h => ⟨(h2.1 c h).1.trans (h1.1 c h).1, (h2.1 c h).2.trans (h1.1 c h).2⟩, fun i h => (h2.2 i h).trans (h1.2 i h)⟩
theorem qm.wI {σ τ : Sto} {c i : Nat} {v : Int32} (h : qm σ τ) (hc : scm c = true) (h3 : c = 67 → cpl i = false) : qm σ (wI τ c i v) := by
  refine ⟨fun c' h' => ⟨?_, (h.1 c' h').2⟩, fun j hj => ?_⟩
  · rw [wI_n (fun e => by rw [e, hc] at h'; cases h')]; exact (h.1 c' h').1
  · by_cases e : 67 = c
    · subst e
      rw [wI_1, uN (fun q => by rw [q, h3 rfl] at hj; cases hj)]; exact h.2 j hj
    · rw [wI_n e]; exact h.2 j hj
theorem qm.wL {σ τ : Sto} {c i : Nat} {v : Int64} (h : qm σ τ) (hc : scm c = true) : qm σ (wL τ c i v) := by
  refine ⟨fun c' h' => ⟨(h.1 c' h').1, ?_⟩, h.2⟩
  rw [wL_n (fun e => by rw [e, hc] at h'; cases h')]; exact (h.1 c' h').2
theorem qm.fx {σ τ : Sto} (h : qm σ τ) : fx σ τ := fun c hc => h.1 c (by unfold scm; simp; omega)
theorem vm_congr {σ τ : Sto} (h : ∀ c, scm c = false → 67 ≤ c → τ.1 c = σ.1 c) (h2 : ∀ i, cpl i = true → τ.1 67 i = σ.1 67 i) : vm τ = vm σ := by
  funext c i
  unfold vm
  by_cases e0 : c = 0
  · rw [if_pos e0, if_pos e0]
    unfold sm
    split <;> first | exact h2 _ (by decide) | rfl
  · rw [if_neg e0, if_neg e0]
    by_cases e10 : c = 10
    · rw [if_pos e10, if_pos e10, h 86 (by decide) (by omega), h 87 (by decide) (by omega)]
    · rw [if_neg e10, if_neg e10]
      split
      · rename_i q
        rcases Nat.lt_or_ge c 16 with q2 | q2
        · have g := axm_lt c q2
          by_cases ez : (axm c).1 = 0
          · have : ∀ a, a < 16 → (axm a).1 = 0 → (axm a).2.1 = 0 := by decide
            rw [this c q2 ez] at q; exact absurd q (Nat.not_lt_zero _)
          · rw [h (axm c).1 (by unfold scm; simp; omega) (by omega)]
        · rw [axm_big q2] at q; exact absurd q (Nat.not_lt_zero _)
      · rfl
theorem qm.vm {σ τ : Sto} (h : qm σ τ) : vm τ = vm σ := vm_congr (fun c a _ => (h.1 c a).1) h.2
theorem fm.vm {σ τ : Sto} (h : fm σ τ) : vm τ = vm σ := vm_congr (fun c _ a => (h c a).1) (fun i _ => congrFun (h 67 (Nat.le_refl _)).1 i)
/-- scratch of the model alone: the worked tables stay -/
def qd (σ τ : Sto) : Prop := qm σ τ ∧ (∀ c, 76 ≤ c → c ≤ 81 → τ.1 c = σ.1 c ∧ τ.2 c = σ.2 c) ∧ τ.1 67 13 = σ.1 67 13
theorem qd.refl {σ : Sto} : qd σ σ := ⟨qm.refl, fun _ _ _ => ⟨rfl, rfl⟩, rfl⟩
theorem qd.trans {σ τ υ : Sto} (h1 : qd σ τ) (h2 : qd τ υ) : qd σ υ := ⟨h1.1.trans h2.1, fun c a b => ⟨(h2.2.1 c a b).1.trans (h1.2.1 c a b).1, (h2.2.1 c a b).2.trans (h1.2.1 c a b).2⟩, h2.2.2.trans h1.2.2⟩
theorem qd.wI {σ τ : Sto} {c i : Nat} {v : Int32} (h : qd σ τ) (hc : scm c = true) (hn : c = 67 ∨ 82 ≤ c) (h3 : c = 67 → cpl i = false ∧ i ≠ 13) : qd σ (wI τ c i v) := by
  refine ⟨h.1.wI hc (fun e => (h3 e).1), fun c' a b => ⟨by rw [wI_n (by omega)]; exact (h.2.1 c' a b).1, (h.2.1 c' a b).2⟩, ?_⟩
  by_cases e : 67 = c
  · subst e
    rw [wI_1, uN (fun q => (h3 rfl).2 q.symm)]; exact h.2.2
  · rw [wI_n e]; exact h.2.2
theorem qd.wL {σ τ : Sto} {c i : Nat} {v : Int64} (h : qd σ τ) (hc : scm c = true) (hn : c = 67 ∨ 82 ≤ c) : qd σ (wL τ c i v) :=
  ⟨h.1.wL hc, fun c' a b => ⟨(h.2.1 c' a b).1, by rw [wL_n (by omega)]; exact (h.2.1 c' a b).2⟩, h.2.2⟩

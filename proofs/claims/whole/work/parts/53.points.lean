/-! a table of points grows -/
def PG (pc : Nat → Nat) (ps : Nat → Int) (n : Nat) (D S C : Nat → Int) : Prop :=
  (∀ i j, i < j → j < n → D i < D j) ∧ (∀ i, i < n → 0 ≤ D i ∧ D i < 400 ∧ 0 < pc (D i).toNat ∧ S i = ps (D i).toNat ∧ C i = pc (D i).toNat) ∧ ∀ d, d < 400 → 0 < pc d → ∃ i, i < n ∧ D i = d
def insF {α : Type} (f : Nat → α) (a : Nat) (v : α) : Nat → α := fun j => if j < a then f j else if j = a then v else f (j - 1)
theorem PG.congr {pc : Nat → Nat} {ps : Nat → Int} {n : Nat} {D S C D' S' C' : Nat → Int} (h : PG pc ps n D S C) (h1 : ∀ i, i < n → D' i = D i) (h2 : ∀ i, i < n → S' i = S i) (h3 : ∀ i, i < n → C' i = C i) : PG pc ps n D' S' C' := by
  obtain ⟨a, b, c⟩ := h
  refine ⟨fun i j x y => by rw [h1 i (by omega), h1 j y]; exact a i j x y, fun i x => by rw [h1 i x, h2 i x, h3 i x]; exact b i x, fun d x y => ?_⟩
  obtain ⟨i, z, w⟩ := c d x y
  exact ⟨i, z, by rw [h1 i z]; exact w⟩
theorem PG.ins {pc : Nat → Nat} {ps : Nat → Int} {n a o : Nat} {v : Int} {D S C : Nat → Int} (h : PG pc ps n D S C) (hz : ∀ d, pc d = 0 → ps d = 0) (ho : o < 400) (ha : a ≤ n) (hl : ∀ j, j < a → D j < o) (hu : a = n ∨ (o : Int) < D a) :
    PG (fun d => pc d + if d = o then 1 else 0) (fun d => ps d + if d = o then v else 0) (n + 1) (insF D a o) (insF S a v) (insF C a 1) := by
  obtain ⟨h1, h2, h3⟩ := h
  have hup : ∀ j, a ≤ j → j < n → (o : Int) < D j := fun j x y => by
    rcases hu with z | z
    · omega
    · rcases Nat.lt_or_ge a j with w | w
      · have := h1 a j w y; omega
      · rw [show j = a by omega]; exact z
  have h0 : pc o = 0 := by
    rcases Nat.eq_zero_or_pos (pc o) with z | z
    · exact z
    · obtain ⟨i, x, y⟩ := h3 o ho z
      rcases Nat.lt_or_ge i a with w | w
      · have := hl i w; omega
      · have := hup i w x; omega
  have key : ∀ j, j < n → D j ≠ o := fun j x => by
    rcases Nat.lt_or_ge j a with w | w
    · have := hl j w; omega
    · have := hup j w x; omega
  refine ⟨fun i j x y => ?_, fun i x => ?_, fun d x y => ?_⟩
  · unfold insF
    by_cases e1 : j < a
    · rw [if_pos e1, if_pos (by omega)]; exact h1 i j x (by omega)
    · rw [if_neg e1]
      by_cases e2 : j = a
      · rw [if_pos e2, if_pos (by omega)]; exact hl i (by omega)
      · rw [if_neg e2]
        by_cases e3 : i < a
        · rw [if_pos e3]; exact h1 i (j - 1) (by omega) (by omega)
        · rw [if_neg e3]
          by_cases e4 : i = a
          · rw [if_pos e4]; exact hup (j - 1) (by omega) (by omega)
          · rw [if_neg e4]; exact h1 (i - 1) (j - 1) (by omega) (by omega)
  · have old : ∀ j, j < n → 0 ≤ D j ∧ D j < 400 ∧ 0 < pc (D j).toNat + (if (D j).toNat = o then 1 else 0) ∧ S j = ps (D j).toNat + (if (D j).toNat = o then v else 0) ∧ C j = ((pc (D j).toNat + (if (D j).toNat = o then 1 else 0) : Nat) : Int) := fun j y => by
      have g := h2 j y
      have ne : ¬ (D j).toNat = o := fun z => key j y (by omega)
      rw [if_neg ne, if_neg ne]
      simp only [Nat.add_zero, Int.add_zero]
      exact g
    unfold insF
    by_cases e1 : i < a
    · rw [if_pos e1, if_pos e1, if_pos e1]; exact old i (by omega)
    · rw [if_neg e1, if_neg e1, if_neg e1]
      by_cases e2 : i = a
      · rw [if_pos e2, if_pos e2, if_pos e2]
        rw [Int.toNat_natCast]
        dsimp only
        rw [if_pos rfl, if_pos rfl, h0, hz o h0]
        exact ⟨by omega, by omega, by omega, by omega, rfl⟩
      · rw [if_neg e2, if_neg e2, if_neg e2]; exact old (i - 1) (by omega)
  · by_cases e : d = o
    · exact ⟨a, by omega, by unfold insF; rw [if_neg (by omega), if_pos rfl, e]⟩
    · dsimp only at y
      rw [if_neg e] at y
      obtain ⟨i, z, w⟩ := h3 d x y
      by_cases e1 : i < a
      · exact ⟨i, by omega, by unfold insF; rw [if_pos e1]; exact w⟩
      · exact ⟨i + 1, by omega, by unfold insF; rw [if_neg (by omega), if_neg (by omega), Nat.add_sub_cancel]; exact w⟩
theorem PG.add {pc : Nat → Nat} {ps : Nat → Int} {n a o : Nat} {v : Int} {D S C : Nat → Int} (h : PG pc ps n D S C) (ha : a < n) (ho : D a = o) :
    PG (fun d => pc d + if d = o then 1 else 0) (fun d => ps d + if d = o then v else 0) n D (fun j => if j = a then S a + v else S j) (fun j => if j = a then C a + 1 else C j) := by
  obtain ⟨h1, h2, h3⟩ := h
  refine ⟨h1, fun i x => ?_, fun d x y => ?_⟩
  · have g := h2 i x
    by_cases e : i = a
    · subst e
      dsimp only
      rw [if_pos rfl, if_pos rfl, if_pos (by omega), if_pos (by omega)]
      refine ⟨g.1, g.2.1, by omega, by rw [g.2.2.2.1], ?_⟩
      rw [g.2.2.2.2]
      omega
    · have ne : ¬ (D i).toNat = o := fun z => by
        rcases Nat.lt_or_ge i a with w | w
        · have := h1 i a w ha; omega
        · have := h1 a i (by omega) x; omega
      dsimp only
      rw [if_neg e, if_neg e, if_neg ne, if_neg ne]
      simp only [Nat.add_zero, Int.add_zero]
      exact g
  · by_cases e : d = o
    · exact ⟨a, ha, by rw [e]; exact ho⟩
    · dsimp only at y
      rw [if_neg e] at y
      exact h3 d x y
/-! the three rows of a piece's table, replaced -/
def st3 (σ : Sto) (p : Nat) (f g h : Nat → Int32) : Sto := wA (wA (wA σ (23 + p) f) (28 + p) g) (33 + p) h
section ST3
variable {σ : Sto} {p : Nat} {f g h : Nat → Int32}
theorem st3_1 (hp : p < 4) : (st3 σ p f g h).1 (23 + p) = f := by unfold st3; rw [wA_n' (by omega), wA_n' (by omega), wA_1']
theorem st3_2 (hp : p < 4) : (st3 σ p f g h).1 (28 + p) = g := by unfold st3; rw [wA_n' (by omega), wA_1']
theorem st3_3 : (st3 σ p f g h).1 (33 + p) = h := by unfold st3; rw [wA_1']
theorem st3_o {c : Nat} (h1 : c ≠ 23 + p) (h2 : c ≠ 28 + p) (h3 : c ≠ 33 + p) : (st3 σ p f g h).1 c = σ.1 c := by unfold st3; rw [wA_n' h3, wA_n' h2, wA_n' h1]
theorem sto_ext {σ τ : Sto} (h1 : ∀ c, σ.1 c = τ.1 c) (h2 : σ.2 = τ.2) : σ = τ := Prod.ext (funext h1) h2
theorem st3_w1 {i : Nat} {v : Int32} (hp : p < 4) : wI (st3 σ p f g h) (23 + p) i v = st3 σ p (upd f i v) g h := by
  refine sto_ext (fun c => ?_) rfl
  by_cases e1 : c = 23 + p
  · rw [e1, wI_1, st3_1 hp, st3_1 hp]
  · rw [wI_n e1]
    by_cases e2 : c = 28 + p
    · rw [e2, st3_2 hp, st3_2 hp]
    · by_cases e3 : c = 33 + p
      · rw [e3, st3_3, st3_3]
      · rw [st3_o e1 e2 e3, st3_o e1 e2 e3]
theorem st3_w2 {i : Nat} {v : Int32} (hp : p < 4) : wI (st3 σ p f g h) (28 + p) i v = st3 σ p f (upd g i v) h := by
  refine sto_ext (fun c => ?_) rfl
  by_cases e2 : c = 28 + p
  · rw [e2, wI_1, st3_2 hp, st3_2 hp]
  · rw [wI_n e2]
    by_cases e1 : c = 23 + p
    · rw [e1, st3_1 hp, st3_1 hp]
    · by_cases e3 : c = 33 + p
      · rw [e3, st3_3, st3_3]
      · rw [st3_o e1 e2 e3, st3_o e1 e2 e3]
theorem st3_w3 {i : Nat} {v : Int32} (hp : p < 4) : wI (st3 σ p f g h) (33 + p) i v = st3 σ p f g (upd h i v) := by
  refine sto_ext (fun c => ?_) rfl
  by_cases e3 : c = 33 + p
  · rw [e3, wI_1, st3_3, st3_3]
  · rw [wI_n e3]
    by_cases e1 : c = 23 + p
    · rw [e1, st3_1 hp, st3_1 hp]
    · by_cases e2 : c = 28 + p
      · rw [e2, st3_2 hp, st3_2 hp]
      · rw [st3_o e1 e2 e3, st3_o e1 e2 e3]
theorem st3_self (hp : p < 4) : st3 σ p (σ.1 (23 + p)) (σ.1 (28 + p)) (σ.1 (33 + p)) = σ := by
  refine sto_ext (fun c => ?_) rfl
  by_cases e1 : c = 23 + p
  · rw [e1, st3_1 hp]
  · by_cases e2 : c = 28 + p
    · rw [e2, st3_2 hp]
    · by_cases e3 : c = 33 + p
      · rw [e3, st3_3]
      · rw [st3_o e1 e2 e3]
end ST3
/-- moved up by one above i, up to n -/
def shf (f : Nat → Int32) (n i : Nat) : Nat → Int32 := fun j => if i < j ∧ j ≤ n then f (j - 1) else f j
theorem shf_n {f : Nat → Int32} {n : Nat} : shf f n n = f := by funext j; unfold shf; rw [if_neg (by omega)]
theorem shf_step {f : Nat → Int32} {n i : Nat} (hi : i ≤ n) (h0 : 0 < i) : upd (shf f n i) i (shf f n i (i - 1)) = shf f n (i - 1) := by
  funext j
  unfold upd shf
  by_cases e : j = i
  · rw [if_pos e, if_neg (by omega), if_pos (by omega), e]
  · rw [if_neg e]
    by_cases e2 : i < j ∧ j ≤ n
    · rw [if_pos e2, if_pos (by omega)]
    · rw [if_neg e2, if_neg (by omega)]
theorem shf_ins {f : Nat → Int32} {n a : Nat} {v : Int32} {j : Nat} (ha : a ≤ n) (hj : j ≤ n) : upd (shf f n a) a v j = insF f a v j := by
  unfold upd shf insF
  by_cases e : j = a
  · rw [if_pos e, if_neg (by omega), if_pos e]
  · rw [if_neg e]
    by_cases e2 : j < a
    · rw [if_neg (by omega), if_pos e2]
    · rw [if_pos (by omega), if_neg e2, if_neg e]

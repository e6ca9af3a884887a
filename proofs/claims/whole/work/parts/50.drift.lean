/-! drift out of a table of points -/
theorem nearZ_scale {a b k : Int} (hk : 0 < k) : nearZ (k * a) (k * b) = nearZ a b := by
  unfold nearZ
  rw [show 2 * (k * a) + k * b = k * (2 * a + b) by grind, show 2 * (k * b) = k * (2 * b) by grind, Int.mul_ediv_mul_of_pos _ _ hk]
theorem lst_spec {P : Nat → Bool} : ∀ {d l : Nat}, l ≤ d → P l = true → (∀ x, l < x → x ≤ d → P x = false) → lstD P d = some l
  | 0, l, h1, h2, _ => by
    have : l = 0 := by omega
    subst this
    unfold lstD
    rw [if_pos h2]
  | d + 1, l, h1, h2, h3 => by
    unfold lstD
    by_cases e : l = d + 1
    · subst e; rw [if_pos h2]
    · rw [if_neg (by rw [h3 (d + 1) (by omega) (Nat.le_refl _)]; decide)]
      exact lst_spec (by omega) h2 (fun x a b => h3 x a (by omega))
theorem lst_none {P : Nat → Bool} : ∀ {d : Nat}, (∀ x, x ≤ d → P x = false) → lstD P d = none
  | 0, h => by unfold lstD; rw [if_neg (by rw [h 0 (by omega)]; decide)]
  | d + 1, h => by
    unfold lstD
    rw [if_neg (by rw [h (d + 1) (by omega)]; decide)]
    exact lst_none (fun x a => h x (by omega))
theorem fst_spec {P : Nat → Bool} : ∀ {k d f : Nat}, d ≤ f → f < d + k → P f = true → (∀ x, d ≤ x → x < f → P x = false) → fstD P d k = some f
  | 0, d, f, h1, h2, _, _ => by omega
  | k + 1, d, f, h1, h2, h3, h4 => by
    unfold fstD
    by_cases e : d = f
    · subst e; rw [if_pos h3]
    · rw [if_neg (by rw [h4 d (by omega) (by omega)]; decide)]
      exact fst_spec (by omega) (by omega) h3 (fun x a b => h4 x (by omega) b)
theorem fst_none {P : Nat → Bool} : ∀ {k d : Nat}, (∀ x, d ≤ x → x < d + k → P x = false) → fstD P d k = none
  | 0, d, h => rfl
  | k + 1, d, h => by
    unfold fstD
    rw [if_neg (by rw [h d (by omega) (by omega)]; decide)]
    exact fst_none (fun x a b => h x (by omega) (by omega))
section PTL
variable {κ : Kp} {p n : Nat} {D S C : Nat → Int}
theorem PT.pt (h : PT κ p n D S C) {i : Nat} (hi : i < n) : isP κ p (D i).toNat = true := by
  have g := (h.2.2.1 i hi).2.2.1
  show decide _ = true
  exact decide_eq_true g
theorem PT.mono (h : PT κ p n D S C) {i j : Nat} (hij : i ≤ j) (hj : j < n) : D i ≤ D j := by
  rcases Nat.lt_or_ge i j with q | q
  · have := h.2.1 i j q hj; omega
  · have : i = j := by omega
    subst this
    exact Int.le_refl _
/-- no point strictly between two neighbours, before the first, behind the last -/
theorem PT.gap (h : PT κ p n D S C) {x : Nat} (hx : x < 400) (hp : isP κ p x = true) : ∃ i, i < n ∧ D i = x := by
  unfold isP at hp
  exact h.2.2.2 x hx (of_decide_eq_true hp)
theorem PT.first (h : PT κ p n D S C) (hn : 0 < n) : fstD (isP κ p) 0 400 = some (D 0).toNat := by
  have g := h.2.2.1 0 hn
  refine fst_spec (by omega) (by omega) (h.pt hn) (fun x a b => ?_)
  cases e : isP κ p x with
  | false => rfl
  | true =>
    obtain ⟨i, hi, hd⟩ := h.gap (by omega) e
    have := h.mono (Nat.zero_le i) hi
    omega
theorem PT.before (h : PT κ p n D S C) {d : Nat} (hd : d < 400) (hb : ∀ i, i < n → (d : Int) < D i) : driftZ κ p d = 0 := by
  have e1 : lstD (isP κ p) d = none := lst_none (fun x hx => by
    cases e : isP κ p x with
    | false => rfl
    | true =>
      obtain ⟨i, hi, hd2⟩ := h.gap (by omega) e
      have := hb i hi
      omega)
  unfold driftZ
  rw [e1]
  split <;> simp_all
theorem PT.last (h : PT κ p n D S C) {d k : Nat} (hd : d < 400) (hk : k < n) (h1 : D k ≤ d) (h2 : ∀ i, k < i → i < n → (d : Int) < D i) : lstD (isP κ p) d = some (D k).toNat := by
  have g := h.2.2.1 k hk
  refine lst_spec (by omega) (h.pt hk) (fun x a b => ?_)
  cases e : isP κ p x with
  | false => rfl
  | true =>
    obtain ⟨i, hi, hd2⟩ := h.gap (by omega) e
    rcases Nat.lt_or_ge k i with q | q
    · have := h2 i q hi; omega
    · have := h.mono q hk; omega
theorem PT.next (h : PT κ p n D S C) {d k : Nat} (hd : d < 400) (hk : k + 1 < n) (h1 : D k ≤ d) (h2 : (d : Int) < D (k + 1)) : fstD (isP κ p) (d + 1) (399 - d) = some (D (k + 1)).toNat := by
  have g := h.2.2.1 (k + 1) hk
  refine fst_spec (by omega) (by omega) (h.pt hk) (fun x a b => ?_)
  cases e : isP κ p x with
  | false => rfl
  | true =>
    obtain ⟨i, hi, hd2⟩ := h.gap (by omega) e
    rcases Nat.lt_or_ge i (k + 1) with q | q
    · have := h.mono (show i ≤ k by omega) (by omega); omega
    · have := h.mono q hi; omega
theorem PT.noNext (h : PT κ p n D S C) {d : Nat} (hd : d < 400) (hn : 0 < n) (h1 : D (n - 1) ≤ d) : fstD (isP κ p) (d + 1) (399 - d) = none := by
  refine fst_none (fun x a b => ?_)
  cases e : isP κ p x with
  | false => rfl
  | true =>
    obtain ⟨i, hi, hd2⟩ := h.gap (by omega) e
    have := h.mono (show i ≤ n - 1 by omega) (by omega)
    omega
end PTL

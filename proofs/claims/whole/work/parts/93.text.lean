/-! the text of a doubt: what it is -/
def tlN (κ : Kp) : Nat := (κ 0 5).toInt.toNat
theorem tlN_b {κ : Kp} (h : Inv κ) : tlN κ ≤ 60 ∧ κ 0 5 = nI (tlN κ) := by
  have g := h.2.2.2.2.2.1
  unfold tlN
  exact ⟨by omega, iExt rfl (by rw [nI_toInt (by omega)]; omega)⟩
def bt (κ : Kp) (p : Nat) : Int := if p < tlN κ then (κ 9 p).toInt else -1
theorem bt_n {κ : Kp} {p : Nat} (h : tlN κ ≤ p) : bt κ p = -1 := by unfold bt; rw [if_neg (by omega)]
theorem bt_y {κ : Kp} {p : Nat} (h : p < tlN κ) : bt κ p = (κ 9 p).toInt := by unfold bt; rw [if_pos h]
theorem bt_lt {κ : Kp} {p : Nat} {z : Int} (h : bt κ p = z) (hz : z ≠ -1) : p < tlN κ := by
  rcases Nat.lt_or_ge p (tlN κ) with q | q
  · exact q
  · rw [bt_n q] at h; exact absurd h.symm hz
def dgs (κ : Kp) : Nat → Nat → Int → Nat × Int
  | 0, p, v => (p, v)
  | k + 1, p, v => if 48 ≤ bt κ p ∧ bt κ p ≤ 57 then dgs κ k (p + 1) (10 * v + bt κ p - 48) else (p, v)
theorem dgs_p {κ : Kp} : ∀ k p v, p ≤ (dgs κ k p v).1 ∧ ((dgs κ k p v).1 ≤ tlN κ ∨ (dgs κ k p v).1 = p)
  | 0, p, v => ⟨Nat.le_refl _, Or.inr rfl⟩
  | k + 1, p, v => by
    show p ≤ (if _ then _ else _ : Nat × Int).1 ∧ ((if _ then _ else _ : Nat × Int).1 ≤ tlN κ ∨ (if _ then _ else _ : Nat × Int).1 = p)
    by_cases q : 48 ≤ bt κ p ∧ bt κ p ≤ 57
    · rw [if_pos q]
      have ih := dgs_p (κ := κ) k (p + 1) (10 * v + bt κ p - 48)
      have l := bt_lt (κ := κ) (p := p) rfl (by omega)
      omega
    · rw [if_neg q]
      exact ⟨Nat.le_refl _, Or.inr rfl⟩
theorem dgs_v {κ : Kp} : ∀ k p v, 0 ≤ v → 0 ≤ (dgs κ k p v).2 ∧ (dgs κ k p v).2 + 1 ≤ 10 ^ k * (v + 1)
  | 0, p, v, h => by
    show 0 ≤ v ∧ v + 1 ≤ 1 * (v + 1)
    omega
  | k + 1, p, v, h => by
    show 0 ≤ (if _ then _ else _ : Nat × Int).2 ∧ (if _ then _ else _ : Nat × Int).2 + 1 ≤ _
    have pk : (1 : Int) ≤ 10 ^ k := by
      have : ∀ n : Nat, (1 : Int) ≤ 10 ^ n := fun n => by
        induction n with
        | zero => decide
        | succ n ih => rw [Int.pow_succ]; omega
      exact this k
    have e : (10 : Int) ^ (k + 1) * (v + 1) = 10 ^ k * (10 * v + 10) := by
      rw [Int.pow_succ, Int.mul_assoc, Int.mul_add 10 v 1]
      rfl
    rw [e]
    by_cases q : 48 ≤ bt κ p ∧ bt κ p ≤ 57
    · rw [if_pos q]
      have ih := dgs_v (κ := κ) k (p + 1) (10 * v + bt κ p - 48) (by omega)
      have m := Int.mul_le_mul_of_nonneg_left (show 10 * v + bt κ p - 48 + 1 ≤ 10 * v + 10 by omega) (show (0 : Int) ≤ 10 ^ k by omega)
      omega
    · rw [if_neg q]
      have m := Int.mul_le_mul_of_nonneg_right pk (show 0 ≤ 10 * v + 10 by omega)
      dsimp only
      omega
theorem dgs_3 {κ : Kp} (p : Nat) : 0 ≤ (dgs κ 3 p 0).2 ∧ (dgs κ 3 p 0).2 ≤ 999 := by
  have := dgs_v (κ := κ) 3 p 0 (by decide)
  have e : (10 : Int) ^ 3 * (0 + 1) = 1000 := by decide
  omega
/-- a part from a number on: its fault or -1, where it ends, the fraction -/
def ptF (κ : Kp) : Nat → Int → Nat → Int → Int → Int × Nat × Int × Int
  | 0, _, p, t, b => ((p : Int), p, t, b)
  | k + 1, sg, p, t, b =>
    if (dgs κ 3 p 0).1 = p ∨ (sg = 47 ∧ (dgs κ 3 p 0).2 = 0) then ((p : Int), p, t, b) else
    if 100000 < loA (if sg = 47 then t else t * (dgs κ 3 p 0).2) (if sg = 47 then b * (dgs κ 3 p 0).2 else b) ∨ 100000 < loB (if sg = 47 then t else t * (dgs κ 3 p 0).2) (if sg = 47 then b * (dgs κ 3 p 0).2 else b) then ((p : Int), p, t, b) else
    if bt κ (dgs κ 3 p 0).1 = 42 ∨ bt κ (dgs κ 3 p 0).1 = 47 then ptF κ k (bt κ (dgs κ 3 p 0).1) ((dgs κ 3 p 0).1 + 1) (loA (if sg = 47 then t else t * (dgs κ 3 p 0).2) (if sg = 47 then b * (dgs κ 3 p 0).2 else b)) (loB (if sg = 47 then t else t * (dgs κ 3 p 0).2) (if sg = 47 then b * (dgs κ 3 p 0).2 else b)) else
    (-1, (dgs κ 3 p 0).1, loA (if sg = 47 then t else t * (dgs κ 3 p 0).2) (if sg = 47 then b * (dgs κ 3 p 0).2 else b), loB (if sg = 47 then t else t * (dgs κ 3 p 0).2) (if sg = 47 then b * (dgs κ 3 p 0).2 else b))
/-- the same, from behind a number on -/
def hdF (κ : Kp) (k p : Nat) (t b : Int) : Int × Nat × Int × Int := if bt κ p = 42 ∨ bt κ p = 47 then ptF κ k (bt κ p) (p + 1) t b else (-1, p, t, b)
def tpZ (sg t n : Int) : Int := if sg = 47 then t else t * n
def btZ (sg b n : Int) : Int := if sg = 47 then b * n else b
theorem ptF_s (κ : Kp) (k : Nat) (sg : Int) (p : Nat) (t b : Int) : ptF κ (k + 1) sg p t b =
    if (dgs κ 3 p 0).1 = p ∨ (sg = 47 ∧ (dgs κ 3 p 0).2 = 0) then ((p : Int), p, t, b) else
    if 100000 < loA (tpZ sg t (dgs κ 3 p 0).2) (btZ sg b (dgs κ 3 p 0).2) ∨ 100000 < loB (tpZ sg t (dgs κ 3 p 0).2) (btZ sg b (dgs κ 3 p 0).2) then ((p : Int), p, t, b) else
    hdF κ k (dgs κ 3 p 0).1 (loA (tpZ sg t (dgs κ 3 p 0).2) (btZ sg b (dgs κ 3 p 0).2)) (loB (tpZ sg t (dgs κ 3 p 0).2) (btZ sg b (dgs κ 3 p 0).2)) := rfl
/-- a fraction of a part -/
def okF (t b : Int) : Prop := (0 ≤ t ∧ t ≤ 100000) ∧ 1 ≤ b ∧ b ≤ 100000
theorem tb_b {sg t b n : Int} (h : okF t b) (hn : 0 ≤ n ∧ n ≤ 999) (hz : ¬ (sg = 47 ∧ n = 0)) : (0 ≤ tpZ sg t n ∧ tpZ sg t n ≤ 99900000) ∧ 1 ≤ btZ sg b n ∧ btZ sg b n ≤ 99900000 := by
  obtain ⟨⟨h1, h2⟩, h3, h4⟩ := h
  have m1 := mulB (x := t) (y := n) (A := 100000) (B := 999) (M := 99900000) ⟨by omega, by omega⟩ ⟨by omega, by omega⟩ (by decide)
  have m2 := mulB (x := b) (y := n) (A := 100000) (B := 999) (M := 99900000) ⟨by omega, by omega⟩ ⟨by omega, by omega⟩ (by decide)
  have p1 := Int.mul_nonneg h1 hn.1
  unfold tpZ btZ
  by_cases q : sg = 47
  · rw [if_pos q, if_pos q]
    have p2 := Int.mul_pos (show 0 < b by omega) (show 0 < n by omega)
    omega
  · rw [if_neg q, if_neg q]
    omega
theorem okF_lo {t b : Int} (ht : 0 ≤ t) (hb : 1 ≤ b) (h1 : ¬ (100000 < loA t b ∨ 100000 < loB t b)) : okF (loA t b) (loB t b) := by
  have l := lo_b (a := t) (b := b) (by omega)
  have nn : 0 ≤ loA t b := Int.ediv_nonneg ht (by omega)
  exact ⟨⟨nn, by omega⟩, by omega, by omega⟩
theorem ptF_b {κ : Kp} (h : Inv κ) : ∀ k i sg p t b, i + k = 61 → 2 * i ≤ p → p ≤ tlN κ → okF t b → ((ptF κ k sg p t b).1 = -1 ∧ p < (ptF κ k sg p t b).2.1 ∧ (ptF κ k sg p t b).2.1 ≤ tlN κ ∧ okF (ptF κ k sg p t b).2.2.1 (ptF κ k sg p t b).2.2.2) ∨ (0 ≤ (ptF κ k sg p t b).1 ∧ (ptF κ k sg p t b).1 ≤ 60)
  | 0, i, sg, p, t, b, h1, h2, h3, h4 => by
    have := (tlN_b h).1
    omega
  | k + 1, i, sg, p, t, b, h1, h2, h3, h4 => by
    have l60 := (tlN_b h).1
    rw [ptF_s]
    have dp := dgs_p (κ := κ) 3 p 0
    have dv := dgs_3 (κ := κ) p
    by_cases q1 : (dgs κ 3 p 0).1 = p ∨ (sg = 47 ∧ (dgs κ 3 p 0).2 = 0)
    · rw [if_pos q1]
      exact Or.inr ⟨by dsimp only; omega, by dsimp only; omega⟩
    · rw [if_neg q1]
      have tb := tb_b (sg := sg) h4 dv (fun z => q1 (Or.inr z))
      by_cases q2 : 100000 < loA (tpZ sg t (dgs κ 3 p 0).2) (btZ sg b (dgs κ 3 p 0).2) ∨ 100000 < loB (tpZ sg t (dgs κ 3 p 0).2) (btZ sg b (dgs κ 3 p 0).2)
      · rw [if_pos q2]
        exact Or.inr ⟨by dsimp only; omega, by dsimp only; omega⟩
      · rw [if_neg q2]
        have okn := okF_lo tb.1.1 tb.2.1 q2
        unfold hdF
        by_cases q3 : bt κ (dgs κ 3 p 0).1 = 42 ∨ bt κ (dgs κ 3 p 0).1 = 47
        · rw [if_pos q3]
          have l : (dgs κ 3 p 0).1 < tlN κ := by
            rcases q3 with e | e
            · exact bt_lt e (by decide)
            · exact bt_lt e (by decide)
          rcases ptF_b h k (i + 1) (bt κ (dgs κ 3 p 0).1) ((dgs κ 3 p 0).1 + 1) _ _ (by omega) (by omega) (by omega) okn with g | g
          · exact Or.inl ⟨g.1, by omega, g.2.2⟩
          · exact Or.inr g
        · rw [if_neg q3]
          refine Or.inl ⟨rfl, ?_, ?_, okn⟩ <;> dsimp only <;> omega
def sqC (t b : Int) : Int := (10000 * (t * t) + b * b - 1) / (b * b)
theorem sqC_b {t b : Int} (h : okF t b) : (0 ≤ t * t ∧ t * t ≤ 10000000000) ∧ (1 ≤ b * b ∧ b * b ≤ 10000000000) ∧ 0 ≤ sqC t b ∧ sqC t b ≤ 100000000000000 := by
  obtain ⟨⟨h1, h2⟩, h3, h4⟩ := h
  have m1 := mulB (x := t) (y := t) (A := 100000) (B := 100000) (M := 10000000000) ⟨by omega, by omega⟩ ⟨by omega, by omega⟩ (by decide)
  have m2 := mulB (x := b) (y := b) (A := 100000) (B := 100000) (M := 10000000000) ⟨by omega, by omega⟩ ⟨by omega, by omega⟩ (by decide)
  have p1 := sq_nn t
  have p2 := Int.mul_pos (show 0 < b by omega) (show 0 < b by omega)
  refine ⟨⟨p1, m1.2⟩, ⟨by omega, m2.2⟩, ?_⟩
  unfold sqC
  refine ⟨Int.ediv_nonneg (by omega) (by omega), ?_⟩
  have : (10000 * (t * t) + b * b - 1) / (b * b) < 100000000000001 := by
    rw [Int.ediv_lt_iff_lt_mul (by omega)]
    omega
  omega
/-- the whole text from a part on: its fault or -1, the square -/
def ffF (κ : Kp) : Nat → Nat → Int → Int × Int
  | 0, p, s => ((p : Int), s)
  | k + 1, p, s => if (ptF κ 61 42 p 1 1).1 = -1 then
      (if tlN κ ≤ (ptF κ 61 42 p 1 1).2.1 then (-1, s + sqC (ptF κ 61 42 p 1 1).2.2.1 (ptF κ 61 42 p 1 1).2.2.2) else
       if bt κ (ptF κ 61 42 p 1 1).2.1 = 43 then ffF κ k ((ptF κ 61 42 p 1 1).2.1 + 1) (s + sqC (ptF κ 61 42 p 1 1).2.2.1 (ptF κ 61 42 p 1 1).2.2.2) else
       ((((ptF κ 61 42 p 1 1).2.1 : Nat) : Int), s + sqC (ptF κ 61 42 p 1 1).2.2.1 (ptF κ 61 42 p 1 1).2.2.2))
    else ((ptF κ 61 42 p 1 1).1, s)
theorem ffF_s (κ : Kp) (k p : Nat) (s : Int) : ffF κ (k + 1) p s = if (ptF κ 61 42 p 1 1).1 = -1 then
      (if tlN κ ≤ (ptF κ 61 42 p 1 1).2.1 then (-1, s + sqC (ptF κ 61 42 p 1 1).2.2.1 (ptF κ 61 42 p 1 1).2.2.2) else
       if bt κ (ptF κ 61 42 p 1 1).2.1 = 43 then ffF κ k ((ptF κ 61 42 p 1 1).2.1 + 1) (s + sqC (ptF κ 61 42 p 1 1).2.2.1 (ptF κ 61 42 p 1 1).2.2.2) else
       ((((ptF κ 61 42 p 1 1).2.1 : Nat) : Int), s + sqC (ptF κ 61 42 p 1 1).2.2.1 (ptF κ 61 42 p 1 1).2.2.2))
    else ((ptF κ 61 42 p 1 1).1, s) := rfl
def flZ (κ : Kp) : Int := (ffF κ 61 0 0).1
def sqT (κ : Kp) : Int := (ffF κ 61 0 0).2
/-- the least doubt whose square is enough -/
def dqB (s : Int) (d : Nat) : Bool := decide (s ≤ 10000 * ((d : Int) * d))
def dqN (s : Int) : Nat := match fstD (dqB s) 1 999 with
  | some d => d
  | none => 1000
theorem dqN_b (s : Int) : 1 ≤ dqN s ∧ dqN s ≤ 1000 := by
  unfold dqN
  split
  · rename_i d hd
    have := fst_some hd
    omega
  · omega

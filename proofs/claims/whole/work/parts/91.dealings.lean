/-! all dealings -/
def dl : List Int → Nat → Int → Nat
  | _, 0, x => if x ≤ 0 then 1 else 0
  | [], _ + 1, _ => 0
  | a :: t, k + 1, x => dl t k (x - a) + dl t (k + 1) x
theorem dl_z (l : List Int) (x : Int) : dl l 0 x = if x ≤ 0 then 1 else 0 := by cases l <;> rfl
theorem dl_s (a : Int) (t : List Int) (k : Nat) (x : Int) : dl (a :: t) (k + 1) x = dl t k (x - a) + dl t (k + 1) x := rfl
theorem dl_0 : ∀ (l : List Int) (k : Nat) (x : Int), l.length < k → dl l k x = 0
  | [], 0, _, h => absurd h (Nat.lt_irrefl _)
  | [], _ + 1, _, _ => rfl
  | a :: t, 0, _, h => absurd h (Nat.not_lt_zero _)
  | a :: t, k + 1, x, h => by
    have h' : t.length + 1 < k + 1 := h
    rw [dl_s, dl_0 t k _ (by omega), dl_0 t (k + 1) _ (by omega)]
theorem dl_le : ∀ (l : List Int) (k : Nat) (x : Int), dl l k x ≤ 2 ^ l.length
  | [], 0, x => by rw [dl_z]; show _ ≤ 1; split <;> omega
  | [], k + 1, x => Nat.zero_le _
  | a :: t, 0, x => by
    rw [dl_z]
    have : 0 < 2 ^ (a :: t).length := Nat.two_pow_pos _
    split <;> omega
  | a :: t, k + 1, x => by
    have h1 := dl_le t k (x - a)
    have h2 := dl_le t (k + 1) x
    rw [dl_s, List.length_cons, Nat.pow_succ]
    omega
theorem dl_perm {l m : List Int} (h : l.Perm m) : ∀ k x, dl l k x = dl m k x := by
  induction h with
  | nil => intro k x; rfl
  | cons a p ih =>
    intro k x
    cases k with
    | zero => rw [dl_z, dl_z]
    | succ k => rw [dl_s, dl_s, ih, ih]
  | swap a b l =>
    intro k x
    cases k with
    | zero => rw [dl_z, dl_z]
    | succ k =>
      cases k with
      | zero =>
        rw [dl_s, dl_s, dl_s, dl_s, dl_z, dl_z, dl_z, dl_z]
        omega
      | succ k =>
        rw [dl_s, dl_s, dl_s, dl_s, dl_s, dl_s, show x - b - a = x - a - b by omega]
        omega
  | trans _ _ ih1 ih2 => intro k x; rw [ih1, ih2]
def ch : Nat → Nat → Nat
  | _, 0 => 1
  | 0, _ + 1 => 0
  | n + 1, k + 1 => ch n k + ch n (k + 1)
theorem ch_z (n : Nat) : ch n 0 = 1 := by cases n <;> rfl
theorem ch_s (n k : Nat) : ch (n + 1) (k + 1) = ch n k + ch n (k + 1) := rfl
theorem ch_0 : ∀ n k, n < k → ch n k = 0
  | 0, 0, h => absurd h (Nat.lt_irrefl _)
  | 0, _ + 1, _ => rfl
  | n + 1, 0, h => absurd h (Nat.not_lt_zero _)
  | n + 1, k + 1, h => by rw [ch_s, ch_0 n k (by omega), ch_0 n (k + 1) (by omega)]
theorem ch_id : ∀ n k, (k + 1) * ch (n + 1) (k + 1) = (n + 1) * ch n k
  | 0, 0 => rfl
  | 0, k + 1 => by
    have e : ch 1 (k + 1 + 1) = 0 := ch_0 _ _ (by omega)
    have e2 : ch 0 (k + 1) = 0 := rfl
    rw [e, e2, Nat.mul_zero, Nat.mul_zero]
  | n + 1, 0 => by
    have ih := ch_id n 0
    rw [ch_s, ch_z]
    rw [ch_z] at ih
    omega
  | n + 1, k + 1 => by
    have i1 := ch_id n k
    have i2 := ch_id n (k + 1)
    have e1 : ch (n + 1 + 1) (k + 1 + 1) = ch (n + 1) (k + 1) + ch (n + 1) (k + 1 + 1) := rfl
    have e2 : ch (n + 1) (k + 1) = ch n k + ch n (k + 1) := rfl
    rw [e1, Nat.mul_add, i2]
    have e3 : (k + 1 + 1) * ch (n + 1) (k + 1) = (k + 1) * ch (n + 1) (k + 1) + ch (n + 1) (k + 1) := by rw [Nat.succ_mul (k + 1)]
    rw [e3, i1]
    have e4 : (n + 1 + 1) * ch (n + 1) (k + 1) = (n + 1) * ch (n + 1) (k + 1) + ch (n + 1) (k + 1) := by rw [Nat.succ_mul (n + 1)]
    have e5 : (n + 1) * ch (n + 1) (k + 1) = (n + 1) * ch n k + (n + 1) * ch n (k + 1) := by rw [e2, Nat.mul_add]
    rw [e4, e5]
    omega
theorem ch_pos : ∀ n k, k ≤ n → 0 < ch n k
  | n, 0, _ => by rw [ch_z]; decide
  | 0, k + 1, h => by omega
  | n + 1, k + 1, h => by
    have := ch_pos n k (by omega)
    rw [ch_s]; omega
theorem ch_le : ∀ n k, ch n k ≤ 2 ^ n
  | n, 0 => by rw [ch_z]; exact Nat.two_pow_pos n
  | 0, k + 1 => Nat.zero_le _
  | n + 1, k + 1 => by
    have h1 := ch_le n k
    have h2 := ch_le n (k + 1)
    rw [ch_s, Nat.pow_succ]
    omega
theorem cnt_add {P : Nat → Bool} (a : Nat) : ∀ b, cnt P (a + b) = cnt P a + cnt (fun i => P (a + i)) b
  | 0 => rfl
  | b + 1 => by
    show cnt P (a + b) + (if P (a + b) = true then 1 else 0) = cnt P a + (cnt (fun i => P (a + i)) b + (if P (a + b) = true then 1 else 0))
    rw [cnt_add a b, Nat.add_assoc]
theorem pc_up {n s : Nat} (hn : n < 14) (hs : s < 2 ^ n) : pc (2 ^ n + s) = pc s + 1 := by
  have tb : ∀ i, (2 ^ n + s).testBit i = (s.testBit i || decide (i = n)) := fun i => by
    rw [show 2 ^ n + s = 2 ^ n * 1 + s by omega]
    rcases Nat.lt_or_ge i n with q | q
    · rw [tb_lo hs q, decide_eq_false (by omega), Bool.or_false]
    · rw [tb_hi hs q, Nat.mul_one, Nat.testBit_two_pow]
      have z : s.testBit i = false := Nat.testBit_lt_two_pow (Nat.lt_of_lt_of_le hs (Nat.pow_le_pow_right (by decide) q))
      rw [z, Bool.false_or]
      exact decide_eq_decide.mpr ⟨Eq.symm, Eq.symm⟩
  unfold pc
  rw [cnt_set (P := s.testBit) (s := n) (Nat.testBit_lt_two_pow hs) (fun i _ => tb i), if_pos hn]
def sb (M : List Int) (n s : Nat) : Int := tot s.testBit (fun i => M.getD i 0) n
theorem sb_lo {M : List Int} {n s : Nat} (hs : s < 2 ^ n) : sb M (n + 1) s = sb M n s := by
  unfold sb
  rw [tot_s0 (Nat.testBit_lt_two_pow hs)]
theorem sb_hi {M : List Int} {n s : Nat} (hs : s < 2 ^ n) : sb M (n + 1) (2 ^ n + s) = sb M n s + M.getD n 0 := by
  unfold sb
  have tn : (2 ^ n + s).testBit n = true := by
    rw [show 2 ^ n + s = 2 ^ n * 1 + s by omega, tb_hi hs (Nat.le_refl _), Nat.mul_one, Nat.testBit_two_pow]
    simp
  rw [tot_s1 tn]
  congr 1
  exact tot_congr (fun r hr => ⟨by rw [show 2 ^ n + s = 2 ^ n * 1 + s by omega, tb_lo hs hr], fun _ => rfl⟩)
def pK (k s : Nat) : Bool := decide (pc s = k)
def pG (M : List Int) (n k : Nat) (x : Int) (s : Nat) : Bool := pK k s && decide (x ≤ sb M n s)
theorem pc_0 {s : Nat} (hs : s < 16384) : pc s = 0 ↔ s = 0 := by
  constructor
  · intro h
    refine Nat.eq_of_testBit_eq (fun i => ?_)
    rw [Nat.zero_testBit]
    rcases Nat.lt_or_ge i 14 with q | q
    · cases e : s.testBit i with
      | false => rfl
      | true =>
        have := cnt_pos (P := s.testBit) q e
        unfold pc at h
        omega
    · exact Nat.testBit_lt_two_pow (Nat.lt_of_lt_of_le hs (Nat.pow_le_pow_right (n := 2) (i := 14) (by decide) q))
  · intro h
    rw [h]; decide
theorem cnt_f {P : Nat → Bool} : ∀ n, (∀ i, i < n → P i = false) → cnt P n = 0
  | 0, _ => rfl
  | n + 1, h => by rw [cnt_s0 (h n (by omega)), cnt_f n (fun i hi => h i (by omega))]
theorem al_ch : ∀ n k, n ≤ 14 → cnt (pK k) (2 ^ n) = ch n k
  | 0, 0, _ => by
    show 0 + (if pK 0 0 = true then 1 else 0) = 1
    rw [if_pos (by decide)]
  | 0, k + 1, _ => by
    show 0 + (if pK (k + 1) 0 = true then 1 else 0) = 0
    have e : pc 0 = 0 := by decide
    rw [if_neg (fun z => by have := of_decide_eq_true z; omega)]
  | n + 1, 0, h => by
    have ih := al_ch n 0 (by omega)
    rw [Nat.pow_succ, show 2 ^ n * 2 = 2 ^ n + 2 ^ n by omega, cnt_add, ih, ch_z, ch_z, cnt_f (P := fun i => pK 0 (2 ^ n + i)) _ (fun i hi => decide_eq_false (by rw [pc_up (by omega) hi]; omega))]
  | n + 1, k + 1, h => by
    have i1 := al_ch n k (by omega)
    have i2 := al_ch n (k + 1) (by omega)
    rw [Nat.pow_succ, show 2 ^ n * 2 = 2 ^ n + 2 ^ n by omega, cnt_add, i2, ch_s]
    have e : cnt (fun i => pK (k + 1) (2 ^ n + i)) (2 ^ n) = cnt (pK k) (2 ^ n) := cnt_congr (fun i hi => by
      unfold pK
      rw [pc_up (by omega) hi]
      exact decide_eq_decide.mpr (by omega))
    rw [e, i1]
    omega
theorem tk_rev {M : List Int} {n : Nat} (h : n < M.length) : (M.take (n + 1)).reverse = M.getD n 0 :: (M.take n).reverse := by
  rw [List.take_add_one, List.getElem?_eq_getElem h, gD_i h, List.reverse_append]
  rfl
theorem gr_dl (M : List Int) : ∀ n k x, n ≤ 14 → n ≤ M.length → cnt (pG M n k x) (2 ^ n) = dl (M.take n).reverse k x
  | 0, 0, x, _, _ => by
    rw [dl_z]
    show 0 + (if pG M 0 0 x 0 = true then 1 else 0) = _
    have e : pG M 0 0 x 0 = decide (x ≤ 0) := by
      unfold pG
      rw [show pK 0 0 = true by decide, Bool.true_and]
      rfl
    rw [e, Nat.zero_add]
    by_cases q : x ≤ 0
    · rw [if_pos q, if_pos (decide_eq_true q)]
    · rw [if_neg q, if_neg (fun z => q (of_decide_eq_true z))]
  | 0, k + 1, x, _, _ => by
    show 0 + (if pG M 0 (k + 1) x 0 = true then 1 else 0) = 0
    have e0 : pc 0 = 0 := by decide
    have e : pG M 0 (k + 1) x 0 = false := by
      unfold pG
      rw [show pK (k + 1) 0 = false from decide_eq_false (fun z => by omega), Bool.false_and]
    rw [e]; rfl
  | n + 1, 0, x, h, hl => by
    have ih := gr_dl M n 0 x (by omega) (by omega)
    rw [dl_z] at ih ⊢
    rw [Nat.pow_succ, show 2 ^ n * 2 = 2 ^ n + 2 ^ n by omega, cnt_add, ← ih]
    have e1 : cnt (pG M (n + 1) 0 x) (2 ^ n) = cnt (pG M n 0 x) (2 ^ n) := cnt_congr (fun i hi => by unfold pG; rw [sb_lo hi])
    rw [e1, cnt_f (P := fun i => pG M (n + 1) 0 x (2 ^ n + i)) _ (fun i hi => by unfold pG; rw [show pK 0 (2 ^ n + i) = false from decide_eq_false (by rw [pc_up (by omega) hi]; omega), Bool.false_and])]
    omega
  | n + 1, k + 1, x, h, hl => by
    have i1 := gr_dl M n k (x - M.getD n 0) (by omega) (by omega)
    have i2 := gr_dl M n (k + 1) x (by omega) (by omega)
    rw [tk_rev (by omega), dl_s, ← i1, ← i2, Nat.pow_succ, show 2 ^ n * 2 = 2 ^ n + 2 ^ n by omega, cnt_add]
    have e1 : cnt (pG M (n + 1) (k + 1) x) (2 ^ n) = cnt (pG M n (k + 1) x) (2 ^ n) := cnt_congr (fun i hi => by unfold pG; rw [sb_lo hi])
    have e2 : cnt (fun i => pG M (n + 1) (k + 1) x (2 ^ n + i)) (2 ^ n) = cnt (pG M n k (x - M.getD n 0)) (2 ^ n) := cnt_congr (fun i hi => by
      unfold pG pK
      rw [sb_hi hi, pc_up (by omega) hi]
      congr 1
      · exact decide_eq_decide.mpr (by omega)
      · exact decide_eq_decide.mpr (by omega))
    rw [e1, e2]
    omega
theorem gr_all {M : List Int} {k : Nat} {x : Int} {n : Nat} (hn : n ≤ 14) (hl : M.length = n) : cnt (pG M n k x) (2 ^ n) = dl M k x := by
  rw [gr_dl M n k x hn (by omega), List.take_of_length_le (by omega)]
  exact dl_perm (List.reverse_perm M) k x
def chZ (κ : Kp) (p : Nat) : Int := ((dl (TL κ p) (wyN κ p 1) (scZ κ p) * 1000000 / ch (ptN κ p) (wyN κ p 1) : Nat) : Int)
noncomputable def S_ways (p x : Int32) (κ : Kp) : Int32 := @ite _ (okS p ∧ 0 ≤ x.toInt ∧ x.toInt ≤ 2) (Classical.propDecidable _) (if x = 0 then nI (wyN κ p.toNatClampNeg 0) else if x = 1 then nI (wyN κ p.toNatClampNeg 1) else if wyN κ p.toNatClampNeg 0 = 0 ∨ wyN κ p.toNatClampNeg 1 = 0 then -3 else if 13 < ptN κ p.toNatClampNeg then -4 else (Int64.ofInt (chZ κ p.toNatClampNeg)).toInt32) (-2)

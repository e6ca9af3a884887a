/-! PURE PART. Numbers: an Int32 or Int64 by its Int -/
theorem iR (x : Int32) : -2147483648 ≤ x.toInt ∧ x.toInt < 2147483648 := ⟨Int32.le_toInt x, Int32.toInt_lt x⟩
theorem lR (x : Int64) : -9223372036854775808 ≤ x.toInt ∧ x.toInt < 9223372036854775808 := ⟨Int64.le_toInt x, Int64.toInt_lt x⟩
theorem bm32 {n : Int} (h1 : -2147483648 ≤ n) (h2 : n < 2147483648) : n.bmod (2 ^ 32) = n := Int.bmod_eq_of_le (by omega) (by omega)
theorem bm64 {n : Int} (h1 : -9223372036854775808 ≤ n) (h2 : n < 9223372036854775808) : n.bmod (2 ^ 64) = n := Int.bmod_eq_of_le (by omega) (by omega)
theorem iAdd {x y : Int32} {a b : Int} (hx : x.toInt = a) (hy : y.toInt = b) (h1 : -2147483648 ≤ a + b) (h2 : a + b < 2147483648) : (x + y).toInt = a + b := by rw [Int32.toInt_add, hx, hy, bm32 h1 h2]
theorem iSub {x y : Int32} {a b : Int} (hx : x.toInt = a) (hy : y.toInt = b) (h1 : -2147483648 ≤ a - b) (h2 : a - b < 2147483648) : (x - y).toInt = a - b := by rw [Int32.toInt_sub, hx, hy, bm32 h1 h2]
theorem iMul {x y : Int32} {a b : Int} (hx : x.toInt = a) (hy : y.toInt = b) (h1 : -2147483648 ≤ a * b) (h2 : a * b < 2147483648) : (x * y).toInt = a * b := by rw [Int32.toInt_mul, hx, hy, bm32 h1 h2]
theorem iNeg {x : Int32} {a : Int} (hx : x.toInt = a) (h1 : -2147483648 < a) : (-x).toInt = -a := by have := iR x; rw [Int32.toInt_neg, hx, bm32 (by omega) (by omega)]
theorem lAdd {x y : Int64} {a b : Int} (hx : x.toInt = a) (hy : y.toInt = b) (h1 : -9223372036854775808 ≤ a + b) (h2 : a + b < 9223372036854775808) : (x + y).toInt = a + b := by rw [Int64.toInt_add, hx, hy, bm64 h1 h2]
theorem lSub {x y : Int64} {a b : Int} (hx : x.toInt = a) (hy : y.toInt = b) (h1 : -9223372036854775808 ≤ a - b) (h2 : a - b < 9223372036854775808) : (x - y).toInt = a - b := by rw [Int64.toInt_sub, hx, hy, bm64 h1 h2]
theorem lMul {x y : Int64} {a b : Int} (hx : x.toInt = a) (hy : y.toInt = b) (h1 : -9223372036854775808 ≤ a * b) (h2 : a * b < 9223372036854775808) : (x * y).toInt = a * b := by rw [Int64.toInt_mul, hx, hy, bm64 h1 h2]
theorem lNeg {x : Int64} {a : Int} (hx : x.toInt = a) (h1 : -9223372036854775808 < a) : (-x).toInt = -a := by have := lR x; rw [Int64.toInt_neg, hx, bm64 (by omega) (by omega)]
theorem iL {x : Int32} {a : Int} (hx : x.toInt = a) : x.toInt64.toInt = a := by rw [Int32.toInt_toInt64, hx]
theorem lI {x : Int64} {a : Int} (hx : x.toInt = a) (h1 : -2147483648 ≤ a) (h2 : a < 2147483648) : x.toInt32.toInt = a := by rw [Int64.toInt_toInt32, hx, bm32 h1 h2]
theorem iExt {x y : Int32} {a : Int} (hx : x.toInt = a) (hy : y.toInt = a) : x = y := Int32.toInt_inj.mp (hx.trans hy.symm)
theorem lExt {x y : Int64} {a : Int} (hx : x.toInt = a) (hy : y.toInt = a) : x = y := Int64.toInt_inj.mp (hx.trans hy.symm)
theorem iLt {x y : Int32} : x < y ↔ x.toInt < y.toInt := Int32.lt_iff_toInt_lt
theorem iLe {x y : Int32} : x ≤ y ↔ x.toInt ≤ y.toInt := Int32.le_iff_toInt_le
theorem iEq {x y : Int32} : x = y ↔ x.toInt = y.toInt := Int32.toInt_inj.symm
theorem lLt {x y : Int64} : x < y ↔ x.toInt < y.toInt := Int64.lt_iff_toInt_lt
theorem lLe {x y : Int64} : x ≤ y ↔ x.toInt ≤ y.toInt := Int64.le_iff_toInt_le
theorem lEq {x y : Int64} : x = y ↔ x.toInt = y.toInt := Int64.toInt_inj.symm
theorem lDiv {x y : Int64} {a b : Int} (hx : x.toInt = a) (hy : y.toInt = b) (hb : b ≠ -1) : (x / y).toInt = a.tdiv b := by
  rw [Int64.toInt_div_of_ne_right x y (fun h => hb (by rw [← hy, h]; decide)), hx, hy]
theorem lRem {x y : Int64} {a b : Int} (hx : x.toInt = a) (hy : y.toInt = b) (hb : b ≠ -1) : (x - x / y * y).toInt = a.tmod b := by
  have h1 := lDiv hx hy hb
  have h2 := lR x
  have h3 := Int.mul_tdiv_add_tmod a b
  have h4 : (a.tdiv b) * b = a - a.tmod b := by rw [Int.mul_comm]; omega
  rw [Int64.toInt_sub, Int64.toInt_mul, h1, hx, hy, h4, Int.sub_bmod_bmod]
  rw [show a - (a - a.tmod b) = a.tmod b by omega]
  have h5 : (a.tmod b).natAbs ≤ a.natAbs := by rw [Int.natAbs_tmod]; exact Nat.mod_le _ _
  by_cases ha : 0 ≤ a
  · have h6 := Int.tmod_nonneg b ha
    exact bm64 (by omega) (by omega)
  · have h6 := Int.tmod_nonneg b (show 0 ≤ -a by omega)
    rw [Int.neg_tmod] at h6
    exact bm64 (by omega) (by omega)
theorem vp_iff {x : Int32} {n : Nat} : vp_in x n ↔ 0 ≤ x.toInt ∧ x.toInt < n := vp_in_iff
theorem clN {x : Int32} {k : Nat} (h : x.toInt = k) : x.toNatClampNeg = k := by
  have : x = nI k := iExt h (nI_toInt (by have := iR x; omega))
  rw [this, nI_clamp (by have := iR x; omega)]
/-! the store, read behind a write -/
theorem wI_1 {σ : Sto} {c i : Nat} {v : Int32} : (wI σ c i v).1 c = upd (σ.1 c) i v := by simp [wI, wA]
theorem wI_n {σ : Sto} {c i c' : Nat} {v : Int32} (h : c' ≠ c) : (wI σ c i v).1 c' = σ.1 c' := by simp [wI, wA, h]
theorem wI_2 {σ : Sto} {c i : Nat} {v : Int32} : (wI σ c i v).2 = σ.2 := rfl
theorem wL_2 {σ : Sto} {c i : Nat} {v : Int64} : (wL σ c i v).2 c = vp_updL (σ.2 c) i v := by simp [wL, wJ]
theorem wL_n {σ : Sto} {c i c' : Nat} {v : Int64} (h : c' ≠ c) : (wL σ c i v).2 c' = σ.2 c' := by simp [wL, wJ, h]
theorem wL_1 {σ : Sto} {c i : Nat} {v : Int64} : (wL σ c i v).1 = σ.1 := rfl
theorem uS {f : Nat → Int32} {i : Nat} {v : Int32} : upd f i v i = v := by simp [upd]
theorem uN {f : Nat → Int32} {i j : Nat} {v : Int32} (h : j ≠ i) : upd f i v j = f j := by simp [upd, h]
theorem uLS {f : Nat → Int64} {i : Nat} {v : Int64} : vp_updL f i v i = v := by simp [vp_updL]
theorem uLN {f : Nat → Int64} {i j : Nat} {v : Int64} (h : j ≠ i) : vp_updL f i v j = f j := by simp [vp_updL, h]
/-! the core of both objects as one table: 0 scalars (day, looked at, houses, readings, factor, text's length, latest), 1 way, 2 doubt, 3..8 readings (house, piece, on, value, told, back), 9 text, 10 sheets' types, 11 sizes, 12..15 items -/
abbrev Kp : Type := Nat → Nat → Int32
def kup (κ : Kp) (c i : Nat) (v : Int32) : Kp := fun c' i' => if c' = c ∧ i' = i then v else κ c' i'
theorem kup_s {κ : Kp} {c i : Nat} {v : Int32} : kup κ c i v c i = v := by simp [kup]
theorem kup_n {κ : Kp} {c i c' i' : Nat} {v : Int32} (h : ¬ (c' = c ∧ i' = i)) : kup κ c i v c' i' = κ c' i' := by simp [kup, h]
theorem kup_c {κ : Kp} {c i c' : Nat} {v : Int32} (h : c' ≠ c) : kup κ c i v c' = κ c' := by funext i'; simp [kup, h]
def axc (c : Nat) : Nat × Nat := match c with
  | 1 => (13, 14) | 2 => (14, 14) | 3 => (15, 150) | 4 => (16, 150) | 5 => (17, 150) | 6 => (18, 150) | 7 => (19, 150) | 8 => (20, 150)
  | 9 => (59, 60) | 10 => (65, 4) | 11 => (66, 4) | 12 => (61, 60) | 13 => (62, 60) | 14 => (63, 60) | 15 => (64, 60) | _ => (0, 0)
def sx (σ : Sto) (i : Nat) : Int32 := match i with
  | 0 => σ.1 1 0 | 1 => σ.1 1 1 | 2 => σ.1 1 2 | 3 => σ.1 1 5 | 4 => σ.1 3 3 | 5 => σ.1 8 4 | 6 => σ.1 9 3 | _ => 0
def vx (σ : Sto) (c i : Nat) : Int32 := if c = 0 then sx σ i else if i < (axc c).2 then σ.1 (axc c).1 i else 0
def axm (c : Nat) : Nat × Nat × Nat := match c with
  | 1 => (68, 14, 0) | 2 => (69, 14, 0) | 3 => (70, 150, 0) | 4 => (71, 150, 0) | 5 => (72, 150, 0) | 6 => (73, 150, 0) | 7 => (74, 150, 0) | 8 => (75, 150, 0)
  | 9 => (85, 60, 0) | 11 => (88, 4, 0) | 12 => (89, 60, 0) | 13 => (89, 60, 60) | 14 => (89, 60, 120) | 15 => (89, 60, 180) | _ => (0, 0, 0)
def sm (σ : Sto) (i : Nat) : Int32 := match i with
  | 0 => σ.1 67 0 | 1 => σ.1 67 11 | 2 => σ.1 67 1 | 3 => σ.1 67 4 | 4 => σ.1 67 12 | 5 => σ.1 67 29 | 6 => σ.1 67 41 | _ => 0
def vm (σ : Sto) (c i : Nat) : Int32 := if c = 0 then sm σ i else if c = 10 then (if i < 4 then (if σ.1 86 i = 0 then -1 else σ.1 87 i) else 0) else if i < (axm c).2.1 then σ.1 (axm c).1 ((axm c).2.2 + i) else 0
theorem axc_big {c : Nat} (h : 16 ≤ c) : axc c = (0, 0) := by
  unfold axc
  split <;> first | omega | rfl
theorem axm_big {c : Nat} (h : 16 ≤ c) : axm c = (0, 0, 0) := by
  unfold axm
  split <;> first | omega | rfl
theorem axc_inj : ∀ a, a < 16 → ∀ b, b < 16 → 1 ≤ a → 1 ≤ b → (axc a).1 = (axc b).1 → a = b := by decide
theorem axc_ge : ∀ a, a < 16 → 1 ≤ a → 13 ≤ (axc a).1 ∧ (axc a).1 < 67 ∧ ((axc a).1 < 21 ∨ 59 ≤ (axc a).1) ∧ (axc a).1 ≠ 60 := by decide
theorem vx_ar {σ : Sto} {c j : Nat} {v : Int32} (h0 : 1 ≤ c) (hj : j < (axc c).2) : vx (wI σ (axc c).1 j v) = kup (vx σ) c j v := by
  have hc : c < 16 := by
    rcases Nat.lt_or_ge c 16 with q | q
    · exact q
    · rw [axc_big q] at hj; omega
  funext c' i
  have g := axc_ge c hc h0
  unfold vx
  by_cases e0 : c' = 0
  · subst e0
    rw [if_pos rfl, kup_n (by omega), if_pos rfl]
    unfold sx
    split <;> first | rw [wI_n (by omega)] | rfl
  · rw [if_neg e0]
    by_cases ec : c' = c
    · subst ec
      by_cases ei : i = j
      · subst ei
        rw [kup_s, if_pos hj, wI_1, uS]
      · rw [kup_n (by omega), if_neg e0]
        split
        · rw [wI_1, uN ei]
        · rfl
    · rw [kup_n (by omega), if_neg e0]
      rcases Nat.lt_or_ge c' 16 with q | q
      · rw [wI_n (fun e => ec (axc_inj c' q c hc (by omega) h0 e))]
      · rw [axc_big q]; rfl
theorem vx_sc {σ : Sto} {c i j : Nat} {v : Int32} (h : (c, i, j) ∈ ([(1, 0, 0), (1, 1, 1), (1, 2, 2), (1, 5, 3), (3, 3, 4), (8, 4, 5), (9, 3, 6)] : List (Nat × Nat × Nat))) : vx (wI σ c i v) = kup (vx σ) 0 j v := by
  have hb : c < 13 := by
    simp only [List.mem_cons, Prod.mk.injEq, List.not_mem_nil, or_false] at h
    omega
  funext c' k
  unfold vx
  by_cases e0 : c' = 0
  · subst e0
    rw [if_pos rfl]
    simp only [List.mem_cons, Prod.mk.injEq, List.not_mem_nil, or_false] at h
    rcases h with ⟨rfl, rfl, rfl⟩ | ⟨rfl, rfl, rfl⟩ | ⟨rfl, rfl, rfl⟩ | ⟨rfl, rfl, rfl⟩ | ⟨rfl, rfl, rfl⟩ | ⟨rfl, rfl, rfl⟩ | ⟨rfl, rfl, rfl⟩ <;> unfold sx kup <;> split <;> simp_all [wI, wA, upd]
  · rw [if_neg e0, kup_n (by omega), if_neg e0]
    split
    · rename_i q
      rcases Nat.lt_or_ge c' 16 with q2 | q2
      · have := axc_ge c' q2 (by omega)
        rw [wI_n (by omega)]
      · rw [axc_big q2] at q; exact absurd q (Nat.not_lt_zero _)
    · rfl

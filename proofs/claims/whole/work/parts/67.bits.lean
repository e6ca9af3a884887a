/-! bits -/
theorem nI_bv (a : Nat) : (nI a).toBitVec = BitVec.ofNat 32 a := rfl
theorem bO (a b : Nat) : nI a ||| nI b = nI (a ||| b) := Int32.toBitVec_inj.mp (by rw [Int32.toBitVec_or, nI_bv, nI_bv, nI_bv, BitVec.ofNat_or])
theorem bA (a b : Nat) : nI a &&& nI b = nI (a &&& b) := Int32.toBitVec_inj.mp (by rw [Int32.toBitVec_and, nI_bv, nI_bv, nI_bv, BitVec.ofNat_and])
theorem bX (a b : Nat) : nI a ^^^ nI b = nI (a ^^^ b) := Int32.toBitVec_inj.mp (by rw [Int32.toBitVec_xor, nI_bv, nI_bv, nI_bv, BitVec.ofNat_xor])
theorem bSh : ∀ k, k < 15 → ((1 : Int32) <<< (nI k &&& 31)) = nI (2 ^ k) := by decide
theorem bK : ∀ k, k < 15 → ((nI k &&& 31).toBitVec.smod 32) = BitVec.ofNat 32 k := by decide
theorem bSr {m k : Nat} (hm : m < 2 ^ 31) (hk : k < 15) : nI m >>> (nI k &&& 31) = nI (m >>> k) := by
  refine Int32.toBitVec_inj.mp ?_
  rw [Int32.toBitVec_shiftRight, bK k hk, nI_bv, nI_bv, BitVec.sshiftRight', BitVec.sshiftRight_eq_of_msb_false]
  · apply BitVec.eq_of_toNat_eq
    rw [BitVec.toNat_ushiftRight, BitVec.toNat_ofNat, BitVec.toNat_ofNat, BitVec.toNat_ofNat, Nat.mod_eq_of_lt (show m < 2 ^ 32 by omega), Nat.mod_eq_of_lt (show k < 2 ^ 32 by omega)]
    have : m >>> k ≤ m := by rw [Nat.shiftRight_eq_div_pow]; exact Nat.div_le_self _ _
    rw [Nat.mod_eq_of_lt (show m >>> k < 2 ^ 32 by omega)]
  · rw [BitVec.msb_eq_false_iff_two_mul_lt, BitVec.toNat_ofNat, Nat.mod_eq_of_lt (show m < 2 ^ 32 by omega)]
    omega
theorem bT {m k : Nat} (hm : m < 2 ^ 31) (hk : k < 15) : (nI m >>> (nI k &&& 31)) &&& (1 : Int32) = if m.testBit k = true then 1 else 0 := by
  have e1 : (1 : Int32) = nI 1 := rfl
  rw [bSr hm hk, e1, bA, Nat.and_one_is_mod]
  unfold Nat.testBit
  rw [Nat.one_and_eq_mod_two]
  rcases Nat.mod_two_eq_zero_or_one (m >>> k) with h | h <;> rw [h] <;> rfl
theorem bT1 {m k : Nat} (hm : m < 2 ^ 31) (hk : k < 15) : ((nI m >>> (nI k &&& 31)) &&& (1 : Int32) = 1) ↔ m.testBit k = true := by
  rw [bT hm hk]
  by_cases q : m.testBit k = true
  · rw [if_pos q]; exact ⟨fun _ => q, fun _ => rfl⟩
  · rw [if_neg q]; exact ⟨fun z => absurd z (by decide), fun z => absurd z q⟩
theorem bT0 {m k : Nat} (hm : m < 2 ^ 31) (hk : k < 15) : ((nI m >>> (nI k &&& 31)) &&& (1 : Int32) = 0) ↔ m.testBit k = false := by
  rw [bT hm hk]
  by_cases q : m.testBit k = true
  · rw [if_pos q, q]; exact ⟨fun z => absurd z (by decide), fun z => by cases z⟩
  · rw [if_neg q]; exact ⟨fun _ => by simpa using q, fun _ => rfl⟩
/-- what is in a and not in b -/
def dif (a b : Nat) : Nat := a ^^^ (a &&& b)
theorem dif_t (a b i : Nat) : (dif a b).testBit i = (a.testBit i && !b.testBit i) := by
  unfold dif
  rw [Nat.testBit_xor, Nat.testBit_and]
  cases a.testBit i <;> cases b.testBit i <;> rfl
theorem bD {a b : Nat} : nI a &&& (nI b ^^^ (-1 : Int32)) = nI (dif a b) := by
  refine Int32.toBitVec_inj.mp ?_
  rw [Int32.toBitVec_and, Int32.toBitVec_xor, nI_bv, nI_bv, nI_bv]
  apply BitVec.eq_of_getLsbD_eq
  intro i hi
  have e : (-1 : Int32).toBitVec = BitVec.allOnes 32 := by decide
  rw [e, BitVec.getLsbD_and, BitVec.getLsbD_xor, BitVec.getLsbD_ofNat, BitVec.getLsbD_ofNat, BitVec.getLsbD_ofNat, BitVec.getLsbD_allOnes, dif_t]
  simp [hi]
def pc (m : Nat) : Nat := cnt m.testBit 14
/-- the bits of a question -/
def bset (P : Nat → Bool) : Nat → Nat
  | 0 => 0
  | n + 1 => bset P n ||| (if P n = true then 2 ^ n else 0)
theorem bset_t (P : Nat → Bool) : ∀ n i, (bset P n).testBit i = (decide (i < n) && P i)
  | 0, i => by simp [bset]
  | n + 1, i => by
    show (bset P n ||| _).testBit i = _
    rw [Nat.testBit_or, bset_t P n i]
    by_cases q : P n = true
    · rw [if_pos q, Nat.testBit_two_pow]
      by_cases e : n = i
      · subst e; simp [q]
      · have : decide (i < n + 1) = decide (i < n) := decide_eq_decide.mpr (by omega)
        rw [this]; simp [e]
    · rw [if_neg q, Nat.zero_testBit, Bool.or_false]
      by_cases e : n = i
      · subst e; simp [q]
      · have : decide (i < n + 1) = decide (i < n) := decide_eq_decide.mpr (by omega)
        rw [this]
theorem bset_lt (P : Nat → Bool) (n : Nat) : bset P n < 2 ^ n := Nat.lt_pow_two_of_testBit _ (fun i hi => by rw [bset_t, decide_eq_false (by omega)]; rfl)
theorem b14 {m n : Nat} (h : m < 2 ^ n) (hn : n ≤ 14) : m < 16384 := Nat.lt_of_lt_of_le h (Nat.pow_le_pow_right (by decide) hn)
theorem bset_14 (P : Nat → Bool) {n : Nat} (hn : n ≤ 14) : bset P n < 16384 := b14 (bset_lt P n) hn
theorem cnt_zz {P : Nat → Bool} : ∀ {n m : Nat}, n ≤ m → (∀ i, n ≤ i → P i = false) → cnt P m = cnt P n
  | n, 0, h, _ => by rw [show n = 0 by omega]
  | n, m + 1, h, z => by
    by_cases e : n = m + 1
    · rw [e]
    · show cnt P m + _ = _
      rw [z m (by omega), if_neg (by decide)]
      exact cnt_zz (by omega) z
theorem pc_bset {P : Nat → Bool} {n : Nat} (hn : n ≤ 14) : pc (bset P n) = cnt P n := by
  unfold pc
  rw [cnt_zz hn (fun i hi => by rw [bset_t, decide_eq_false (by omega)]; rfl)]
  exact cnt_congr (fun r hr => by rw [bset_t, decide_eq_true hr]; rfl)
def onesN : Nat → Nat → Nat
  | 0, _ => 0
  | k + 1, m => m % 2 + onesN k (m / 2)
theorem cnt_sh {P : Nat → Bool} : ∀ k, cnt P (k + 1) = (if P 0 = true then 1 else 0) + cnt (fun i => P (i + 1)) k
  | 0 => by
    show 0 + (if P 0 = true then 1 else 0) = (if P 0 = true then 1 else 0) + 0
    rw [Nat.zero_add, Nat.add_zero]
  | k + 1 => by
    show cnt P (k + 1) + (if P (k + 1) = true then 1 else 0) = _ + (cnt _ k + (if P (k + 1) = true then 1 else 0))
    rw [cnt_sh k]
    omega
theorem ones_cnt : ∀ k m, onesN k m = cnt m.testBit k
  | 0, _ => rfl
  | k + 1, m => by
    show m % 2 + onesN k (m / 2) = _
    rw [cnt_sh, ones_cnt k, Nat.testBit_zero]
    have e : cnt (m / 2).testBit k = cnt (fun i => m.testBit (i + 1)) k := cnt_congr (fun r _ => by rw [Nat.testBit_succ])
    rw [e]
    rcases Nat.mod_two_eq_zero_or_one m with h | h <;> rw [h] <;> simp

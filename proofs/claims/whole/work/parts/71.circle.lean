/-! the most that agree pair by pair: both searches give the first of the largest -/
def fb (C : Nat → Bool) : Nat → Nat → Nat → Nat
  | _, 0, b => b
  | s, k + 1, b => fb C (s + 1) k (if C s = true ∧ pc b < pc s then s else b)
theorem fb_add (C : Nat → Bool) : ∀ k l s b, fb C s (k + l) b = fb C (s + k) l (fb C s k b)
  | 0, l, s, b => by rw [Nat.zero_add, Nat.add_zero]; rfl
  | k + 1, l, s, b => by
    rw [show k + 1 + l = (k + l) + 1 by omega, show s + (k + 1) = (s + 1) + k by omega]
    exact fb_add C k l (s + 1) _
theorem fb_none (C : Nat → Bool) : ∀ k s b, (∀ t, s ≤ t → t < s + k → C t = true → pc t ≤ pc b) → fb C s k b = b
  | 0, _, _, _ => rfl
  | k + 1, s, b, h => by
    have h0 := h s (Nat.le_refl _) (by omega)
    show fb C (s + 1) k _ = b
    rw [if_neg (fun q => by have := h0 q.1; omega)]
    exact fb_none C k (s + 1) b (fun t a c => h t (by omega) (by omega))
theorem fb_le (C : Nat → Bool) {N : Nat} : ∀ k s b, s + k ≤ N → b < N → fb C s k b < N
  | 0, _, _, _, h => h
  | k + 1, s, b, h, hb => fb_le C k (s + 1) _ (by omega) (by split <;> omega)
theorem cnt_or {P Q R : Nat → Bool} : ∀ {n : Nat}, (∀ i, i < n → P i = true → Q i = true ∨ R i = true) → cnt P n ≤ cnt Q n + cnt R n
  | 0, _ => Nat.le_refl _
  | n + 1, h => by
    have h1 := cnt_or (n := n) (fun i hi => h i (by omega))
    have h2 := h n (by omega)
    show cnt P n + _ ≤ cnt Q n + _ + (cnt R n + _)
    by_cases a : P n = true
    · rw [if_pos a]
      rcases h2 a with q | q
      · rw [if_pos q]; omega
      · rw [if_pos q]; omega
    · rw [if_neg a]; omega
/-- a circle: all take part, each two agree -/
noncomputable def clq (T : Nat → Bool) (A : Nat → Nat → Bool) (s : Nat) : Bool := @decide (∀ i, s.testBit i = true → T i = true ∧ ∀ j, s.testBit j = true → i ≠ j → A i j = true) (Classical.propDecidable _)
theorem clq_i {T : Nat → Bool} {A : Nat → Nat → Bool} {s : Nat} : clq T A s = true ↔ ∀ i, s.testBit i = true → T i = true ∧ ∀ j, s.testBit j = true → i ≠ j → A i j = true := by
  unfold clq
  exact @decide_eq_true_iff _ (Classical.propDecidable _)
theorem tb_lo {h q r i : Nat} (hr : r < 2 ^ h) (hi : i < h) : (2 ^ h * q + r).testBit i = r.testBit i := by
  rw [Nat.testBit_two_pow_mul_add q hr, if_pos hi]
theorem tb_hi {h q r i : Nat} (hr : r < 2 ^ h) (hi : h ≤ i) : (2 ^ h * q + r).testBit i = (2 ^ h * q).testBit i := by
  rw [Nat.testBit_two_pow_mul_add q hr, if_neg (by omega), Nat.testBit_two_pow_mul, decide_eq_true hi, Bool.true_and]
theorem tb_mul {h q i : Nat} (hi : i < h) : (2 ^ h * q).testBit i = false := by
  rw [Nat.testBit_two_pow_mul, decide_eq_false (by omega), Bool.false_and]
/-- what stands open beside what is chosen -/
def opn (T : Nat → Bool) (A : Nat → Nat → Bool) (h c o : Nat) : Prop := ∀ i, o.testBit i = true ↔ i < h ∧ T i = true ∧ ∀ j, c.testBit j = true → A i j = true
theorem cir_b {T : Nat → Bool} {A : Nat → Nat → Bool} {h q o b : Nat} (ho : opn T A h (2 ^ h * q) o) (hle : pc o + pc (2 ^ h * q) ≤ pc b) : fb (clq T A) (2 ^ h * q) (2 ^ h) b = b := by
  refine fb_none _ _ _ _ (fun t a c d => Nat.le_trans ?_ hle)
  have hr : t - 2 ^ h * q < 2 ^ h := by omega
  have et : t = 2 ^ h * q + (t - 2 ^ h * q) := by omega
  refine cnt_or (fun i _ e => ?_)
  have dd := clq_i.mp d
  by_cases hi : i < h
  · refine Or.inl ((ho i).mpr ⟨hi, (dd i e).1, fun j hj => ?_⟩)
    have hj2 : h ≤ j := by
      rcases Nat.lt_or_ge j h with z | z
      · rw [tb_mul z] at hj; cases hj
      · exact z
    exact (dd i e).2 j (by rw [et, tb_hi hr hj2]; exact hj) (by omega)
  · refine Or.inr ?_
    rw [et, tb_hi hr (by omega)] at e
    exact e
theorem cir_n {T : Nat → Bool} {A : Nat → Nat → Bool} {h q o b : Nat} (ho : opn T A (h + 1) (2 ^ (h + 1) * q) o) (hb : o.testBit h = false) : fb (clq T A) (2 ^ (h + 1) * q) (2 ^ (h + 1)) b = fb (clq T A) (2 ^ h * (2 * q)) (2 ^ h) b := by
  have e : 2 ^ (h + 1) = 2 ^ h + 2 ^ h := by rw [Nat.pow_succ]; omega
  have eq : 2 ^ (h + 1) * q = 2 ^ h * (2 * q) := by rw [Nat.pow_succ, Nat.mul_assoc]
  rw [eq, e, fb_add]
  refine fb_none _ _ _ _ (fun t a c d => ?_)
  exfalso
  have hr : t - 2 ^ h * (2 * q + 1) < 2 ^ h := by rw [Nat.mul_add]; omega
  have et : t = 2 ^ h * (2 * q + 1) + (t - 2 ^ h * (2 * q + 1)) := by rw [Nat.mul_add]; omega
  have dd := clq_i.mp d
  have th : t.testBit h = true := by
    rw [et, tb_hi hr (Nat.le_refl _), Nat.testBit_two_pow_mul, decide_eq_true (Nat.le_refl h), Nat.sub_self, Nat.testBit_zero]
    simp
  have : o.testBit h = true := by
    refine (ho h).mpr ⟨by omega, (dd h th).1, fun j hj => ?_⟩
    have hj2 : h + 1 ≤ j := by
      rcases Nat.lt_or_ge j (h + 1) with z | z
      · rw [tb_mul z] at hj; cases hj
      · exact z
    refine (dd h th).2 j ?_ (by omega)
    rw [et, tb_hi hr (by omega), Nat.testBit_two_pow_mul, decide_eq_true (show j ≥ h by omega), Bool.true_and]
    rw [Nat.testBit_two_pow_mul, decide_eq_true (show j ≥ h + 1 by omega), Bool.true_and] at hj
    rw [show j - h = (j - (h + 1)) + 1 by omega, Nat.testBit_succ, show (2 * q + 1) / 2 = q by omega]
    exact hj
  rw [this] at hb
  cases hb
theorem tb_up {h q i : Nat} : (2 ^ h * (2 * q + 1)).testBit i = ((2 ^ (h + 1) * q).testBit i || decide (i = h)) := by
  rw [Nat.testBit_two_pow_mul, Nat.testBit_two_pow_mul]
  rcases Nat.lt_or_ge i h with z | z
  · rw [decide_eq_false (by omega), decide_eq_false (by omega), decide_eq_false (by omega)]; rfl
  · by_cases e : i = h
    · subst e
      rw [Nat.sub_self, Nat.testBit_zero, decide_eq_false (show ¬ i ≥ i + 1 by omega)]
      simp
    · rw [decide_eq_true (show i ≥ h by omega), decide_eq_true (show i ≥ h + 1 by omega), decide_eq_false e, Bool.true_and, Bool.true_and, Bool.or_false, show i - h = (i - (h + 1)) + 1 by omega, Nat.testBit_succ, show (2 * q + 1) / 2 = q by omega]
theorem cir_o1 {T : Nat → Bool} {A : Nat → Nat → Bool} {h q o o1 : Nat} (ho : opn T A (h + 1) (2 ^ (h + 1) * q) o) (e : ∀ i, o1.testBit i = (o.testBit i && !decide (i = h))) : opn T A h (2 ^ h * (2 * q)) o1 := by
  intro i
  rw [e, ← Nat.mul_assoc, ← Nat.pow_succ]
  have := ho i
  by_cases z : i = h
  · subst z; simp
  · simp only [decide_eq_false z, Bool.not_false, Bool.and_true]
    rw [this]
    exact ⟨fun g => ⟨by omega, g.2⟩, fun g => ⟨by omega, g.2⟩⟩
theorem cir_o2 {T : Nat → Bool} {A : Nat → Nat → Bool} {h q o o2 w : Nat} (sy : ∀ i j, A i j = A j i) (ho : opn T A (h + 1) (2 ^ (h + 1) * q) o) (hw : ∀ i, T i = true → (w.testBit i = true ↔ i ≠ h ∧ A h i = true)) (e : ∀ i, o2.testBit i = (o.testBit i && w.testBit i)) : opn T A h (2 ^ h * (2 * q + 1)) o2 := by
  intro i
  rw [e, Bool.and_eq_true, ho i]
  constructor
  · rintro ⟨⟨g1, g2, g3⟩, g4⟩
    have g5 := (hw i g2).mp g4
    refine ⟨by omega, g2, fun j hj => ?_⟩
    rw [tb_up, Bool.or_eq_true] at hj
    rcases hj with hj | hj
    · exact g3 j hj
    · rw [of_decide_eq_true hj, sy]; exact g5.2
  · rintro ⟨g1, g2, g3⟩
    refine ⟨⟨by omega, g2, fun j hj => g3 j (by rw [tb_up, hj]; rfl)⟩, (hw i g2).mpr ⟨by omega, ?_⟩⟩
    rw [sy]
    exact g3 h (by rw [tb_up]; simp)
theorem cir_c {T : Nat → Bool} {A : Nat → Nat → Bool} {h q o : Nat} (sy : ∀ i j, A i j = A j i) (ho : opn T A (h + 1) (2 ^ (h + 1) * q) o) (hb : o.testBit h = true) (hc : clq T A (2 ^ (h + 1) * q) = true) : clq T A (2 ^ h * (2 * q + 1)) = true := by
  have g := (ho h).mp hb
  have c := clq_i.mp hc
  refine clq_i.mpr (fun i hi => ?_)
  rw [tb_up, Bool.or_eq_true] at hi
  rcases hi with hi | hi
  · refine ⟨(c i hi).1, fun j hj hn => ?_⟩
    rw [tb_up, Bool.or_eq_true] at hj
    rcases hj with hj | hj
    · exact (c i hi).2 j hj hn
    · rw [of_decide_eq_true hj, sy]; exact g.2.2 i hi
  · rw [of_decide_eq_true hi]
    refine ⟨g.2.1, fun j hj hn => ?_⟩
    rw [tb_up, Bool.or_eq_true] at hj
    rcases hj with hj | hj
    · exact g.2.2 j hj
    · exact absurd (of_decide_eq_true hj).symm hn
theorem cir_h {T : Nat → Bool} {A : Nat → Nat → Bool} {h q b : Nat} : fb (clq T A) (2 ^ (h + 1) * q) (2 ^ (h + 1)) b = fb (clq T A) (2 ^ h * (2 * q + 1)) (2 ^ h) (fb (clq T A) (2 ^ h * (2 * q)) (2 ^ h) b) := by
  have e : 2 ^ (h + 1) = 2 ^ h + 2 ^ h := by rw [Nat.pow_succ]; omega
  have eq : 2 ^ (h + 1) * q = 2 ^ h * (2 * q) := by rw [Nat.pow_succ, Nat.mul_assoc]
  rw [eq, e, fb_add]
  rw [show 2 ^ h * (2 * q) + 2 ^ h = 2 ^ h * (2 * q + 1) by rw [Nat.mul_add, Nat.mul_one]]

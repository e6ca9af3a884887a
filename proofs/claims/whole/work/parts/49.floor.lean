/-! floorDiv, nearest; down, near -/
theorem xor_sign {x y : Int64} (hy : 0 < y.toInt) : (0 : Int64) ≤ x ^^^ y ↔ 0 ≤ x.toInt := by
  have e0 : (0 : Int64).toInt = 0 := rfl
  rw [lLe, e0]
  have h1 : (x ^^^ y).toBitVec.msb = (x.toBitVec.msb ^^ y.toBitVec.msb) := by rw [Int64.toBitVec_xor, BitVec.msb_xor]
  have h2 : y.toBitVec.msb = false := by rw [BitVec.msb_eq_toInt]; exact decide_eq_false (by show ¬ y.toInt < 0; omega)
  rw [h2, Bool.xor_false, BitVec.msb_eq_toInt, BitVec.msb_eq_toInt] at h1
  have h3 : ((x ^^^ y).toInt < 0) ↔ (x.toInt < 0) := decide_eq_decide.mp h1
  omega
theorem td_facts {a b : Int} (hb : 0 < b) : (0 ≤ a → a.tdiv b = a / b) ∧ (a < 0 → ((a.tdiv b) * b = a → a.tdiv b = a / b) ∧ (¬ (a.tdiv b) * b = a → a.tdiv b - 1 = a / b)) := by
  have h := Int.tdiv_eq_ediv (a := a) (b := b)
  refine ⟨fun ha => ?_, fun ha => ⟨fun q => ?_, fun q => ?_⟩⟩
  · rw [if_pos (Or.inl ha)] at h; omega
  · rw [if_pos (Or.inr ⟨a.tdiv b, by rw [Int.mul_comm]; exact q.symm⟩)] at h; omega
  · rw [if_neg (fun z => z.elim (fun w => by omega) (fun w => q (Int.tdiv_mul_cancel w))), Int.sign_eq_one_of_pos hb] at h; omega
theorem td_bound {a b : Int} (hb : 0 < b) : (0 ≤ a → 0 ≤ a.tdiv b * b ∧ a.tdiv b * b ≤ a ∧ 0 ≤ a.tdiv b ∧ a.tdiv b ≤ a) ∧ (a < 0 → a ≤ a.tdiv b * b ∧ a.tdiv b * b ≤ 0 ∧ a ≤ a.tdiv b ∧ a.tdiv b ≤ 0) := by
  have h1 := Int.mul_tdiv_add_tmod a b
  rw [Int.mul_comm] at h1
  refine ⟨fun ha => ?_, fun ha => ?_⟩
  · have h2 := Int.tmod_nonneg b ha
    have h3 : 0 ≤ a.tdiv b := Int.tdiv_nonneg ha (by omega)
    have h4 : 0 ≤ a.tdiv b * b := Int.mul_nonneg h3 (by omega)
    have h5 : a.tdiv b * 1 ≤ a.tdiv b * b := Int.mul_le_mul_of_nonneg_left (by omega) h3
    omega
  · have h2 := Int.tmod_nonneg b (show 0 ≤ -a by omega)
    rw [Int.neg_tmod] at h2
    have h3 : 0 ≤ (-a).tdiv b := Int.tdiv_nonneg (by omega) (by omega)
    rw [Int.neg_tdiv] at h3
    have h4 : 0 ≤ -(a.tdiv b) * b := Int.mul_nonneg h3 (by omega)
    have h5 : -(a.tdiv b) * 1 ≤ -(a.tdiv b) * b := Int.mul_le_mul_of_nonneg_left (by omega) h3
    simp only [Int.neg_mul] at h4 h5
    omega
theorem fd_ok {x y : Int64} {a b : Int} {σ : Sto} {post : Int64 → Sto → Prop} (hx : x.toInt = a) (hy : y.toInt = b) (hb : 0 < b) (ha : -4611686018427387904 < a) (h : ∀ r : Int64, r.toInt = a / b → post r σ) : wJ9_floorDiv_f86c9 x y σ post := by
  have e1 := lDiv hx hy (by omega)
  have hxr := lR x
  have hyr := lR y
  obtain ⟨f1, f2⟩ := td_facts (a := a) hb
  obtain ⟨g1, g2⟩ := td_bound (a := a) hb
  unfold wJ9_floorDiv_f86c9
  refine ⟨fun q => by rw [q] at hy; rw [show (0 : Int64).toInt = 0 from rfl] at hy; omega, fun q => ?_, fun q => ?_⟩
  · rw [xor_sign (by omega), hx] at q
    exact h _ (by rw [e1]; exact f1 q)
  · rw [xor_sign (by omega), hx] at q
    have g3 := g2 (by omega)
    have e2 : (x / y * y).toInt = a.tdiv b * b := lMul e1 hy (by omega) (by omega)
    rw [lEq, e2, hx]
    refine ⟨fun z => h _ (by rw [e1]; exact (f2 (by omega)).1 z), fun z => h _ ?_⟩
    rw [lSub e1 (show (1 : Int64).toInt = 1 from rfl) (by omega) (by omega)]
    exact (f2 (by omega)).2 z
theorem l0 : (0 : Int64).toInt = 0 := rfl
theorem l2 : (2 : Int64).toInt = 2 := rfl
theorem near_ok {x y : Int64} {a b : Int} {σ : Sto} {post : Int64 → Sto → Prop} (hx : x.toInt = a) (hy : y.toInt = b) (ha : -1152921504606846976 < a ∧ a < 1152921504606846976) (hb : 0 ≤ b ∧ b < 1152921504606846976) (h : ∀ r : Int64, r.toInt = (if b = 0 then 0 else nearZ a b) → post r σ) : wX10_nearest x y σ post := by
  unfold wX10_nearest
  rw [lLe, hy, l0]
  refine ⟨fun q => h 0 (by rw [if_pos (by omega)]; rfl), fun q => ?_⟩
  have e1 : ((2 : Int64) * x).toInt = 2 * a := lMul l2 hx (by omega) (by omega)
  have e2 : ((2 : Int64) * y).toInt = 2 * b := lMul l2 hy (by omega) (by omega)
  refine fd_ok (lAdd e1 hy (by omega) (by omega)) e2 (by omega) (by omega) (fun r hr => h r ?_)
  rw [if_neg (by omega), hr]
  rfl
theorem down_ok {x y : Int64} {a b : Int} {σ : Sto} {post : Int64 → Sto → Prop} (hx : x.toInt = a) (hy : y.toInt = b) (hb : 0 < b) (ha : -4611686018427387904 < a) (h : ∀ r : Int64, r.toInt = a / b → post r σ) : wX11_down x y σ post := by
  have e1 := lDiv hx hy (by omega)
  have e2 := lRem hx hy (by omega)
  obtain ⟨f1, f2⟩ := td_facts (a := a) hb
  obtain ⟨g1, g2⟩ := td_bound (a := a) hb
  have h1 := Int.mul_tdiv_add_tmod a b
  rw [Int.mul_comm] at h1
  have nz : ¬ y = 0 := fun q => by rw [q] at hy; rw [l0] at hy; omega
  have pos : 0 ≤ a → ¬ a.tmod b < 0 := fun q => by have := Int.tmod_nonneg b q; omega
  unfold wX11_down
  simp only [lLt, lLe, e2, l0]
  have hyes : ∀ z : a.tmod b < 0, post (x / y - 1) σ := fun z => by
    have ha2 : a < 0 := by
      rcases Int.lt_or_le a 0 with w | w
      · exact w
      · exact absurd z (pos w)
    have g3 := g2 ha2
    refine h _ ?_
    rw [lSub e1 (show (1 : Int64).toInt = 1 from rfl) (by omega) (by omega)]
    exact (f2 ha2).2 (by omega)
  have hno : ¬ a.tmod b < 0 → post (x / y) σ := fun z => by
    refine h _ ?_
    rw [e1]
    rcases Int.lt_or_le a 0 with w | w
    · have g3 := g2 w
      exact (f2 w).1 (by omega)
    · exact f1 w
  refine ⟨nz, nz, ?_⟩
  first | exact ⟨fun z => hyes z, fun z => hno z⟩ | exact ⟨fun z => hno (by omega), fun z => hyes (by omega)⟩
theorem nearM_ok {x y : Int64} {a b : Int} {σ : Sto} {post : Int64 → Sto → Prop} (hx : x.toInt = a) (hy : y.toInt = b) (ha : -1152921504606846976 < a ∧ a < 1152921504606846976) (hb : 0 < b ∧ b < 1152921504606846976) (h : ∀ r : Int64, r.toInt = nearZ a b → post r σ) : wX11_near x y σ post := by
  have e1 : ((2 : Int64) * x).toInt = 2 * a := lMul l2 hx (by omega) (by omega)
  have e2 : ((2 : Int64) * y).toInt = 2 * b := lMul l2 hy (by omega) (by omega)
  exact down_ok (lAdd e1 hy (by omega) (by omega)) e2 (by omega) (by omega) (fun r hr => h r hr)

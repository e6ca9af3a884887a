/-! the root -/
def isR (r v : Int) : Prop := 0 ≤ r ∧ (r = 0 ∨ r * r ≤ v) ∧ v < (r + 1) * (r + 1)
theorem isR_uniq {r s v : Int} (h1 : isR r v) (h2 : isR s v) : r = s := by
  obtain ⟨a1, a2, a3⟩ := h1
  obtain ⟨b1, b2, b3⟩ := h2
  rcases Int.lt_trichotomy r s with q | q | q
  · have := Int.mul_self_le_mul_self (a := r + 1) (b := s) (by omega) (by omega)
    omega
  · exact q
  · have := Int.mul_self_le_mul_self (a := s + 1) (b := r) (by omega) (by omega)
    omega
noncomputable def rtZ (v : Int) : Int := @dite _ (∃ r, isR r v) (Classical.propDecidable _) (fun h => Classical.choose h) (fun _ => 0)
theorem rtZ_eq {r v : Int} (h : isR r v) : rtZ v = r := by
  unfold rtZ
  rw [dif_pos ⟨r, h⟩]
  exact isR_uniq (Classical.choose_spec (⟨r, h⟩ : ∃ r, isR r v)) h
theorem rtZ_b {r v : Int} (h : isR r v) (hv : v < 10000000000000000) : rtZ v < 100000000 ∧ 0 ≤ rtZ v := by
  rw [rtZ_eq h]
  obtain ⟨a1, a2, a3⟩ := h
  refine ⟨?_, a1⟩
  rcases Int.lt_or_le r 100000000 with q | q
  · exact q
  · have := Int.mul_self_le_mul_self (a := 100000000) (b := r) (by omega) q
    omega
theorem l1S : ∀ k, k < 32 → ((1 : Int64) <<< ((nI k).toInt64 &&& 63)) = lN (2 ^ k) := by decide
theorem lN_or (a b : Nat) : lN a ||| lN b = lN (a ||| b) := Int64.toBitVec_inj.mp (by
  rw [Int64.toBitVec_or]
  show BitVec.ofNat 64 a ||| BitVec.ofNat 64 b = BitVec.ofNat 64 (a ||| b)
  rw [BitVec.ofNat_or])
theorem X_root {x : Int64} {v : Int} {σ : Sto} {post : Int64 → Sto → Prop} (hx : x.toInt = v) (hq : ∀ r : Int64, isR r.toInt v → post r σ) : wX6_root x σ post := by
  have xb := lR x
  unfold wX6_root
  rw [show (31 : Int32) = nI 32 - 1 by decide]
  refine ⟨33, ?_⟩
  refine pk_loopD (fun n a (y : Int64) => wX6_root_6 post (fun x2_1 σ_1 => post x2_1 σ_1) n x y (nI a - 1) σ) (fun a y => a ≤ 32 ∧ ∃ q : Nat, y = lN (2 ^ a * q) ∧ 2 ^ a * q + 2 ^ a ≤ 4294967296 ∧ (2 ^ a * q = 0 ∨ ((2 ^ a * q : Nat) : Int) * ((2 ^ a * q : Nat) : Int) ≤ v) ∧ v < ((2 ^ a * q + 2 ^ a : Nat) : Int) * ((2 ^ a * q + 2 ^ a : Nat) : Int)) ?_ ?_ 32 0 ⟨Nat.le_refl _, 0, rfl, by decide, Or.inl rfl, by
    rw [← hx]
    have e : ((2 ^ 32 * 0 + 2 ^ 32 : Nat) : Int) * ((2 ^ 32 * 0 + 2 ^ 32 : Nat) : Int) = 18446744073709551616 := by decide
    omega⟩
  · intro n y hy
    obtain ⟨_, q, e1, e2, e3, e4⟩ := hy
    unfold wX6_root_6
    refine ⟨fun _ => hq y ?_, fun z => absurd (by decide) z⟩
    rw [Nat.pow_zero, Nat.one_mul] at e1 e2 e3 e4
    rw [e1, pk_lT (by omega)]
    exact ⟨by omega, e3.imp (fun z => by omega) id, by rw [Int.natCast_add] at e4; exact e4⟩
  · intro n a y hy kk
    obtain ⟨h32, q, e1, e2, e3, e4⟩ := hy
    have p2 : 2 ^ (a + 1) = 2 ^ a + 2 ^ a := by rw [Nat.pow_succ]; omega
    have pm : 2 ^ (a + 1) * q = 2 ^ a * (2 * q) := by rw [Nat.pow_succ, Nat.mul_assoc]
    have pa : 0 < 2 ^ a := Nat.two_pow_pos a
    have eT : 2 ^ a * (2 * q + 1) = 2 ^ a * (2 * q) + 2 ^ a := by rw [Nat.mul_add, Nat.mul_one]
    have tT : (lN (2 ^ a * (2 * q + 1))).toInt = ((2 ^ a * (2 * q + 1) : Nat) : Int) := pk_lT (by omega)
    have t0 : (0 : Int) < ((2 ^ a * (2 * q + 1) : Nat) : Int) := by omega
    unfold wX6_root_6
    rw [nI_pred, l1S a (by omega), e1, lN_or, or_up]
    have m1 : nI a + (-1 : Int32) = nI a - 1 := (Int32.sub_eq_add_neg _ _).symm
    rw [m1]
    have no : ¬ (((2 ^ a * (2 * q + 1) : Nat) : Int) * ((2 ^ a * (2 * q + 1) : Nat) : Int) ≤ v) → wX6_root_6 post (fun x2_1 σ_1 => post x2_1 σ_1) n x (lN (2 ^ (a + 1) * q)) (nI a - 1) σ := fun z => by
      refine kk _ ⟨by omega, 2 * q, by rw [pm], by omega, by rw [← pm]; exact e3, ?_⟩
      rw [← eT]; omega
    refine ⟨fun z => absurd z (nI_pos (by omega)), fun _ => ⟨fun z => ?_, fun z => ⟨fun w => z (by rw [w]; decide), ?_⟩⟩⟩
    · rw [lLe, tT, show (0 : Int64).toInt = 0 from rfl] at z
      omega
    · have eD : (x / lN (2 ^ a * (2 * q + 1))).toInt = v.tdiv ((2 ^ a * (2 * q + 1) : Nat) : Int) := lDiv hx tT (by omega)
      rw [lLt, eD, tT]
      have key : (¬ v.tdiv ((2 ^ a * (2 * q + 1) : Nat) : Int) < ((2 ^ a * (2 * q + 1) : Nat) : Int)) ↔ ((2 ^ a * (2 * q + 1) : Nat) : Int) * ((2 ^ a * (2 * q + 1) : Nat) : Int) ≤ v := by
        generalize ((2 ^ a * (2 * q + 1) : Nat) : Int) = T at t0
        rw [Int.not_lt]
        rcases Int.lt_or_le v 0 with s | s
        · have h1 : v.tdiv T ≤ 0 := by
            have h2 := Int.tdiv_nonneg (show 0 ≤ -v by omega) (show 0 ≤ T by omega)
            rw [Int.neg_tdiv] at h2
            omega
          have h3 := Int.mul_pos t0 t0
          constructor <;> intro z <;> omega
        · rw [Int.tdiv_eq_ediv_of_nonneg s, Int.le_ediv_iff_mul_le t0]
      refine ⟨fun w => no (fun g => (key.mpr g) w), fun w => ?_⟩
      have g := key.mp w
      refine kk _ ⟨by omega, 2 * q + 1, rfl, by omega, Or.inr g, ?_⟩
      rw [eT, show 2 ^ a * (2 * q) + 2 ^ a + 2 ^ a = 2 ^ (a + 1) * q + 2 ^ (a + 1) by rw [pm, p2]; omega]
      exact e4
theorem M_root {x : Int64} {v : Int} {σ : Sto} {post : Int64 → Sto → Prop} (hx : x.toInt = v) (hv : v < 9000000000000000000) (hq : ∀ r : Int64, isR r.toInt v → post r σ) : wX11_root x σ post := by
  unfold wX11_root
  refine lp2 (fun n (l h : Int64) => wX11_root_7 post (fun x2_1 σ_1 => post x2_1 σ_1) n x l h σ) (fun l h => 0 ≤ l.toInt ∧ l.toInt ≤ h.toInt ∧ h.toInt ≤ 3000000000 ∧ (l.toInt = 0 ∨ l.toInt * l.toInt ≤ v) ∧ v < (h.toInt + 1) * (h.toInt + 1)) (fun l h => (h.toInt - l.toInt).toNat) ?_ 0 3000000000 ⟨by decide, by decide, by decide, Or.inl (by decide), by
    have e : ((3000000000 : Int64).toInt + 1) * ((3000000000 : Int64).toInt + 1) = 9000000006000000001 := by decide
    omega⟩
  intro n l h hI kk
  obtain ⟨a1, a2, a3, a4, a5⟩ := hI
  unfold wX11_root_7
  rw [lLe]
  refine ⟨fun z => ?_, fun z => ?_⟩
  · have e : l.toInt = h.toInt := by omega
    refine hq l ⟨a1, a4, by rw [e]; exact a5⟩
  · have s1 : (l + h).toInt = l.toInt + h.toInt := lAdd rfl rfl (by omega) (by omega)
    have s2 : (l + h + (1 : Int64)).toInt = l.toInt + h.toInt + 1 := lAdd s1 rfl (by omega) (by omega)
    have s3 : ((l + h + (1 : Int64)) / (2 : Int64)).toInt = (l.toInt + h.toInt + 1) / 2 := by
      rw [lDiv s2 (show (2 : Int64).toInt = 2 from rfl) (by decide), Int.tdiv_eq_ediv_of_nonneg (by omega)]
    generalize (l + h + (1 : Int64)) / (2 : Int64) = m at s3
    have mb : l.toInt < m.toInt ∧ m.toInt ≤ h.toInt := by omega
    have sq := mulB (x := m.toInt) (y := m.toInt) (A := 3000000000) (B := 3000000000) (M := 9000000000000000000) ⟨by omega, by omega⟩ ⟨by omega, by omega⟩ (by decide)
    have s4 : (m * m).toInt = m.toInt * m.toInt := lMul rfl rfl (by omega) (by omega)
    have s5 : (m - (1 : Int64)).toInt = m.toInt - 1 := lSub rfl rfl (by omega) (by omega)
    rw [lLt, hx, s4]
    refine ⟨fun w => kk _ _ ⟨a1, by omega, by omega, a4, ?_⟩ (by omega), fun w => kk _ _ ⟨by omega, by omega, by omega, Or.inr (by omega), a5⟩ (by omega)⟩
    rw [s5, show m.toInt - 1 + 1 = m.toInt by omega]
    exact w

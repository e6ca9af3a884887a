theorem mulB {x y A B M : Int} (hx : -A ≤ x ∧ x ≤ A) (hy : -B ≤ y ∧ y ≤ B) (hM : A * B ≤ M) : -M ≤ x * y ∧ x * y ≤ M := by
  have h1 : x.natAbs ≤ A.toNat := by omega
  have h2 : y.natAbs ≤ B.toNat := by omega
  have h3 : x.natAbs * y.natAbs ≤ A.toNat * B.toNat := Nat.mul_le_mul h1 h2
  rw [← Int.natAbs_mul] at h3
  have h4 : ((A.toNat * B.toNat : Nat) : Int) = A * B := by
    rw [Int.natCast_mul, Int.toNat_of_nonneg (by omega), Int.toNat_of_nonneg (by omega)]
  omega
theorem tot_bound {P : Nat → Bool} {f : Nat → Int} {B : Int} : ∀ {n : Nat}, (∀ r, r < n → P r = true → -B ≤ f r ∧ f r ≤ B) → -(B * cnt P n) ≤ tot P f n ∧ tot P f n ≤ B * cnt P n
  | 0, _ => by simp [tot, cnt]
  | n + 1, h => by
    have ih := tot_bound (fun r hr => h r (Nat.lt_succ_of_lt hr))
    show -(B * ((cnt P n + _ : Nat) : Int)) ≤ tot P f n + _ ∧ tot P f n + _ ≤ B * ((cnt P n + _ : Nat) : Int)
    by_cases q : P n = true
    · have g := h n (Nat.lt_succ_self n) q
      rw [if_pos q, if_pos q, Int.natCast_add, Int.mul_add]
      simp only [Int.natCast_one, Int.mul_one]
      omega
    · rw [if_neg q, if_neg q]
      simp only [Nat.add_zero, Int.add_zero]
      exact ih
theorem kb_aq {κ : Kp} {p d r : Nat} (h : kb κ p d r = true) : aq κ 0 p r = true := by
  unfold kb kq at h
  unfold aq
  simp only [Bool.and_eq_true] at h ⊢
  exact h.1.2
theorem pC_le {κ : Kp} (h : Inv κ) (p d : Nat) : pC κ p d ≤ 8 := Nat.le_trans (cnt_mono (fun r _ q => kb_aq q)) (h.2.2.2.2.2.2.2.2.1 0 p)
theorem pS_le {κ : Kp} (h : Inv κ) (p d : Nat) : -160000 ≤ pS κ p d ∧ pS κ p d ≤ 160000 := by
  have h1 := pC_le h p d
  have h2 := tot_bound (P := kb κ p d) (f := fun r => (κ 6 r).toInt) (B := 20000) (n := nR κ) (fun r hr _ => (h.2.2.2.2.2.2.2.1 r hr).2.2.2.1)
  unfold pC at h1
  unfold pS
  omega
section PTB
variable {κ : Kp} {p n : Nat} {D S C : Nat → Int}
theorem PT.b (h : PT κ p n D S C) (hi : Inv κ) {i : Nat} (hn : i < n) : (0 ≤ D i ∧ D i < 400) ∧ (-160000 ≤ S i ∧ S i ≤ 160000) ∧ 1 ≤ C i ∧ C i ≤ 8 := by
  have g := h.2.2.1 i hn
  have h1 := pC_le hi p (D i).toNat
  have h2 := pS_le hi p (D i).toNat
  rw [g.2.2.2.1, g.2.2.2.2]
  omega
theorem PT.at_last (h : PT κ p n D S C) (hn : 0 < n) {d : Nat} (hd : d < 400) (h1 : D (n - 1) ≤ d) : driftZ κ p d = nearZ (1000 * (S (n - 1) * C 0 - S 0 * C (n - 1))) (C (n - 1) * C 0) := by
  have g0 := h.2.2.1 0 hn
  have gl := h.2.2.1 (n - 1) (by omega)
  unfold driftZ
  rw [h.first hn, h.last hd (show n - 1 < n by omega) h1 (fun i a b => by omega)]
  show (match fstD (isP κ p) (d + 1) (399 - d) with | none => _ | some n => _) = _
  rw [h.noNext hd hn h1]
  show nearZ _ _ = _
  rw [gl.2.2.2.1, gl.2.2.2.2, g0.2.2.2.1, g0.2.2.2.2]
theorem PT.at_mid (h : PT κ p n D S C) {d k : Nat} (hd : d < 400) (hk : k + 1 < n) (h1 : D k ≤ d) (h2 : (d : Int) < D (k + 1)) : driftZ κ p d = nearZ (1000 * ((S k * C (k + 1) * (D (k + 1) - D k - (d - D k)) + S (k + 1) * C k * (d - D k)) * C 0 - S 0 * (C k * C (k + 1) * (D (k + 1) - D k)))) (C k * C (k + 1) * (D (k + 1) - D k) * C 0) := by
  have g0 := h.2.2.1 0 (by omega)
  have gk := h.2.2.1 k (by omega)
  have gl := h.2.2.1 (k + 1) hk
  unfold driftZ
  rw [h.first (by omega), h.last hd (show k < n by omega) h1 (fun i a b => by have := h.mono (show k + 1 ≤ i by omega) b; omega)]
  show (match fstD (isP κ p) (d + 1) (399 - d) with | none => _ | some n => _) = _
  rw [h.next hd hk h1 h2]
  show nearZ _ _ = _
  rw [gl.2.2.2.1, gl.2.2.2.2, gk.2.2.2.1, gk.2.2.2.2, g0.2.2.2.1, g0.2.2.2.2, Int.toNat_of_nonneg gk.1, Int.toNat_of_nonneg gl.1]
end PTB
/-- driftBetween: the number that it answers -/
theorem X_between {p i j : Int32} {sp go : Int64} {σ : Sto} {post : Int32 → Sto → Prop} {Si Sj S0 Ci Cj C0 s g : Int} (hp : okS p) (hi : 0 ≤ i.toInt ∧ i.toInt < 8) (hj : 0 ≤ j.toInt ∧ j.toInt < 8)
    (e1 : (σ.1 (28 + p.toNatClampNeg) i.toNatClampNeg).toInt = Si) (e2 : (σ.1 (28 + p.toNatClampNeg) j.toNatClampNeg).toInt = Sj) (e3 : (σ.1 (28 + p.toNatClampNeg) 0).toInt = S0) (e4 : (σ.1 (33 + p.toNatClampNeg) i.toNatClampNeg).toInt = Ci) (e5 : (σ.1 (33 + p.toNatClampNeg) j.toNatClampNeg).toInt = Cj) (e6 : (σ.1 (33 + p.toNatClampNeg) 0).toInt = C0) (e7 : sp.toInt = s) (e8 : go.toInt = g)
    (b1 : -160000 ≤ Si ∧ Si ≤ 160000) (b2 : -160000 ≤ Sj ∧ Sj ≤ 160000) (b3 : -160000 ≤ S0 ∧ S0 ≤ 160000) (b4 : 1 ≤ Ci ∧ Ci ≤ 8) (b5 : 1 ≤ Cj ∧ Cj ≤ 8) (b6 : 1 ≤ C0 ∧ C0 ≤ 8) (b7 : 1 ≤ s ∧ s ≤ 400) (b8 : 0 ≤ g ∧ g ≤ s)
    (hr : -1000000000 ≤ nearZ (1000 * ((Si * Cj * (s - g) + Sj * Ci * g) * C0 - S0 * (Ci * Cj * s))) (Ci * Cj * s * C0) ∧ nearZ (1000 * ((Si * Cj * (s - g) + Sj * Ci * g) * C0 - S0 * (Ci * Cj * s))) (Ci * Cj * s * C0) ≤ 1000000000)
    (h : ∀ r : Int32, r.toInt = nearZ (1000 * ((Si * Cj * (s - g) + Sj * Ci * g) * C0 - S0 * (Ci * Cj * s))) (Ci * Cj * s * C0) → post r σ) : wX7_driftBetween p i j sp go σ post := by
  have i8 : vp_in i 8 := vp_iff.mpr hi
  have j8 : vp_in j 8 := vp_iff.mpr hj
  have z8 : vp_in (0 : Int32) 8 := vp_iff.mpr (by rw [n0]; omega)
  have z0 : (0 : Int32).toNatClampNeg = 0 := rfl
  unfold wX7_driftBetween
  rw [z0]
  refine ⟨hp.in, hp.in, i8, j8, z8, i8, j8, z8, ?_⟩
  have m1 := mulB (x := Si) (y := Cj) (A := 160000) (B := 8) (M := 1280000) b1 ⟨by omega, b5.2⟩ (by decide)
  have m2 := mulB (x := Sj) (y := Ci) (A := 160000) (B := 8) (M := 1280000) b2 ⟨by omega, b4.2⟩ (by decide)
  have m3 := mulB (x := Ci) (y := Cj) (A := 8) (B := 8) (M := 64) ⟨by omega, b4.2⟩ ⟨by omega, b5.2⟩ (by decide)
  have m4 := mulB (x := Si * Cj) (y := s - g) (A := 1280000) (B := 400) (M := 512000000) m1 ⟨by omega, by omega⟩ (by decide)
  have m5 := mulB (x := Sj * Ci) (y := g) (A := 1280000) (B := 400) (M := 512000000) m2 ⟨by omega, by omega⟩ (by decide)
  have m6 := mulB (x := Ci * Cj) (y := s) (A := 64) (B := 400) (M := 25600) m3 ⟨by omega, by omega⟩ (by decide)
  have m7 := mulB (x := Si * Cj * (s - g) + Sj * Ci * g) (y := C0) (A := 1024000000) (B := 8) (M := 8192000000) ⟨by omega, by omega⟩ ⟨by omega, b6.2⟩ (by decide)
  have m8 := mulB (x := S0) (y := Ci * Cj * s) (A := 160000) (B := 25600) (M := 4096000000) b3 m6 (by decide)
  have m9 := mulB (x := Ci * Cj * s) (y := C0) (A := 25600) (B := 8) (M := 204800) m6 ⟨by omega, b6.2⟩ (by decide)
  have p1 : 0 < Ci * Cj := Int.mul_pos (by omega) (by omega)
  have p2 : 0 < Ci * Cj * s := Int.mul_pos p1 (by omega)
  have p3 : 0 < Ci * Cj * s * C0 := Int.mul_pos p2 (by omega)
  have t1 := lMul (iL e1) (iL e5) (by omega) (by omega)
  have t2 := lSub e7 e8 (by omega) (by omega)
  have t3 := lMul t1 t2 (by omega) (by omega)
  have t4 := lMul (lMul (iL e2) (iL e4) (by omega) (by omega)) e8 (by omega) (by omega)
  have t5 := lMul (lAdd t3 t4 (by omega) (by omega)) (iL e6) (by omega) (by omega)
  have t6 := lMul (lMul (iL e4) (iL e5) (by omega) (by omega)) e7 (by omega) (by omega)
  have t7 := lMul (iL e3) t6 (by omega) (by omega)
  have t8 := lSub t5 t7 (by omega) (by omega)
  have t9 := lMul (show (1000 : Int64).toInt = 1000 from rfl) t8 (by omega) (by omega)
  have t10 := lMul t6 (iL e6) (by omega) (by omega)
  refine near_ok t9 t10 (by omega) (by omega) (fun r hr2 => h _ ?_)
  rw [if_neg (by omega)] at hr2
  exact lI hr2 (by omega) (by omega)

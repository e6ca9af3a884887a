theorem mulL {x B y : Int} (h : -B ≤ x ∧ x ≤ B) (hy : 0 ≤ y) : -(B * y) ≤ x * y ∧ x * y ≤ B * y := by
  have h1 := Int.mul_le_mul_of_nonneg_right h.1 hy
  have h2 := Int.mul_le_mul_of_nonneg_right h.2 hy
  rw [Int.neg_mul] at h1
  exact ⟨h1, h2⟩
theorem nearB {a b M : Int} (hb : 0 < b) (h : -(M * b) ≤ a ∧ a ≤ M * b) : -M ≤ nearZ a b ∧ nearZ a b ≤ M := by
  unfold nearZ
  constructor
  · rw [Int.le_ediv_iff_mul_le (by omega)]
    have : -M * (2 * b) = -(2 * (M * b)) := by grind
    omega
  · have : (2 * a + b) / (2 * b) < M + 1 := by
      refine Int.ediv_lt_of_lt_mul (by omega) ?_
      have : (M + 1) * (2 * b) = 2 * (M * b) + 2 * b := by grind
      omega
    omega
theorem drB {Si Sj S0 Ci Cj C0 s g : Int} (a1 : -(20000 * Ci) ≤ Si ∧ Si ≤ 20000 * Ci) (a2 : -(20000 * Cj) ≤ Sj ∧ Sj ≤ 20000 * Cj) (a3 : -(20000 * C0) ≤ S0 ∧ S0 ≤ 20000 * C0) (b4 : 1 ≤ Ci) (b5 : 1 ≤ Cj) (b6 : 1 ≤ C0) (b7 : 1 ≤ s) (b8 : 0 ≤ g ∧ g ≤ s) :
    -40000000 ≤ nearZ (1000 * ((Si * Cj * (s - g) + Sj * Ci * g) * C0 - S0 * (Ci * Cj * s))) (Ci * Cj * s * C0) ∧ nearZ (1000 * ((Si * Cj * (s - g) + Sj * Ci * g) * C0 - S0 * (Ci * Cj * s))) (Ci * Cj * s * C0) ≤ 40000000 := by
  have p1 : 0 < Ci * Cj := Int.mul_pos (by omega) (by omega)
  have p2 : 0 < Ci * Cj * s := Int.mul_pos p1 (by omega)
  have p3 : 0 < Ci * Cj * s * C0 := Int.mul_pos p2 (by omega)
  have u1 := mulL (y := Cj * (s - g)) a1 (Int.mul_nonneg (by omega) (by omega))
  have u2 := mulL (y := Ci * g) a2 (Int.mul_nonneg (by omega) (by omega))
  have i1 : 20000 * Ci * (Cj * (s - g)) + 20000 * Cj * (Ci * g) = 20000 * (Ci * Cj * s) := by grind
  rw [← Int.mul_assoc Si] at u1
  rw [← Int.mul_assoc Sj] at u2
  have u3 := mulL (x := Si * Cj * (s - g) + Sj * Ci * g) (B := 20000 * (Ci * Cj * s)) (y := C0) (by omega) (by omega)
  have u4 := mulL (y := Ci * Cj * s) a3 (by omega)
  have i2 : 20000 * (Ci * Cj * s) * C0 + 20000 * C0 * (Ci * Cj * s) = 40000 * (Ci * Cj * s * C0) := by grind
  refine nearB p3 ?_
  omega
theorem pS_cl {κ : Kp} (h : Inv κ) (p d : Nat) : -(20000 * (pC κ p d : Int)) ≤ pS κ p d ∧ pS κ p d ≤ 20000 * (pC κ p d : Int) := tot_bound (fun r hr _ => (h.2.2.2.2.2.2.2.1 r hr).2.2.2.1)
theorem PT.c {κ : Kp} {p n : Nat} {D S C : Nat → Int} (h : PT κ p n D S C) (hi : Inv κ) {i : Nat} (hn : i < n) : -(20000 * C i) ≤ S i ∧ S i ≤ 20000 * C i := by
  have g := h.2.2.1 i hn
  have h2 := pS_cl hi p (D i).toNat
  rw [g.2.2.2.1, g.2.2.2.2]
  exact h2
/-- the class's table for a piece -/
def TX (κ : Kp) (σ : Sto) (p n : Nat) : Prop := (σ.1 21 p).toInt = n ∧ PT κ p n (fun i => (σ.1 (23 + p) i).toInt) (fun i => (σ.1 (28 + p) i).toInt) (fun i => (σ.1 (33 + p) i).toInt)
theorem X_driftOn {κ : Kp} {p d : Int32} {σ : Sto} {post : Int32 → Sto → Prop} {n : Nat} (hi : Inv κ) (hp : okS p) (hd : 0 ≤ d.toInt ∧ d.toInt < 400) (hT : TX κ σ p.toNatClampNeg n) (h : ∀ r : Int32, r.toInt = driftZ κ p.toNatClampNeg d.toNatClampNeg → (-40000000 ≤ r.toInt ∧ r.toInt ≤ 40000000) → post r σ) : wX7_driftOn p d σ post := by
  obtain ⟨hn, hPT⟩ := hT
  have hn8 := hPT.1
  have hdn : ((d.toNatClampNeg : Nat) : Int) = d.toInt := toN hd.1
  have hd4 : d.toNatClampNeg < 400 := by omega
  have hnI : σ.1 21 p.toNatClampNeg = nI n := iExt hn (nI_toInt (by omega))
  unfold wX7_driftOn
  refine ⟨hp.in, ?_⟩
  have fin : ∀ i : Nat, i ≤ n → (∀ j, j < i → (σ.1 (23 + p.toNatClampNeg) j).toInt ≤ d.toInt) → (i = n ∨ d.toInt < (σ.1 (23 + p.toNatClampNeg) i).toInt) → wX7_driftOn_35 post p d p (nI i) σ := by
    intro i hin hlow hup
    unfold wX7_driftOn_35
    have hiT : (nI i).toInt = i := nI_toInt (by omega)
    refine And.symm ⟨fun q => ?_, fun q => ?_⟩
    · have i0 : i = 0 := by rw [iEq, hiT, n0] at q; omega
      subst i0
      refine h 0 ?_ (by decide)
      rw [hPT.before hd4 (fun j hj => ?_)]
      · rfl
      · rcases hup with z | z
        · omega
        · have := hPT.mono (Nat.zero_le j) hj
          rw [hdn]
          omega
    · have i1 : 0 < i := by
        rcases Nat.eq_zero_or_pos i with z | z
        · rw [z] at q; exact absurd rfl q
        · exact z
      have eSub : nI i - 1 = nI (i - 1) := by rw [show (1 : Int32) = nI 1 from rfl, pk_sub (by omega)]
      have c1 : (nI (i - 1)).toNatClampNeg = i - 1 := nI_clamp (by omega)
      have c2 : (nI i).toNatClampNeg = i := nI_clamp (by omega)
      have t1 : (nI (i - 1)).toInt = ((i - 1 : Nat) : Int) := nI_toInt (by omega)
      have q0 := hPT.b hi (show 0 < n by omega)
      have q1 := hPT.b hi (show i - 1 < n by omega)
      have w0 := hPT.c hi (show 0 < n by omega)
      have w1 := hPT.c hi (show i - 1 < n by omega)
      have lowi := hlow (i - 1) (by omega)
      rw [hnI, eSub]
      refine ⟨hp.in, fun z => ?_, fun z => ?_⟩
      · have hne : i ≠ n := fun e => z (by rw [e])
        have up : d.toInt < (σ.1 (23 + p.toNatClampNeg) i).toInt := hup.resolve_left hne
        have q2 := hPT.b hi (show i < n by omega)
        have w2 := hPT.c hi (show i < n by omega)
        have e1 : (σ.1 (23 + p.toNatClampNeg) i - σ.1 (23 + p.toNatClampNeg) (i - 1)).toInt = (σ.1 (23 + p.toNatClampNeg) i).toInt - (σ.1 (23 + p.toNatClampNeg) (i - 1)).toInt := iSub rfl rfl (by omega) (by omega)
        have e2 : (d - σ.1 (23 + p.toNatClampNeg) (i - 1)).toInt = d.toInt - (σ.1 (23 + p.toNatClampNeg) (i - 1)).toInt := iSub rfl rfl (by omega) (by omega)
        have mid := hPT.at_mid (k := i - 1) hd4 (by omega) (by rw [hdn]; exact lowi) (by rw [show i - 1 + 1 = i by omega, hdn]; exact up)
        rw [show i - 1 + 1 = i by omega, hdn] at mid
        have bnd := drB w1 w2 w0 q1.2.2.1 q2.2.2.1 q0.2.2.1 (s := (σ.1 (23 + p.toNatClampNeg) i).toInt - (σ.1 (23 + p.toNatClampNeg) (i - 1)).toInt) (g := d.toInt - (σ.1 (23 + p.toNatClampNeg) (i - 1)).toInt) (by omega) (by omega)
        rw [c1, c2]
        refine ⟨vp_in_nI (by omega) (by omega), vp_in_nI (by omega) (by omega), vp_in_nI (by omega) (by omega), ?_⟩
        refine X_between hp (by omega) (by omega) (by rw [c1]) (by rw [c2]) rfl (by rw [c1]) (by rw [c2]) rfl (iL e1) (iL e2) q1.2.1 q2.2.1 q0.2.1 q1.2.2 q2.2.2 q0.2.2 (by omega) (by omega) (by omega) (fun r hr => h r ?_ (by omega))
        rw [hr]
        exact mid.symm
      · have hne : i = n := by rw [nI_eq (by omega) (by omega)] at z; exact z
        subst hne
        have last := hPT.at_last (by omega) hd4 (by rw [hdn]; exact lowi)
        have bnd := drB w1 w1 w0 q1.2.2.1 q1.2.2.1 q0.2.2.1 (s := 1) (g := 0) (by omega) (by omega)
        have sc := nearZ_scale (k := (σ.1 (33 + p.toNatClampNeg) (i - 1)).toInt) (a := 1000 * ((σ.1 (28 + p.toNatClampNeg) (i - 1)).toInt * (σ.1 (33 + p.toNatClampNeg) 0).toInt - (σ.1 (28 + p.toNatClampNeg) 0).toInt * (σ.1 (33 + p.toNatClampNeg) (i - 1)).toInt)) (b := (σ.1 (33 + p.toNatClampNeg) (i - 1)).toInt * (σ.1 (33 + p.toNatClampNeg) 0).toInt) (by have := q1.2.2.1; omega)
        refine X_between hp (by omega) (by omega) (by rw [c1]) (by rw [c1]) rfl (by rw [c1]) (by rw [c1]) rfl (show (1 : Int64).toInt = 1 from rfl) l0 q1.2.1 q1.2.1 q0.2.1 q1.2.2 q1.2.2 q0.2.2 (by omega) (by omega) (by omega) (fun r hr => h r ?_ (by omega))
        rw [hr, last, ← sc]
        congr 1 <;> grind
  refine lp1 (fun k i => wX7_driftOn_10 post (fun x1_1 x2_1 x3_1 x4_1 σ_1 => wX7_driftOn_35 post x1_1 x2_1 x3_1 x4_1 σ_1) k p d p (nI i) σ) (fun i : Nat => i ≤ n ∧ ∀ j, j < i → (σ.1 (23 + p.toNatClampNeg) j).toInt ≤ d.toInt) (fun i => n - i) ?_ 0 ⟨Nat.zero_le _, fun j hj => absurd hj (Nat.not_lt_zero _)⟩
  intro k i hI kk
  obtain ⟨h1, h2⟩ := hI
  unfold wX7_driftOn_10
  rw [hnI]
  refine ⟨hp.in, fun q => fin i h1 h2 (Or.inl ?_), fun q => ?_⟩
  · rw [nI_leI (by omega) (by omega)] at q; omega
  · have hlt : i < n := by rw [nI_leI (by omega) (by omega)] at q; omega
    have c2 : (nI i).toNatClampNeg = i := nI_clamp (by omega)
    refine ⟨vp_in_nI (by omega) (by omega), fun z => fin i h1 h2 (Or.inr ?_), fun z => ?_⟩
    · rw [c2, iLt] at z; exact z
    · rw [c2, iLt] at z
      rw [nI_1]
      refine kk (i + 1) ⟨by omega, fun j hj => ?_⟩ (by omega)
      rcases Nat.lt_or_ge j i with w | w
      · exact h2 j w
      · have : j = i := by omega
        subst this
        omega

/-! the model's driftOf, reducedOf -/
/-- the model's table for a piece -/
def TM (κ : Kp) (σ : Sto) (p n : Nat) : Prop := (σ.1 76 p).toInt = n ∧ PT κ p n (mD σ p) (mS σ p) (mC σ p)
theorem l1000 : (1000 : Int64).toInt = 1000 := rfl
theorem M_238 {a b : Int64} {x y z : Int} {σ : Sto} {post : Int32 → Sto → Prop} (ha : a.toInt = x) (hb : b.toInt = y) (bx : -100000000000 ≤ x ∧ x ≤ 100000000000) (bY : 0 < y ∧ y ≤ 100000000000) (hz : z = nearZ (1000 * x) y) (bz : -40000000 ≤ z ∧ z ≤ 40000000) (h : ∀ r : Int32, r.toInt = z → post r σ) : wX11_driftOf_238 post a b σ := by
  unfold wX11_driftOf_238
  refine nearM_ok (lMul l1000 ha (by omega) (by omega)) hb (by omega) (by omega) (fun r hr => h _ ?_)
  rw [← hz] at hr
  exact lI hr (by omega) (by omega)
theorem M_driftOf {κ : Kp} {p d : Int32} {σ : Sto} {post : Int32 → Sto → Prop} {n : Nat} (hi : Inv κ) (hp : okS p) (hd : 0 ≤ d.toInt ∧ d.toInt < 400) (hT : TM κ σ p.toNatClampNeg n) (h : ∀ r : Int32, r.toInt = driftZ κ p.toNatClampNeg d.toNatClampNeg → post r σ) : wX11_driftOf p d σ post := by
  obtain ⟨hn, hPT⟩ := hT
  have hn8 := hPT.1
  have hl := hp.lt
  have hdn : ((d.toNatClampNeg : Nat) : Int) = d.toInt := toN hd.1
  have hd4 : d.toNatClampNeg < 400 := by omega
  have bz := driftZ_b hi p.toNatClampNeg d.toNatClampNeg
  have hnI : σ.1 76 p.toNatClampNeg = nI n := iExt hn (nI_toInt (by omega))
  have ep : (150 : Int32) * p = nI (150 * p.toNatClampNeg) := by
    have hp2 := hp
    unfold okS at hp2
    refine iExt (iMul (a := 150) (b := p.toInt) (by decide) rfl (by omega) (by omega)) ?_
    rw [nI_toInt (by omega), tnc]
    omega
  unfold wX11_driftOf
  rw [hnI, ep]
  generalize hP : p.toNatClampNeg = P at *
  refine ⟨hp.in, fun q => ?_, fun q => ?_⟩
  · have n1 : 0 < n := by
      rcases Nat.eq_zero_or_pos n with z | z
      · rw [z] at q; exact absurd rfl q
      · exact z
    have fin : ∀ i : Nat, i < n → (∀ j, 1 ≤ j → j ≤ i → mD σ P j ≤ d.toInt) → (i + 1 = n ∨ d.toInt < mD σ P (i + 1)) → wX11_driftOf_54 post d (nI n) (nI (150 * P)) (nI (150 * P + i)) σ := by
      intro i hin hlow hup
      unfold wX11_driftOf_54
      have c0 : (nI (150 * P)).toNatClampNeg = 150 * P := nI_clamp (by omega)
      have c1 : (nI (150 * P + i)).toNatClampNeg = 150 * P + i := nI_clamp (by omega)
      have v0 : vp_in (nI (150 * P)) 600 := vp_in_nI (by omega) (by omega)
      have v1 : vp_in (nI (150 * P + i)) 600 := vp_in_nI (by omega) (by omega)
      have e1 : nI (150 * P + i) + 1 = nI (150 * P + i + 1) := nI_1 _
      rw [c0, c1, e1, nI_add]
      refine ⟨v0, v1, v0, v1, v1, v0, fun z => ?_, fun z => ?_⟩
      · have z0 : mD σ P 0 ≤ d.toInt := by rw [iLe] at z; exact z
        have q0 := hPT.b hi n1
        have qi := hPT.b hi hin
        have di : mD σ P i ≤ d.toInt := by
          rcases Nat.eq_zero_or_pos i with w | w
          · rw [w]; exact z0
          · exact hlow i (by omega) (Nat.le_refl _)
        have s0 : (σ.2 78 (150 * P)).toInt = mS σ P 0 := rfl
        have si : (σ.2 78 (150 * P + i)).toInt = mS σ P i := rfl
        have k0 : (σ.1 79 (150 * P)).toInt = mC σ P 0 := rfl
        have ki : (σ.1 79 (150 * P + i)).toInt = mC σ P i := rfl
        have m1 := mulB (x := mS σ P i) (y := mC σ P 0) (A := 160000) (B := 8) (M := 1280000) qi.2.1 ⟨by omega, q0.2.2.2⟩ (by decide)
        have m2 := mulB (x := mS σ P 0) (y := mC σ P i) (A := 160000) (B := 8) (M := 1280000) q0.2.1 ⟨by omega, qi.2.2.2⟩ (by decide)
        have m3 := mulB (x := mC σ P i) (y := mC σ P 0) (A := 8) (B := 8) (M := 64) ⟨by omega, qi.2.2.2⟩ ⟨by omega, q0.2.2.2⟩ (by decide)
        have p3 : 0 < mC σ P i * mC σ P 0 := Int.mul_pos (by omega) (by omega)
        have t1 := lSub (lMul si (iL k0) (by omega) (by omega)) (lMul s0 (iL ki) (by omega) (by omega)) (by omega) (by omega)
        have t2 := lMul (iL ki) (iL k0) (by omega) (by omega)
        rw [nI_leI (by omega) (by omega)]
        refine ⟨fun w => ?_, fun w => ?_⟩
        · have hin1 : i + 1 = n := by omega
          have last := hPT.at_last n1 hd4 (by rw [hdn, show n - 1 = i by omega]; exact di)
          rw [show n - 1 = i by omega] at last
          exact M_238 t1 t2 (by omega) (by omega) last bz (fun r hr => h r hr)
        · have hin2 : i + 1 < n := by omega
          have up : d.toInt < mD σ P (i + 1) := hup.resolve_left (by omega)
          have qn := hPT.b hi hin2
          have c2 : (nI (150 * P + i + 1)).toNatClampNeg = 150 * P + (i + 1) := nI_clamp (by omega)
          have v2 : vp_in (nI (150 * P + i + 1)) 600 := vp_in_nI (by omega) (by omega)
          rw [c2]
          refine ⟨v2, v1, v1, v2, v2, v2, v1, v1, ?_⟩
          have sn : (σ.2 78 (150 * P + (i + 1))).toInt = mS σ P (i + 1) := rfl
          have kn : (σ.1 79 (150 * P + (i + 1))).toInt = mC σ P (i + 1) := rfl
          have dn : (σ.1 77 (150 * P + (i + 1))).toInt = mD σ P (i + 1) := rfl
          have dI : (σ.1 77 (150 * P + i)).toInt = mD σ P i := rfl
          have mid := hPT.at_mid (k := i) hd4 hin2 (by rw [hdn]; exact di) (by rw [hdn]; exact up)
          rw [hdn] at mid
          have w1 := iSub dn dI (by omega) (by omega)
          have w2 := iSub (x := d) rfl dI (by omega) (by omega)
          have m4 := mulB (x := mS σ P i * mC σ P 0 - mS σ P 0 * mC σ P i) (y := mC σ P (i + 1)) (A := 2560000) (B := 8) (M := 20480000) ⟨by omega, by omega⟩ ⟨by omega, qn.2.2.2⟩ (by decide)
          have m5 := mulB (x := (mS σ P i * mC σ P 0 - mS σ P 0 * mC σ P i) * mC σ P (i + 1)) (y := mD σ P (i + 1) - mD σ P i) (A := 20480000) (B := 400) (M := 8192000000) m4 ⟨by omega, by omega⟩ (by decide)
          have m6 := mulB (x := mS σ P (i + 1)) (y := mC σ P i) (A := 160000) (B := 8) (M := 1280000) qn.2.1 ⟨by omega, qi.2.2.2⟩ (by decide)
          have m7 := mulB (x := mS σ P i) (y := mC σ P (i + 1)) (A := 160000) (B := 8) (M := 1280000) qi.2.1 ⟨by omega, qn.2.2.2⟩ (by decide)
          have m8 := mulB (x := mS σ P (i + 1) * mC σ P i - mS σ P i * mC σ P (i + 1)) (y := mC σ P 0) (A := 2560000) (B := 8) (M := 20480000) ⟨by omega, by omega⟩ ⟨by omega, q0.2.2.2⟩ (by decide)
          have m9 := mulB (x := (mS σ P (i + 1) * mC σ P i - mS σ P i * mC σ P (i + 1)) * mC σ P 0) (y := d.toInt - mD σ P i) (A := 20480000) (B := 400) (M := 8192000000) m8 ⟨by omega, by omega⟩ (by decide)
          have m10 := mulB (x := mC σ P i * mC σ P 0) (y := mC σ P (i + 1)) (A := 64) (B := 8) (M := 512) m3 ⟨by omega, qn.2.2.2⟩ (by decide)
          have m11 := mulB (x := mC σ P i * mC σ P 0 * mC σ P (i + 1)) (y := mD σ P (i + 1) - mD σ P i) (A := 512) (B := 400) (M := 204800) m10 ⟨by omega, by omega⟩ (by decide)
          have p4 : 0 < mC σ P i * mC σ P 0 * mC σ P (i + 1) := Int.mul_pos p3 (by omega)
          have p5 : 0 < mC σ P i * mC σ P 0 * mC σ P (i + 1) * (mD σ P (i + 1) - mD σ P i) := Int.mul_pos p4 (by omega)
          have t3 := lMul (lMul t1 (iL kn) (by omega) (by omega)) (iL w1) (by omega) (by omega)
          have t4 := lSub (lMul sn (iL ki) (by omega) (by omega)) (lMul si (iL kn) (by omega) (by omega)) (by omega) (by omega)
          have t5 := lMul (lMul t4 (iL k0) (by omega) (by omega)) (iL w2) (by omega) (by omega)
          have t6 := lAdd t3 t5 (by omega) (by omega)
          have t7 := lMul (lMul t2 (iL kn) (by omega) (by omega)) (iL w1) (by omega) (by omega)
          refine M_238 t6 t7 (by omega) (by omega) ?_ bz (fun r hr => h r hr)
          rw [mid]
          congr 1 <;> grind
      · refine h 0 ?_
        rw [hPT.before hd4 (fun j hj => ?_)]
        · rfl
        · have := hPT.mono (Nat.zero_le j) hj
          rw [iLe] at z
          have e0 : (σ.1 77 (150 * P)).toInt = mD σ P 0 := rfl
          rw [hdn]
          omega
    refine lp1 (fun k i => wX11_driftOf_24 post (fun x2_1 x3_1 x4_1 x5_1 σ_1 => wX11_driftOf_54 post x2_1 x3_1 x4_1 x5_1 σ_1) k d (nI n) (nI (150 * P)) (nI (150 * P + i)) σ) (fun i : Nat => i < n ∧ ∀ j, 1 ≤ j → j ≤ i → mD σ P j ≤ d.toInt) (fun i => n - i) ?_ 0 ⟨n1, fun j a b => by omega⟩
    intro k i hI kk
    obtain ⟨h1, h2⟩ := hI
    unfold wX11_driftOf_24
    rw [nI_1, nI_add, nI_leI (by omega) (by omega)]
    refine ⟨fun w => fin i h1 h2 (Or.inl (by omega)), fun w => ?_⟩
    have c2 : (nI (150 * P + i + 1)).toNatClampNeg = 150 * P + (i + 1) := nI_clamp (by omega)
    rw [c2]
    refine ⟨vp_in_nI (by omega) (by omega), fun z => fin i h1 h2 (Or.inr ?_), fun z => ?_⟩
    · rw [iLt] at z; exact z
    · refine kk (i + 1) ⟨by omega, fun j a b => ?_⟩ (by omega)
      rcases Nat.lt_or_ge i j with y | y
      · rw [show j = i + 1 by omega]
        rw [iLt] at z
        have e : (σ.1 77 (150 * P + (i + 1))).toInt = mD σ P (i + 1) := rfl
        omega
      · exact h2 j a y
  · have n0' : n = 0 := by
      rw [show (0 : Int32) = nI 0 from rfl, nI_eq (by omega) (by omega)] at q
      exact q
    refine h 0 ?_
    rw [hPT.before hd4 (fun j hj => by omega)]
    rfl
theorem M_reducedOf {κ : Kp} {x : Int32} {σ : Sto} {post : Int64 → Sto → Prop} (hi : Inv κ) (hv : vm σ = κ) (hx : 0 ≤ x.toInt ∧ x.toInt < (κ 0 3).toInt) (hT : ∀ p, p < 4 → ∃ n, TM κ σ p n) (h : ∀ r : Int64, r.toInt = rdZ κ x.toNatClampNeg → post r σ) : wX11_reducedOf x σ post := by
  have h3 := hi.2.2.2.1
  have hl : x.toNatClampNeg < 150 := by rw [tnc]; omega
  have hr : x.toNatClampNeg < nR κ := by rw [tnc]; unfold nR; omega
  have gm := hi.2.2.2.2.2.2.2.1 x.toNatClampNeg hr
  have hday := hi.1
  have v150 : vp_in x 150 := vp_iff.mpr (by omega)
  unfold wX11_reducedOf
  rw [← vm_rd (c := 4) (cell := 71) (by decide) hl, ← vm_rd (c := 5) (cell := 72) (by decide) hl, ← vm_rd (c := 6) (cell := 73) (by decide) hl, hv]
  have hp : okS (κ 4 x.toNatClampNeg) := gm.2.1
  obtain ⟨n, tm⟩ := hT _ hp.lt
  refine ⟨v150, v150, v150, M_driftOf hi hp ⟨gm.2.2.1.1, by omega⟩ tm (fun r hr2 => h _ ?_)⟩
  have b := driftZ_b hi (κ 4 x.toNatClampNeg).toNatClampNeg (κ 5 x.toNatClampNeg).toNatClampNeg
  have m1 := lMul l1000 (iL (x := κ 6 x.toNatClampNeg) rfl) (by omega) (by omega)
  rw [lSub m1 (iL hr2) (by omega) (by omega)]
  rfl

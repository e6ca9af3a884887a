/-! fractions in lowest terms -/
def gd (a b : Int) : Nat := Nat.gcd a.natAbs b.natAbs
def loA (a b : Int) : Int := a / (gd a b : Int)
def loB (a b : Int) : Int := b / (gd a b : Int)
def loW (x : Int32) (a b : Int) : Int := if x = 0 then loA a b else loB a b
theorem gd_pos {a b : Int} (h : 0 < b) : 0 < gd a b := Nat.gcd_pos_of_pos_right _ (by omega)
theorem gd_dA (a b : Int) : ((gd a b : Nat) : Int) ∣ a := by
  rw [Int.ofNat_dvd_left]
  exact Nat.gcd_dvd_left _ _
theorem gd_dB (a b : Int) : ((gd a b : Nat) : Int) ∣ b := by
  rw [Int.ofNat_dvd_left]
  exact Nat.gcd_dvd_right _ _
theorem gd_le {a b : Int} (h : 0 < b) : (gd a b : Int) ≤ b := Int.le_of_dvd h (gd_dB a b)
theorem lo_mul {k a b : Int} (hk : 0 < k) (hb : 0 < b) : loA (k * a) (k * b) = loA a b ∧ loB (k * a) (k * b) = loB a b := by
  have e : (gd (k * a) (k * b) : Int) = k * (gd a b : Int) := by
    unfold gd
    rw [Int.natAbs_mul, Int.natAbs_mul, Nat.gcd_mul_left, Int.natCast_mul, Int.natAbs_of_nonneg (by omega)]
  unfold loA loB
  rw [e]
  exact ⟨Int.mul_ediv_mul_of_pos _ _ hk, Int.mul_ediv_mul_of_pos _ _ hk⟩
theorem loW_mul {x : Int32} {k a b : Int} (hk : 0 < k) (hb : 0 < b) : loW x (k * a) (k * b) = loW x a b := by
  unfold loW
  rw [(lo_mul hk hb).1, (lo_mul hk hb).2]
theorem lo_zero {b : Int} (hb : 0 < b) : loA 0 b = 0 ∧ loB 0 b = 1 := by
  have e : (gd 0 b : Int) = b := by
    unfold gd
    show ((Nat.gcd 0 b.natAbs : Nat) : Int) = b
    rw [Nat.gcd_zero_left, Int.natAbs_of_nonneg (by omega)]
  unfold loA loB
  rw [e]
  exact ⟨Int.zero_ediv _, Int.ediv_self (by omega)⟩
theorem gs_loop {σ : Sto} {post : Int64 → Sto → Prop} : ∀ (k i x y : Nat), y < 2 ^ k → x < 2 ^ 63 → i + 2 * k ≤ 100 → post (lN (Nat.gcd x y)) σ → ∃ n, wX5_greatestShared_9 post (fun x4_1 σ_1 => post x4_1 σ_1) n (lN x) (lN y) (nI i) σ := by
  intro k
  have zero : ∀ i x y : Nat, y = 0 → post (lN (Nat.gcd x y)) σ → wX5_greatestShared_9 post (fun x4_1 σ_1 => post x4_1 σ_1) 1 (lN x) (lN y) (nI i) σ := fun i x y hy hq => by
    subst hy
    rw [Nat.gcd_zero_right] at hq
    exact ⟨fun _ => hq, fun _ => ⟨fun _ => hq, fun z => absurd rfl z⟩⟩
  have step : ∀ (n i x y : Nat), 0 < y → y < 2 ^ 63 → x < 2 ^ 63 → i < 100 → wX5_greatestShared_9 post (fun x4_1 σ_1 => post x4_1 σ_1) n (lN y) (lN (x % y)) (nI (i + 1)) σ → wX5_greatestShared_9 post (fun x4_1 σ_1 => post x4_1 σ_1) (n + 1) (lN x) (lN y) (nI i) σ := fun n i x y hy hy2 hx hi h => by
    have y0 : ¬ lN y = 0 := fun z => by
      rw [show (0 : Int64) = lN 0 from rfl, pk_lEQ hy2 (by decide)] at z
      omega
    unfold wX5_greatestShared_9
    rw [pk_lRem hx hy hy2, nI_1]
    exact ⟨fun z => absurd z (nI_ge (b := 100) hi (by decide)), fun _ => ⟨fun z => absurd z y0, fun _ => ⟨y0, h⟩⟩⟩
  induction k with
  | zero =>
    intro i x y hy hx hi hq
    exact ⟨1, zero i x y (by omega) hq⟩
  | succ k ih =>
    intro i x y hy hx hi hq
    have hk : k + 1 ≤ 50 := by omega
    have p50 : 2 ^ (k + 1) ≤ 2 ^ 50 := Nat.pow_le_pow_right (by decide) hk
    have y63 : y < 2 ^ 63 := by omega
    rcases Nat.eq_zero_or_pos y with e | e
    · exact ⟨1, zero i x y e hq⟩
    · have r1 := Nat.mod_lt x e
      have g1 : Nat.gcd x y = Nat.gcd y (x % y) := by rw [Nat.gcd_comm, Nat.gcd_rec, Nat.gcd_comm]
      rw [g1] at hq
      rcases Nat.eq_zero_or_pos (x % y) with e2 | e2
      · exact ⟨2, step 1 i x y e y63 hx (by omega) (zero (i + 1) y (x % y) e2 hq)⟩
      · have g2 : Nat.gcd y (x % y) = Nat.gcd (x % y) (y % (x % y)) := by rw [Nat.gcd_comm, Nat.gcd_rec, Nat.gcd_comm]
        rw [g2] at hq
        have r2 := Nat.mod_lt y e2
        have dm := Nat.div_add_mod y (x % y)
        have d1 : 1 ≤ y / (x % y) := (Nat.one_le_div_iff e2).mpr (by omega)
        have d2 : (x % y) * 1 ≤ (x % y) * (y / (x % y)) := Nat.mul_le_mul_left _ d1
        have hs : y % (x % y) < 2 ^ k := by rw [Nat.pow_succ] at hy; omega
        obtain ⟨n, hn⟩ := ih (i + 2) (x % y) (y % (x % y)) hs (by omega) (by omega) hq
        exact ⟨n + 2, step (n + 1) i x y e y63 hx (by omega) (step n (i + 1) y (x % y) e2 (by omega) y63 (by omega) hn)⟩
theorem absL_ok {x : Int64} {a : Int} {σ : Sto} {post : Int64 → Sto → Prop} (hx : x.toInt = a) (ha : -9223372036854775808 < a) (h : ∀ r : Int64, r.toInt = (a.natAbs : Int) → post r σ) : wJ9_abs_067f4 x σ post := by
  unfold wJ9_abs_067f4
  rw [lLe, hx, show (0 : Int64).toInt = 0 from rfl]
  exact ⟨fun z => h _ (by rw [hx]; omega), fun z => h _ (by rw [lNeg hx ha]; omega)⟩
theorem lN_of {x : Int64} {n : Nat} (h : x.toInt = n) : x = lN n := by
  have := lR x
  exact lExt h (pk_lT (by omega))
theorem gD_A {x r : Int64} {a b : Int} (hx : x.toInt = a) (hr : r.toInt = (gd a b : Int)) (hb : 0 < b) : (x / r).toInt = loA a b := by
  have g := gd_pos (a := a) hb
  rw [lDiv hx hr (by omega), Int.tdiv_eq_ediv_of_dvd (gd_dA a b)]
  rfl
theorem gD_B {x r : Int64} {a b : Int} (hx : x.toInt = b) (hr : r.toInt = (gd a b : Int)) (hb : 0 < b) : (x / r).toInt = loB a b := by
  have g := gd_pos (a := a) hb
  rw [lDiv hx hr (by omega), Int.tdiv_eq_ediv_of_dvd (gd_dB a b)]
  rfl
theorem X_become {c : Nat} {x y : Int64} {a b : Int} {σ : Sto} {post : Sto → Prop} (hx : x.toInt = a) (hy : y.toInt = b) (ha : -9223372036854775808 < a) (hb : 0 < b) (hb2 : b < 562949953421312) (h : ∀ u v : Int64, u.toInt = loA a b → v.toInt = loB a b → post (wL (wL σ c 0 u) c 1 v)) : wX5_become c x y σ post := by
  have xb := lR x
  unfold wX5_become
  refine absL_ok hx ha (fun r hr => ?_)
  have e1 : r = lN a.natAbs := lN_of hr
  have e2 : y = lN b.natAbs := lN_of (by rw [hy]; omega)
  have gp := gd_pos (a := a) hb
  have gl := gd_le (a := a) hb
  have gT : (lN (Nat.gcd a.natAbs b.natAbs)).toInt = (gd a b : Int) := pk_lT (show gd a b < 2 ^ 63 by omega)
  unfold wX5_greatestShared
  rw [e1, e2]
  refine gs_loop 49 0 a.natAbs b.natAbs (by omega) (by omega) (by omega) ?_
  rw [← e2, lLt, lLe, hy, gT, show (1 : Int64).toInt = 1 from rfl]
  have g0 : ¬ lN (Nat.gcd a.natAbs b.natAbs) = 0 := fun z => by
    rw [lEq, gT, show (0 : Int64).toInt = 0 from rfl] at z
    omega
  exact ⟨fun z => absurd z (by omega), fun _ => ⟨fun _ => ⟨g0, g0, h _ _ (gD_A hx gT hb) (gD_B hy gT hb)⟩, fun z => absurd (by omega) z⟩⟩
/-- also where the divisor is 0 -/
theorem X_become0 {c : Nat} {x y : Int64} {a : Int} {σ : Sto} {post : Sto → Prop} (hx : x.toInt = a) (hy : y.toInt = 0) (ha : -9223372036854775808 < a) (h : post (wL (wL σ c 0 0) c 1 1)) : wX5_become c x y σ post := by
  have xb := lR x
  unfold wX5_become
  refine absL_ok hx ha (fun r hr => ?_)
  have e1 : r = lN a.natAbs := lN_of hr
  have e2 : y = lN 0 := lN_of hy
  unfold wX5_greatestShared
  rw [e1, e2]
  refine gs_loop 0 0 a.natAbs 0 (by omega) (by omega) (by omega) ?_
  exact ⟨fun _ => h, fun z => absurd (by decide) z⟩
theorem dv_loop {σ : Sto} {post : Int64 → Sto → Prop} : ∀ (y x : Nat), y < 2 ^ 63 → x < 2 ^ 63 → post (lN (Nat.gcd x y)) σ → ∃ n, wX11_divisor_12 post (fun x4_1 σ_1 => post x4_1 σ_1) n (lN x) (lN y) σ := by
  intro y
  induction y using Nat.strongRecOn with
  | _ y ih =>
    intro x hy hx hq
    rcases Nat.eq_zero_or_pos y with e | e
    · subst e
      rw [Nat.gcd_zero_right] at hq
      exact ⟨1, fun _ => hq, fun z => absurd rfl z⟩
    · have r1 := Nat.mod_lt x e
      have g1 : Nat.gcd x y = Nat.gcd y (x % y) := by rw [Nat.gcd_comm, Nat.gcd_rec, Nat.gcd_comm]
      rw [g1] at hq
      obtain ⟨n, hn⟩ := ih (x % y) r1 y (by omega) hy hq
      have y0 : ¬ lN y = 0 := fun z => by
        rw [show (0 : Int64) = lN 0 from rfl, pk_lEQ hy (by decide)] at z
        omega
      refine ⟨n + 1, fun z => absurd z y0, fun _ => ⟨y0, ?_⟩⟩
      rw [pk_lRem hx e hy]
      exact hn
theorem M_divisor {x y : Int64} {a b : Int} {σ : Sto} {post : Int64 → Sto → Prop} (hx : x.toInt = a) (hy : y.toInt = b) (ha : -9223372036854775808 < a) (hb : -9223372036854775808 < b) (h : ∀ r : Int64, r = lN (gd a b) → post r σ) : wX11_divisor x y σ post := by
  have xb := lR x
  have yb := lR y
  unfold wX11_divisor
  refine amount_ok hx ha (fun r1 h1 => amount_ok hy hb (fun r2 h2 => ?_))
  have e1 : r1 = lN a.natAbs := lN_of (by rw [h1]; split <;> omega)
  have e2 : r2 = lN b.natAbs := lN_of (by rw [h2]; split <;> omega)
  rw [e1, e2]
  exact dv_loop _ _ (by omega) (by omega) (h _ rfl)
theorem M_lowest {x y : Int64} {w : Int32} {a b : Int} {σ : Sto} {post : Int64 → Sto → Prop} (hx : x.toInt = a) (hy : y.toInt = b) (ha : -9223372036854775808 < a) (hb : 0 < b) (h : ∀ r : Int64, r.toInt = loW w a b → post r σ) : wX11_lowest x y w σ post := by
  have yb := lR y
  have gp := gd_pos (a := a) hb
  have gl := gd_le (a := a) hb
  unfold wX11_lowest
  refine M_divisor hx hy ha (by omega) (fun r hr => ?_)
  have gT : r.toInt = (gd a b : Int) := by rw [hr]; exact pk_lT (by omega)
  have g0 : ¬ r = 0 := fun z => by
    rw [lEq, gT, show (0 : Int64).toInt = 0 from rfl] at z
    omega
  unfold loW at h
  refine ⟨fun e => ⟨g0, h _ ?_⟩, fun e => ⟨g0, h _ ?_⟩⟩
  · rw [if_neg e]; exact gD_B hy gT hb
  · rw [if_pos e]; exact gD_A hx gT hb
theorem X_side {c : Nat} {w : Int32} {a b : Int} {u v : Int64} {σ : Sto} {post : Int64 → Sto → Prop} (h0 : σ.2 c 0 = u) (h1 : σ.2 c 1 = v) (hu : u.toInt = loA a b) (hv : v.toInt = loB a b) (h : ∀ r : Int64, r.toInt = loW w a b → post r σ) : wX5_side c w σ post := by
  unfold wX5_side
  rw [h0, h1]
  unfold loW at h
  refine ⟨fun e => h _ ?_, fun e => h _ ?_⟩
  · rw [if_neg e]; exact hv
  · rw [if_pos e]; exact hu
theorem lo_b {a b : Int} (hb : 0 < b) : a.natAbs ≥ (loA a b).natAbs ∧ 0 < loB a b ∧ loB a b ≤ b := by
  have gp := gd_pos (a := a) hb
  obtain ⟨k, hk⟩ := gd_dA a b
  obtain ⟨m, hm⟩ := gd_dB a b
  have gl := gd_le (a := a) hb
  have eA : loA a b = k := Int.ediv_eq_of_eq_mul_right (by omega) hk
  have eB : loB a b = m := Int.ediv_eq_of_eq_mul_right (by omega) hm
  rw [eA, eB]
  have mp : 0 < m := by
    rcases Int.lt_or_le 0 m with q | q
    · exact q
    · have := Int.mul_nonpos_of_nonneg_of_nonpos (show (0 : Int) ≤ (gd a b : Int) by omega) q
      omega
  refine ⟨?_, mp, ?_⟩
  · have e : a.natAbs = gd a b * k.natAbs := by
      have := congrArg Int.natAbs hk
      rw [Int.natAbs_mul, Int.natAbs_natCast] at this
      exact this
    rw [e]
    exact Nat.le_mul_of_pos_left _ gp
  · have := Int.mul_le_mul_of_nonneg_right (show (1 : Int) ≤ (gd a b : Int) by omega) (show 0 ≤ m by omega)
    omega

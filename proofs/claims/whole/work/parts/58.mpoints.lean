/-! the model's points -/
def sumD (f : Nat → Nat) : Nat → Nat
  | 0 => 0
  | k + 1 => sumD f k + f k
theorem sumD_add {f g : Nat → Nat} : ∀ {k : Nat}, sumD (fun d => f d + g d) k = sumD f k + sumD g k
  | 0 => rfl
  | k + 1 => by
    show sumD (fun d => f d + g d) k + (f k + g k) = (sumD f k + f k) + (sumD g k + g k)
    rw [sumD_add]
    omega
theorem sumD_0 {f : Nat → Nat} (h : ∀ d, f d = 0) : ∀ {k : Nat}, sumD f k = 0
  | 0 => rfl
  | k + 1 => by
    show sumD f k + f k = 0
    rw [sumD_0 h, h]
theorem sumD_one {o : Nat} {f : Nat → Nat} (h : ∀ d, f d ≤ if d = o then 1 else 0) : ∀ {k : Nat}, sumD f k ≤ if o < k then 1 else 0
  | 0 => by simp [sumD]
  | k + 1 => by
    have ih := sumD_one h (k := k)
    have hk := h k
    show sumD f k + f k ≤ _
    by_cases e : k = o
    · rw [if_pos e] at hk
      rw [if_neg (by omega)] at ih
      rw [if_pos (by omega)]
      omega
    · rw [if_neg e] at hk
      by_cases e2 : o < k
      · rw [if_pos e2] at ih
        rw [if_pos (by omega)]
        omega
      · rw [if_neg e2] at ih
        rw [if_neg (by omega)]
        omega
theorem sum_kb {κ : Kp} {p K : Nat} : ∀ {m : Nat}, sumD (fun d => cnt (kb κ p d) m) K ≤ cnt (kq κ 0 p) m
  | 0 => by
    have : sumD (fun d => cnt (kb κ p d) 0) K = 0 := sumD_0 (fun d => rfl)
    omega
  | m + 1 => by
    have ih := sum_kb (κ := κ) (p := p) (K := K) (m := m)
    have e : sumD (fun d => cnt (kb κ p d) (m + 1)) K = sumD (fun d => cnt (kb κ p d) m) K + sumD (fun d => if kb κ p d m = true then 1 else 0) K := sumD_add
    rw [e]
    show _ ≤ cnt (kq κ 0 p) m + _
    by_cases q : kq κ 0 p m = true
    · rw [if_pos q]
      have := sumD_one (o := (κ 5 m).toInt.toNat) (f := fun d => if kb κ p d m = true then 1 else 0) (fun d => by
        by_cases w : kb κ p d m = true
        · rw [if_pos w]
          unfold kb at w
          simp only [Bool.and_eq_true, decide_eq_true_eq] at w
          rw [if_pos (by omega)]
          exact Nat.le_refl _
        · rw [if_neg w]; exact Nat.zero_le _) (k := K)
      have : sumD (fun d => if kb κ p d m = true then 1 else 0) K ≤ 1 := Nat.le_trans this (by split <;> omega)
      omega
    · rw [if_neg q]
      have : sumD (fun d => if kb κ p d m = true then 1 else 0) K = 0 := sumD_0 (fun d => by
        rw [if_neg]
        unfold kb
        intro w
        simp only [Bool.and_eq_true] at w
        exact q w.1)
      omega
theorem M_pts20 {p nn d : Int32} {σ : Sto} {post : Sto → Prop} {K : Int32 → Int32 → Int32 → Int64 → Int32 → Sto → Prop} (hi : Inv (vm σ)) (hp : okS p) (hd : 0 ≤ d.toInt) (h : ∀ s : Int64, s.toInt = pS (vm σ) p.toNatClampNeg d.toNatClampNeg → K p nn d s (nI (pC (vm σ) p.toNatClampNeg d.toNatClampNeg)) σ) : ∃ k, wX11_points_20 post K k p nn d 0 0 0 σ := by
  generalize hκ : vm σ = κ at *
  have hn : σ.1 67 4 = nI (nR κ) := by rw [← nR_I hi, ← hκ]; rfl
  have hle := nR_le hi
  refine pk_loop (fun k m (S : Int64) => wX11_points_20 post K k p nn d S (nI (cnt (kb κ p.toNatClampNeg d.toNatClampNeg) m)) (nI m) σ) (fun m S => S.toInt = tot (kb κ p.toNatClampNeg d.toNatClampNeg) (fun r => (κ 6 r).toInt) m) (nR κ) 0 0 (Nat.zero_le _) rfl ?_ ?_
  · intro k S hS
    unfold wX11_points_20
    rw [hn]
    exact ⟨fun _ => h S hS, fun q => absurd (nI_le (Nat.le_refl _) (by omega)) q⟩
  · intro k m S hm hS kk
    have c2 : (nI m).toNatClampNeg = m := nI_clamp (by omega)
    have mT : (nI m).toInt = m := nI_toInt (by omega)
    have v150 : vp_in (nI m) 150 := vp_in_nI (by omega) (by omega)
    have gm := hi.2.2.2.2.2.2.2.1 m hm
    have tb := tot_bound (P := kb κ p.toNatClampNeg d.toNatClampNeg) (f := fun r => (κ 6 r).toInt) (B := 20000) (n := m) (fun r hr _ => (hi.2.2.2.2.2.2.2.1 r (by omega)).2.2.2.1)
    have cm := cnt_le (P := kb κ p.toNatClampNeg d.toNatClampNeg) (n := m)
    have no : kb κ p.toNatClampNeg d.toNatClampNeg m = false → wX11_points_74 post (wX11_points_20 post K k) p nn d S (nI (cnt (kb κ p.toNatClampNeg d.toNatClampNeg) m)) (nI m) σ := fun q => by
      unfold wX11_points_74 wX11_points_75 wX11_points_96 wX11_points_111
      refine ⟨fun _ => ⟨fun _ => ?_, fun z => absurd rfl z⟩, fun z => absurd rfl z⟩
      have e0 : nI (cnt (kb κ p.toNatClampNeg d.toNatClampNeg) m) + 0 = nI (cnt (kb κ p.toNatClampNeg d.toNatClampNeg) (m + 1)) := by
        rw [show (0 : Int32) = nI 0 from rfl, nI_add]
        show _ = nI (cnt _ m + _)
        rw [if_neg (by rw [q]; decide)]
      rw [e0, nI_1]
      refine kk _ ?_
      rw [lAdd hS l0 (by omega) (by omega)]
      show _ = tot _ _ m + _
      rw [if_neg (by rw [q]; decide)]
    unfold wX11_points_20
    rw [hn, c2, ← vm_rd (c := 3) (cell := 70) (by decide) (show m < 150 by omega), ← vm_rd (c := 4) (cell := 71) (by decide) (show m < 150 by omega), ← vm_rd (c := 5) (cell := 72) (by decide) (show m < 150 by omega), hκ]
    refine ⟨fun q => absurd q (nI_ge hm (by omega)), fun _ => ⟨v150, fun q => no ?_, fun q1 => ⟨v150, fun q => no ?_, fun q2 => ⟨v150, fun q => no ?_, fun q3 => M_isKnown (by omega) ⟨fun z => no ?_, fun z => ?_⟩⟩⟩⟩⟩
    · unfold kb kq
      rw [decide_eq_false (p := (κ 3 m).toInt = ((0 : Nat) : Int)) (fun w => q (by rw [iEq, n0]; exact w))]
      simp
    · unfold kb kq
      rw [decide_eq_false (p := (κ 4 m).toInt = _) (fun w => q ((eqN hp.1).mpr w))]
      simp
    · unfold kb
      rw [decide_eq_false (p := (κ 5 m).toInt = _) (fun w => q ((eqN hd).mpr w))]
      simp
    · rw [c2, hκ] at z
      unfold kb kq
      rw [z]
      rfl
    · rw [c2, hκ] at z
      have q0 : (κ 3 m).toInt = ((0 : Nat) : Int) := by rw [iEq, n0] at q1; exact q1
      have qk : kb κ p.toNatClampNeg d.toNatClampNeg m = true := by
        unfold kb kq
        rw [z, decide_eq_true q0, decide_eq_true ((eqN hp.1).mp q2), decide_eq_true ((eqN hd).mp q3)]
        rfl
      unfold wX11_points_75 wX11_points_96 wX11_points_111
      refine ⟨fun w => absurd w (by decide), fun _ => ⟨v150, fun w => absurd w (by decide), fun _ => ?_⟩⟩
      rw [c2, ← vm_rd (c := 6) (cell := 73) (by decide) (show m < 150 by omega), hκ]
      have e0 : nI (cnt (kb κ p.toNatClampNeg d.toNatClampNeg) m) + 1 = nI (cnt (kb κ p.toNatClampNeg d.toNatClampNeg) (m + 1)) := by
        rw [nI_1]
        show _ = nI (cnt _ m + _)
        rw [if_pos qk]
      rw [e0, nI_1]
      refine kk _ ?_
      rw [lAdd hS (iL rfl) (by omega) (by omega)]
      show _ = tot _ _ m + _
      rw [if_pos qk]

theorem vx_congr2 {σ τ : Sto} (h : ∀ c, (c = 1 ∨ c = 9 ∨ (13 ≤ c ∧ c < 21) ∨ (59 ≤ c ∧ c < 67)) → τ.1 c = σ.1 c) (h3 : τ.1 3 3 = σ.1 3 3) (h8 : τ.1 8 4 = σ.1 8 4) : vx τ = vx σ := by
  funext c i
  unfold vx
  by_cases e0 : c = 0
  · rw [if_pos e0, if_pos e0]
    unfold sx
    split <;> first | exact congrFun (h 1 (by omega)) _ | exact h3 | exact h8 | exact congrFun (h 9 (by omega)) _ | rfl
  · rw [if_neg e0, if_neg e0]
    split
    · rename_i q
      rcases Nat.lt_or_ge c 16 with q2 | q2
      · have g := axc_ge c q2 (by omega)
        rw [h (axc c).1 (by omega)]
      · rw [axc_big q2] at q; exact absurd q (Nat.not_lt_zero _)
    · rfl
theorem fpz.vx {p : Nat} {σ τ : Sto} (hp : p < 4) (h : fpz p σ τ) : vx τ = vx σ := vx_congr2 (fun c a => h.1 c (by omega) (by omega) (by omega) (by omega)) (congrFun (h.1 3 (by omega) (by omega) (by omega) (by omega)) 3) (congrFun (h.1 8 (by omega) (by omega) (by omega) (by omega)) 4)
theorem X_isKnownOf {x p : Int32} {σ : Sto} {post : Bool → Sto → Prop} (hx : 0 ≤ x.toInt ∧ x.toInt < 150) (hp : 0 ≤ p.toInt) (h : post (decide ((vx σ 4 x.toNatClampNeg).toInt = p.toNatClampNeg) && kn (vx σ) x.toNatClampNeg) σ) : wX1_isKnownOf x p σ post := by
  have hl : x.toNatClampNeg < 150 := by rw [tnc]; omega
  unfold wX1_isKnownOf
  rw [← vx_rd (c := 4) (cell := 16) (by decide) hl]
  refine ⟨vp_iff.mpr (by omega), fun q => ?_, fun q => X_isKnown hx ⟨fun z => ?_, fun z => ?_⟩⟩
  · rw [decide_eq_false (fun z => q ((eqN hp).mpr z))] at h; exact h
  · rw [decide_eq_true ((eqN hp).mp q), z] at h; exact h
  · rw [decide_eq_true ((eqN hp).mp q), z] at h; exact h
theorem cnt_z {P : Nat → Bool} {f : Nat → Int} : ∀ {n : Nat}, cnt P n = 0 → tot P f n = 0
  | 0, _ => rfl
  | n + 1, h => by
    have h' : cnt P n + (if P n = true then 1 else 0) = 0 := h
    show tot P f n + _ = 0
    by_cases q : P n = true
    · rw [if_pos q] at h'; omega
    · rw [if_neg q] at h' ⊢
      rw [cnt_z (by omega)]
      rfl
theorem kq0_aq {κ : Kp} {a p r : Nat} (h : kq κ a p r = true) : aq κ a p r = true := by
  unfold kq at h
  unfold aq
  simp only [Bool.and_eq_true] at h ⊢
  exact h.2
theorem cnt_lem {P : Nat → Bool} : ∀ {m n : Nat}, m ≤ n → cnt P m ≤ cnt P n
  | m, 0, h => by rw [show m = 0 by omega]; exact Nat.le_refl _
  | m, n + 1, h => by
    by_cases e : m = n + 1
    · rw [e]; exact Nat.le_refl _
    · have := cnt_lem (P := P) (show m ≤ n by omega)
      show cnt P m ≤ cnt P n + _
      omega
theorem kq_le {κ : Kp} (h : Inv κ) (a p : Nat) {m : Nat} (hm : m ≤ nR κ) : cnt (kq κ a p) m ≤ 8 := Nat.le_trans (cnt_lem hm) (Nat.le_trans (cnt_mono (fun r _ q => kq0_aq q)) (h.2.2.2.2.2.2.2.2.1 a p))
theorem X_findPoints {p : Int32} {σ : Sto} {post : Sto → Prop} (hi : Inv (vx σ)) (hp : okS p) (h : ∀ (τ : Sto) (n : Nat), fpz p.toNatClampNeg σ τ → TX (vx σ) τ p.toNatClampNeg n → post τ) : wX7_findPoints p σ post := by
  have hl := hp.lt
  have hle := nR_le hi
  have hpn : ((p.toNatClampNeg : Nat) : Int) = p.toInt := toN hp.1
  generalize hκ : vx σ = κ at *
  unfold wX7_findPoints
  refine ⟨hp.in, ?_⟩
  have f0 : fpz p.toNatClampNeg σ (wI σ 21 p.toNatClampNeg 0) := ⟨fun c x _ _ _ => wI_n x, rfl, fun q x => by rw [wI_1, uN x]⟩
  refine pk_loop (fun k m s => wX7_findPoints_9 post (fun σ_1 => post σ_1) k p (nI m) s) (fun m s => ∃ n, fpz p.toNatClampNeg σ s ∧ s.1 21 p.toNatClampNeg = nI n ∧ n ≤ cnt (kq κ 0 p.toNatClampNeg) m ∧ PG (fun d => cnt (kb κ p.toNatClampNeg d) m) (fun d => tot (kb κ p.toNatClampNeg d) (fun r => (κ 6 r).toInt) m) n (tD s p.toNatClampNeg) (tS s p.toNatClampNeg) (tC s p.toNatClampNeg)) (nR κ) 0 (wI σ 21 p.toNatClampNeg 0) (Nat.zero_le _) ?_ ?_ ?_
  · exact ⟨0, f0, by rw [wI_1, uS]; rfl, Nat.zero_le _, fun i j _ x => absurd x (Nat.not_lt_zero _), fun i x => absurd x (Nat.not_lt_zero _), fun d _ x => absurd x (Nat.not_lt_zero _)⟩
  · intro k s hs
    obtain ⟨n, a1, a2, a3, a4⟩ := hs
    have hv : vx s = κ := by rw [← hκ]; exact a1.vx hl
    have hn : s.1 1 5 = nI (nR κ) := by have := nR_I (κ := vx s) (by rw [hv]; exact hi); rw [hv] at this; rw [← this, ← hv]; rfl
    unfold wX7_findPoints_9
    rw [hn]
    refine ⟨fun _ => h s n a1 ⟨by rw [a2, nI_toInt (by have := kq_le hi 0 p.toNatClampNeg (Nat.le_refl _); omega)], ?_⟩, fun q => absurd (nI_le (Nat.le_refl _) (by omega)) q⟩
    have := kq_le hi 0 p.toNatClampNeg (Nat.le_refl _)
    exact ⟨by omega, a4⟩
  · intro k m s hm hs kk
    obtain ⟨n, a1, a2, a3, a4⟩ := hs
    have hv : vx s = κ := by rw [← hκ]; exact a1.vx hl
    have hn : s.1 1 5 = nI (nR κ) := by have := nR_I (κ := vx s) (by rw [hv]; exact hi); rw [hv] at this; rw [← this, ← hv]; rfl
    have c2 : (nI m).toNatClampNeg = m := nI_clamp (by omega)
    have mT : (nI m).toInt = m := nI_toInt (by omega)
    have v150 : vp_in (nI m) 150 := vp_in_nI (by omega) (by omega)
    have gm := hi.2.2.2.2.2.2.2.1 m hm
    have skip : kq κ 0 p.toNatClampNeg m = false → wX7_findPoints_9 post (fun σ_1 => post σ_1) k p (nI m + 1) s := fun q => by
      rw [nI_1]
      have qb : ∀ d, kb κ p.toNatClampNeg d m = false := fun d => by unfold kb; rw [q]; rfl
      refine kk s ⟨n, a1, a2, Nat.le_trans a3 (cnt_lem (by omega)), ?_⟩
      have e1 : (fun d => cnt (kb κ p.toNatClampNeg d) (m + 1)) = (fun d => cnt (kb κ p.toNatClampNeg d) m) := by
        funext d
        show cnt _ m + _ = _
        rw [if_neg (by rw [qb d]; decide)]
        rfl
      have e2 : (fun d => tot (kb κ p.toNatClampNeg d) (fun r => (κ 6 r).toInt) (m + 1)) = (fun d => tot (kb κ p.toNatClampNeg d) (fun r => (κ 6 r).toInt) m) := by
        funext d
        show tot _ _ m + _ = _
        rw [if_neg (by rw [qb d]; decide), Int.add_zero]
      rw [e1, e2]
      exact a4
    unfold wX7_findPoints_9
    rw [hn, c2, ← vx_rd (c := 3) (cell := 15) (by decide) (show m < 150 by omega), hv]
    refine ⟨fun q => absurd q (nI_ge hm (by omega)), fun _ => ⟨v150, fun q => skip ?_, fun q => ?_⟩⟩
    · unfold kq
      rw [decide_eq_false (p := (κ 3 m).toInt = ((0 : Nat) : Int)) (fun z => q (by rw [iEq, n0]; exact z))]
      simp
    · have q0 : (κ 3 m).toInt = ((0 : Nat) : Int) := by rw [iEq, n0] at q; exact q
      refine X_isKnownOf (by omega) hp.1 ⟨fun z => ?_, fun z => ⟨v150, v150, ?_⟩⟩
      · rw [c2, hv] at z
        refine skip ?_
        unfold kq
        rw [decide_eq_true q0, Bool.true_and, Bool.and_comm]
        exact z
      · rw [c2, hv] at z
        rw [← vx_rd (c := 5) (cell := 17) (by decide) (show m < 150 by omega), ← vx_rd (c := 6) (cell := 18) (by decide) (show m < 150 by omega), hv]
        have qk : kq κ 0 p.toNatClampNeg m = true := by
          unfold kq
          rw [decide_eq_true q0, Bool.true_and, Bool.and_comm]
          exact z
        have c8 := kq_le hi 0 p.toNatClampNeg (show m + 1 ≤ nR κ by omega)
        have c8' : cnt (kq κ 0 p.toNatClampNeg) (m + 1) = cnt (kq κ 0 p.toNatClampNeg) m + 1 := by
          show cnt _ m + _ = _
          rw [if_pos qk]
        have hday := hi.1
        refine X_addToPoint hp a2 (by omega) ⟨gm.2.2.1.1, by omega⟩ gm.2.2.2.1 a4 (fun d => cnt_z) (fun d => ?_) (fun τ n' b1 b2 b3 b4 => ?_)
        · have t1 := tot_bound (P := kb κ p.toNatClampNeg d) (f := fun r => (κ 6 r).toInt) (B := 20000) (n := m) (fun r hr _ => (hi.2.2.2.2.2.2.2.1 r (by omega)).2.2.2.1)
          have t2 : cnt (kb κ p.toNatClampNeg d) m ≤ 8 := Nat.le_trans (cnt_mono (Q := kq κ 0 p.toNatClampNeg) (fun r _ w => by unfold kb at w; simp only [Bool.and_eq_true] at w; exact w.1)) (kq_le hi 0 p.toNatClampNeg (show m ≤ nR κ by omega))
          exact ⟨by omega, t2⟩
        · rw [nI_1]
          refine kk τ ⟨n', a1.trans b1, b2, by omega, ?_⟩
          have ob : ∀ d : Nat, kb κ p.toNatClampNeg d m = decide (d = (κ 5 m).toNatClampNeg) := fun d => by
            unfold kb
            rw [qk, Bool.true_and]
            refine decide_eq_decide.mpr ?_
            have := toN gm.2.2.1.1
            omega
          have e1 : (fun d => cnt (kb κ p.toNatClampNeg d) (m + 1)) = (fun d => cnt (kb κ p.toNatClampNeg d) m + if d = (κ 5 m).toNatClampNeg then 1 else 0) := by
            funext d
            show cnt _ m + _ = _
            rw [ob d]
            by_cases w : d = (κ 5 m).toNatClampNeg <;> simp [w]
          have e2 : (fun d => tot (kb κ p.toNatClampNeg d) (fun r => (κ 6 r).toInt) (m + 1)) = (fun d => tot (kb κ p.toNatClampNeg d) (fun r => (κ 6 r).toInt) m + if d = (κ 5 m).toNatClampNeg then (κ 6 m).toInt else 0) := by
            funext d
            show tot _ _ m + _ = _
            rw [ob d]
            by_cases w : d = (κ 5 m).toNatClampNeg <;> simp [w]
          rw [e1, e2]
          exact b4

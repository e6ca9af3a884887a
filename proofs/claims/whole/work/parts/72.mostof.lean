/-! the class's search -/
theorem sub14 {x y : Nat} (h : ∀ i, x.testBit i = true → y.testBit i = true) (hy : y < 16384) : x < 16384 := by
  have : x < 2 ^ 14 := Nat.lt_pow_two_of_testBit _ (fun i hi => by
    have e : y.testBit i = false := Nat.testBit_lt_two_pow (Nat.lt_of_lt_of_le hy (Nat.le_trans (by decide : 16384 ≤ 2 ^ 14) (Nat.pow_le_pow_right (by decide) hi)))
    cases z : x.testBit i with
    | false => rfl
    | true => rw [h i z] at e; cases e)
  exact this
theorem and_p {o h : Nat} : (o &&& 2 ^ h = 0) ↔ o.testBit h = false := by
  constructor
  · intro e
    have := congrArg (fun x => x.testBit h) e
    rw [Nat.testBit_and, Nat.testBit_two_pow, decide_eq_true rfl, Bool.and_true, Nat.zero_testBit] at this
    exact this
  · intro e
    refine Nat.eq_of_testBit_eq (fun i => ?_)
    rw [Nat.testBit_and, Nat.testBit_two_pow, Nat.zero_testBit]
    by_cases q : h = i
    · rw [← q, e]; rfl
    · rw [decide_eq_false q, Bool.and_false]
theorem bset_s1 {P : Nat → Bool} {n : Nat} (h : P n = true) : bset P (n + 1) = bset P n ||| 2 ^ n := by
  show bset P n ||| _ = _
  rw [if_pos h]
theorem bset_s0 {P : Nat → Bool} {n : Nat} (h : P n = false) : bset P (n + 1) = bset P n := by
  show bset P n ||| _ = _
  rw [if_neg (by rw [h]; decide), Nat.or_zero]
theorem or_up {h q : Nat} : 2 ^ (h + 1) * q ||| 2 ^ h = 2 ^ h * (2 * q + 1) := Nat.eq_of_testBit_eq (fun i => by
  rw [Nat.testBit_or, tb_up, Nat.testBit_two_pow]
  congr 1
  exact decide_eq_decide.mpr ⟨Eq.symm, Eq.symm⟩)
theorem X_circle {T : Nat → Bool} {A : Nat → Nat → Bool} {n : Nat} {σ : Sto} (hn : n ≤ 14) (sy : ∀ i j, A i j = A j i) (hw : ∀ h, h < n → T h = true → ∃ w, w < 16384 ∧ σ.1 49 h = nI w ∧ ∀ i, T i = true → (w.testBit i = true ↔ i ≠ h ∧ A h i = true)) : ∀ (h f q o b : Nat) (post : Int32 → Sto → Prop), h ≤ n → h + 1 ≤ f → 2 ^ h * q + 2 ^ h ≤ 16384 → o < 16384 → b < 16384 → opn T A h (2 ^ h * q) o → clq T A (2 ^ h * q) = true → post (nI (fb (clq T A) (2 ^ h * q) (2 ^ h) b)) σ → wX0_widestCircle f 49 14 (nI h - 1) (nI o) (nI (2 ^ h * q)) (nI b) σ post := by
  intro h
  induction h with
  | zero =>
    intro f q o b post h1 h2 h3 h4 h5 h6 h7 h8
    obtain ⟨f, rfl⟩ : ∃ g, f = g + 1 := ⟨f - 1, by omega⟩
    unfold wX0_widestCircle
    refine bc_ok h4 (bc_ok (by omega) (bc_ok h5 ?_))
    have po := pc_le o
    have pch := pc_le (2 ^ 0 * q)
    have pb := pc_le b
    rw [nI_add]
    refine ⟨fun z => ⟨fun _ => ?_, fun w => absurd (by decide) w⟩, fun z => ?_⟩
    · rw [nI_ltI (by omega) (by omega)] at z
      have oz : o = 0 := Nat.eq_of_testBit_eq (fun i => by
        rw [Nat.zero_testBit]
        cases e : o.testBit i with
        | false => rfl
        | true => exact absurd ((h6 i).mp e).1 (Nat.not_lt_zero _))
      have : pc o = 0 := by rw [oz]; decide
      have e2 : fb (clq T A) (2 ^ 0 * q) (2 ^ 0) b = 2 ^ 0 * q := by
        show (if _ then _ else _) = _
        rw [if_pos ⟨h7, by omega⟩]
      rw [e2] at h8
      exact h8
    · rw [nI_ltI (by omega) (by omega)] at z
      rw [cir_b h6 (by omega)] at h8
      exact h8
  | succ h ih =>
    intro f q o b post h1 h2 h3 h4 h5 h6 h7 h8
    obtain ⟨f, rfl⟩ : ∃ g, f = g + 1 := ⟨f - 1, by omega⟩
    unfold wX0_widestCircle
    have p1 : 0 < 2 ^ h := Nat.two_pow_pos h
    have e2 : 2 ^ (h + 1) = 2 ^ h + 2 ^ h := by rw [Nat.pow_succ]; omega
    refine bc_ok h4 (bc_ok (by omega) (bc_ok h5 ?_))
    have po := pc_le o
    have pch := pc_le (2 ^ (h + 1) * q)
    have pb := pc_le b
    have ha : 2 ^ (h + 1) * q = 2 ^ h * (2 * q) := by rw [Nat.pow_succ, Nat.mul_assoc]
    have hb : 2 ^ h * (2 * q + 1) = 2 ^ h * (2 * q) + 2 ^ h := by rw [Nat.mul_add, Nat.mul_one]
    rw [nI_add, nI_pred, bSh h (by omega), bA, bD, bO, or_up]
    refine ⟨fun z => ⟨fun w => absurd w (nI_pos (by omega)), fun _ => ⟨fun _ => ⟨fun w => ?_, fun w => ?_⟩, fun w => absurd (nI_lt (show h < 14 by omega) (by decide)) w⟩⟩, fun z => ?_⟩
    · have tb : o.testBit h = true := by
        cases e : o.testBit h with
        | true => rfl
        | false => exact absurd (by rw [and_p.mpr e]; rfl) w
      have T1 := ((h6 h).mp tb).2.1
      obtain ⟨wv, w1, w2, w3⟩ := hw h (by omega) T1
      have o1 := cir_o1 h6 (o1 := dif o (2 ^ h)) (fun i => by rw [dif_t, Nat.testBit_two_pow]; congr 2; exact decide_eq_decide.mpr ⟨Eq.symm, Eq.symm⟩)
      have l1 : dif o (2 ^ h) < 16384 := sub14 (fun i e => by rw [dif_t] at e; simp at e; exact e.1) h4
      have f1 : fb (clq T A) (2 ^ h * (2 * q)) (2 ^ h) b < 16384 := fb_le _ _ _ _ (by omega) h5
      rw [ha]
      refine ih f (2 * q) (dif o (2 ^ h)) b _ (by omega) (by omega) (by omega) l1 h5 o1 (by rw [← ha]; exact h7) ⟨vp_in_nI (by omega) (by omega), ?_⟩
      rw [nI_clamp (by omega), w2, bA]
      have o2 := cir_o2 (o2 := o &&& wv) sy h6 w3 (fun i => Nat.testBit_and _ _ _)
      refine ih f (2 * q + 1) (o &&& wv) _ _ (by omega) (by omega) (by omega) (sub14 (fun i e => by rw [Nat.testBit_and] at e; simp at e; exact e.1) h4) f1 o2 (cir_c sy h6 tb h7) ?_
      rw [cir_h] at h8
      exact h8
    · have an : o &&& 2 ^ h ≤ o := Nat.and_le_left
      have w0 : o &&& 2 ^ h = 0 := by
        have := congrArg Int32.toInt w
        rw [nI_toInt (by omega), n0] at this
        omega
      have tb : o.testBit h = false := and_p.mp w0
      rw [cir_n h6 tb] at h8
      rw [ha]
      refine ih f (2 * q) o b _ (by omega) (by omega) (by omega) h4 h5 (cir_o1 h6 (fun i => ?_)) (by rw [← ha]; exact h7) h8
      by_cases e : i = h
      · rw [e, tb]; rfl
      · rw [decide_eq_false e]; simp
    · rw [nI_ltI (by omega) (by omega)] at z
      rw [cir_b h6 (by omega)] at h8
      exact h8
/-! agreeing -/
def tkN (κ : Kp) (p i : Nat) : Bool := decide (i < nH κ) && pt κ p i
noncomputable def agZ (κ : Kp) (p : Nat) : Nat := fb (clq (tkN κ p) (fun a b => agB κ a b p)) 0 (2 ^ nH κ) 0
theorem agB_s (κ : Kp) (a b p : Nat) : agB κ a b p = agB κ b a p := by
  unfold agB
  have e : (tL κ a p - tL κ b p) * (tL κ a p - tL κ b p) = (tL κ b p - tL κ a p) * (tL κ b p - tL κ a p) := by
    rw [← Int.neg_sub (tL κ b p) (tL κ a p), Int.neg_mul_neg]
  rw [e, Int.add_comm (dZ κ a * dZ κ a)]
theorem bset_tk {κ : Kp} {p i : Nat} : (bset (pt κ p) (nH κ)).testBit i = tkN κ p i := bset_t _ _ _
def awB (κ : Kp) (p a b : Nat) : Bool := decide (b ≠ a) && (pt κ p b && agB κ a b p)
theorem X_agWith {a p : Int32} {σ : Sto} {post : Int32 → Sto → Prop} (h : OX σ) (hp : okS p) (ha : okHouse a (vx σ)) (hq : post (nI (bset (awB (vx σ) p.toNatClampNeg a.toNatClampNeg) (nH (vx σ)))) σ) : wX0_agreeingWith a p (nI (bset (pt (vx σ) p.toNatClampNeg) (nH (vx σ)))) σ post := by
  have hi := h.1
  have h14 := nH_le hi
  have eH : σ.1 1 2 = nI (nH (vx σ)) := by rw [← nH_I hi]; rfl
  have bl := bset_14 (pt (vx σ) p.toNatClampNeg) h14
  have aN : a = nI a.toNatClampNeg := iExt (toN (ha.r hi).1).symm (nI_toInt (by have := h14n (ha.r hi); omega))
  have a14 := h14n (ha.r hi)
  refine pk_loop (fun k i (x : Int32) => wX0_agreeingWith_6 post (fun x2_1 σ_1 => post x2_1 σ_1) k a p (nI (bset (pt (vx σ) p.toNatClampNeg) (nH (vx σ)))) x (nI i) σ) (fun i x => x = nI (bset (awB (vx σ) p.toNatClampNeg a.toNatClampNeg) i)) (nH (vx σ)) 0 0 (Nat.zero_le _) rfl ?_ ?_
  · intro k x hx
    unfold wX0_agreeingWith_6
    rw [eH, hx]
    exact ⟨fun _ => hq, fun z => absurd (nI_le (Nat.le_refl _) (by omega)) z⟩
  · intro k i x hi2 hx kk
    have c2 : (nI i).toNatClampNeg = i := nI_clamp (by omega)
    have iT : (nI i).toInt = i := nI_toInt (by omega)
    unfold wX0_agreeingWith_6
    rw [eH, nI_1, bT1 (by omega) (by omega), bset_tk, bSh i (by omega), hx, bO]
    have st : tkN (vx σ) p.toNatClampNeg i = pt (vx σ) p.toNatClampNeg i := by unfold tkN; rw [decide_eq_true hi2, Bool.true_and]
    have no : awB (vx σ) p.toNatClampNeg a.toNatClampNeg i = false → wX0_agreeingWith_6 post (fun x2_1 σ_1 => post x2_1 σ_1) k a p (nI (bset (pt (vx σ) p.toNatClampNeg) (nH (vx σ)))) (nI (bset (awB (vx σ) p.toNatClampNeg a.toNatClampNeg) i)) (nI (i + 1)) σ := fun z => by
      exact kk _ (by rw [bset_s0 z])
    rw [st]
    refine ⟨fun z => absurd z (nI_ge hi2 (by omega)), fun _ => ⟨fun z => no ?_, fun z => ⟨fun y => no ?_, fun y => ?_⟩⟩⟩
    · rw [aN, nI_eq (by omega) (by omega)] at z
      unfold awB
      rw [decide_eq_false (fun w => w z), Bool.false_and]
    · have : pt (vx σ) p.toNatClampNeg i = false := by simpa using y
      unfold awB
      rw [this, Bool.false_and, Bool.and_false]
    · have hb : okHouse (nI i) (vx σ) := by
        unfold okHouse
        have := hi.2.2.1
        unfold nH at hi2
        omega
      have zi : decide (i ≠ a.toNatClampNeg) = true := decide_eq_true (fun w => z (by rw [aN, w]))
      refine X_agH h ha hb hp ?_
      rw [c2]
      refine ⟨fun w => no (by unfold awB; rw [w, Bool.and_false, Bool.and_false]), fun w => ?_⟩
      exact kk _ (by rw [bset_s1 (by unfold awB; rw [zi, y, w]; rfl)])
theorem X_mostOf {p : Int32} {σ : Sto} {post : Int32 → Sto → Prop} (h : OX σ) (hp : okS p) (hq : ∀ τ, qx σ τ → post (nI (agZ (vx σ) p.toNatClampNeg)) τ) : wX0_mostOf p σ post := by
  have hi := h.1
  have h14 := nH_le hi
  refine X_takingPart h hp ?_
  have hv : ∀ u, qx σ u → vx u = vx σ := fun u f => f.vx
  generalize hκ : vx σ = κ at *
  have bl := bset_14 (pt κ p.toNatClampNeg) h14
  refine pk_loop (fun k i u => wX0_mostOf_11 post (fun x2_1 σ_1 => wX0_widestCircle 20 49 14 ((σ_1.1 1 2) - ((1 : Int32))) x2_1 ((0 : Int32)) ((0 : Int32)) σ_1 (fun (r70 : Int32) (s70 : Sto) => post r70 s70)) k p (nI (bset (pt κ p.toNatClampNeg) (nH κ))) (nI i) u) (fun i u => qx σ u ∧ ∀ a, a < i → tkN κ p.toNatClampNeg a = true → u.1 49 a = nI (bset (awB κ p.toNatClampNeg a) (nH κ))) (nH κ) 0 σ (Nat.zero_le _) ⟨qx.refl, fun a x => absurd x (Nat.not_lt_zero _)⟩ ?_ ?_
  · intro k u hu
    obtain ⟨f, g⟩ := hu
    have eH : u.1 1 2 = nI (nH κ) := by rw [← nH_I hi, ← hv u f]; rfl
    unfold wX0_mostOf_11
    rw [eH]
    refine ⟨fun _ => ?_, fun z => absurd (nI_le (Nat.le_refl _) (by omega)) z⟩
    have p0 : 2 ^ nH κ * 0 = 0 := Nat.mul_zero _
    have pl : 2 ^ nH κ ≤ 16384 := Nat.le_trans (Nat.pow_le_pow_right (by decide) h14) (by decide)
    have := X_circle (T := tkN κ p.toNatClampNeg) (A := fun a b => agB κ a b p.toNatClampNeg) (σ := u) h14 (fun a b => agB_s κ a b _) (fun a ha ht => ⟨_, bset_14 _ h14, g a ha ht, fun i hti => by
      rw [bset_t]
      unfold awB
      unfold tkN at hti
      simp at hti
      simp [hti]⟩) (nH κ) 20 0 (bset (pt κ p.toNatClampNeg) (nH κ)) 0 post (Nat.le_refl _) (by omega) (by omega) bl (by omega) (fun i => by
        rw [p0, bset_tk]
        unfold tkN
        simp) (clq_i.mpr (fun i e => by rw [p0] at e; simp at e)) (by
        rw [p0]
        exact hq u f)
    rw [p0] at this
    exact this
  · intro k i u hi2 hu kk
    obtain ⟨f, g⟩ := hu
    have hvu := hv u f
    have eH : u.1 1 2 = nI (nH κ) := by rw [← nH_I hi, ← hvu]; rfl
    have c2 : (nI i).toNatClampNeg = i := nI_clamp (by omega)
    have iT : (nI i).toInt = i := nI_toInt (by omega)
    unfold wX0_mostOf_11
    rw [eH, bT1 (by omega) (by omega), bset_tk]
    refine ⟨fun z => absurd z (nI_ge hi2 (by omega)), fun _ => ⟨fun z => ?_, fun z => ?_⟩⟩
    · unfold wX0_mostOf_47
      rw [nI_1, c2]
      refine ⟨vp_in_nI (by omega) (by omega), kk _ ⟨f.wI (by decide) (fun e => by omega) (fun e => by omega), fun a ha ht => ?_⟩⟩
      by_cases e : a = i
      · rw [e] at ht; exact absurd ht z
      · rw [wI_1, uN e]; exact g a (by omega) ht
    · have hb : okHouse (nI i) (vx u) := by
        rw [hvu]
        unfold okHouse
        have := hi.2.2.1
        unfold nH at hi2
        omega
      have := X_agWith (post := fun r40 s40 => wX0_mostOf_47 post (wX0_mostOf_11 post (fun x2_1 σ_1 => wX0_widestCircle 20 49 14 ((σ_1.1 1 2) - ((1 : Int32))) x2_1 ((0 : Int32)) ((0 : Int32)) σ_1 (fun (r70 : Int32) (s70 : Sto) => post r70 s70)) k) p (nI (bset (pt κ p.toNatClampNeg) (nH κ))) (nI i) r40 (nI i) s40) (h.qx f) hp hb
      rw [hvu, c2] at this
      refine this ?_
      unfold wX0_mostOf_47
      rw [nI_1, c2]
      refine ⟨vp_in_nI (by omega) (by omega), kk _ ⟨f.wI (by decide) (fun e => by omega) (fun e => by omega), fun a ha ht => ?_⟩⟩
      by_cases e : a = i
      · rw [e, wI_1, uS]
      · rw [wI_1, uN e]; exact g a (by omega) ht

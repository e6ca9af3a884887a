/-! the model's agreeingOf -/
theorem dif_z {a b : Nat} : dif a b = 0 ↔ ∀ i, a.testBit i = true → b.testBit i = true := by
  constructor
  · intro h i e
    have := dif_t a b i
    rw [h, Nat.zero_testBit, e, Bool.true_and] at this
    cases q : b.testBit i with
    | true => rfl
    | false => rw [q] at this; cases this
  · intro h
    refine Nat.eq_of_testBit_eq (fun i => ?_)
    rw [dif_t, Nat.zero_testBit]
    cases e : a.testBit i with
    | false => rfl
    | true => rw [h i e]; rfl
theorem dif_lt {a b : Nat} (h : a < 16384) : dif a b < 16384 := sub14 (fun i e => by rw [dif_t] at e; simp at e; exact e.1) h
theorem M_ones {m : Nat} {σ : Sto} {post : Int32 → Sto → Prop} (hm : m < 16384) (hq : post (nI (pc m)) σ) : wX11_ones (nI m) σ post := by
  refine pk_loop (fun k i (x : Int32) => wX11_ones_4 post (fun x1_1 σ_1 => post x1_1 σ_1) k (nI m) x (nI i) σ) (fun i x => x = nI (cnt m.testBit i)) 14 0 0 (Nat.zero_le _) rfl ?_ ?_
  · intro k x hx
    unfold wX11_ones_4
    rw [hx]
    exact ⟨fun _ => hq, fun z => absurd (by decide) z⟩
  · intro k i x hi2 hx kk
    unfold wX11_ones_4
    rw [bT (by omega) (by omega), nI_1]
    refine ⟨fun z => absurd z (nI_ge hi2 (by decide)), fun _ => kk _ ?_⟩
    show _ = nI (cnt _ i + _)
    rw [hx]
    by_cases e : m.testBit i = true
    · rw [if_pos e, if_pos e, nI_1]
    · rw [if_neg e, if_neg e, Int32.add_zero]; rfl
def mB (κ : Kp) (p a b : Nat) : Bool := pt κ p a && (pt κ p b && (decide (a ≠ b) && agB κ a b p))
def mW (κ : Kp) (p a n : Nat) : Nat := 2 ^ a ||| bset (mB κ p a) n
theorem mW_s1 {κ : Kp} {p a n : Nat} (h : mB κ p a n = true) : mW κ p a (n + 1) = mW κ p a n ||| 2 ^ n := by
  unfold mW
  rw [bset_s1 h, Nat.or_assoc]
theorem mW_s0 {κ : Kp} {p a n : Nat} (h : mB κ p a n = false) : mW κ p a (n + 1) = mW κ p a n := by
  unfold mW
  rw [bset_s0 h]
theorem mW_lt {κ : Kp} {p a n : Nat} (ha : a < 14) (hn : n ≤ 14) : mW κ p a n < 16384 := by
  unfold mW
  exact Nat.or_lt_two_pow (n := 14) (Nat.pow_lt_pow_right (by decide) ha) (bset_14 _ hn)
theorem clq_m {κ : Kp} {p s : Nat} : clq (tkN κ p) (fun a b => agB κ a b p) s = true ↔ dif s (bset (pt κ p) (nH κ)) = 0 ∧ ∀ a, a < nH κ → s.testBit a = true → dif s (mW κ p a (nH κ)) = 0 := by
  rw [clq_i, dif_z]
  constructor
  · intro h
    refine ⟨fun i e => by rw [bset_tk]; exact (h i e).1, fun a ha e => dif_z.mpr (fun i q => ?_)⟩
    unfold mW
    rw [Nat.testBit_or, Nat.testBit_two_pow, bset_t]
    by_cases z : a = i
    · rw [decide_eq_true z]; rfl
    · rw [decide_eq_false z, Bool.false_or]
      have h1 := (h a e).1
      have h2 := (h i q).1
      have h3 := (h a e).2 i q z
      unfold tkN at h1 h2
      unfold mB
      simp at h1 h2 h3 ⊢
      exact ⟨h2.1, h1.2, h2.2, z, h3⟩
  · rintro ⟨h1, h2⟩ i e
    have t := h1 i e
    rw [bset_tk] at t
    refine ⟨t, fun j q z => ?_⟩
    have hi : i < nH κ := by unfold tkN at t; simp at t; exact t.1
    have g := dif_z.mp (h2 i hi e) j q
    unfold mW at g
    rw [Nat.testBit_or, Nat.testBit_two_pow, bset_t, decide_eq_false z, Bool.false_or] at g
    unfold mB at g
    simp at g
    exact g.2.2.2.2
theorem fb_one (C : Nat → Bool) (k : Nat) : fb C 0 (k + 1) 0 = fb C 1 k 0 := by
  show fb C (0 + 1) k _ = _
  rw [if_neg (fun q => absurd q.2 (Nat.lt_irrefl _))]
theorem fb_step (C : Nat → Bool) (i : Nat) : fb C 1 (i + 1) 0 = if C (1 + i) = true ∧ pc (fb C 1 i 0) < pc (1 + i) then 1 + i else fb C 1 i 0 := by
  rw [fb_add C i 1]
  rfl
theorem M_check {κ : Kp} {p s : Nat} {x2 x3 y : Int32} {σ : Sto} {K : Int32 → Int32 → Int32 → Sto → Prop} {post : Int32 → Sto → Prop} (hn : nH κ ≤ 14) (eH : σ.1 67 1 = nI (nH κ)) (hs : s < 16384) (hw : ∀ a, a < nH κ → σ.1 82 a = nI (mW κ p a (nH κ))) (hy : y = 1 ∨ y = 0) (hq : ∀ z : Int32, ((z = 1 ∧ y = 1 ∧ ∀ a, a < nH κ → s.testBit a = true → dif s (mW κ p a (nH κ)) = 0) ∨ (z = 0 ∧ (y = 0 ∨ ¬ ∀ a, a < nH κ → s.testBit a = true → dif s (mW κ p a (nH κ)) = 0))) → wX11_agreeingOf_244 post K x2 x3 (nI s) z σ) : wX11_agreeingOf_187 post K x2 x3 (nI s) y σ := by
  unfold wX11_agreeingOf_187
  refine pk_loop (fun k i (x : Int32) => wX11_agreeingOf_192 post (fun (x2_4 : Int32) (x3_4 : Int32) (x4_4 : Int32) (x5_4 : Int32) (σ_4 : Sto) => wX11_agreeingOf_244 post K x2_4 x3_4 x4_4 x5_4 σ_4) k x2 x3 (nI s) x (nI i) σ) (fun i x => (x = 1 ∧ y = 1 ∧ ∀ a, a < i → s.testBit a = true → dif s (mW κ p a (nH κ)) = 0) ∨ (x = 0 ∧ (y = 0 ∨ ¬ ∀ a, a < nH κ → s.testBit a = true → dif s (mW κ p a (nH κ)) = 0))) (nH κ) 0 y (Nat.zero_le _) ?_ ?_ ?_
  · rcases hy with e | e
    · exact Or.inl ⟨e, e, fun a x => absurd x (Nat.not_lt_zero _)⟩
    · exact Or.inr ⟨e, Or.inl e⟩
  · intro k x hx
    unfold wX11_agreeingOf_192
    rw [eH]
    exact ⟨fun _ => hq x hx, fun z => absurd (nI_le (Nat.le_refl _) (by omega)) z⟩
  · intro k i x hi2 hx kk
    have c2 : (nI i).toNatClampNeg = i := nI_clamp (by omega)
    unfold wX11_agreeingOf_192 wX11_agreeingOf_231 wX11_agreeingOf_236
    rw [eH, c2, hw i hi2, bD, nI_1, bT0 (by omega) (by omega)]
    refine ⟨fun z => absurd z (nI_ge hi2 (by omega)), fun _ => ⟨fun z => ?_, fun z => ?_⟩⟩
    · rcases hx with e | e
      · rw [e.1] at z; exact absurd z (by decide)
      · exact hq x (Or.inr e)
    · have e : x = 1 ∧ y = 1 ∧ ∀ a, a < i → s.testBit a = true → dif s (mW κ p a (nH κ)) = 0 := by
        rcases hx with e | e
        · exact e
        · exact absurd e.1 z
      have dl : dif s (mW κ p i (nH κ)) < 16384 := dif_lt hs
      have d0 : nI (dif s (mW κ p i (nH κ))) = 0 ↔ dif s (mW κ p i (nH κ)) = 0 := by
        rw [show (0 : Int32) = nI 0 from rfl, nI_eq (by omega) (by omega)]
      rw [d0]
      refine ⟨fun w => kk 1 (Or.inl ⟨rfl, e.2.1, fun a ha q => ?_⟩), fun w => ⟨vp_in_nI (by omega) (by omega), fun v => kk 0 (Or.inr ⟨rfl, Or.inr (fun g => v (g i hi2 (by simpa using w)))⟩), fun v => kk 1 (Or.inl ⟨rfl, e.2.1, fun a ha q => ?_⟩)⟩⟩
      · by_cases ea : a = i
        · rw [ea, w] at q; cases q
        · exact e.2.2 a (by omega) q
      · by_cases ea : a = i
        · rw [ea]; exact v
        · exact e.2.2 a (by omega) q
theorem M_pick {κ : Kp} {p : Nat} {σ : Sto} {post : Int32 → Sto → Prop} (hi : Inv κ) (eH : σ.1 67 1 = nI (nH κ)) (hw : ∀ a, a < nH κ → σ.1 82 a = nI (mW κ p a (nH κ))) (hq : post (nI (agZ κ p)) σ) : ∃ n150, wX11_agreeingOf_150 post (fun (x3_5 : Int32) (σ_5 : Sto) => post x3_5 σ_5) n150 (nI (bset (pt κ p) (nH κ))) ((0 : Int32)) ((1 : Int32)) σ := by
  have h14 := nH_le hi
  have pl : 2 ^ nH κ ≤ 16384 := Nat.le_trans (Nat.pow_le_pow_right (by decide) h14) (by decide)
  have p1 : 0 < 2 ^ nH κ := Nat.two_pow_pos _
  have bl := bset_14 (pt κ p) h14
  refine pk_loop (fun k i (x : Int32) => wX11_agreeingOf_150 post (fun (x3_5 : Int32) (σ_5 : Sto) => post x3_5 σ_5) k (nI (bset (pt κ p) (nH κ))) x (nI i) σ) (fun i x => 1 ≤ i ∧ x = nI (fb (clq (tkN κ p) (fun a b => agB κ a b p)) 1 (i - 1) 0)) (2 ^ nH κ) 1 0 p1 ⟨Nat.le_refl _, rfl⟩ ?_ ?_
  · intro k x hx
    unfold wX11_agreeingOf_150
    rw [eH, bSh _ (by omega)]
    refine ⟨fun _ => ?_, fun z => absurd (nI_le (Nat.le_refl _) (by omega)) z⟩
    rw [hx.2]
    have e : agZ κ p = fb (clq (tkN κ p) (fun a b => agB κ a b p)) 1 (2 ^ nH κ - 1) 0 := by
      unfold agZ
      rw [← fb_one, Nat.sub_add_cancel p1]
    rw [← e]
    exact hq
  · intro k i x hi2 hx kk
    obtain ⟨i0, hx⟩ := hx
    have es := fb_step (clq (tkN κ p) (fun a b => agB κ a b p)) (i - 1)
    rw [show 1 + (i - 1) = i by omega, show i - 1 + 1 = i + 1 - 1 by omega] at es
    generalize hb : fb (clq (tkN κ p) (fun a b => agB κ a b p)) 1 (i - 1) 0 = b at *
    have bb : b < 16384 := by rw [← hb]; exact fb_le _ _ _ _ (by omega) (by decide)
    have cm := clq_m (κ := κ) (p := p) (s := i)
    have pi := pc_le i
    have pb := pc_le b
    have dl : dif i (bset (pt κ p) (nH κ)) < 16384 := dif_lt (by omega)
    have d0 : nI (dif i (bset (pt κ p) (nH κ))) = 0 ↔ dif i (bset (pt κ p) (nH κ)) = 0 := by
      rw [show (0 : Int32) = nI 0 from rfl, nI_eq (by omega) (by omega)]
    have fin : ∀ z : Int32, (z = 1 → clq (tkN κ p) (fun a b => agB κ a b p) i = true ∧ pc b < pc i) → (z = 0 → ¬ (clq (tkN κ p) (fun a b => agB κ a b p) i = true ∧ pc b < pc i)) → (z = 1 ∨ z = 0) → wX11_agreeingOf_244 post (wX11_agreeingOf_150 post (fun (x3_5 : Int32) (σ_5 : Sto) => post x3_5 σ_5) k) (nI (bset (pt κ p) (nH κ))) x (nI i) z σ := by
      intro z g1 g2 g3
      unfold wX11_agreeingOf_244 wX11_agreeingOf_255
      rw [nI_1]
      refine ⟨fun w => kk x ⟨by omega, ?_⟩, fun w => kk _ ⟨by omega, ?_⟩⟩
      · rw [es, if_neg (g2 w)]; exact hx
      · rw [es, if_pos (g1 (g3.resolve_right w))]
    unfold wX11_agreeingOf_150 wX11_agreeingOf_186
    rw [eH, bSh _ (by omega), bD, d0]
    refine ⟨fun z => absurd z (nI_ge hi2 (by omega)), fun _ => ⟨fun z => ?_, fun z => ?_⟩⟩
    · refine M_check h14 eH (by omega) hw (Or.inr rfl) (fun y hy => fin y ?_ ?_ ?_)
      · intro e
        rcases hy with g | g
        · exact absurd g.2.1 (by decide)
        · rw [g.1] at e; exact absurd e (by decide)
      · intro _ g
        exact z (cm.mp g.1).1
      · exact hy.imp (fun g => g.1) (fun g => g.1)
    · refine M_ones (by omega) ?_
      rw [hx]
      refine M_ones bb ?_
      rw [nI_leI (by omega) (by omega), ← hx]
      refine ⟨fun w => ?_, fun w => ?_⟩
      · refine M_check h14 eH (by omega) hw (Or.inr rfl) (fun y hy => fin y ?_ ?_ ?_)
        · intro e
          rcases hy with g | g
          · exact absurd g.2.1 (by decide)
          · rw [g.1] at e; exact absurd e (by decide)
        · intro _ g
          omega
        · exact hy.imp (fun g => g.1) (fun g => g.1)
      · refine M_check h14 eH (by omega) hw (Or.inl rfl) (fun y hy => fin y ?_ ?_ ?_)
        · intro e
          rcases hy with g | g
          · exact ⟨cm.mpr ⟨z, g.2.2⟩, by omega⟩
          · rw [g.1] at e; exact absurd e (by decide)
        · intro e g
          rcases hy with q | q
          · rw [q.1] at e; exact absurd e (by decide)
          · rcases q.2 with q2 | q2
            · exact absurd q2 (by decide)
            · exact q2 (cm.mp g.1).2
        · exact hy.imp (fun g => g.1) (fun g => g.1)
theorem M_agRow {κ : Kp} {p : Int32} {a : Nat} {u1 : Sto} {post : Int32 → Sto → Prop} {K : Int32 → Int32 → Int32 → Sto → Prop} (wk : WK u1) (hκ : vm u1 = κ) (hp : okS p) (ha : a < nH κ) (u : Sto) (f0 : qd u1 u) (e0 : u.1 82 a = nI (2 ^ a)) (hq : ∀ v, qd u1 v → (∀ b, b ≠ a → v.1 82 b = u.1 82 b) → v.1 82 a = nI (mW κ p.toNatClampNeg a (nH κ)) → K p (nI (bset (pt κ p.toNatClampNeg) (nH κ))) (nI a) v) : ∃ n59, wX11_agreeingOf_59 post K n59 p (nI (bset (pt κ p.toNatClampNeg) (nH κ))) (nI a) ((0 : Int32)) u := by
  have hi : Inv κ := by rw [← hκ]; exact wk.1.1
  have h14 := nH_le hi
  have bl := bset_14 (pt κ p.toNatClampNeg) h14
  have hv : ∀ v, qd u1 v → vm v = κ := fun v f => by rw [f.1.vm, hκ]
  have okh : ∀ i, i < nH κ → okHouse (nI i) κ := fun i h => by
    have iT : (nI i).toInt = i := nI_toInt (by omega)
    have := hi.2.2.1
    unfold okHouse
    unfold nH at h
    omega
  have tk : ∀ i, i < nH κ → tkN κ p.toNatClampNeg i = pt κ p.toNatClampNeg i := fun i h => by unfold tkN; rw [decide_eq_true h, Bool.true_and]
  have ca : (nI a).toNatClampNeg = a := nI_clamp (by omega)
  refine pk_loop (fun k i v => wX11_agreeingOf_59 post K k p (nI (bset (pt κ p.toNatClampNeg) (nH κ))) (nI a) (nI i) v) (fun i v => qd u1 v ∧ (∀ b, b ≠ a → v.1 82 b = u.1 82 b) ∧ v.1 82 a = nI (mW κ p.toNatClampNeg a i)) (nH κ) 0 u (Nat.zero_le _) ⟨f0, fun b _ => rfl, ?_⟩ ?_ ?_
  · rw [e0]
    unfold mW
    show _ = nI (2 ^ a ||| 0)
    rw [Nat.or_zero]
  · intro k v hx
    have eH : v.1 67 1 = nI (nH κ) := by rw [← nH_I hi, ← hv v hx.1]; rfl
    unfold wX11_agreeingOf_59
    rw [eH]
    exact ⟨fun _ => hq v hx.1 hx.2.1 hx.2.2, fun z => absurd (nI_le (Nat.le_refl _) (by omega)) z⟩
  · intro k i v hi2 hx kk
    obtain ⟨f, g1, g2⟩ := hx
    have hvv := hv v f
    have eH : v.1 67 1 = nI (nH κ) := by rw [← nH_I hi, ← hvv]; rfl
    have c2 : (nI i).toNatClampNeg = i := nI_clamp (by omega)
    have stp : ∀ w : Nat, mW κ p.toNatClampNeg a (i + 1) = w → wX11_agreeingOf_59 post K k p (nI (bset (pt κ p.toNatClampNeg) (nH κ))) (nI a) (nI (i + 1)) (wI v 82 a (nI w)) := fun w hw => by
      refine kk _ ⟨f.wI (by decide) (by omega) (fun e => by omega), fun b hb => ?_, ?_⟩
      · rw [wI_1, uN hb]; exact g1 b hb
      · rw [wI_1, uS, hw]
    have no : mB κ p.toNatClampNeg a i = false → wX11_agreeingOf_108 post (wX11_agreeingOf_59 post K k) p (nI (bset (pt κ p.toNatClampNeg) (nH κ))) (nI a) (nI i) v := fun z => by
      unfold wX11_agreeingOf_108 wX11_agreeingOf_109 wX11_agreeingOf_131
      rw [ca, nI_1, g2, show (0 : Int32) = nI 0 from rfl, bO, Nat.or_zero]
      exact ⟨vp_in_nI (by omega) (by omega), fun _ => ⟨vp_in_nI (by omega) (by omega), stp _ (mW_s0 z)⟩, fun w => absurd rfl w⟩
    unfold wX11_agreeingOf_59
    rw [eH, bT1 (by omega) (by omega), bT1 (by omega) (by omega), bset_tk, bset_tk, tk a ha, tk i hi2, nI_eq (by omega) (by omega)]
    refine ⟨fun z => absurd z (nI_ge hi2 (by omega)), fun _ => ⟨fun z => no ?_, fun z => ⟨fun y => no ?_, fun y => ⟨fun w => no ?_, fun w => ?_⟩⟩⟩⟩
    · unfold mB; rw [show pt κ p.toNatClampNeg a = false by simpa using z, Bool.false_and]
    · unfold mB; rw [show pt κ p.toNatClampNeg i = false by simpa using y, Bool.false_and, Bool.and_false]
    · unfold mB; rw [decide_eq_false (fun q => q w), Bool.false_and, Bool.and_false, Bool.and_false]
    · refine M_agH (wk.qd f) (by rw [hvv]; exact okh a ha) (by rw [hvv]; exact okh i hi2) hp (by rw [hvv, ca]; exact of_decide_eq_true z) (by rw [hvv, c2]; exact of_decide_eq_true y) ?_
      rw [hvv, ca, c2]
      refine ⟨fun q => no (by unfold mB; rw [q, Bool.and_false, Bool.and_false, Bool.and_false]), fun q => ?_⟩
      have m1 : mB κ p.toNatClampNeg a i = true := by unfold mB; rw [q, z, y, decide_eq_true w]; rfl
      unfold wX11_agreeingOf_109 wX11_agreeingOf_131
      rw [ca, nI_1, g2, bSh i (by omega), bO]
      exact ⟨vp_in_nI (by omega) (by omega), fun w => absurd w (by decide), fun _ => ⟨vp_in_nI (by omega) (by omega), stp _ (mW_s1 m1)⟩⟩
theorem qm.ofqd {σ τ : Sto} (h : qd σ τ) : qm σ τ := h.1
theorem M_agreeingOf {p : Int32} {σ : Sto} {post : Int32 → Sto → Prop} (h : OM σ) (hp : okS p) (hq : ∀ τ, OM τ → qm σ τ → post (nI (agZ (vm σ) p.toNatClampNeg)) τ) : wX11_agreeingOf p σ post := by
  have hi := h.1
  have h14 := nH_le hi
  have hv : ∀ u, qm σ u → vm u = vm σ := fun u f => f.vm
  generalize hκ : vm σ = κ at *
  unfold wX11_agreeingOf
  generalize hK : (fun (x1_1 : Int32) (x2_1 : Int32) (σ_1 : Sto) => ∃ n39, wX11_agreeingOf_39 post (fun (x2_3 : Int32) (σ_3 : Sto) => ∃ n150, wX11_agreeingOf_150 post (fun (x3_5 : Int32) (σ_5 : Sto) => post x3_5 σ_5) n150 x2_3 ((0 : Int32)) ((1 : Int32)) σ_3) n39 x1_1 x2_1 ((0 : Int32)) σ_1) = K
  refine pk_loop (fun k i (x : Int32 × Sto) => wX11_agreeingOf_4 post K k p x.1 (nI i) x.2) (fun i x => x.1 = nI (bset (pt κ p.toNatClampNeg) i) ∧ OM x.2 ∧ qm σ x.2 ∧ (i = 0 ∨ WK x.2)) (nH κ) 0 (0, σ) (Nat.zero_le _) ⟨rfl, h, qm.refl, Or.inl rfl⟩ ?_ ?_
  · intro k x hx
    obtain ⟨x, u⟩ := x
    obtain ⟨a1, a2, a3, a4⟩ := hx
    dsimp only at a1 a2 a3 a4 ⊢
    have eH : u.1 67 1 = nI (nH κ) := by rw [← nH_I hi, ← hv u a3]; rfl
    unfold wX11_agreeingOf_4
    rw [eH, a1]
    refine ⟨fun _ => ?_, fun z => absurd (nI_le (Nat.le_refl _) (by omega)) z⟩
    rw [← hK]
    refine pk_loop (fun k i v => wX11_agreeingOf_39 post (fun (x2_3 : Int32) (σ_3 : Sto) => ∃ n150, wX11_agreeingOf_150 post (fun (x3_5 : Int32) (σ_5 : Sto) => post x3_5 σ_5) n150 x2_3 ((0 : Int32)) ((1 : Int32)) σ_3) k p (nI (bset (pt κ p.toNatClampNeg) (nH κ))) (nI i) v) (fun i v => qd u v ∧ ∀ a, a < i → v.1 82 a = nI (mW κ p.toNatClampNeg a (nH κ))) (nH κ) 0 u (Nat.zero_le _) ⟨qd.refl, fun a x => absurd x (Nat.not_lt_zero _)⟩ ?_ ?_
    · intro k v hx
      have q3 : qm σ v := a3.trans (qm.ofqd hx.1)
      have eH : v.1 67 1 = nI (nH κ) := by rw [← nH_I hi, ← hv v q3]; rfl
      unfold wX11_agreeingOf_39
      rw [eH]
      exact ⟨fun _ => M_pick hi eH hx.2 (hq v (a2.qd hx.1) q3), fun z => absurd (nI_le (Nat.le_refl _) (by omega)) z⟩
    · intro k i v hi2 hx kk
      obtain ⟨f, g⟩ := hx
      have q3 : qm σ v := a3.trans (qm.ofqd f)
      have eH : v.1 67 1 = nI (nH κ) := by rw [← nH_I hi, ← hv v q3]; rfl
      have c2 : (nI i).toNatClampNeg = i := nI_clamp (by omega)
      unfold wX11_agreeingOf_39
      rw [eH, c2, bSh i (by omega)]
      refine ⟨fun z => absurd z (nI_ge hi2 (by omega)), fun _ => ⟨vp_in_nI (by omega) (by omega), ?_⟩⟩
      refine M_agRow (a4.resolve_left (by omega)) (hv u a3) hp hi2 _ (f.wI (by decide) (by omega) (fun e => by omega)) (by rw [wI_1, uS]) (fun w f2 g1 g2 => ?_)
      rw [nI_1]
      refine kk w ⟨f2, fun a ha => ?_⟩
      by_cases e : a = i
      · rw [e]; exact g2
      · rw [g1 a e, wI_1, uN e]; exact g a (by omega)
  · intro k i x hi2 hx kk
    obtain ⟨x, u⟩ := x
    obtain ⟨a1, a2, a3, a4⟩ := hx
    dsimp only at a1 a2 a3 a4 ⊢
    have eH : u.1 67 1 = nI (nH κ) := by rw [← nH_I hi, ← hv u a3]; rfl
    have c2 : (nI i).toNatClampNeg = i := nI_clamp (by omega)
    have iT : (nI i).toInt = i := nI_toInt (by omega)
    unfold wX11_agreeingOf_4 wX11_agreeingOf_29
    rw [eH, bSh i (by omega)]
    refine ⟨fun z => absurd z (nI_ge hi2 (by omega)), fun _ => takes_K a2 (by omega) hp (fun τ wk f => ?_)⟩
    rw [c2, hv u a3, nI_1, a1, bO, show (0 : Int32) = nI 0 from rfl, bO, Nat.or_zero]
    have q3 : qm σ τ := a3.trans f
    refine br_d' (fun z => ?_) (fun z => ?_)
    · exact kk (_, τ) ⟨by rw [bset_s1 (decide_eq_true z)]; rfl, wk.1, q3, Or.inr wk⟩
    · exact kk (_, τ) ⟨by rw [bset_s0 (decide_eq_false z)]; rfl, wk.1, q3, Or.inr wk⟩
noncomputable def S_agreeing (p : Int32) (κ : Kp) : Int32 := @ite _ (okS p) (Classical.propDecidable _) (nI (agZ κ p.toNatClampNeg)) (-2)
theorem X_agreeing (p : Int32) : SpX (wX10_agreeing p) (S_agreeing p) (fun κ => κ) := by
  intro σ post h hp
  unfold S_agreeing at hp
  unfold wX10_agreeing
  refine noPiece_ok (And.symm (br_n (fun (h1 : okS p) => ?_) (fun (h1 : ¬ okS p) => ?_)))
  · refine X_mostOf h h1 (fun τ f => ?_)
    have := hp τ (h.qx f) f.vx f.fm
    rwa [if_pos h1] at this
  · have := hp σ h rfl fm.refl
    rwa [if_neg h1] at this
theorem M_agreeing (p : Int32) : SpM (wX11_agreeing p) (S_agreeing p) (fun κ => κ) := by
  intro σ post h hp
  unfold S_agreeing at hp
  unfold wX11_agreeing
  refine isPiece_ok (br_d' (fun (h1 : okS p) => ?_) (fun (h1 : ¬ okS p) => ?_))
  · refine M_agreeingOf h h1 (fun τ a f => ?_)
    have := hp τ a f.vm f.fx
    rwa [if_pos h1] at this
  · have := hp σ h rfl fx.refl
    rwa [if_neg h1] at this

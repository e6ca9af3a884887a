/-! one number: the model -/
theorem lo_cross {w : Int32} {t b t' b' : Int} (h1 : 0 < b) (h2 : 0 < b') (h : t * b' = t' * b) : loW w t b = loW w t' b' := by
  rw [← loW_mul (x := w) (a := t) h2 h1, ← loW_mul (x := w) (a := t') h1 h2, Int.mul_comm b' t, h, Int.mul_comm t' b, Int.mul_comm b' b]
def TLf (κ : Kp) (p : Nat) : Nat → Nat → List Int
  | _, 0 => []
  | a, k + 1 => (if pt κ p a = true then [tL κ a p] else []) ++ TLf κ p (a + 1) k
theorem TLf_n (κ : Kp) (p : Nat) : ∀ k n, TLn κ p n ++ TLf κ p n k = TLn κ p (n + k)
  | 0, n => by rw [Nat.add_zero]; exact List.append_nil _
  | k + 1, n => by
    show TLn κ p n ++ (_ ++ _) = _
    rw [← List.append_assoc]
    have e : TLn κ p n ++ (if pt κ p n = true then [tL κ n p] else []) = TLn κ p (n + 1) := rfl
    rw [e, TLf_n κ p k (n + 1), show n + 1 + k = n + (k + 1) by omega]
theorem TLf_0 (κ : Kp) (p : Nat) : TLf κ p 0 (nH κ) = TL κ p := by
  have := TLf_n κ p (nH κ) 0
  rw [Nat.zero_add] at this
  exact this
theorem TLf_s1 {κ : Kp} {p a k : Nat} (h : pt κ p a = true) : TLf κ p a (k + 1) = tL κ a p :: TLf κ p (a + 1) k := by
  show (if pt κ p a = true then [tL κ a p] else []) ++ _ = _
  rw [if_pos h]; rfl
theorem TLf_s0 {κ : Kp} {p a k : Nat} (h : pt κ p a = false) : TLf κ p a (k + 1) = TLf κ p (a + 1) k := by
  show (if pt κ p a = true then [tL κ a p] else []) ++ _ = _
  rw [h, if_neg (by decide)]; rfl
/-- the pairs of house a that are still to come -/
def rst (κ : Kp) (p a b : Nat) : List Int := if pt κ p a = true then (TLf κ p b (nH κ - b)).map (fun x => tL κ a p + x) else []
def MRw (σ u : Sto) (M acc : List Int) : Prop := WK u ∧ qm σ u ∧ u.1 67 23 = nI M.length ∧ RwL u 84 M ∧ SL M acc
theorem M_pairsIn {κ : Kp} {p : Int32} {a : Nat} {σ u : Sto} {post : Sto → Prop} {K : Int32 → Int32 → Sto → Prop} (hi : Inv κ) (hv : vm σ = κ) (hp : okS p) (ha : a < nH κ) (hl : (prs (TL κ p.toNatClampNeg)).length ≤ 105) (hu : ∃ M acc, MRw σ u M acc ∧ (acc ++ prs (TLf κ p.toNatClampNeg a (nH κ - a))).Perm (prs (TL κ p.toNatClampNeg))) (hq : ∀ v, (∃ M acc, MRw σ v M acc ∧ (acc ++ prs (TLf κ p.toNatClampNeg (a + 1) (nH κ - (a + 1)))).Perm (prs (TL κ p.toNatClampNeg))) → K p (nI a) v) : ∃ n17, wX11_pairsOf_17 post K n17 p (nI a) (nI a) u := by
  have h14 := nH_le hi
  have hv' : ∀ u, qm σ u → vm u = κ := fun u f => by rw [f.vm, hv]
  have ca : (nI a).toNatClampNeg = a := nI_clamp (by omega)
  have aT : (nI a).toInt = a := nI_toInt (by omega)
  have ka : nH κ - a = (nH κ - (a + 1)) + 1 := by omega
  refine pk_loop (fun k b v => wX11_pairsOf_17 post K k p (nI a) (nI b) v) (fun b v => ∃ M acc, MRw σ v M acc ∧ (acc ++ (rst κ p.toNatClampNeg a b ++ prs (TLf κ p.toNatClampNeg (a + 1) (nH κ - (a + 1))))).Perm (prs (TL κ p.toNatClampNeg))) (nH κ) a u (by omega) ?_ ?_ ?_
  · obtain ⟨M, acc, m1, m2⟩ := hu
    refine ⟨M, acc, m1, ?_⟩
    unfold rst
    cases q : pt κ p.toNatClampNeg a with
    | true =>
      rw [if_pos rfl]
      rw [ka, TLf_s1 q] at m2 ⊢
      exact m2
    | false =>
      rw [if_neg (by decide)]
      rw [ka, TLf_s0 q] at m2
      exact m2
  · intro k v hx
    obtain ⟨M, acc, m1, m2⟩ := hx
    have eH : v.1 67 1 = nI (nH κ) := by rw [← nH_I hi, ← hv' v m1.2.1]; rfl
    unfold wX11_pairsOf_17
    rw [eH]
    refine ⟨fun _ => hq v ⟨M, acc, m1, ?_⟩, fun z => absurd (nI_le (Nat.le_refl _) (by omega)) z⟩
    have : rst κ p.toNatClampNeg a (nH κ) = [] := by
      unfold rst
      rw [Nat.sub_self]
      split <;> rfl
    rw [this] at m2
    exact m2
  · intro k b v hb hx kk
    obtain ⟨M, acc, m1, m2⟩ := hx
    obtain ⟨wk, f, g1, g2, g3⟩ := m1
    have hvv := hv' v f
    have eH : v.1 67 1 = nI (nH κ) := by rw [← nH_I hi, ← hvv]; rfl
    have cb : (nI b).toNatClampNeg = b := nI_clamp (by omega)
    have bT : (nI b).toInt = b := nI_toInt (by omega)
    have kb : nH κ - b = (nH κ - (b + 1)) + 1 := by omega
    have no : rst κ p.toNatClampNeg a b = rst κ p.toNatClampNeg a (b + 1) → wX11_pairsOf_17 post K k p (nI a) (nI (b + 1)) v := fun e => by
      rw [e] at m2
      exact kk v ⟨M, acc, ⟨wk, f, g1, g2, g3⟩, m2⟩
    have ta := tL_b hi a p.toNatClampNeg
    have tb := tL_b hi b p.toNatClampNeg
    unfold wX11_pairsOf_17
    rw [eH, nI_1]
    refine ⟨fun z => absurd z (nI_ge hb (by omega)), fun _ => takes_W wk (by omega) hp ?_⟩
    rw [ca, hvv]
    refine br_d' (fun z => takes_W wk (by omega) hp ?_) (fun z => no ?_)
    · have pa : pt κ p.toNatClampNeg a = true := decide_eq_true z
      rw [cb, hvv]
      refine br_d' (fun y => ?_) (fun y => no ?_)
      · have pb : pt κ p.toNatClampNeg b = true := decide_eq_true y
        refine toldOf_W wk (by omega) hp (by rw [ca, hvv]; exact z) (fun r1 h1 => toldOf_W wk (by omega) hp (by rw [cb, hvv]; exact y) (fun r2 h2 => ?_))
        rw [ca, hvv] at h1
        rw [cb, hvv] at h2
        have er : rst κ p.toNatClampNeg a b = (tL κ a p.toNatClampNeg + tL κ b p.toNatClampNeg) :: rst κ p.toNatClampNeg a (b + 1) := by
          unfold rst
          rw [if_pos pa, if_pos pa, kb, TLf_s1 pb]
          rfl
        rw [er] at m2
        have ll := m2.length_eq
        have la := SL_len g3
        rw [List.length_append, List.cons_append, List.length_cons] at ll
        refine M_add (lAdd h1 h2 (by omega) (by omega)) g2 g3 rfl g1 (by omega) (fun w M2 f1 r3 s3 => ?_)
        obtain ⟨b1, b2, b3, b4⟩ := add_qd f1
        have lm := SL_len s3
        rw [List.length_cons, ← la] at lm
        refine kk w ⟨M2, acc ++ [tL κ a p.toNatClampNeg + tL κ b p.toNatClampNeg], ⟨wk.qd b1, f.trans b1.1, by rw [b2, lm], r3, SL_snoc s3⟩, ?_⟩
        rw [List.append_assoc]
        exact m2
      · unfold rst
        rw [kb, TLf_s0 (decide_eq_false y)]
    · have pa : pt κ p.toNatClampNeg a = false := decide_eq_false z
      unfold rst
      rw [pa, if_neg (by decide), if_neg (by decide)]
/-- what the model found: a fraction that is the same -/
def NMf (κ : Kp) (p : Nat) (r : Int32) (τ : Sto) : Prop := ∃ T B : Int, (τ.2 67 25).toInt = T ∧ (τ.2 67 26).toInt = B ∧ 0 < B ∧ -9223372036854775808 < T ∧ ∀ w, loW w T B = loW w (nmA κ p r) (nmB κ p r)
theorem M_pairsOf {p : Int32} {σ : Sto} {post : Sto → Prop} (wk : WK σ) (hp : okS p) (hn : ptN (vm σ) p.toNatClampNeg ≠ 0) (hq : ∀ τ, OM τ → qm σ τ → NMf (vm σ) p.toNatClampNeg 1 τ → post τ) : wX11_pairsOf p σ post := by
  have hi := wk.1.1
  have h14 := nH_le hi
  have hv : ∀ u, qm σ u → vm u = vm σ := fun u f => f.vm
  have ok := okL_TL hi hn
  generalize hκ : vm σ = κ at *
  have l5 := prs_105 (l := TL κ p.toNatClampNeg) ok.1.2
  have pl := prs_len (TL κ p.toNatClampNeg)
  have pm := Nat.mul_le_mul ok.1.1 (show 2 ≤ (TL κ p.toNatClampNeg).length + 1 by have := ok.1; omega)
  have q0 : qd σ (wI σ 67 23 0) := qd.refl.wI (by decide) (by omega) (fun _ => ⟨by decide, by decide⟩)
  unfold wX11_pairsOf
  refine pk_loop (fun k a u => wX11_pairsOf_7 post _ k p (nI a) u) (fun a u => ∃ M acc, MRw σ u M acc ∧ (acc ++ prs (TLf κ p.toNatClampNeg a (nH κ - a))).Perm (prs (TL κ p.toNatClampNeg))) (nH κ) 0 _ (Nat.zero_le _) ⟨[], [], ⟨wk.qd q0, q0.1, by rw [wI_1, uS]; rfl, fun k hk => absurd hk (Nat.not_lt_zero _), SL_nil⟩, by rw [Nat.sub_zero, TLf_0]; exact List.Perm.refl _⟩ ?_ ?_
  · intro k u hu
    obtain ⟨M, acc, m1, m2⟩ := hu
    obtain ⟨w1, f, g1, g2, g3⟩ := m1
    have eH : u.1 67 1 = nI (nH κ) := by rw [← nH_I hi, ← hv u f]; rfl
    rw [Nat.sub_self] at m2
    have m3 : acc.Perm (prs (TL κ p.toNatClampNeg)) := by
      have e : acc ++ prs (TLf κ p.toNatClampNeg (nH κ) 0) = acc := List.append_nil _
      rw [e] at m2
      exact m2
    have g4 := SL_perm g3 m3
    have eM := SL_srt g4
    have lM := SL_len g4
    have mb : ∀ w, w ∈ M → -120000000 ≤ w ∧ w ≤ 120000000 := fun w hw => prs_mem (B := 60000000) _ ok.2 w (g4.2.mem_iff.mp hw)
    have tb := twZ_b (B := 120000000) (prs_mem _ ok.2) (l := prs (TL κ p.toNatClampNeg)) (by omega)
    unfold wX11_pairsOf_7
    rw [eH]
    refine ⟨fun _ => M_middle g2 rfl g1 (by omega) (by omega) (fun j hj => by have := gD_b (B := 120000000) mb (k := j) hj; omega) (fun t b B hB hB2 hT => ?_), fun z => absurd (nI_le (Nat.le_refl _) (by omega)) z⟩
    rw [eM] at hT
    have e26 : (wL (wL u 67 25 t) 67 26 b).2 67 26 = b := by rw [wL_2, uLS]
    rw [e26]
    have qq : qd u (wL (wL (wL u 67 25 t) 67 26 b) 67 26 (b * (2 : Int64))) := ((qd.refl.wL (by decide) (by omega)).wL (by decide) (by omega)).wL (by decide) (by omega)
    refine hq _ (w1.1.qd qq) (f.trans qq.1) ⟨t.toInt, 2 * B, ?_, ?_, by omega, ?_, fun w => ?_⟩
    · rw [wL_2, uLN (by decide), wL_2, uLN (by decide), wL_2, uLS]
    · rw [wL_2, uLS, lMul hB (show (2 : Int64).toInt = 2 from rfl) (by omega) (by omega)]
      omega
    · rcases hB2 with e | e <;> rw [e] at hT <;> omega
    · show _ = loW w (twZ (srt (prs (TL κ p.toNatClampNeg)))) 4
      refine lo_cross (by omega) (by decide) ?_
      rcases hB2 with e | e <;> rw [e] at hT ⊢ <;> omega
  · intro k a u ha hu kk
    obtain ⟨M, acc, m1, m2⟩ := hu
    have eH : u.1 67 1 = nI (nH κ) := by rw [← nH_I hi, ← hv u m1.2.1]; rfl
    unfold wX11_pairsOf_7
    rw [eH]
    refine ⟨fun z => absurd z (nI_ge ha (by omega)), fun _ => M_pairsIn hi hκ hp ha l5 ⟨M, acc, m1, m2⟩ (fun v hv2 => ?_)⟩
    rw [nI_1]
    exact kk v hv2
theorem M_weighted {p : Int32} {σ : Sto} {post : Sto → Prop} (wk : WK σ) (hp : okS p) (hn : ptN (vm σ) p.toNatClampNeg ≠ 0) (hq : ∀ τ, OM τ → qm σ τ → NMf (vm σ) p.toNatClampNeg 2 τ → post τ) : wX11_weighted p σ post := by
  have hi := wk.1.1
  have h14 := nH_le hi
  have hv : ∀ u, qm σ u → vm u = vm σ := fun u f => f.vm
  generalize hκ : vm σ = κ at *
  have q0 : qd σ (wL (wL σ 67 25 0) 67 26 0) := (qd.refl.wL (by decide) (by omega)).wL (by decide) (by omega)
  unfold wX11_weighted
  refine pk_loop (fun k i u => wX11_weighted_12 post (fun σ_1 => post σ_1) k p (nI i) u) (fun i u => WK u ∧ qm σ u ∧ (u.2 67 25).toInt = tot (pt κ p.toNatClampNeg) (fun a => 100000000 / wZ κ a * tL κ a p.toNatClampNeg) i ∧ (u.2 67 26).toInt = tot (pt κ p.toNatClampNeg) (fun a => 100000000 / wZ κ a) i) (nH κ) 0 _ (Nat.zero_le _) ⟨wk.qd q0, q0.1, by rw [wL_2, uLN (by decide), wL_2, uLS]; rfl, by rw [wL_2, uLS]; rfl⟩ ?_ ?_
  · intro k u hu
    obtain ⟨w1, f, g1, g2⟩ := hu
    have eH : u.1 67 1 = nI (nH κ) := by rw [← nH_I hi, ← hv u f]; rfl
    have w := wtB_b hi hn
    unfold wX11_weighted_12
    rw [eH]
    refine ⟨fun _ => hq u w1.1 f ⟨wtA κ p.toNatClampNeg, wtB κ p.toNatClampNeg, g1, g2, by omega, by omega, fun _ => rfl⟩, fun z => absurd (nI_le (Nat.le_refl _) (by omega)) z⟩
  · intro k i u hi2 hu kk
    obtain ⟨w1, f, g1, g2⟩ := hu
    have hvu := hv u f
    have eH : u.1 67 1 = nI (nH κ) := by rw [← nH_I hi, ← hvu]; rfl
    have ci : (nI i).toNatClampNeg = i := nI_clamp (by omega)
    have iT : (nI i).toInt = i := nI_toInt (by omega)
    have wb := wZ_b hi hi2
    have tb := tL_b hi i p.toNatClampNeg
    have b := wt_b hi p.toNatClampNeg i (by omega)
    have cl := cnt_le (P := pt κ p.toNatClampNeg) (n := i)
    unfold wX11_weighted_12
    rw [eH, nI_1]
    refine ⟨fun z => absurd z (nI_ge hi2 (by omega)), fun _ => takes_W w1 (by omega) hp ?_⟩
    rw [ci, hvu]
    have eS := M_sqv hi hvu hi2
    refine br_d' (fun z => ⟨vp_in_nI (by omega) (by omega), fun w => ?_, ?_⟩) (fun z => ?_)
    · rw [lEq, eS, show (0 : Int64).toInt = 0 from rfl] at w
      omega
    · have pz : pt κ p.toNatClampNeg i = true := decide_eq_true z
      refine toldOf_W w1 (by omega) hp (by rw [ci, hvu]; exact z) (fun r hr => ?_)
      rw [ci, hvu] at hr
      have q1 : 1 ≤ 100000000 / wZ κ i := by rw [Int.le_ediv_iff_mul_le (by omega)]; omega
      have q2 : 100000000 / wZ κ i ≤ 100000000 := Int.ediv_le_self _ (by decide)
      have eD : ((100000000 : Int64) / ((u.1 69 i).toInt64 * (u.1 69 i).toInt64)).toInt = 100000000 / wZ κ i := by
        rw [lDiv (show (100000000 : Int64).toInt = 100000000 from rfl) eS (by omega), Int.tdiv_eq_ediv_of_nonneg (by decide)]
      have m := mulB (x := 100000000 / wZ κ i) (y := tL κ i p.toNatClampNeg) (A := 100000000) (B := 60000000) (M := 6000000000000000) ⟨by omega, by omega⟩ ⟨by omega, by omega⟩ (by decide)
      have eP := lMul eD hr (by omega) (by omega)
      have qq : ∀ s t, qd u (wL (wL u 67 25 s) 67 26 t) := fun s t => (qd.refl.wL (by decide) (by omega)).wL (by decide) (by omega)
      refine kk _ ⟨w1.qd (qq _ _), f.trans (qq _ _).1, ?_, ?_⟩
      · rw [wL_2, uLN (by decide), wL_2, uLS, tot_s1 pz]
        exact lAdd g1 eP (by omega) (by omega)
      · rw [wL_2, uLS, tot_s1 pz]
        exact lAdd g2 eD (by omega) (by omega)
    · have pz : pt κ p.toNatClampNeg i = false := decide_eq_false z
      exact kk u ⟨w1, f, by rw [tot_s0 pz]; exact g1, by rw [tot_s0 pz]; exact g2⟩
theorem clp_ok {v l h : Int64} {V X R : Int} {σ : Sto} {post : Int64 → Sto → Prop} (hv : v.toInt = V) (hl : l.toInt = X - R) (hh : h.toInt = X + R) (hq : ∀ r : Int64, r.toInt = clZ X R V → post r σ) : wX11_clipped v l h σ post := by
  unfold wX11_clipped
  rw [lLe, lLe, hv, hl, hh]
  unfold clZ at hq
  refine ⟨fun z => ⟨fun w => hq v ?_, fun w => hq h ?_⟩, fun z => hq l ?_⟩
  · rw [if_neg (by omega), if_neg (by omega)]; exact hv
  · rw [if_neg (by omega), if_pos (by omega)]; exact hh
  · rw [if_pos (by omega)]; exact hl
theorem TLn_take {κ : Kp} {p : Nat} : ∀ {n m : Nat}, n ≤ m → ∀ v, v ∈ TLn κ p n → v ∈ TLn κ p m
  | n, 0, h, v, hv => by rw [show n = 0 by omega] at hv; exact hv
  | n, m + 1, h, v, hv => by
    by_cases e : n = m + 1
    · rw [← e]; exact hv
    · exact List.mem_append_left _ (TLn_take (by omega) v hv)
theorem M_oneStep {κ : Kp} {p s8 : Int32} {x s nn : Int64} {X S : Int} {u : Sto} {post : Sto → Prop} {K : Int32 → Int64 → Int64 → Int64 → Int32 → Sto → Prop} (wk : WK u) (hv : vm u = κ) (hp : okS p) (hn : ptN κ p.toNatClampNeg ≠ 0) (hx : x.toInt = X) (hs : s.toInt = S) (hnn : nn.toInt = ptN κ p.toNatClampNeg) (bx : -60000000 ≤ X ∧ X ≤ 60000000) (bS : 0 ≤ S ∧ S ≤ 200000000) (hq : ∀ x' s' : Int64, x'.toInt = (stp (TL κ p.toNatClampNeg) (X, S)).1 → s'.toInt = (stp (TL κ p.toNatClampNeg) (X, S)).2 → K p x' s' nn (s8 + 1) u) : ∃ n144, wX11_steps_144 post (fun (x1_2 : Int32) (x6_2 : Int64) (x8_2 : Int32) (x9_2 : Int64) (x11_2 : Int64) (x13_2 : Int64) (σ_2 : Sto) => wX11_down x13_2 x6_2 σ_2 (fun (r196 : Int64) (s196 : Sto) => ∃ n206, wX11_steps_206 post (fun (x1_3 : Int32) (x2_3 : Int64) (x6_3 : Int64) (x8_3 : Int32) (x15_3 : Int64) (σ_3 : Sto) => ((¬ x6_3 = ((1 : Int64))) → ((¬ (x6_3 - ((1 : Int64))) = 0) ∧ (wX11_root (((x15_3 / (x6_3 - ((1 : Int64)))) * ((1286 : Int64))) / ((1000 : Int64))) σ_3 (fun (r285 : Int64) (s285 : Sto) => wX11_steps_288 post K x1_3 x2_3 x6_3 x8_3 r285 s285)))) ∧ ((x6_3 = ((1 : Int64))) → (wX11_steps_288 post K x1_3 x2_3 x6_3 x8_3 ((0 : Int64)) σ_3))) n206 x1_2 r196 x6_2 x8_2 x9_2 x11_2 ((0 : Int64)) ((0 : Int32)) s196)) n144 p nn s8 (x - ((((3 : Int64)) * s) / ((2 : Int64)))) (x + ((((3 : Int64)) * s) / ((2 : Int64)))) ((0 : Int64)) ((0 : Int32)) u := by
  have hi : Inv κ := by rw [← hv]; exact wk.1.1
  have h14 := nH_le hi
  have ok := okL_TL hi hn
  have hl := TL_len (κ := κ) (p := p.toNatClampNeg)
  have eH : u.1 67 1 = nI (nH κ) := by rw [← nH_I hi, ← hv]; rfl
  have e3 : ((3 : Int64) * s / (2 : Int64)).toInt = 3 * S / 2 := by
    have e1 : ((3 : Int64) * s).toInt = 3 * S := lMul rfl hs (by omega) (by omega)
    rw [lDiv e1 (show (2 : Int64).toInt = 2 from rfl) (by decide), Int.tdiv_eq_ediv_of_nonneg (by omega)]
  have eLo : (x - (3 : Int64) * s / (2 : Int64)).toInt = X - 3 * S / 2 := lSub hx e3 (by omega) (by omega)
  have eHi : (x + (3 : Int64) * s / (2 : Int64)).toInt = X + 3 * S / 2 := lAdd hx e3 (by omega) (by omega)
  generalize x - (3 : Int64) * s / (2 : Int64) = lo at eLo ⊢
  generalize x + (3 : Int64) * s / (2 : Int64) = hI at eHi ⊢
  have clb : ∀ v, v ∈ TL κ p.toNatClampNeg → -60000000 ≤ clZ X (3 * S / 2) v ∧ clZ X (3 * S / 2) v ≤ 60000000 := fun v hv => clZ_b bx (by omega) (ok.2 v hv)
  have stepi : ∀ i, i < nH κ → (nI i).toNatClampNeg = i ∧ (nI i).toInt = i := fun i h => ⟨nI_clamp (by omega), nI_toInt (by omega)⟩
  refine pk_loop (fun k i (y : Int64) => wX11_steps_144 post _ k p nn s8 lo hI y (nI i) u) (fun i y => y.toInt = lsum ((TLn κ p.toNatClampNeg i).map (clZ X (3 * S / 2)))) (nH κ) 0 0 (Nat.zero_le _) rfl ?_ ?_
  · intro k y hy
    unfold wX11_steps_144
    rw [eH]
    refine ⟨fun _ => ?_, fun z => absurd (nI_le (Nat.le_refl _) (by omega)) z⟩
    have sb := lsum_b (B := 60000000) (by decide) ((TL κ p.toNatClampNeg).map (clZ X (3 * S / 2))) (fun w hw => by
      obtain ⟨z, hz, e⟩ := List.mem_map.mp hw
      rw [← e]; exact clb z hz)
    rw [List.length_map, hl] at sb
    have pl := ptN_le hi p.toNatClampNeg
    have hy' : y.toInt = lsum ((TL κ p.toNatClampNeg).map (clZ X (3 * S / 2))) := hy
    refine down_ok hy' hnn (by omega) (by omega) (fun x' hx' => ?_)
    have ex : x'.toInt = (stp (TL κ p.toNatClampNeg) (X, S)).1 := by rw [hx', ← hl]; rfl
    have bX := mean_b (g := clZ X (3 * S / 2)) ok.1.1 clb
    have bx' : -60000000 ≤ x'.toInt ∧ x'.toInt ≤ 60000000 := by rw [ex]; exact bX
    refine pk_loop (fun k i (y : Int64) => wX11_steps_206 post _ k p x' nn s8 lo hI y (nI i) u) (fun i y => y.toInt = lsum ((TLn κ p.toNatClampNeg i).map (sqZ X (3 * S / 2) x'.toInt))) (nH κ) 0 0 (Nat.zero_le _) rfl ?_ ?_
    · intro k q hq2
      have hq' : q.toInt = lsum ((TL κ p.toNatClampNeg).map (sqZ X (3 * S / 2) x'.toInt)) := hq2
      have nn0 : 0 ≤ lsum ((TL κ p.toNatClampNeg).map (sqZ X (3 * S / 2) x'.toInt)) := lsum_nn _ (fun w hw => by
        obtain ⟨z, hz, e⟩ := List.mem_map.mp hw
        rw [← e]; exact (sqZ_b (clb z hz) bx').1)
      have n1T : nn = 1 ↔ ptN κ p.toNatClampNeg = 1 := by rw [lEq, hnn, show (1 : Int64).toInt = 1 from rfl]; omega
      have e2 : (stp (TL κ p.toNatClampNeg) (X, S)).2 = if ptN κ p.toNatClampNeg = 1 then 0 else rtZ (spV (lsum ((TL κ p.toNatClampNeg).map (sqZ X (3 * S / 2) x'.toInt))) (ptN κ p.toNatClampNeg)) := by
        rw [ex, ← hl]; rfl
      unfold wX11_steps_206
      rw [eH, n1T]
      refine ⟨fun _ => ⟨fun z => ⟨fun w => ?_, ?_⟩, fun z => ?_⟩, fun z => absurd (nI_le (Nat.le_refl _) (by omega)) z⟩
      · have m1 : (nn - (1 : Int64)).toInt = (ptN κ p.toNatClampNeg : Int) - 1 := lSub hnn rfl (by omega) (by omega)
        rw [lEq, m1, show (0 : Int64).toInt = 0 from rfl] at w
        omega
      · have m1 : (nn - (1 : Int64)).toInt = (ptN κ p.toNatClampNeg : Int) - 1 := lSub hnn rfl (by omega) (by omega)
        have vb := spV_b (lsum ((TL κ p.toNatClampNeg).map (sqZ X (3 * S / 2) x'.toInt))) (ptN κ p.toNatClampNeg)
        refine M_root (spV_ok hq' m1 (by omega) nn0) (by omega) (fun r hr => ?_)
        refine hq x' r ex ?_
        rw [e2, if_neg z, rtZ_eq hr]
      · refine hq x' 0 ex ?_
        rw [e2, if_pos z]
        rfl
    · intro k i q hi2 hq2 kk
      obtain ⟨ci, iT⟩ := stepi i hi2
      have tb := tL_b hi i p.toNatClampNeg
      have sb := lsum_b (B := 14400000000000000) (by decide) ((TLn κ p.toNatClampNeg i).map (sqZ X (3 * S / 2) x'.toInt)) (fun w hw => by
        obtain ⟨z, hz, e⟩ := List.mem_map.mp hw
        have := sqZ_b (clb z (TLn_take (by omega) z hz)) bx'
        rw [← e]; omega)
      rw [List.length_map, TLn_len] at sb
      have cl := cnt_le (P := pt κ p.toNatClampNeg) (n := i)
      unfold wX11_steps_206 wX11_steps_250
      rw [eH, nI_1]
      refine ⟨fun z => absurd z (nI_ge hi2 (by omega)), fun _ => takes_W wk (by omega) hp ?_⟩
      rw [ci, hv, Int64.add_zero]
      refine br_d' (fun z => ?_) (fun z => kk _ (by rw [TLn_s0 (decide_eq_false z)]; exact hq2))
      have pz : pt κ p.toNatClampNeg i = true := decide_eq_true z
      refine toldOf_W wk (by omega) hp (by rw [ci, hv]; exact z) (fun r hr => clp_ok hr eLo eHi (fun r2 hr2 => ?_))
      rw [ci, hv] at hr2
      have cb := clZ_b (r := 3 * S / 2) bx (by omega) tb
      have d1 := lSub hr2 (show x'.toInt = x'.toInt from rfl) (by omega) (by omega)
      have qb := sqZ_b (X := X) (R := 3 * S / 2) cb bx'
      have d2 : ((r2 - x') * (r2 - x')).toInt = sqZ X (3 * S / 2) x'.toInt (tL κ i p.toNatClampNeg) := lMul d1 d1 (by unfold sqZ at qb; omega) (by unfold sqZ at qb; omega)
      refine kk _ ?_
      rw [lsum_TLn1 pz]
      exact lAdd hq2 d2 (by omega) (by omega)
  · intro k i y hi2 hy kk
    obtain ⟨ci, iT⟩ := stepi i hi2
    have tb := tL_b hi i p.toNatClampNeg
    have sb := lsum_b (B := 60000000) (by decide) ((TLn κ p.toNatClampNeg i).map (clZ X (3 * S / 2))) (fun w hw => by
      obtain ⟨z, hz, e⟩ := List.mem_map.mp hw
      rw [← e]; exact clb z (TLn_take (by omega) z hz))
    rw [List.length_map, TLn_len] at sb
    have cl := cnt_le (P := pt κ p.toNatClampNeg) (n := i)
    unfold wX11_steps_144 wX11_steps_183
    rw [eH, nI_1]
    refine ⟨fun z => absurd z (nI_ge hi2 (by omega)), fun _ => takes_W wk (by omega) hp ?_⟩
    rw [ci, hv, Int64.add_zero]
    refine br_d' (fun z => ?_) (fun z => kk _ (by rw [TLn_s0 (decide_eq_false z)]; exact hy))
    have pz : pt κ p.toNatClampNeg i = true := decide_eq_true z
    refine toldOf_W wk (by omega) hp (by rw [ci, hv]; exact z) (fun r hr => clp_ok hr eLo eHi (fun r2 hr2 => ?_))
    rw [ci, hv] at hr2
    have cb := clZ_b (r := 3 * S / 2) bx (by omega) tb
    refine kk _ ?_
    rw [lsum_TLn1 pz]
    exact lAdd hy hr2 (by omega) (by omega)
theorem M_steps {p : Int32} {σ : Sto} {post : Sto → Prop} (h : OM σ) (hp : okS p) (hn : ptN (vm σ) p.toNatClampNeg ≠ 0) (hq : ∀ τ, WK τ → qm σ τ → (τ.2 67 25).toInt = stX (TL (vm σ) p.toNatClampNeg) → τ.2 67 26 = 1 → post τ) : wX11_steps p σ post := by
  have hi := h.1
  have h14 := nH_le hi
  have hv : ∀ u, qm σ u → vm u = vm σ := fun u f => f.vm
  have ok := okL_TL hi hn
  have pl := ptN_le hi p.toNatClampNeg
  have nz : nH (vm σ) ≠ 0 := fun e => hn (by unfold ptN; rw [e]; rfl)
  unfold wX11_steps
  refine M_rowOf h hp (fun u o f w g => ?_)
  have wk := w.resolve_left nz
  generalize hκ : vm σ = κ at *
  have hl : (srt (TL κ p.toNatClampNeg)).length = ptN κ p.toNatClampNeg := by rw [srt_len, TL_len]
  have mb : ∀ v, v ∈ srt (TL κ p.toNatClampNeg) → -60000000 ≤ v ∧ v ≤ 60000000 := fun v hv => ok.2 v ((srt_p _).mem_iff.mp hv)
  have tb := twZ_b (B := 60000000) ok.2 (by have := ok.1; omega)
  refine M_middle g.2 hl g.1 (by omega) (by omega) (fun j hj => by have := gD_b (B := 60000000) mb (k := j) (by omega); omega) (fun t b B hB hB2 hT => ?_)
  have e25 : (wL (wL u 67 25 t) 67 26 b).2 67 25 = t := by rw [wL_2, uLN (by decide), wL_2, uLS]
  have e26 : (wL (wL u 67 25 t) 67 26 b).2 67 26 = b := by rw [wL_2, uLS]
  rw [e25, e26]
  have hT' : 2 * t.toInt = twZ (srt (TL κ p.toNatClampNeg)) ∧ B = 1 ∨ t.toInt = twZ (srt (TL κ p.toNatClampNeg)) ∧ B = 2 := by
    rcases hB2 with e | e
    · exact Or.inl ⟨by rw [hT, e]; omega, e⟩
    · exact Or.inr ⟨by rw [e] at hT; omega, e⟩
  refine down_ok (show t.toInt = t.toInt from rfl) hB (by omega) (by omega) (fun x hx => ?_)
  have ex : x.toInt = stx0 (TL κ p.toNatClampNeg) := by
    rw [hx]
    unfold stx0
    rcases hT' with ⟨e1, e2⟩ | ⟨e1, e2⟩ <;> rw [e2] <;> omega
  have q0 : qd u (wI (wL (wL u 67 25 t) 67 26 b) 67 23 0) := ((qd.refl.wL (by decide) (by omega)).wL (by decide) (by omega)).wI (by decide) (by omega) (fun _ => ⟨by decide, by decide⟩)
  have bb0 := stN_b ok 0
  have bx : -60000000 ≤ stx0 (TL κ p.toNatClampNeg) ∧ stx0 (TL κ p.toNatClampNeg) ≤ 60000000 := bb0.1
  refine pk_loop (fun k i v => wX11_steps_29 post _ k p x (nI i) v) (fun i v => ∃ M, MRw σ v M ((TLn κ p.toNatClampNeg i).map (dvZ (stx0 (TL κ p.toNatClampNeg))))) (nH κ) 0 _ (Nat.zero_le _) ⟨[], wk.qd q0, f.trans q0.1, by rw [wI_1, uS]; rfl, fun k hk => absurd hk (Nat.not_lt_zero _), SL_nil⟩ ?_ ?_
  · intro k v hv2
    obtain ⟨M, w1, f1, g1, g2, g3⟩ := hv2
    have hvv := hv v f1
    have eH : v.1 67 1 = nI (nH κ) := by rw [← nH_I hi, ← hvv]; rfl
    have g4 : SL M ((TL κ p.toNatClampNeg).map (dvZ (stx0 (TL κ p.toNatClampNeg)))) := g3
    have eM := SL_srt g4
    have lM := SL_len g4
    rw [List.length_map, TL_len] at lM
    have mb2 : ∀ w, w ∈ M → -120000000 ≤ w ∧ w ≤ 120000000 := fun w hw => by
      obtain ⟨z, hz, e⟩ := List.mem_map.mp (g4.2.mem_iff.mp hw)
      have := ok.2 z hz
      rw [← e]
      unfold dvZ
      split <;> omega
    have tb2 := twZ_b (B := 120000000) (l := (TL κ p.toNatClampNeg).map (dvZ (stx0 (TL κ p.toNatClampNeg)))) (fun w hw => mb2 w (g4.2.mem_iff.mpr hw)) (by rw [List.length_map]; have := ok.1; omega)
    have t0 : 0 ≤ twZ (srt ((TL κ p.toNatClampNeg).map (dvZ (stx0 (TL κ p.toNatClampNeg))))) := by
      have : 0 ≤ sts0 (TL κ p.toNatClampNeg) := bb0.2.1
      unfold sts0 at this
      omega
    unfold wX11_steps_29
    rw [eH]
    refine ⟨fun _ => M_middle g2 rfl g1 (by omega) (by omega) (fun j hj => by have := gD_b (B := 120000000) mb2 (k := j) hj; omega) (fun t2 b2 B2 hC hC2 hD => ?_), fun z => absurd (nI_le (Nat.le_refl _) (by omega)) z⟩
    rw [eM] at hD
    have c25 : (wL (wL v 67 25 t2) 67 26 b2).2 67 25 = t2 := by rw [wL_2, uLN (by decide), wL_2, uLS]
    have c26 : (wL (wL v 67 25 t2) 67 26 b2).2 67 26 = b2 := by rw [wL_2, uLS]
    have c23 : (wL (wL v 67 25 t2) 67 26 b2).1 67 23 = nI M.length := by rw [wL_1, wL_1]; exact g1
    rw [c25, c26, c23]
    have hD' : 2 * t2.toInt = twZ (srt ((TL κ p.toNatClampNeg).map (dvZ (stx0 (TL κ p.toNatClampNeg))))) ∧ B2 = 1 ∨ t2.toInt = twZ (srt ((TL κ p.toNatClampNeg).map (dvZ (stx0 (TL κ p.toNatClampNeg))))) ∧ B2 = 2 := by
      rcases hC2 with e | e
      · exact Or.inl ⟨by rw [hD, e]; omega, e⟩
      · exact Or.inr ⟨by rw [e] at hD; omega, e⟩
    have eb : (b2 * (1000 : Int64)).toInt = B2 * 1000 := lMul hC rfl (by omega) (by omega)
    have et : (t2 * (1483 : Int64)).toInt = t2.toInt * 1483 := lMul rfl rfl (by omega) (by omega)
    have es : (t2 * (1483 : Int64) / (b2 * (1000 : Int64))).toInt = sts0 (TL κ p.toNatClampNeg) := by
      rw [lDiv et eb (by omega), Int.tdiv_eq_ediv_of_nonneg (by omega)]
      unfold sts0
      rcases hD' with ⟨e1, e2⟩ | ⟨e1, e2⟩ <;> rw [e2] <;> omega
    have nn : ((nI M.length).toInt64).toInt = ptN κ p.toNatClampNeg := by rw [lM]; exact iL (nI_toInt (by omega))
    have qq : qd v (wL (wL v 67 25 t2) 67 26 b2) := (qd.refl.wL (by decide) (by omega)).wL (by decide) (by omega)
    refine ⟨fun z => ?_, ?_⟩
    · rw [lEq, eb, show (0 : Int64).toInt = 0 from rfl] at z
      omega
    · generalize (nI M.length).toInt64 = nL at nn ⊢
      generalize hw : wL (wL v 67 25 t2) 67 26 b2 = w at qq ⊢
      have wk2 := w1.qd qq
      have hvw : vm w = κ := by rw [qq.1.vm]; exact hvv
      refine pk_loop (fun k2 i (y : Int64 × Int64) => wX11_steps_103 post _ k2 p y.1 y.2 nL (nI i) w) (fun i y => y.1.toInt = (stN (TL κ p.toNatClampNeg) i).1 ∧ y.2.toInt = (stN (TL κ p.toNatClampNeg) i).2) 10 0 (x, _) (Nat.zero_le _) ⟨ex, es⟩ ?_ ?_
      · intro k2 y hy
        obtain ⟨y1, y2⟩ := y
        obtain ⟨b1, b2⟩ := hy
        dsimp only at b1 b2 ⊢
        unfold wX11_steps_103
        have qz : qd w (wL (wL w 67 25 y1) 67 26 1) := (qd.refl.wL (by decide) (by omega)).wL (by decide) (by omega)
        exact ⟨fun _ => hq _ (wk2.qd qz) ((f1.trans qq.1).trans qz.1) (by rw [wL_2, uLN (by decide), wL_2, uLS]; exact b1) (by rw [wL_2, uLS]), fun z => absurd (by decide) z⟩
      · intro k2 i y hi2 hy kk
        obtain ⟨y1, y2⟩ := y
        obtain ⟨b1, b2⟩ := hy
        dsimp only at b1 b2 ⊢
        have sbi := stN_b ok i
        unfold wX11_steps_103
        refine ⟨fun z => absurd z (nI_ge (b := 10) hi2 (by decide)), fun _ => M_oneStep wk2 hvw hp hn b1 b2 nn sbi.1 sbi.2 (fun x' s' h1 h2 => ?_)⟩
        rw [nI_1]
        exact kk (x', s') ⟨h1, h2⟩
  · intro k i v hi2 hv2 kk
    obtain ⟨M, w1, f1, g1, g2, g3⟩ := hv2
    have hvv := hv v f1
    have eH : v.1 67 1 = nI (nH κ) := by rw [← nH_I hi, ← hvv]; rfl
    have ci : (nI i).toNatClampNeg = i := nI_clamp (by omega)
    have iT : (nI i).toInt = i := nI_toInt (by omega)
    have tbi := tL_b hi i p.toNatClampNeg
    have cl := cnt_le (P := pt κ p.toNatClampNeg) (n := i)
    have lM := SL_len g3
    rw [List.length_map, TLn_len] at lM
    unfold wX11_steps_29
    rw [eH, nI_1]
    refine ⟨fun z => absurd z (nI_ge hi2 (by omega)), fun _ => takes_W w1 (by omega) hp ?_⟩
    rw [ci, hvv]
    refine br_d' (fun z => ?_) (fun z => kk v ⟨M, w1, f1, g1, g2, by rw [TLn_s0 (decide_eq_false z)]; exact g3⟩)
    have pz : pt κ p.toNatClampNeg i = true := decide_eq_true z
    refine toldOf_W w1 (by omega) hp (by rw [ci, hvv]; exact z) (fun r hr => ?_)
    rw [ci, hvv] at hr
    refine amount_ok (lSub hr ex (by omega) (by omega)) (by omega) (fun r2 hr2 => ?_)
    have e5 : r2.toInt = dvZ (stx0 (TL κ p.toNatClampNeg)) (tL κ i p.toNatClampNeg) := hr2
    refine M_add e5 g2 g3 rfl g1 (by omega) (fun w M2 f2 r3 s3 => ?_)
    obtain ⟨b1, b2, b3, b4⟩ := add_qd f2
    have lm := SL_len s3
    rw [List.length_cons, List.length_map, TLn_len, ← lM] at lm
    refine kk w ⟨M2, w1.qd b1, f1.trans b1.1, by rw [b2, lm], r3, ?_⟩
    rw [TLn_s1 pz, List.map_append]
    exact SL_snoc s3
theorem M_finds {r p : Int32} {σ : Sto} {post : Bool → Sto → Prop} (h : OM σ) (hp : okS p) (hf : ptN (vm σ) p.toNatClampNeg = 0 → ∀ τ, OM τ → qm σ τ → post false τ) (hq : ptN (vm σ) p.toNatClampNeg ≠ 0 → ∀ τ, OM τ → qm σ τ → NMf (vm σ) p.toNatClampNeg r τ → post true τ) : wX11_finds p r σ post := by
  have hi := h.1
  have pl := ptN_le hi p.toNatClampNeg
  unfold wX11_finds
  refine M_rowOf h hp (fun u o f w g => ?_)
  rw [g.1, nI_z (by omega)]
  refine ⟨fun hn => ?_, fun z => hf z u o f⟩
  have nz : nH (vm σ) ≠ 0 := fun e => hn (by unfold ptN; rw [e]; rfl)
  have wk := w.resolve_left nz
  have ok := okL_TL hi hn
  have hq := hq hn
  have hvu := f.vm
  have hn2 : ptN (vm u) p.toNatClampNeg ≠ 0 := by rw [hvu]; exact hn
  refine ⟨fun r0 => ⟨fun r1 => ⟨fun r2 => ?_, fun r2 => ?_⟩, fun r1 => ?_⟩, fun r0 => ?_⟩
  · have b := (stN_b ok 10).1
    refine M_steps o hp hn2 (fun τ wk2 f2 h1 h2 => hq τ wk2.1 (f.trans f2) ⟨_, 1, h1, by rw [h2]; rfl, by decide, ?_, fun w => ?_⟩)
    · rw [hvu]; unfold stX; omega
    · rw [hvu]
      unfold nmA nmB
      rw [if_neg r0, if_neg r1, if_neg r2, if_neg r0, if_neg r1, if_neg r2]
  · rw [r2] at hq
    refine M_weighted wk hp hn2 (fun τ o2 f2 h1 => hq τ o2 (f.trans f2) ?_)
    rw [hvu] at h1; exact h1
  · rw [r1] at hq
    refine M_pairsOf wk hp hn2 (fun τ o2 f2 h1 => hq τ o2 (f.trans f2) ?_)
    rw [hvu] at h1; exact h1
  · have hl : (srt (TL (vm σ) p.toNatClampNeg)).length = ptN (vm σ) p.toNatClampNeg := by rw [srt_len, TL_len]
    have mb : ∀ v, v ∈ srt (TL (vm σ) p.toNatClampNeg) → -60000000 ≤ v ∧ v ≤ 60000000 := fun v hv => ok.2 v ((srt_p _).mem_iff.mp hv)
    have tb := twZ_b (B := 60000000) ok.2 (by have := ok.1; omega)
    refine M_middle g.2 hl g.1 (by omega) (by omega) (fun j hj => by have := gD_b (B := 60000000) mb (k := j) (by omega); omega) (fun t b B hB hB2 hT => ?_)
    have qq : qd u (wL (wL u 67 25 t) 67 26 b) := (qd.refl.wL (by decide) (by omega)).wL (by decide) (by omega)
    refine hq _ (o.qd qq) (f.trans qq.1) ⟨t.toInt, B, by rw [wL_2, uLN (by decide), wL_2, uLS], by rw [wL_2, uLS]; exact hB, by omega, ?_, fun w => ?_⟩
    · rcases hB2 with e | e <;> rw [e] at hT <;> omega
    · unfold nmA nmB
      rw [if_pos r0, if_pos r0]
      refine lo_cross (by omega) (by decide) ?_
      omega
noncomputable def S_number (p r w : Int32) (κ : Kp) : Int64 := @ite _ (okS p ∧ (0 ≤ r.toInt ∧ r.toInt ≤ 3) ∧ 0 ≤ w.toInt ∧ w.toInt ≤ 1) (Classical.propDecidable _) (if ptN κ p.toNatClampNeg = 0 then -9223372036854775805 else Int64.ofInt (loW w (nmA κ p.toNatClampNeg r) (nmB κ p.toNatClampNeg r))) (-9223372036854775806)
theorem loW_b {w : Int32} {a b B : Int} (hb : 0 < b) (h1 : b ≤ B) (h2 : -B ≤ a ∧ a ≤ B) : -B ≤ loW w a b ∧ loW w a b ≤ B := by
  have := lo_b (a := a) hb
  unfold loW
  split <;> omega
theorem X_number (p r w : Int32) : SpX (wX10_number p r w) (S_number p r w) (fun κ => κ) := by
  intro σ post h hp
  have hh := hp σ h rfl fm.refl
  unfold S_number at hp hh
  have no : ¬ (okS p ∧ (0 ≤ r.toInt ∧ r.toInt ≤ 3) ∧ 0 ≤ w.toInt ∧ w.toInt ≤ 1) → post (-9223372036854775806) σ := fun q => by rwa [if_neg q] at hh
  unfold wX10_number
  refine noPiece_ok (br_n (fun h1 => ?_) (fun h1 => no (fun q => h1 q.1)))
  simp only [iLt, iLe, n0, n1, n4]
  refine ⟨fun q => no (by omega), fun q1 => ⟨fun q => no (by omega), fun q2 => ⟨fun q => no (by omega), fun q3 => ⟨fun q4 => ?_, fun q => no (by omega)⟩⟩⟩⟩
  have ok : okS p ∧ (0 ≤ r.toInt ∧ r.toInt ≤ 3) ∧ 0 ≤ w.toInt ∧ w.toInt ≤ 1 := ⟨h1, by omega, by omega⟩
  refine X_reckonBy h h1 (fun z τ f => ⟨fun e => (by cases e), fun _ => ?_⟩) (fun z τ x y f e1 e2 h3 h4 => ⟨fun _ => X_side e1 e2 h3 h4 (fun v hv => ?_), fun e => by cases e⟩)
  · have := hp τ (h.qx f) f.vx f.fm
    rw [if_pos ok, if_pos z] at this
    exact this
  · have := hp τ (h.qx f) f.vx f.fm
    rw [if_pos ok, if_neg z] at this
    have b := nm_b h.1 z r
    have lb := loW_b (w := w) (B := 84000000000000000) b.1.1 (by omega) b.2
    rw [oL hv (by omega) (by omega)]
    exact this
theorem M_number (p r w : Int32) : SpM (wX11_number p r w) (S_number p r w) (fun κ => κ) := by
  intro σ post h hp
  have hh := hp σ h rfl fx.refl
  unfold S_number at hp hh
  have no : ¬ (okS p ∧ (0 ≤ r.toInt ∧ r.toInt ≤ 3) ∧ 0 ≤ w.toInt ∧ w.toInt ≤ 1) → post (-9223372036854775806) σ := fun q => by rwa [if_neg q] at hh
  unfold wX11_number
  refine isPiece_ok (br_d' (fun h1 => ?_) (fun h1 => no (fun q => h1 q.1)))
  refine in_ok (br_d' (fun h2 => ?_) (fun h2 => no (fun q => h2 q.2.1)))
  refine in_ok (br_d (fun h3 => ?_) (fun h3 => no (fun q => h3 q.2.2)))
  rw [n0, show (3 : Int32).toInt = 3 from rfl] at h2
  rw [n0, n1] at h3
  have ok : okS p ∧ (0 ≤ r.toInt ∧ r.toInt ≤ 3) ∧ 0 ≤ w.toInt ∧ w.toInt ≤ 1 := ⟨h1, h2, h3⟩
  refine M_finds h h1 (fun z τ o f => ⟨fun _ => ?_, fun e => by cases e⟩) (fun z τ o f g => ⟨fun e => (by cases e), fun _ => ?_⟩)
  · have := hp τ o f.vm f.fx
    rw [if_pos ok, if_pos z] at this
    exact this
  · obtain ⟨T, B, g1, g2, g3, g4, g5⟩ := g
    refine M_lowest g1 g2 g4 g3 (fun v hv => ?_)
    rw [g5] at hv
    have := hp τ o f.vm f.fx
    rw [if_pos ok, if_neg z] at this
    have b := nm_b h.1 z r
    have lb := loW_b (w := w) (B := 84000000000000000) b.1.1 (by omega) b.2
    rw [oL hv (by omega) (by omega)]
    exact this

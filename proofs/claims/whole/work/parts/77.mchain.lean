/-! chains: the model -/
theorem tgn_up {κ : Kp} {a b p : Nat} (h : tgn κ a b p = true) : ∀ k, tgn κ a b (p + k) = true
  | 0 => h
  | k + 1 => by
    show (tgn κ a b (p + k) || _) = true
    rw [tgn_up h k, Bool.true_or]
theorem M_together {a b : Nat} {σ : Sto} {post : Bool → Sto → Prop} (h : OM σ) (ha : a < nH (vm σ)) (hb : b < nH (vm σ)) (hq : ∀ τ, OM τ → qm σ τ → qw σ τ → post (tgB (vm σ) a b) τ) : wX11_together (nI a) (nI b) σ post := by
  have hi := h.1
  have h14 := nH_le hi
  have hv : ∀ u, qm σ u → vm u = vm σ := fun u f => f.vm
  generalize hκ : vm σ = κ at *
  have ca : (nI a).toNatClampNeg = a := nI_clamp (by omega)
  have aT : (nI a).toInt = a := nI_toInt (by omega)
  have cb : (nI b).toNatClampNeg = b := nI_clamp (by omega)
  have bT : (nI b).toInt = b := nI_toInt (by omega)
  refine pk_loop (fun k p u => wX11_together_2 post (fun σ_1 => post false σ_1) (fun σ_2 => post true σ_2) k (nI a) (nI b) (nI p) u) (fun p u => OM u ∧ qm σ u ∧ qw σ u ∧ tgn κ a b p = false) 4 0 σ (Nat.zero_le _) ⟨h, qm.refl, qw.refl, rfl⟩ ?_ ?_
  · intro k u hu
    obtain ⟨a1, a2, a3, a4⟩ := hu
    unfold wX11_together_2
    refine ⟨fun _ => ?_, fun z => absurd (by decide) z⟩
    have := hq u a1 a2 a3
    unfold tgB at this
    rw [a4] at this
    exact this
  · intro k p u hp hu kk
    obtain ⟨a1, a2, a3, a4⟩ := hu
    have c2 : (nI p).toNatClampNeg = p := nI_clamp (by omega)
    have pT : (nI p).toInt = p := nI_toInt (by omega)
    have es : tgn κ a b (p + 1) = (tgn κ a b p || (pt κ p a && pt κ p b)) := rfl
    unfold wX11_together_2
    rw [nI_1]
    refine ⟨fun z => absurd z (nI_ge (b := 4) hp (by decide)), fun _ => takes_Q a1 (by omega) ⟨by omega, by omega⟩ (fun τ wk f f2 => ?_)⟩
    rw [ca, c2, hv u a2]
    have q3 := a2.trans f
    have w3 := a3.trans f2
    refine br_d' (fun z => takes_W wk (by omega) ⟨by omega, by omega⟩ ?_) (fun z => kk τ ⟨wk.1, q3, w3, ?_⟩)
    · rw [cb, c2, hv τ q3]
      refine br_d' (fun y => ?_) (fun y => kk τ ⟨wk.1, q3, w3, ?_⟩)
      · have t1 : tgn κ a b (p + 1) = true := by
          rw [es]
          unfold pt
          rw [decide_eq_true z, decide_eq_true y, Bool.and_true, Bool.or_true]
        have t2 := tgn_up t1 (3 - p)
        rw [show p + 1 + (3 - p) = 4 by omega] at t2
        have := hq τ wk.1 q3 w3
        unfold tgB at this
        rw [t2] at this
        exact this
      · rw [es, a4]
        unfold pt
        rw [decide_eq_false y, Bool.and_false]; rfl
    · rw [es, a4]
      unfold pt
      rw [decide_eq_false z, Bool.false_and]; rfl
def cM (σ : Sto) (a : Nat) : Int := (σ.2 83 a).toInt
theorem M_sqv {κ : Kp} {σ : Sto} (hi : Inv κ) (hv : vm σ = κ) {i : Nat} (h : i < nH κ) : ((σ.1 69 i).toInt64 * (σ.1 69 i).toInt64).toInt = wZ κ i := by
  have h14 := nH_le hi
  have wb := wZ_b hi h
  have ea : (σ.1 69 i).toInt = dZ κ i := by
    unfold dZ
    rw [← hv, vm_r (c := 2) (by omega) (by omega) (show i < 14 by omega), show (axm 2).2.2 + i = i from Nat.zero_add _]
    rfl
  unfold wZ at wb ⊢
  exact lMul (iL ea) (iL ea) (by omega) (by omega)
theorem lm1 : (-1 : Int64).toInt = -1 := rfl
/-- how far a sweep has come -/
def swp (n : Nat) (A : Nat → Nat → Bool) (w : Nat → Int) (c0 : Nat → Int) (a b : Nat) : Prop := ∀ a' b', a' < n → b' < n → (a' < a ∨ a' = a ∧ b' < b) → b' ≠ a' → A a' b' = true → c0 b' ≠ -1 → c0 a' ≠ -1 ∧ c0 a' ≤ c0 b' + w a'
def sw (κ : Kp) (t : Nat) (c0 : Nat → Int) (σ u : Sto) (x : Int32) (a b : Nat) : Prop := OM u ∧ qm σ u ∧ BF (nH κ) (tgB κ) (wZ κ) t (cM u) ∧ ((x = 0 ∧ (∀ y, y < nH κ → cM u y = c0 y) ∧ swp (nH κ) (tgB κ) (wZ κ) c0 a b) ∨ (x = 1 ∧ msZ (cM u) (nH κ) < msZ c0 (nH κ)))
theorem sw.next {κ : Kp} {t : Nat} {c0 : Nat → Int} {σ u u' : Sto} {x : Int32} {a b : Nat} (ht : t < nH κ) (h : sw κ t c0 σ u x a b) (o : OM u') (q : qm σ u') (e : ∀ y, y < nH κ → cM u' y = cM u y) (hs : x = 0 → b ≠ a → tgB κ a b = true → c0 b ≠ -1 → c0 a ≠ -1 ∧ c0 a ≤ c0 b + wZ κ a) : sw κ t c0 σ u' x a (b + 1) := by
  obtain ⟨h1, h2, h3, h4⟩ := h
  refine ⟨o, q, h3.congr ht e, ?_⟩
  rcases h4 with ⟨g1, g2, g3⟩ | ⟨g1, g2⟩
  · refine Or.inl ⟨g1, fun y hy => by rw [e y hy]; exact g2 y hy, fun a' b' ha hb hc hd he hf => ?_⟩
    by_cases z : a' = a ∧ b' = b
    · obtain ⟨rfl, rfl⟩ := z
      exact hs g1 hd he hf
    · exact g3 a' b' ha hb (by omega) hd he hf
  · exact Or.inr ⟨g1, by rw [msZ_congr e]; exact g2⟩
theorem M_sweepIn {κ : Kp} {t a : Nat} {c0 : Nat → Int} {σ u : Sto} {x : Int32} {post : Sto → Prop} {K : Int32 → Int32 → Sto → Prop} (hi : Inv κ) (hv : vm σ = κ) (ht : t < nH κ) (ha : a < nH κ) (h : sw κ t c0 σ u x a 0) (hq : ∀ v y, sw κ t c0 σ v y (a + 1) 0 → K y (nI a) v) : ∃ n64, wX11_costs_64 post K n64 x (nI a) ((0 : Int32)) u := by
  have h14 := nH_le hi
  have hv' : ∀ u, qm σ u → vm u = κ := fun u f => by rw [f.vm, hv]
  have ca : (nI a).toNatClampNeg = a := nI_clamp (by omega)
  have va : vp_in (nI a) 14 := vp_in_nI (by omega) (by omega)
  have wb := wZ_b hi ha
  have hw : ∀ a, a < nH κ → 1 ≤ wZ κ a ∧ wZ κ a ≤ 1000000 := fun a ha => wZ_b hi ha
  refine pk_loop (fun k b (y : Int32 × Sto) => wX11_costs_64 post K k y.1 (nI a) (nI b) y.2) (fun b y => sw κ t c0 σ y.2 y.1 a b) (nH κ) 0 (x, u) (Nat.zero_le _) h ?_ ?_
  · intro k y hy
    obtain ⟨x, v⟩ := y
    dsimp only at hy ⊢
    obtain ⟨b1, b2, b3, b4⟩ := hy
    have eH : v.1 67 1 = nI (nH κ) := by rw [← nH_I hi, ← hv' v b2]; rfl
    unfold wX11_costs_64
    rw [eH]
    refine ⟨fun _ => hq v x ⟨b1, b2, b3, b4.imp (fun g => ⟨g.1, g.2.1, fun a' b' ha hb hc hd he hf => g.2.2 a' b' ha hb (by omega) hd he hf⟩) id⟩, fun z => absurd (nI_le (Nat.le_refl _) (by omega)) z⟩
  · intro k b y hb hy kk
    obtain ⟨x, v⟩ := y
    dsimp only at hy ⊢
    have hy0 := hy
    obtain ⟨b1, b2, b3, b4⟩ := hy0
    have hvv := hv' v b2
    have eH : v.1 67 1 = nI (nH κ) := by rw [← nH_I hi, ← hvv]; rfl
    have cb : (nI b).toNatClampNeg = b := nI_clamp (by omega)
    have vb : vp_in (nI b) 14 := vp_in_nI (by omega) (by omega)
    have x01 : x = 0 ∨ x = 1 := b4.imp (fun g => g.1) (fun g => g.1)
    have c0v : x = 0 → ∀ y, y < nH κ → cM v y = c0 y := fun e => by
      rcases b4 with g | g
      · exact g.2.1
      · rw [e] at g; exact absurd g.1 (by decide)
    unfold wX11_costs_64
    rw [eH, ca, cb, nI_1, nI_eq (by omega) (by omega)]
    refine ⟨fun z => absurd z (nI_ge hb (by omega)), fun _ => ⟨fun z => kk (x, v) (hy.next ht b1 b2 (fun _ _ => rfl) (fun _ q => absurd z.symm q)), fun z => ⟨vb, fun w => kk (x, v) (hy.next ht b1 b2 (fun _ _ => rfl) (fun e _ _ q => ?_)), fun w => ?_⟩⟩⟩
    · refine absurd ?_ q
      rw [← c0v e b hb]
      unfold cM
      rw [w]; rfl
    · refine M_together b1 (by rw [hvv]; exact ha) (by rw [hvv]; exact hb) (fun τ o f f2 => ?_)
      rw [hvv]
      have q3 := b2.trans f
      have hvt := hv' τ q3
      have cc : ∀ y, y < nH κ → cM τ y = cM v y := fun y _ => by unfold cM; rw [f2.2.2 83 (by omega)]
      refine ⟨fun g => kk (x, τ) (hy.next ht o q3 cc (fun _ _ q => by rw [g] at q; cases q)), fun g => ⟨vb, va, ?_⟩⟩
      have cbn : cM τ b ≠ -1 := fun q => w (lExt (show (v.2 83 b).toInt = -1 by rw [← q, cc b hb]; rfl) lm1)
      have bft := b3.congr ht cc
      have bb := bft.2.2 b hb
      have cl := cnt_le (P := nn1 (cM τ)) (n := nH κ)
      have eB : (τ.2 83 b + (τ.1 69 a).toInt64 * (τ.1 69 a).toInt64).toInt = cM τ b + wZ κ a := lAdd rfl (M_sqv hi hvt ha) (by omega) (by omega)
      generalize hB : τ.2 83 b + (τ.1 69 a).toInt64 * (τ.1 69 a).toInt64 = B at eB
      have fin : ∀ (y : Int32) (vv : Int64), (y = 1 ∧ vv = B ∧ (cM τ a = -1 ∨ cM τ b + wZ κ a < cM τ a)) ∨ (y = 0 ∧ vv = τ.2 83 a ∧ ¬ (cM τ a = -1 ∨ cM τ b + wZ κ a < cM τ a)) → wX11_costs_176 post (wX11_costs_64 post K k) x (nI a) (nI b) y vv (nI a) τ := fun y vv hyv => by
        have qq : qd τ (wL τ 83 a vv) := qd.refl.wL (by decide) (by omega)
        have o2 : OM (wL τ 83 a vv) := o.qd qq
        have q4 : qm σ (wL τ 83 a vv) := q3.trans qq.1
        have oth : ∀ z, z < nH κ → z ≠ a → cM (wL τ 83 a vv) z = cM τ z := fun z _ e => by unfold cM; rw [wL_2, uLN e]
        have own : cM (wL τ 83 a vv) a = vv.toInt := by unfold cM; rw [wL_2, uLS]
        unfold wX11_costs_176 wX11_costs_186 wX11_costs_191
        rw [ca, nI_1]
        rcases hyv with ⟨y1, y2, y3⟩ | ⟨y1, y2, y3⟩
        · have st := bft.step hw h14 ht ha hb (fun e => z e.symm) g cbn y3 (c' := cM (wL τ 83 a vv)) (by rw [own, y2, eB]) oth
          have nx : sw κ t c0 σ (wL τ 83 a vv) 1 a (b + 1) := ⟨o2, q4, st.1, Or.inr ⟨rfl, by
            have l := st.2
            rw [msZ_congr cc] at l
            rcases b4 with g | g
            · rw [msZ_congr g.2.1] at l; exact l
            · omega⟩⟩
          exact ⟨va, fun _ => kk (1, _) nx, fun _ => ⟨fun e => by rw [y1] at e; exact absurd e (by decide), fun _ => kk (1, _) nx⟩⟩
        · have same : ∀ z, z < nH κ → cM (wL τ 83 a vv) z = cM v z := fun z hz => by
            by_cases e : z = a
            · rw [e, own, y2, ← cc a ha]; rfl
            · rw [oth z hz e, cc z hz]
          have nx : sw κ t c0 σ (wL τ 83 a vv) x a (b + 1) := hy.next ht o2 q4 same (fun e _ _ _ => by
            rw [← c0v e a ha, ← c0v e b hb, ← cc a ha, ← cc b hb]
            omega)
          refine ⟨va, fun e => ?_, fun e => ⟨fun _ => ?_, fun e2 => absurd y1 e2⟩⟩
          · rw [x01.resolve_left e] at nx; exact kk (1, _) nx
          · rw [e] at nx; exact kk (0, _) nx
      show vp_in (nI a) 14 ∧ _
      refine ⟨va, fun y => ?_, fun y => ⟨va, ?_⟩⟩
      · unfold wX11_costs_148 wX11_costs_153
        refine ⟨fun e => absurd e (by decide), fun _ => fin 1 _ (Or.inl ⟨rfl, hB, Or.inl ?_⟩)⟩
        unfold cM; rw [y]; rfl
      · have an : cM τ a ≠ -1 := fun q => y (lExt q lm1)
        have ea : (τ.2 83 a).toInt = cM τ a := rfl
        rw [show (τ.1 69 a).toInt64 * (τ.1 69 a).toInt64 = (τ.1 69 a).toInt64 * (τ.1 69 a).toInt64 from rfl, hB, lLe, ea, eB]
        unfold wX11_costs_148 wX11_costs_153
        rw [ca]
        refine ⟨fun q => ⟨fun _ => ⟨va, fin 0 _ (Or.inr ⟨rfl, rfl, by omega⟩)⟩, fun e => absurd rfl e⟩, fun q => ⟨fun e => absurd e (by decide), fun _ => fin 1 _ (Or.inl ⟨rfl, rfl, Or.inr (by omega)⟩)⟩⟩
theorem M_costs {t : Nat} {σ : Sto} {post : Sto → Prop} (h : OM σ) (ht : t < nH (vm σ)) (hq : ∀ τ, OM τ → qm σ τ → (∀ a, a < nH (vm σ) → cM τ a = cZ (vm σ) t a ∧ -1 ≤ cM τ a ∧ cM τ a ≤ 15000000) → post τ) : wX11_costs (nI t) σ post := by
  have hi := h.1
  have h14 := nH_le hi
  have hv : ∀ u, qm σ u → vm u = vm σ := fun u f => f.vm
  generalize hκ : vm σ = κ at *
  have ct : (nI t).toNatClampNeg = t := nI_clamp (by omega)
  have hw : ∀ a, a < nH κ → 1 ≤ wZ κ a ∧ wZ κ a ≤ 1000000 := fun a ha => wZ_b hi ha
  have wt := hw t ht
  unfold wX11_costs
  refine pk_loop (fun k i u => wX11_costs_2 post _ k (nI t) (nI i) u) (fun i u => qd σ u ∧ ∀ a, a < i → cM u a = if a = t then wZ κ t else -1) (nH κ) 0 σ (Nat.zero_le _) ⟨qd.refl, fun a x => absurd x (Nat.not_lt_zero _)⟩ ?_ ?_
  · intro k u hu
    obtain ⟨f, g⟩ := hu
    have eH : u.1 67 1 = nI (nH κ) := by rw [← nH_I hi, ← hv u f.1]; rfl
    unfold wX11_costs_2
    rw [eH]
    refine ⟨fun _ => ?_, fun z => absurd (nI_le (Nat.le_refl _) (by omega)) z⟩
    have c1 : cnt (nn1 (cM u)) (nH κ) = 1 := by
      have : ∀ n, n ≤ nH κ → cnt (nn1 (cM u)) n = if t < n then 1 else 0 := fun n => by
        induction n with
        | zero => intro _; rfl
        | succ n ih =>
          intro hn
          show cnt _ n + _ = _
          rw [ih (by omega)]
          unfold nn1
          rw [g n (by omega)]
          by_cases e : n = t
          · rw [if_pos e, if_neg (by omega), if_pos (decide_eq_true (by omega)), if_pos (by omega)]
          · rw [if_neg e]
            by_cases q : t < n
            · rw [if_pos q, if_pos (show t < n + 1 by omega)]; rfl
            · rw [if_neg q, if_neg (show ¬ t < n + 1 by omega)]; rfl
      rw [this _ (Nat.le_refl _), if_pos ht]
    have b0 : BF (nH κ) (tgB κ) (wZ κ) t (cM u) := by
      refine ⟨fun a ha q => ?_, ?_, fun a ha => ?_⟩
      · rw [g a ha] at q ⊢
        by_cases e : a = t
        · rw [if_pos e]; exact ⟨0, e, rfl⟩
        · rw [if_neg e] at q; exact absurd rfl q
      · rw [g t ht, if_pos rfl]; omega
      · rw [c1, g a ha]; split <;> omega
    refine lp2 (fun k (x : Int32) (v : Sto) => wX11_costs_45 post (fun σ_4 => post σ_4) k x v) (fun x v => OM v ∧ qm σ v ∧ BF (nH κ) (tgB κ) (wZ κ) t (cM v) ∧ (x = 1 ∨ x = 0 ∧ cls (nH κ) (tgB κ) (wZ κ) t (cM v))) (fun x v => msZ (cM v) (nH κ) + (if x = 0 then 0 else 1)) ?_ 1 u ⟨h.qd f, f.1, b0, Or.inl rfl⟩
    intro k x v hx kk
    obtain ⟨a1, a2, a3, a4⟩ := hx
    unfold wX11_costs_45
    refine ⟨fun e => ?_, fun e => ?_⟩
    · have cl : cls (nH κ) (tgB κ) (wZ κ) t (cM v) := by
        rcases a4 with g | g
        · rw [e] at g; exact absurd g (by decide)
        · exact g.2
      have cn := cnt_le (P := nn1 (cM v)) (n := nH κ)
      exact hq v a1 a2 (fun a ha => ⟨cstZ_eq a3.1 cl a ha, (a3.2.2 a ha).1, by have := (a3.2.2 a ha).2; omega⟩)
    · refine pk_loop (fun k2 a (y : Int32 × Sto) => wX11_costs_53 post _ k2 y.1 (nI a) y.2) (fun a y => sw κ t (cM v) σ y.2 y.1 a 0) (nH κ) 0 (0, v) (Nat.zero_le _) ⟨a1, a2, a3, Or.inl ⟨rfl, fun _ _ => rfl, fun a' b' _ _ hc => by omega⟩⟩ ?_ ?_
      · intro k2 y hy
        obtain ⟨y, v2⟩ := y
        dsimp only at hy ⊢
        obtain ⟨d1, d2, d3, d4⟩ := hy
        have eH : v2.1 67 1 = nI (nH κ) := by rw [← nH_I hi, ← hv v2 d2]; rfl
        unfold wX11_costs_53
        rw [eH]
        refine ⟨fun _ => kk y v2 ⟨d1, d2, d3, ?_⟩ ?_, fun z => absurd (nI_le (Nat.le_refl _) (by omega)) z⟩
        · rcases d4 with ⟨g1, g2, g3⟩ | ⟨g1, g2⟩
          · refine Or.inr ⟨g1, d3.2.1, fun a b ha hb hd he hf => ?_⟩
            rw [g2 a ha, g2 b hb] at *
            exact g3 a b ha hb (by omega) hd he hf
          · exact Or.inl g1
        · rcases d4 with ⟨g1, g2, g3⟩ | ⟨g1, g2⟩
          · rw [msZ_congr g2, if_pos g1, if_neg e]; omega
          · rw [if_neg e]
            split <;> omega
      · intro k2 a y ha hy kk2
        obtain ⟨y, v2⟩ := y
        dsimp only at hy ⊢
        have eH : v2.1 67 1 = nI (nH κ) := by rw [← nH_I hi, ← hv v2 hy.2.1]; rfl
        unfold wX11_costs_53
        rw [eH]
        refine ⟨fun z => absurd z (nI_ge ha (by omega)), fun _ => M_sweepIn hi hκ ht ha hy (fun v3 y3 h3 => ?_)⟩
        rw [nI_1]
        exact kk2 (y3, v3) h3
  · intro k i u hi2 hu kk
    obtain ⟨f, g⟩ := hu
    have hvu := hv u f.1
    have eH : u.1 67 1 = nI (nH κ) := by rw [← nH_I hi, ← hvu]; rfl
    have c2 : (nI i).toNatClampNeg = i := nI_clamp (by omega)
    have v14 : vp_in (nI i) 14 := vp_in_nI (by omega) (by omega)
    have nx : ∀ v : Int64, v.toInt = (if i = t then wZ κ t else -1) → wX11_costs_36 post (wX11_costs_2 post _ k) (nI t) (nI i) v (nI i) u := fun v e => by
      unfold wX11_costs_36
      rw [c2, nI_1]
      refine ⟨v14, kk _ ⟨f.wL (by decide) (by omega), fun a ha => ?_⟩⟩
      unfold cM
      rw [wL_2]
      by_cases q : a = i
      · rw [q, uLS]; exact e
      · rw [uLN q]; exact g a (by omega)
    unfold wX11_costs_2
    rw [eH, nI_eq (by omega) (by omega), c2]
    refine ⟨fun z => absurd z (nI_ge hi2 (by omega)), fun _ => ⟨fun z => nx _ (by rw [if_neg z]; rfl), fun z => ⟨v14, nx _ ?_⟩⟩⟩
    rw [if_pos z, M_sqv hi hvu hi2, z]
theorem M_areTwo {a t : Int32} {σ : Sto} {post : Bool → Sto → Prop} (h : OM σ) (hy : okHouse a (vm σ) ∧ okHouse t (vm σ) ∧ a ≠ t → post true σ) (hn : ¬ (okHouse a (vm σ) ∧ okHouse t (vm σ) ∧ a ≠ t) → post false σ) : wX11_areTwo a t σ post := by
  unfold wX11_areTwo
  refine isHouse_ok h.1.2.2.1.1 (br_d' (fun h1 => ?_) (fun h1 => hn (fun q => h1 q.1)))
  refine isHouse_ok h.1.2.2.1.1 (br_d' (fun h2 => ?_) (fun h2 => hn (fun q => h2 q.2.1)))
  exact ⟨fun e => hn (fun q => q.2.2 e), fun e => hy ⟨h1, h2, e⟩⟩
theorem M_chain (a t : Int32) : SpM (wX11_chain a t) (S_chain a t) (fun κ => κ) := by
  intro σ post h hp
  unfold wX11_chain
  refine M_areTwo h (fun ok => ⟨fun _ => ?_, fun e => by cases e⟩) (fun no => ⟨fun e => (by cases e), fun _ => ?_⟩)
  · unfold S_chain at hp
    rw [okH_I ok.2.1 h.1]
    refine M_costs h ok.2.1.lh (fun τ o f g => ⟨vp_iff.mpr (ok.1.r h.1), ?_⟩)
    have := hp τ o f.vm f.fx
    rw [if_pos ok] at this
    have ga := g a.toNatClampNeg ok.1.lh
    rw [oI (lI (show (τ.2 83 a.toNatClampNeg).toInt = _ from ga.1) (by omega) (by omega)) (by omega) (by omega)]
    exact this
  · have := hp σ h rfl fx.refl
    unfold S_chain at this
    rwa [if_neg no] at this
theorem M_viaLoop {s t : Nat} {σ : Sto} {post : Int32 → Sto → Prop} (h : OM σ) (hs : s < nH (vm σ)) (hc : ∀ a, a < nH (vm σ) → cM σ a = cZ (vm σ) t a ∧ -1 ≤ cM σ a ∧ cM σ a ≤ 15000000) (hq : ∀ τ, OM τ → qm σ τ → post (vaZ (vm σ) s t) τ) : ∃ n19, wX11_via_19 post (fun σ_1 => post ((-1 : Int32)) σ_1) (fun x3_2 σ_2 => post x3_2 σ_2) n19 (nI s) ((0 : Int32)) σ := by
  have hi := h.1
  have h14 := nH_le hi
  have hv : ∀ u, qm σ u → vm u = vm σ := fun u f => f.vm
  generalize hκ : vm σ = κ at *
  have cs : (nI s).toNatClampNeg = s := nI_clamp (by omega)
  have vs : vp_in (nI s) 14 := vp_in_nI (by omega) (by omega)
  have wb := wZ_b hi hs
  refine pk_loop (fun k i u => wX11_via_19 post (fun σ_1 => post ((-1 : Int32)) σ_1) (fun x3_2 σ_2 => post x3_2 σ_2) k (nI s) (nI i) u) (fun i u => OM u ∧ qm σ u ∧ u.2 83 = σ.2 83 ∧ ∀ b, b < i → vaB κ s t b = false) (nH κ) 0 σ (Nat.zero_le _) ⟨h, qm.refl, rfl, fun b x => absurd x (Nat.not_lt_zero _)⟩ ?_ ?_
  · intro k u hu
    obtain ⟨a1, a2, a3, a4⟩ := hu
    have eH : u.1 67 1 = nI (nH κ) := by rw [← nH_I hi, ← hv u a2]; rfl
    unfold wX11_via_19
    rw [eH]
    refine ⟨fun _ => ?_, fun z => absurd (nI_le (Nat.le_refl _) (by omega)) z⟩
    have e : vaZ κ s t = -1 := by
      unfold vaZ
      rw [fst_none (fun x _ b => a4 x (by omega))]
    have := hq u a1 a2
    rw [e] at this
    exact this
  · intro k i u hi2 hu kk
    obtain ⟨a1, a2, a3, a4⟩ := hu
    have hvu := hv u a2
    have eH : u.1 67 1 = nI (nH κ) := by rw [← nH_I hi, ← hvu]; rfl
    have c2 : (nI i).toNatClampNeg = i := nI_clamp (by omega)
    have v14 : vp_in (nI i) 14 := vp_in_nI (by omega) (by omega)
    have ci := hc i hi2
    have cS := hc s hs
    have no : ∀ u', OM u' → qm σ u' → u'.2 83 = σ.2 83 → vaB κ s t i = false → wX11_via_19 post (fun σ_1 => post ((-1 : Int32)) σ_1) (fun x3_2 σ_2 => post x3_2 σ_2) k (nI s) (nI (i + 1)) u' := fun u' o q e z => by
      refine kk u' ⟨o, q, e, fun b hb => ?_⟩
      by_cases e : b = i
      · rw [e]; exact z
      · exact a4 b (by omega)
    have eI : (u.2 83 i).toInt = cZ κ t i := by rw [a3, ← ci.1]; rfl
    have eS : (u.2 83 s).toInt = cZ κ t s := by rw [a3, ← cS.1]; rfl
    have zI : u.2 83 i = -1 ↔ cZ κ t i = -1 := by rw [lEq, eI, lm1]
    have zS : u.2 83 s = -1 ↔ cZ κ t s = -1 := by rw [lEq, eS, lm1]
    unfold wX11_via_19
    rw [eH, cs, c2, nI_1, nI_eq (by omega) (by omega), zI, zS]
    refine ⟨fun z => absurd z (nI_ge hi2 (by omega)), fun _ => ⟨fun z => no u a1 a2 a3 ?_, fun z => ⟨vs, fun w => no u a1 a2 a3 ?_, fun w => ⟨v14, fun y => no u a1 a2 a3 ?_, fun y => M_together a1 (by rw [hvu]; exact hs) (by rw [hvu]; exact hi2) (fun τ o f f2 => ?_)⟩⟩⟩⟩
    · unfold vaB
      rw [decide_eq_false (fun q => q z), Bool.false_and, Bool.false_and]
    · unfold vaB
      by_cases y : cZ κ t i = -1
      · rw [decide_eq_false (p := cZ κ t i ≠ -1) (fun q => q y), Bool.false_and, Bool.and_false]
      · rw [decide_eq_false (p := cZ κ t i + wZ κ s = cZ κ t s) (by omega), Bool.and_false, Bool.and_false]
    · unfold vaB
      rw [decide_eq_false (p := cZ κ t i ≠ -1) (fun q => q y), Bool.false_and, Bool.and_false]
    · rw [hvu]
      have q3 := a2.trans f
      have hvt := hv τ q3
      have e83 : τ.2 83 = σ.2 83 := by rw [f2.2.2 83 (by omega)]; exact a3
      refine ⟨fun g => no τ o q3 e83 ?_, fun g => ⟨v14, vs, ?_⟩⟩
      · unfold vaB
        rw [g, Bool.and_false, Bool.false_and]
      · have tI : (τ.2 83 i).toInt = cZ κ t i := by rw [e83, ← ci.1]; rfl
        have tS : (τ.2 83 s).toInt = cZ κ t s := by rw [e83, ← cS.1]; rfl
        have eB : (τ.2 83 i + (τ.1 69 s).toInt64 * (τ.1 69 s).toInt64).toInt = cZ κ t i + wZ κ s := lAdd tI (M_sqv hi hvt hs) (by omega) (by omega)
        refine ⟨vs, ?_⟩
        rw [lEq, eB, tS]
        refine ⟨fun q => no τ o q3 e83 ?_, fun q => ?_⟩
        · unfold vaB
          rw [decide_eq_false q, Bool.and_false, Bool.and_false]
        · have tr : vaB κ s t i = true := by
            unfold vaB
            rw [g, decide_eq_true z, decide_eq_true y, decide_eq_true q]; rfl
          have e : vaZ κ s t = nI i := by
            unfold vaZ
            rw [fst_spec (Nat.zero_le i) (by omega) tr (fun x _ b => a4 x b)]
          have := hq τ o q3
          rw [e] at this
          exact this
theorem M_via (a t : Int32) : SpM (wX11_via a t) (S_via a t) (fun κ => κ) := by
  intro σ post h hp
  unfold wX11_via
  refine M_areTwo h (fun ok => ⟨fun _ => ?_, fun e => by cases e⟩) (fun no => ⟨fun e => (by cases e), fun _ => ?_⟩)
  · unfold S_via at hp
    have eA := okH_I ok.1 h.1
    have eT := okH_I ok.2.1 h.1
    have la := ok.1.lh
    have lt := ok.2.1.lh
    generalize a.toNatClampNeg = s at *
    generalize t.toNatClampNeg = d at *
    rw [eA, eT]
    refine M_costs h lt (fun τ o f g => ?_)
    rw [← f.vm] at la g
    refine M_viaLoop o la g (fun υ o2 f2 => ?_)
    have := hp υ o2 (f.trans f2).vm (f.trans f2).fx
    rw [if_pos ok, ← f.vm] at this
    exact this
  · have := hp σ h rfl fx.refl
    unfold S_via at this
    rwa [if_neg no] at this

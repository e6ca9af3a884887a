/-! the model's works -/
theorem TM.keep {κ : Kp} {p q n : Nat} {σ τ : Sto} (hp : p < 4) (hq : q < 4) (hne : q ≠ p) (h : TM κ σ q n) (f : fmp p σ τ) : TM κ τ q n := by
  obtain ⟨h1, h2⟩ := h
  have h8 := h2.1
  refine ⟨by rw [f.2.2.1 q hne]; exact h1, h8, ?_⟩
  have g : PG (pC κ q) (pS κ q) n (mD σ q) (mS σ q) (mC σ q) := h2.2
  have k : ∀ i, i < n → (150 * q + i < 150 * p ∨ 150 * p + 150 ≤ 150 * q + i) := fun i hi => by omega
  exact g.congr (fun i hi => by unfold mD; rw [(f.2.2.2 _ (k i hi)).1]) (fun i hi => by unfold mS; rw [(f.2.2.2 _ (k i hi)).2.1]) (fun i hi => by unfold mC; rw [(f.2.2.2 _ (k i hi)).2.2])
theorem TM.cells {κ : Kp} {q n : Nat} {σ τ : Sto} (h : TM κ σ q n) (e1 : τ.1 76 = σ.1 76) (e2 : τ.1 77 = σ.1 77) (e3 : τ.2 78 = σ.2 78) (e4 : τ.1 79 = σ.1 79) : TM κ τ q n := by
  unfold TM mD mS mC
  rw [e1, e2, e3, e4]
  exact h
/-- what works() may change: its tables and its flag -/
def qw (σ τ : Sto) : Prop := (∀ c, c < 76 ∨ 81 < c → c ≠ 67 → τ.1 c = σ.1 c) ∧ (∀ i, i ≠ 13 → τ.1 67 i = σ.1 67 i) ∧ ∀ c, c < 76 ∨ 81 < c → τ.2 c = σ.2 c
theorem qw.refl {σ : Sto} : qw σ σ := ⟨fun _ _ _ => rfl, fun _ _ => rfl, fun _ _ => rfl⟩
theorem qw.trans {σ τ υ : Sto} (h1 : qw σ τ) (h2 : qw τ υ) : qw σ υ := ⟨fun c a b => (h2.1 c a b).trans (h1.1 c a b), fun i a => (h2.2.1 i a).trans (h1.2.1 i a), fun c a => (h2.2.2 c a).trans (h1.2.2 c a)⟩
theorem qw.of {s u : Sto} (b1 : ∀ c, c ≠ 80 → u.1 c = s.1 c) (b2 : ∀ c, c ≠ 81 → u.2 c = s.2 c) : qw s u := ⟨fun c a _ => b1 c (by omega), fun i _ => by rw [b1 67 (by omega)], fun c a => b2 c (by omega)⟩
theorem fmp.qw {p : Nat} {σ τ : Sto} (h : fmp p σ τ) : qw σ τ := ⟨fun c a _ => h.1 c (by omega) (by omega) (by omega), fun i _ => by rw [h.1 67 (by omega) (by omega) (by omega)], fun c a => h.2.1 c (by omega)⟩
theorem M_worksQ {σ : Sto} {post : Sto → Prop} (ho : OM σ) (h : ∀ τ, OM τ → DM (vm τ) τ → τ.1 67 13 = 1 → qm σ τ → qw σ τ → post τ) : wX11_works σ post := by
  have hi := ho.1
  have hle := nR_le hi
  unfold wX11_works
  refine ⟨fun q => ?_, fun q => ?_⟩
  · generalize hκ : vm σ = κ at *
    have f1 : qm σ (wI σ 67 13 1) := qm.refl.wI (by decide) (fun _ => by decide)
    have f1' : qw σ (wI σ 67 13 1) := ⟨fun c _ x => by rw [wI_n x], fun i x => by rw [wI_1, uN x], fun _ _ => rfl⟩
    refine pk_loop (fun k p s => wX11_works_15 post _ k (nI p) s) (fun p s => (qm σ s ∧ qw σ s) ∧ s.1 67 13 = 1 ∧ ∀ q, q < p → ∃ n, TM κ s q n) 4 0 (wI σ 67 13 1) (Nat.zero_le _) ⟨⟨f1, f1'⟩, by rw [wI_1, uS], fun q x => absurd x (Nat.not_lt_zero _)⟩ ?_ ?_
    · intro k s hs
      obtain ⟨a1, a2, a3⟩ := hs
      unfold wX11_works_15
      refine ⟨fun _ => ?_, fun z => absurd (nI_le (Nat.le_refl 4) (by omega)) z⟩
      refine pk_loop (fun k i u => wX11_works_33 post _ k (nI i) u) (fun i u => (∀ c, c ≠ 80 → u.1 c = s.1 c) ∧ (∀ c, c ≠ 81 → u.2 c = s.2 c) ∧ ∀ j, j < i → u.1 80 j = 0 ∧ u.2 81 j = 0) 56 0 s (Nat.zero_le _) ⟨fun _ _ => rfl, fun _ _ => rfl, fun j x => absurd x (Nat.not_lt_zero _)⟩ ?_ ?_
      · intro k2 u hu
        obtain ⟨b1, b2, b3⟩ := hu
        unfold wX11_works_33
        refine ⟨fun _ => ?_, fun z => absurd (nI_le (Nat.le_refl 56) (by omega)) z⟩
        have qsu : qm s u := ⟨fun c x => ⟨b1 c (fun e => by subst e; cases x), b2 c (fun e => by subst e; cases x)⟩, fun i _ => by rw [b1 67 (by omega)]⟩
        have tmu : ∀ q, q < 4 → ∃ n, TM κ u q n := fun q x => by
          obtain ⟨n, t⟩ := a3 q x
          exact ⟨n, t.cells (b1 _ (by omega)) (b1 _ (by omega)) (b2 _ (by omega)) (b1 _ (by omega))⟩
        refine pk_loop (fun k m w => wX11_works_61 post _ k (nI m) w) (fun m w => (∀ c, c ≠ 80 → w.1 c = u.1 c) ∧ (∀ c, c ≠ 81 → w.2 c = u.2 c) ∧ ∀ a p, a < 14 → p < 4 → (w.1 80 (4 * a + p)).toInt = cnt (kq κ a p) m ∧ (w.2 81 (4 * a + p)).toInt = tot (kq κ a p) (rdZ κ) m) (nR κ) 0 u (Nat.zero_le _) ⟨fun _ _ => rfl, fun _ _ => rfl, fun a p x y => by rw [(b3 (4 * a + p) (by omega)).1, (b3 (4 * a + p) (by omega)).2]; exact ⟨rfl, rfl⟩⟩ ?_ ?_
        · intro k3 w hw
          obtain ⟨d1, d2, d3⟩ := hw
          have quw : qm u w := ⟨fun c x => ⟨d1 c (fun e => by subst e; cases x), d2 c (fun e => by subst e; cases x)⟩, fun i _ => by rw [d1 67 (by omega)]⟩
          have qa : qm σ w := (a1.1.trans qsu).trans quw
          have hvw : vm w = κ := by rw [← hκ]; exact qa.vm
          have hn : w.1 67 4 = nI (nR κ) := by rw [← nR_I hi, ← hvw]; rfl
          have w13 : w.1 67 13 = 1 := by rw [d1 67 (by omega), b1 67 (by omega)]; exact a2
          have dm : DM κ w := ⟨fun p x => by
            obtain ⟨n, t1, t2⟩ := tmu p x
            have t := TM.cells (τ := w) ⟨t1, t2⟩ (d1 _ (by omega)) (d1 _ (by omega)) (d2 _ (by omega)) (d1 _ (by omega))
            exact ⟨n, t.1, t.2⟩, fun a p x y => d3 a p x y⟩
          unfold wX11_works_61
          rw [hn]
          refine ⟨fun _ => h w ⟨by rw [hvw]; exact hi, Or.inr ⟨w13, by rw [hvw]; exact dm⟩, fun s2 x => by rw [(qa.1 86 (by decide)).1, (qa.1 87 (by decide)).1]; exact ho.2.2 s2 x⟩ (by rw [hvw]; exact dm) w13 qa ((a1.2.trans (qw.of b1 b2)).trans (qw.of d1 d2)), fun z => absurd (nI_le (Nat.le_refl _) (by omega)) z⟩
        · intro k3 m w hm hw kk
          obtain ⟨d1, d2, d3⟩ := hw
          have quw : qm u w := ⟨fun c x => ⟨d1 c (fun e => by subst e; cases x), d2 c (fun e => by subst e; cases x)⟩, fun i _ => by rw [d1 67 (by omega)]⟩
          have qa : qm σ w := (a1.1.trans qsu).trans quw
          have hvw : vm w = κ := by rw [← hκ]; exact qa.vm
          have hn : w.1 67 4 = nI (nR κ) := by rw [← nR_I hi, ← hvw]; rfl
          have c2 : (nI m).toNatClampNeg = m := nI_clamp (by omega)
          have mT : (nI m).toInt = m := nI_toInt (by omega)
          have v150 : vp_in (nI m) 150 := vp_in_nI (by omega) (by omega)
          have gm := hi.2.2.2.2.2.2.2.1 m hm
          have hH := hi.2.2.1
          have h3 := hi.2.2.2.1
          have hm3 : (m : Int) < (κ 0 3).toInt := by unfold nR at hm; omega
          unfold wX11_works_61
          rw [hn]
          refine ⟨fun z => absurd z (nI_ge hm (by omega)), fun _ => M_isKnown (by omega) ⟨fun z => ?_, fun z => ⟨v150, v150, ?_⟩⟩⟩
          · rw [c2, hvw] at z
            rw [nI_1]
            refine kk w ⟨d1, d2, fun a p x y => ?_⟩
            have zf : kq κ a p m = false := by unfold kq; rw [z]; rfl
            show _ = ((cnt _ m + _ : Nat) : Int) ∧ _ = tot _ _ m + _
            rw [if_neg (by rw [zf]; decide), if_neg (by rw [zf]; decide), Int.add_zero]
            exact d3 a p x y
          · rw [c2, hvw] at z
            rw [c2, ← vm_rd (c := 3) (cell := 70) (by decide) (show m < 150 by omega), ← vm_rd (c := 4) (cell := 71) (by decide) (show m < 150 by omega), hvw]
            generalize hA : (κ 3 m).toNatClampNeg = A
            generalize hPp : (κ 4 m).toNatClampNeg = P
            have hAn : (A : Int) = (κ 3 m).toInt := by rw [← hA]; exact toN gm.1.1
            have hPn : (P : Int) = (κ 4 m).toInt := by rw [← hPp]; exact toN gm.2.1.1
            have eI : (4 : Int32) * κ 3 m + κ 4 m = nI (4 * A + P) := by
              have e1 : ((4 : Int32) * κ 3 m).toInt = 4 * (κ 3 m).toInt := iMul n4 rfl (by omega) (by omega)
              refine iExt (iAdd e1 rfl (by omega) (by omega)) ?_
              rw [nI_toInt (by omega)]
              omega
            have v56 : vp_in (nI (4 * A + P)) 56 := vp_in_nI (by omega) (by omega)
            rw [eI, nI_clamp (show 4 * A + P < 2 ^ 31 by omega)]
            refine ⟨v56, v56, v56, ?_⟩
            generalize hw2 : wI w 80 (4 * A + P) (w.1 80 (4 * A + P) + 1) = w2
            have q2 : qm w w2 := by rw [← hw2]; exact qm.refl.wI (by decide) (fun e => by omega)
            have o2 : ∀ c, c ≠ 80 → w2.1 c = w.1 c := fun c x => by rw [← hw2, wI_n x]
            have l2' : w2.2 = w.2 := by rw [← hw2]; rfl
            have hvw2 : vm w2 = κ := by rw [← hvw]; exact q2.vm
            refine M_reducedOf hi hvw2 ⟨by omega, by omega⟩ (fun p x => ?_) (fun r hr => ⟨v56, ?_⟩)
            · obtain ⟨n, t⟩ := tmu p x
              exact ⟨n, t.cells (by rw [o2 _ (by omega), d1 _ (by omega)]) (by rw [o2 _ (by omega), d1 _ (by omega)]) (by rw [l2', d2 _ (by omega)]) (by rw [o2 _ (by omega), d1 _ (by omega)])⟩
            · rw [c2] at hr
              rw [nI_1]
              have kqh : ∀ a p, kq κ a p m = decide (a = A ∧ p = P) := fun a p => by
                unfold kq
                rw [z, Bool.true_and, ← Bool.decide_and]
                exact decide_eq_decide.mpr (by omega)
              have rb := rdZ_b hi hm
              have g := d3 A P (by omega) (by omega)
              have sb := sM_b hi A P (show m ≤ nR κ by omega)
              refine kk _ ⟨fun c x => by rw [wL_1, o2 c x]; exact d1 c x, fun c x => by rw [wL_n x, l2']; exact d2 c x, fun a p x y => ?_⟩
              show _ = ((cnt _ m + _ : Nat) : Int) ∧ _ = tot _ _ m + _
              rw [kqh a p, wL_1, wL_2, l2', ← hw2, wI_1]
              by_cases e : a = A ∧ p = P
              · obtain ⟨rfl, rfl⟩ := e
                rw [uS, uLS, decide_eq_true ⟨rfl, rfl⟩, if_pos rfl, if_pos rfl]
                exact ⟨by rw [iAdd g.1 n1 (by omega) (by omega)]; omega, lAdd g.2 hr (by omega) (by omega)⟩
              · rw [uN (by omega), uLN (by omega), decide_eq_false e, if_neg (by decide), if_neg (by decide), Int.add_zero]
                exact d3 a p x y
      · intro k2 i u hi2 hu kk
        obtain ⟨b1, b2, b3⟩ := hu
        unfold wX11_works_33
        have v56 : vp_in (nI i) 56 := vp_in_nI (by omega) (by omega)
        rw [nI_clamp (by omega), nI_1]
        refine ⟨fun z => absurd z (nI_ge (b := 56) hi2 (by omega)), fun _ => ⟨v56, v56, ?_⟩⟩
        refine kk _ ⟨fun c x => by rw [wL_1, wI_n x]; exact b1 c x, fun c x => by rw [wL_n x, wI_2]; exact b2 c x, fun j x => ?_⟩
        rw [wL_1, wL_2, wI_1, wI_2]
        by_cases e : j = i
        · rw [e, uS, uLS]; exact ⟨rfl, rfl⟩
        · rw [uN e, uLN e]; exact b3 j (by omega)
    · intro k p s hp hs kk
      obtain ⟨a1, a2, a3⟩ := hs
      have hvs : vm s = κ := by rw [← hκ]; exact a1.1.vm
      unfold wX11_works_15
      have pT : (nI p).toInt = p := nI_toInt (by omega)
      have pC' : (nI p).toNatClampNeg = p := nI_clamp (by omega)
      refine ⟨fun z => absurd z (nI_ge (b := 4) hp (by omega)), fun _ => M_points (by rw [hvs]; exact hi) ⟨by omega, by omega⟩ (fun τ n e1 e2 e3 => ?_)⟩
      rw [pC'] at e1 e2 e3
      rw [hvs] at e3
      rw [nI_1]
      refine kk τ ⟨⟨a1.1.trans e1.qm, a1.2.trans e1.qw⟩, by rw [e1.1 67 (by omega) (by omega) (by omega)]; exact a2, fun q x => ?_⟩
      by_cases e : q = p
      · rw [e]; exact ⟨n, e2, e3⟩
      · obtain ⟨n', t⟩ := a3 q (by omega)
        exact ⟨n', t.keep hp (by omega) e e1⟩
  · have w := ho.2.1.resolve_left q
    exact h σ ho w.2 w.1 qm.refl qw.refl
theorem M_works {σ : Sto} {post : Sto → Prop} (ho : OM σ) (h : ∀ τ, OM τ → DM (vm τ) τ → τ.1 67 13 = 1 → qm σ τ → post τ) : wX11_works σ post := M_worksQ ho (fun τ a b c d _ => h τ a b c d)

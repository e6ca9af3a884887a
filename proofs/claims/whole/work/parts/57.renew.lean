/-! renew: the tables of a piece -/
theorem n14 : (14 : Int32).toInt = 14 := rfl
theorem n1000i : (1000 : Int32).toInt = 1000 := rfl
/-- what renew may change -/
def frn (p : Nat) (σ τ : Sto) : Prop := (∀ c, c ≠ 21 → c ≠ 23 + p → c ≠ 28 + p → c ≠ 33 + p → c ≠ 38 → c ≠ 40 + p → c ≠ 45 + p → τ.1 c = σ.1 c) ∧ (∀ c, c ≠ 37 → τ.2 c = σ.2 c) ∧ ∀ q, q ≠ p → τ.1 21 q = σ.1 21 q
theorem frn.trans {p : Nat} {σ τ υ : Sto} (h1 : frn p σ τ) (h2 : frn p τ υ) : frn p σ υ := ⟨fun c a b d e f g i => (h2.1 c a b d e f g i).trans (h1.1 c a b d e f g i), fun c a => (h2.2.1 c a).trans (h1.2.1 c a), fun q a => (h2.2.2 q a).trans (h1.2.2 q a)⟩
theorem fpz.frn {p : Nat} {σ τ : Sto} (h : fpz p σ τ) : frn p σ τ := ⟨fun c a b d e _ _ _ => h.1 c a b d e, fun c _ => by rw [h.2.1], h.2.2⟩
theorem frn.vx {p : Nat} {σ τ : Sto} (hp : p < 4) (h : frn p σ τ) : vx τ = vx σ := vx_congr2 (fun c a => h.1 c (by omega) (by omega) (by omega) (by omega) (by omega) (by omega) (by omega)) (congrFun (h.1 3 (by omega) (by omega) (by omega) (by omega) (by omega) (by omega) (by omega)) 3) (congrFun (h.1 8 (by omega) (by omega) (by omega) (by omega) (by omega) (by omega) (by omega)) 4)
theorem frn.fm {p : Nat} {σ τ : Sto} (hp : p < 4) (h : frn p σ τ) : fm σ τ := fun c a => ⟨h.1 c (by omega) (by omega) (by omega) (by omega) (by omega) (by omega) (by omega), h.2.1 c (by omega)⟩
theorem frn.wI {p c i : Nat} {v : Int32} {σ τ : Sto} (h : frn p σ τ) (hp : p < 4) (hc : c = 38 ∨ c = 40 + p ∨ c = 45 + p) : frn p σ (wI τ c i v) := ⟨fun c' a b d e f g k => by rw [wI_n (by omega)]; exact h.1 c' a b d e f g k, h.2.1, fun q a => by rw [wI_n (by omega)]; exact h.2.2 q a⟩
theorem frn.wA {p c : Nat} {f : Nat → Int32} {σ τ : Sto} (h : frn p σ τ) (hp : p < 4) (hc : c = 38 ∨ c = 40 + p ∨ c = 45 + p) : frn p σ (wA τ c f) := ⟨fun c' a b d e f g k => by rw [wA_n' (by omega)]; exact h.1 c' a b d e f g k, h.2.1, fun q a => by rw [wA_n' (by omega)]; exact h.2.2 q a⟩
theorem frn.wL {p i : Nat} {v : Int64} {σ τ : Sto} (h : frn p σ τ) : frn p σ (wL τ 37 i v) := ⟨h.1, fun c' a => by rw [wL_n a]; exact h.2.1 c' a, h.2.2⟩
/-- the piece's tables, as far as m readings -/
def RI (κ : Kp) (σ : Sto) (p m : Nat) (s : Sto) : Prop := frn p σ s ∧ (∃ n, TX κ s p n) ∧ (∀ h, h < 14 → (s.1 (40 + p) h).toInt = cnt (kq κ h p) m ∧ (s.2 37 h).toInt = tot (kq κ h p) (rdZ κ) m) ∧ (∀ r, r < m → kn κ r = true → (κ 4 r).toInt = p → (s.1 38 r).toInt = rdZ κ r) ∧ ∀ r, ¬ (kn κ r = true ∧ (κ 4 r).toInt = p) → s.1 38 r = σ.1 38 r
theorem TX.cells {κ : Kp} {σ τ : Sto} {p n : Nat} (h : TX κ σ p n) (e1 : τ.1 21 p = σ.1 21 p) (e2 : τ.1 (23 + p) = σ.1 (23 + p)) (e3 : τ.1 (28 + p) = σ.1 (28 + p)) (e4 : τ.1 (33 + p) = σ.1 (33 + p)) : TX κ τ p n := by
  unfold TX
  rw [e1, e2, e3, e4]
  exact h
theorem X_renew : RenewOk := by
  intro p σ post hp0 hp3 hi h
  have hp : okS p := ⟨hp0, hp3⟩
  have hl := hp.lt
  have hle := nR_le hi
  have hpn : ((p.toNatClampNeg : Nat) : Int) = p.toInt := toN hp0
  unfold wX7_renew
  refine X_findPoints hi hp (fun s2 n0 f2 t2 => ⟨hp.in, fillI_ok (by omega) (fillL_ok (by omega) ?_)⟩)
  generalize hκ : vx σ = κ at *
  generalize hs3 : wJ (wA s2 (40 + p.toNatClampNeg) (fun i => if i < 14 then 0 else s2.1 (40 + p.toNatClampNeg) i)) 37 (fun i => if i < 14 then 0 else (wA s2 (40 + p.toNatClampNeg) (fun i => if i < 14 then 0 else s2.1 (40 + p.toNatClampNeg) i)).2 37 i) = s3
  have s3o : ∀ c, c ≠ 40 + p.toNatClampNeg → s3.1 c = s2.1 c := fun c a => by
    rw [← hs3]
    show (wA s2 (40 + p.toNatClampNeg) _).1 c = _
    rw [wA_n' a]
  have s3l : ∀ c, c ≠ 37 → s3.2 c = s2.2 c := fun c a => by rw [← hs3]; simp [wJ, a]; rfl
  have s340 : s3.1 (40 + p.toNatClampNeg) = (fun i => if i < 14 then 0 else s2.1 (40 + p.toNatClampNeg) i) := by
    rw [← hs3]
    show (wA s2 (40 + p.toNatClampNeg) _).1 _ = _
    rw [wA_1']
  have s337 : ∀ i, i < 14 → s3.2 37 i = 0 := fun i hi2 => by rw [← hs3]; simp [wJ, hi2]
  have start : RI κ σ p.toNatClampNeg 0 s3 := by
    refine ⟨f2.frn.trans ⟨fun c a b d e f g k => s3o c (by omega), fun c a => s3l c a, fun q a => by rw [s3o 21 (by omega)]⟩, ⟨n0, t2.cells (by rw [s3o 21 (by omega)]) (s3o _ (by omega)) (s3o _ (by omega)) (s3o _ (by omega))⟩, fun a ha => ?_, fun r hr => absurd hr (Nat.not_lt_zero _), fun r _ => ?_⟩
    · rw [s340, s337 a ha]
      simp only [if_pos ha]
      exact ⟨rfl, rfl⟩
    · rw [s3o 38 (by omega), f2.1 38 (by omega) (by omega) (by omega) (by omega)]
  refine pk_loop (fun k m s => wX7_renew_27 post _ k p p (nI m) s) (fun m s => RI κ σ p.toNatClampNeg m s) (nR κ) 0 s3 (Nat.zero_le _) start ?_ ?_
  · intro k s hs
    have a1 := hs.1
    have hv : vx s = κ := by rw [← hκ]; exact a1.vx hl
    have hn : s.1 1 5 = nI (nR κ) := by have := nR_I (κ := vx s) (by rw [hv]; exact hi); rw [hv] at this; rw [← this, ← hv]; rfl
    unfold wX7_renew_27
    rw [hn]
    refine ⟨fun _ => ?_, fun q => absurd (nI_le (Nat.le_refl _) (by omega)) q⟩
    refine pk_loop (fun k a u => wX7_renew_131 post (fun σ_2 => post σ_2) k p p (nI a) u) (fun a u => RI κ σ p.toNatClampNeg (nR κ) u ∧ ∀ b, b < a → (u.1 (45 + p.toNatClampNeg) b).toInt = tL κ b p.toNatClampNeg) 14 0 s (Nat.zero_le _) ⟨hs, fun b hb => absurd hb (Nat.not_lt_zero _)⟩ ?_ ?_
    · intro k2 u hu
      obtain ⟨⟨b1, b2, b3, b4, b5⟩, b6⟩ := hu
      unfold wX7_renew_131
      refine ⟨fun _ => ?_, fun q => absurd (nI_le (Nat.le_refl 14) (by omega)) q⟩
      refine h u (by rw [← hκ]; exact b1.vx hl) (b1.fm hl) ?_ (fun q hq hne hd => ?_)
      · exact ⟨b2, fun a ha => ⟨(b3 a ha).1, b6 a ha⟩, fun r hr h1 h2 => b4 r hr h1 h2⟩
      · obtain ⟨⟨nq, d1, d2⟩, d3, d4⟩ := hd
        have cc : ∀ c, c ≠ 21 → c ≠ 23 + p.toNatClampNeg → c ≠ 28 + p.toNatClampNeg → c ≠ 33 + p.toNatClampNeg → c ≠ 38 → c ≠ 40 + p.toNatClampNeg → c ≠ 45 + p.toNatClampNeg → u.1 c = σ.1 c := b1.1
        refine ⟨⟨nq, by rw [b1.2.2 q hne]; exact d1, ?_⟩, fun a ha => ?_, fun r hr h1 h2 => ?_⟩
        · rw [cc (23 + q) (by omega) (by omega) (by omega) (by omega) (by omega) (by omega) (by omega), cc (28 + q) (by omega) (by omega) (by omega) (by omega) (by omega) (by omega) (by omega), cc (33 + q) (by omega) (by omega) (by omega) (by omega) (by omega) (by omega) (by omega)]
          exact d2
        · rw [cc (40 + q) (by omega) (by omega) (by omega) (by omega) (by omega) (by omega) (by omega), cc (45 + q) (by omega) (by omega) (by omega) (by omega) (by omega) (by omega) (by omega)]
          exact d3 a ha
        · rw [b5 r (fun z => hne (by omega))]
          exact d4 r hr h1 h2
    · intro k2 a u ha hu kk
      obtain ⟨⟨b1, b2, b3, b4, b5⟩, b6⟩ := hu
      unfold wX7_renew_131
      have c2 : (nI a).toNatClampNeg = a := nI_clamp (by omega)
      have v14 : vp_in (nI a) 14 := vp_in_nI (by omega) (by omega)
      have g := b3 a ha
      have sb := sM_b hi a p.toNatClampNeg (Nat.le_refl (nR κ))
      rw [c2]
      refine ⟨fun q => absurd q (nI_ge (b := 14) ha (by omega)), fun _ => ⟨hp.in, v14, v14, ?_⟩⟩
      refine near_ok g.2 (iL g.1) (by omega) (by omega) (fun r hr => ⟨v14, ?_⟩)
      rw [nI_1]
      have hr2 : r.toInt = tL κ a p.toNatClampNeg := by
        rw [hr]
        unfold tL
        by_cases z : cN κ a p.toNatClampNeg = 0
        · rw [if_pos z, if_pos (by unfold cN at z; omega)]
        · rw [if_neg z, if_neg (by unfold cN at z; omega)]; rfl
      have tb := tL_b hi a p.toNatClampNeg
      have hr3 : r.toInt32.toInt = tL κ a p.toNatClampNeg := lI hr2 (by omega) (by omega)
      refine kk _ ⟨⟨b1.wI hl (by omega), ?_, fun x hx => ?_, fun x y z w => ?_, fun x y => ?_⟩, fun b hb => ?_⟩
      · obtain ⟨nn, tt⟩ := b2
        exact ⟨nn, tt.cells (by rw [wI_n (by omega)]) (wI_n (by omega)) (wI_n (by omega)) (wI_n (by omega))⟩
      · rw [wI_n (by omega)]; exact b3 x hx
      · rw [wI_n (by omega)]; exact b4 x y z w
      · rw [wI_n (by omega)]; exact b5 x y
      · rw [wI_1]
        by_cases e : b = a
        · rw [e, uS]; exact hr3
        · rw [uN e]; exact b6 b (by omega)
  · intro k m s hm hs kk
    obtain ⟨a1, a2, a3, a4, a5⟩ := hs
    have hv : vx s = κ := by rw [← hκ]; exact a1.vx hl
    have hn : s.1 1 5 = nI (nR κ) := by have := nR_I (κ := vx s) (by rw [hv]; exact hi); rw [hv] at this; rw [← this, ← hv]; rfl
    have c2 : (nI m).toNatClampNeg = m := nI_clamp (by omega)
    have mT : (nI m).toInt = m := nI_toInt (by omega)
    have v150 : vp_in (nI m) 150 := vp_in_nI (by omega) (by omega)
    have gm := hi.2.2.2.2.2.2.2.1 m hm
    have hday := hi.1
    have hH := hi.2.2.1
    unfold wX7_renew_27
    rw [hn]
    refine ⟨fun q => absurd q (nI_ge hm (by omega)), fun _ => X_isKnownOf (by omega) hp0 ⟨fun z => ?_, fun z => ⟨v150, v150, ?_⟩⟩⟩
    · rw [c2, hv] at z
      rw [nI_1]
      have zf : ∀ a, kq κ a p.toNatClampNeg m = false := fun a => by
        unfold kq
        cases hk : kn κ m with
        | false => rfl
        | true =>
          rw [hk, Bool.and_true] at z
          rw [z]
          simp
      refine kk s ⟨a1, a2, fun a ha => ?_, fun r hr h1 h2 => ?_, a5⟩
      · have g := a3 a ha
        show _ = ((cnt _ m + _ : Nat) : Int) ∧ _ = tot _ _ m + _
        rw [if_neg (by rw [zf a]; decide), if_neg (by rw [zf a]; decide), Int.add_zero]
        exact g
      · rcases Nat.lt_or_ge r m with w | w
        · exact a4 r w h1 h2
        · have : r = m := by omega
          subst this
          rw [h1, decide_eq_true h2] at z
          cases z
    · rw [c2, hv] at z
      simp only [Bool.and_eq_true, decide_eq_true_eq] at z
      obtain ⟨z1, z2⟩ := z
      obtain ⟨nn, tt⟩ := a2
      rw [c2]
      have e15 : s.1 15 m = κ 3 m := by rw [← vx_rd (c := 3) (by decide) (show m < 150 by omega), hv]
      have e18 : s.1 18 m = κ 6 m := by rw [← vx_rd (c := 6) (by decide) (show m < 150 by omega), hv]
      have e17 : s.1 17 m = κ 5 m := by rw [← vx_rd (c := 5) (by decide) (show m < 150 by omega), hv]
      rw [e17, e18]
      refine X_driftOn hi hp ⟨gm.2.2.1.1, by omega⟩ tt (fun r hr hrb => ?_)
      have h14 : (κ 3 m).toNatClampNeg < 14 := by rw [tnc]; omega
      have v14 : vp_in (κ 3 m) 14 := vp_iff.mpr (by omega)
      refine ⟨v150, v150, by rw [e15]; exact v14, v150, by rw [e15]; exact v14, v150, by rw [e15]; exact v14, by rw [e15]; exact v14, ?_⟩
      rw [e15]
      have m1 : ((1000 : Int32) * κ 6 m).toInt = 1000 * (κ 6 m).toInt := iMul n1000i rfl (by omega) (by omega)
      have m2 : ((1000 : Int32) * κ 6 m - r).toInt = rdZ κ m := by
        rw [iSub m1 rfl (by omega) (by omega), hr]
        unfold rdZ
        rw [z1, Int.toNat_natCast]
        rfl
      have rb := rdZ_b hi hm
      rw [wI_1, uS, wI_n (show 40 + p.toNatClampNeg ≠ 38 by omega), nI_1]
      generalize hh : (κ 3 m).toNatClampNeg = hN at *
      have hhn : ((hN : Nat) : Int) = (κ 3 m).toInt := by rw [← hh]; exact toN gm.1.1
      have kqh : ∀ a, kq κ a p.toNatClampNeg m = decide (a = hN) := fun a => by
        unfold kq
        rw [z2, z1, Bool.true_and, decide_eq_true (p := (p.toNatClampNeg : Int) = p.toNatClampNeg) rfl, Bool.and_true]
        exact decide_eq_decide.mpr (by omega)
      have g := a3 hN h14
      have sb := sM_b hi hN p.toNatClampNeg (show m ≤ nR κ by omega)
      refine kk _ ⟨((a1.wI hl (Or.inl rfl)).wL).wI hl (by omega), ⟨nn, tt.cells ?_ ?_ ?_ ?_⟩, fun a ha => ?_, fun x hx y w => ?_, fun x y => ?_⟩
      · rw [wI_n (by omega), wL_1, wI_n (by omega)]
      · rw [wI_n (by omega), wL_1, wI_n (by omega)]
      · rw [wI_n (by omega), wL_1, wI_n (by omega)]
      · rw [wI_n (by omega), wL_1, wI_n (by omega)]
      · show _ = ((cnt _ m + _ : Nat) : Int) ∧ _ = tot _ _ m + _
        rw [kqh a, wI_1, wI_2, wL_2]
        by_cases e : a = hN
        · subst e
          rw [uS, uLS, decide_eq_true rfl, if_pos rfl, if_pos rfl]
          exact ⟨by rw [iAdd g.1 n1 (by omega) (by omega)]; omega, lAdd g.2 (iL m2) (by omega) (by omega)⟩
        · rw [uN e, uLN e, decide_eq_false e, if_neg (by decide), if_neg (by decide), Int.add_zero, wL_1, wI_2, wI_n (show 40 + p.toNatClampNeg ≠ 38 by omega)]
          exact a3 a ha
      · rw [wI_n (show 38 ≠ 40 + p.toNatClampNeg by omega), wL_1, wI_1]
        by_cases e : x = m
        · rw [e, uS]; exact m2
        · rw [uN e]; exact a4 x (by omega) y w
      · rw [wI_n (show 38 ≠ 40 + p.toNatClampNeg by omega), wL_1, wI_1, uN (fun e => y (by rw [e]; exact ⟨z2, z1⟩))]
        exact a5 x y

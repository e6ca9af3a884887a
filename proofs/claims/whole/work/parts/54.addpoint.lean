theorem X_open {p a o : Int32} {n : Nat} {σ : Sto} {post : Sto → Prop} (hp : okS p) (hn : σ.1 21 p.toNatClampNeg = nI n) (hn7 : n ≤ 7) (ha : 0 ≤ a.toInt ∧ a.toInt ≤ n)
    (h : post (wI (st3 σ p.toNatClampNeg (upd (shf (σ.1 (23 + p.toNatClampNeg)) n a.toNatClampNeg) a.toNatClampNeg o) (upd (shf (σ.1 (28 + p.toNatClampNeg)) n a.toNatClampNeg) a.toNatClampNeg 0) (upd (shf (σ.1 (33 + p.toNatClampNeg)) n a.toNatClampNeg) a.toNatClampNeg 0)) 21 p.toNatClampNeg (nI (n + 1)))) : wX7_openPoint p a o σ post := by
  have hl := hp.lt
  have ean : a = nI a.toNatClampNeg := iExt rfl (by rw [nI_toInt (by rw [tnc]; omega), tnc]; omega)
  have han : a.toNatClampNeg ≤ n := by rw [tnc]; omega
  generalize hP : p.toNatClampNeg = P at *
  generalize hA : a.toNatClampNeg = A at *
  unfold wX7_openPoint
  rw [hP, hn]
  refine ⟨hp.in, ?_⟩
  have := lp1 (fun k i => wX7_openPoint_8 post (fun (x1_1 : Int32) (x2_1 : Int32) (x3_1 : Int32) (σ_1 : Sto) => vp_in x1_1 4 ∧ (vp_in x2_1 8 ∧ (vp_in x1_1 4 ∧ (vp_in x2_1 8 ∧ (vp_in x1_1 4 ∧ (vp_in x2_1 8 ∧ (vp_in x1_1 4 ∧ (vp_in x1_1 4 ∧ (post (wI (wI (wI (wI σ_1 (23 + x1_1.toNatClampNeg) x2_1.toNatClampNeg x3_1) (28 + x1_1.toNatClampNeg) x2_1.toNatClampNeg ((0 : Int32))) (33 + x1_1.toNatClampNeg) x2_1.toNatClampNeg ((0 : Int32))) 21 x1_1.toNatClampNeg (((wI (wI (wI σ_1 (23 + x1_1.toNatClampNeg) x2_1.toNatClampNeg x3_1) (28 + x1_1.toNatClampNeg) x2_1.toNatClampNeg ((0 : Int32))) (33 + x1_1.toNatClampNeg) x2_1.toNatClampNeg ((0 : Int32))).1 21 x1_1.toNatClampNeg) + ((1 : Int32))))))))))))) k p a o (nI i) (st3 σ P (shf (σ.1 (23 + P)) n i) (shf (σ.1 (28 + P)) n i) (shf (σ.1 (33 + P)) n i))) (fun i : Nat => A ≤ i ∧ i ≤ n) (fun i => i - A) ?_ n ⟨han, Nat.le_refl _⟩
  · rw [shf_n, shf_n, shf_n, st3_self hl] at this
    exact this
  · intro k i hI kk
    obtain ⟨i1, i2⟩ := hI
    unfold wX7_openPoint_8
    have c2 : (nI i).toNatClampNeg = i := nI_clamp (by omega)
    refine ⟨fun q => ?_, fun q => ?_⟩
    · have eA : i = A := by rw [ean, nI_leI (by omega) (by omega)] at q; omega
      subst eA
      have v8 : vp_in a 8 := by rw [ean]; exact vp_in_nI (by omega) (by omega)
      refine ⟨hp.in, v8, hp.in, v8, hp.in, v8, hp.in, hp.in, ?_⟩
      rw [hP, hA, st3_w1 hl, st3_w2 hl, st3_w3 hl, st3_o (by omega) (by omega) (by omega), hn, nI_1]
      exact h
    · have i3 : A < i := by rw [ean, nI_leI (by omega) (by omega)] at q; omega
      have eSub : nI i - 1 = nI (i - 1) := by rw [show (1 : Int32) = nI 1 from rfl, pk_sub (by omega)]
      have c1 : (nI (i - 1)).toNatClampNeg = i - 1 := nI_clamp (by omega)
      have eDec : nI i + (-1) = nI (i - 1) := by
        have := pk_m1 (i - 1)
        rw [show i - 1 + 1 = i by omega] at this
        exact this
      have v1 : vp_in (nI (i - 1)) 8 := vp_in_nI (by omega) (by omega)
      have v2 : vp_in (nI i) 8 := vp_in_nI (by omega) (by omega)
      rw [eSub, eDec, c1, c2, hP]
      refine ⟨hp.in, hp.in, v1, v2, hp.in, hp.in, v1, v2, hp.in, hp.in, v1, v2, ?_⟩
      rw [st3_1 hl, st3_w1 hl, st3_2 hl, st3_w2 hl, st3_3, st3_w3 hl, shf_step i2 (by omega), shf_step i2 (by omega), shf_step i2 (by omega)]
      exact kk (i - 1) ⟨by omega, by omega⟩ (by omega)
/-- only the piece's own table has changed -/
def fpz (p : Nat) (σ τ : Sto) : Prop := (∀ c, c ≠ 21 → c ≠ 23 + p → c ≠ 28 + p → c ≠ 33 + p → τ.1 c = σ.1 c) ∧ τ.2 = σ.2 ∧ ∀ q, q ≠ p → τ.1 21 q = σ.1 21 q
theorem fpz.refl {p : Nat} {σ : Sto} : fpz p σ σ := ⟨fun _ _ _ _ _ => rfl, rfl, fun _ _ => rfl⟩
theorem fpz.trans {p : Nat} {σ τ υ : Sto} (h1 : fpz p σ τ) (h2 : fpz p τ υ) : fpz p σ υ := ⟨fun c a b d e => (h2.1 c a b d e).trans (h1.1 c a b d e), h2.2.1.trans h1.2.1, fun q a => (h2.2.2 q a).trans (h1.2.2 q a)⟩
def tD (σ : Sto) (p : Nat) : Nat → Int := fun i => (σ.1 (23 + p) i).toInt
def tS (σ : Sto) (p : Nat) : Nat → Int := fun i => (σ.1 (28 + p) i).toInt
def tC (σ : Sto) (p : Nat) : Nat → Int := fun i => (σ.1 (33 + p) i).toInt
theorem insF_map {f : Nat → Int32} {a j : Nat} {v : Int32} : (insF f a v j).toInt = insF (fun i => (f i).toInt) a v.toInt j := by
  unfold insF
  split
  · rfl
  · split <;> rfl
theorem X_add78 {p a v : Int32} {σ : Sto} {post : Sto → Prop} (hp : okS p) (ha : vp_in a 8) (h : post (wI (wI σ (28 + p.toNatClampNeg) a.toNatClampNeg (σ.1 (28 + p.toNatClampNeg) a.toNatClampNeg + v)) (33 + p.toNatClampNeg) a.toNatClampNeg (σ.1 (33 + p.toNatClampNeg) a.toNatClampNeg + 1))) : wX7_addToPoint_78 post p v a σ := by
  unfold wX7_addToPoint_78
  rw [wI_n (show 33 + p.toNatClampNeg ≠ 28 + p.toNatClampNeg by omega)]
  exact ⟨hp.in, ha, ha, hp.in, ha, ha, h⟩
theorem X_addToPoint {p o v : Int32} {n : Nat} {σ : Sto} {post : Sto → Prop} {pc : Nat → Nat} {ps : Nat → Int} (hp : okS p) (hn : σ.1 21 p.toNatClampNeg = nI n) (hn7 : n ≤ 7) (ho : 0 ≤ o.toInt ∧ o.toInt < 400) (hv : -20000 ≤ v.toInt ∧ v.toInt ≤ 20000)
    (hT : PG pc ps n (tD σ p.toNatClampNeg) (tS σ p.toNatClampNeg) (tC σ p.toNatClampNeg)) (hz : ∀ d, pc d = 0 → ps d = 0) (hb : ∀ d, (-160000 ≤ ps d ∧ ps d ≤ 160000) ∧ pc d ≤ 8)
    (h : ∀ (τ : Sto) (n' : Nat), fpz p.toNatClampNeg σ τ → τ.1 21 p.toNatClampNeg = nI n' → n' ≤ n + 1 → PG (fun d => pc d + if d = o.toNatClampNeg then 1 else 0) (fun d => ps d + if d = o.toNatClampNeg then v.toInt else 0) n' (tD τ p.toNatClampNeg) (tS τ p.toNatClampNeg) (tC τ p.toNatClampNeg) → post τ) : wX7_addToPoint p o v σ post := by
  have hl := hp.lt
  have hon : ((o.toNatClampNeg : Nat) : Int) = o.toInt := toN ho.1
  unfold wX7_addToPoint
  refine ⟨hp.in, ?_⟩
  have fin : ∀ a : Nat, a ≤ n → (∀ j, j < a → tD σ p.toNatClampNeg j < o.toInt) → (a = n ∨ o.toInt ≤ tD σ p.toNatClampNeg a) → wX7_addToPoint_37 post p o v p (nI a) σ := by
    intro a ha hlow hup
    have c2 : (nI a).toNatClampNeg = a := nI_clamp (by omega)
    have aT : (nI a).toInt = a := nI_toInt (by omega)
    have v8 : vp_in (nI a) 8 := vp_in_nI (by omega) (by omega)
    have new : (a = n ∨ o.toInt < tD σ p.toNatClampNeg a) → wX7_addToPoint_57 post p o v p (nI a) σ := fun hup2 => by
      unfold wX7_addToPoint_57
      rw [hn]
      refine ⟨hp.in, fun _ => ?_, fun z => absurd (nI_lt (a := n) (b := 8) (by omega) (by decide)) z⟩
      refine X_open hp hn hn7 (by omega) ?_
      rw [c2]
      refine X_add78 hp v8 ?_
      rw [c2, wI_n (show 28 + p.toNatClampNeg ≠ 21 by omega), wI_n (show 33 + p.toNatClampNeg ≠ 21 by omega), st3_2 hl, st3_3, uS, uS]
      have e01 : (0 : Int32) + v = v := iExt (iAdd (a := 0) (b := v.toInt) rfl rfl (by omega) (by omega)) (by omega)
      have e02 : (0 : Int32) + 1 = 1 := rfl
      rw [e01, e02]
      generalize hρ : st3 σ p.toNatClampNeg (upd (shf (σ.1 (23 + p.toNatClampNeg)) n a) a o) (upd (shf (σ.1 (28 + p.toNatClampNeg)) n a) a 0) (upd (shf (σ.1 (33 + p.toNatClampNeg)) n a) a 0) = ρ
      have r1 : ρ.1 (23 + p.toNatClampNeg) = upd (shf (σ.1 (23 + p.toNatClampNeg)) n a) a o := by rw [← hρ, st3_1 hl]
      have r2 : ρ.1 (28 + p.toNatClampNeg) = upd (shf (σ.1 (28 + p.toNatClampNeg)) n a) a 0 := by rw [← hρ, st3_2 hl]
      have r3 : ρ.1 (33 + p.toNatClampNeg) = upd (shf (σ.1 (33 + p.toNatClampNeg)) n a) a 0 := by rw [← hρ, st3_3]
      have ro : ∀ c, c ≠ 23 + p.toNatClampNeg → c ≠ 28 + p.toNatClampNeg → c ≠ 33 + p.toNatClampNeg → ρ.1 c = σ.1 c := fun c x y z => by rw [← hρ, st3_o x y z]
      have rl : ρ.2 = σ.2 := by rw [← hρ]; rfl
      have uu : ∀ (f : Nat → Int32) (x y : Int32), upd (upd f a x) a y = upd f a y := fun f x y => by funext j; unfold upd; by_cases e : j = a <;> simp [e]
      generalize hτ : wI (wI (wI ρ 21 p.toNatClampNeg (nI (n + 1))) (28 + p.toNatClampNeg) a v) (33 + p.toNatClampNeg) a 1 = τ
      have t1 : τ.1 (23 + p.toNatClampNeg) = upd (shf (σ.1 (23 + p.toNatClampNeg)) n a) a o := by rw [← hτ, wI_n (by omega), wI_n (by omega), wI_n (by omega), r1]
      have t2 : τ.1 (28 + p.toNatClampNeg) = upd (shf (σ.1 (28 + p.toNatClampNeg)) n a) a v := by rw [← hτ, wI_n (by omega), wI_1, wI_n (by omega), r2, uu]
      have t3 : τ.1 (33 + p.toNatClampNeg) = upd (shf (σ.1 (33 + p.toNatClampNeg)) n a) a 1 := by rw [← hτ, wI_1, wI_n (by omega), wI_n (by omega), r3, uu]
      have t21 : τ.1 21 = upd (σ.1 21) p.toNatClampNeg (nI (n + 1)) := by rw [← hτ, wI_n (by omega), wI_n (by omega), wI_1, ro 21 (by omega) (by omega) (by omega)]
      refine h τ (n + 1) ⟨fun c x1 x2 x3 x4 => by rw [← hτ, wI_n x4, wI_n x3, wI_n x1, ro c x2 x3 x4], by rw [← hτ]; exact rl, fun q x => by rw [t21, uN x]⟩ (by rw [t21, uS]) (Nat.le_refl _) ?_
      refine (hT.ins (v := v.toInt) hz (by omega) ha (fun j x => by rw [hon]; exact hlow j x) (by rw [hon]; exact hup2)).congr (fun i x => ?_) (fun i x => ?_) (fun i x => ?_)
      · show (τ.1 (23 + p.toNatClampNeg) i).toInt = _
        rw [t1, shf_ins ha (by omega), insF_map, ← hon]
        rfl
      · show (τ.1 (28 + p.toNatClampNeg) i).toInt = _
        rw [t2, shf_ins ha (by omega), insF_map]
        rfl
      · show (τ.1 (33 + p.toNatClampNeg) i).toInt = _
        rw [t3, shf_ins ha (by omega), insF_map]
        rfl
    unfold wX7_addToPoint_37
    rw [hn]
    refine ⟨hp.in, fun q => new (Or.inl (by rw [nI_eq (by omega) (by omega)] at q; exact q)), fun q => ⟨v8, fun q2 => ?_, fun q2 => new (Or.inr ?_)⟩⟩
    · have hne : a ≠ n := fun e => q (by rw [e])
      have han : a < n := by omega
      rw [c2] at q2
      have g := hT.2.1 a han
      have bb := hb (tD σ p.toNatClampNeg a).toNat
      have gS : (σ.1 (28 + p.toNatClampNeg) a).toInt = ps (tD σ p.toNatClampNeg a).toNat := g.2.2.2.1
      have gC : (σ.1 (33 + p.toNatClampNeg) a).toInt = pc (tD σ p.toNatClampNeg a).toNat := g.2.2.2.2
      refine X_add78 hp v8 ?_
      rw [c2]
      generalize hτ : wI (wI σ (28 + p.toNatClampNeg) a (σ.1 (28 + p.toNatClampNeg) a + v)) (33 + p.toNatClampNeg) a (σ.1 (33 + p.toNatClampNeg) a + 1) = τ
      have t1 : τ.1 (23 + p.toNatClampNeg) = σ.1 (23 + p.toNatClampNeg) := by rw [← hτ, wI_n (by omega), wI_n (by omega)]
      have t2 : τ.1 (28 + p.toNatClampNeg) = upd (σ.1 (28 + p.toNatClampNeg)) a (σ.1 (28 + p.toNatClampNeg) a + v) := by rw [← hτ, wI_n (by omega), wI_1]
      have t3 : τ.1 (33 + p.toNatClampNeg) = upd (σ.1 (33 + p.toNatClampNeg)) a (σ.1 (33 + p.toNatClampNeg) a + 1) := by rw [← hτ, wI_1, wI_n (by omega)]
      have t21 : τ.1 21 = σ.1 21 := by rw [← hτ, wI_n (by omega), wI_n (by omega)]
      refine h τ n ⟨fun c x1 x2 x3 x4 => by rw [← hτ, wI_n x4, wI_n x3], by rw [← hτ]; rfl, fun q x => by rw [t21]⟩ (by rw [t21, hn]) (by omega) ?_
      have q3 : tD σ p.toNatClampNeg a = o.toNatClampNeg := by rw [hon, ← q2]; rfl
      refine (hT.add (v := v.toInt) han q3).congr (fun i x => ?_) (fun i x => ?_) (fun i x => ?_)
      · show (τ.1 (23 + p.toNatClampNeg) i).toInt = _
        rw [t1]; rfl
      · show (τ.1 (28 + p.toNatClampNeg) i).toInt = _
        rw [t2]
        unfold upd
        by_cases e : i = a
        · rw [if_pos e, if_pos e]
          exact iAdd rfl rfl (by omega) (by omega)
        · rw [if_neg e, if_neg e]; rfl
      · show (τ.1 (33 + p.toNatClampNeg) i).toInt = _
        rw [t3]
        unfold upd
        by_cases e : i = a
        · rw [if_pos e, if_pos e]
          exact iAdd rfl (by decide) (by omega) (by omega)
        · rw [if_neg e, if_neg e]; rfl
    · have hne : a ≠ n := fun e => q (by rw [e])
      rw [c2, iEq] at q2
      have := hup.resolve_left hne
      have e : (σ.1 (23 + p.toNatClampNeg) a).toInt = tD σ p.toNatClampNeg a := rfl
      omega
  refine lp1 (fun k i => wX7_addToPoint_11 post (fun x1_1 x2_1 x3_1 x4_1 x5_1 σ_1 => wX7_addToPoint_37 post x1_1 x2_1 x3_1 x4_1 x5_1 σ_1) k p o v p (nI i) σ) (fun i : Nat => i ≤ n ∧ ∀ j, j < i → tD σ p.toNatClampNeg j < o.toInt) (fun i => n - i) ?_ 0 ⟨Nat.zero_le _, fun j hj => absurd hj (Nat.not_lt_zero _)⟩
  intro k i hI kk
  obtain ⟨h1, h2⟩ := hI
  unfold wX7_addToPoint_11
  rw [hn]
  have c2 : (nI i).toNatClampNeg = i := nI_clamp (by omega)
  refine ⟨hp.in, fun q => fin i h1 h2 (Or.inl ?_), fun q => ?_⟩
  · rw [nI_leI (by omega) (by omega)] at q; omega
  · have hlt : i < n := by rw [nI_leI (by omega) (by omega)] at q; omega
    refine ⟨vp_in_nI (by omega) (by omega), fun z => fin i h1 h2 (Or.inr ?_), fun z => ?_⟩
    · rw [c2, iLe] at z; exact z
    · rw [c2, iLe] at z
      rw [nI_1]
      refine kk (i + 1) ⟨by omega, fun j hj => ?_⟩ (by omega)
      rcases Nat.lt_or_ge j i with w | w
      · exact h2 j w
      · have : j = i := by omega
        subst this
        show (σ.1 (23 + p.toNatClampNeg) j).toInt < _
        omega

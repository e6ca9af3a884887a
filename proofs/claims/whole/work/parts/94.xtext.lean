/-! the text: the class -/
def bI (i : Nat) : Int := if i = 0 then 0 else if i = 1 then 9 else if i = 2 then 99 else 999
theorem bI_s {i : Nat} {v d : Int} (hi : i < 3) (hv : 0 ≤ v ∧ v ≤ bI i) (hd : 48 ≤ d ∧ d ≤ 57) : 0 ≤ 10 * v + d - 48 ∧ 10 * v + d - 48 ≤ bI (i + 1) := by
  have e : i = 0 ∨ i = 1 ∨ i = 2 := by omega
  have b0 : bI 0 = 0 := rfl
  have b1 : bI 1 = 9 := rfl
  have b2 : bI 2 = 99 := rfl
  have b3 : bI 3 = 999 := rfl
  rcases e with e | e | e <;> subst e
  · show _ ∧ _ ≤ bI 1
    omega
  · show _ ∧ _ ≤ bI 2
    omega
  · show _ ∧ _ ≤ bI 3
    omega
theorem vx_tl {σ : Sto} {κ : Kp} (hi : Inv κ) (hv : vx σ = κ) : σ.1 8 4 = nI (tlN κ) := by rw [← (tlN_b hi).2, ← hv]; rfl
theorem vx_bt {σ : Sto} {κ : Kp} (hi : Inv κ) (hv : vx σ = κ) {p : Nat} (hp : p < tlN κ) : (σ.1 59 p).toInt = bt κ p := by
  have := (tlN_b hi).1
  rw [bt_y hp, ← hv, vx_r (c := 9) (by omega) (show p < 60 by omega)]
  rfl
theorem X_next {κ : Kp} {p : Nat} {σ : Sto} {post : Int32 → Sto → Prop} (hi : Inv κ) (hv : vx σ = κ) (ha : σ.1 8 2 = nI p) (hp : p ≤ tlN κ) (hq : ∀ (r : Int32) u, qx σ u → u.2 = σ.2 → u.1 8 2 = nI (dgs κ 3 p 0).1 → r.toInt = (if (dgs κ 3 p 0).1 = p then -1 else (dgs κ 3 p 0).2) → post r u) : wX4_nextNumber σ post := by
  have l60 := (tlN_b hi).1
  have hv' : ∀ u, qx σ u → vx u = κ := fun u f => by rw [f.vx, hv]
  unfold wX4_nextNumber
  refine pk_loop (fun k i (y : Int32 × Sto) => wX4_nextNumber_4 post (fun x1_1 σ_1 => post x1_1 σ_1) (fun x1_2 σ_2 => post x1_2 σ_2) k y.1 (nI i) y.2) (fun i y => (qx σ y.2 ∧ y.2.2 = σ.2 ∧ y.2.1 8 2 = nI (p + i) ∧ p + i ≤ tlN κ) ∧ ∃ v : Int, dgs κ 3 p 0 = dgs κ (3 - i) (p + i) v ∧ y.1.toInt = (if i = 0 then -1 else v) ∧ 0 ≤ v ∧ v ≤ bI i) 3 0 (-1, σ) (Nat.zero_le _) ⟨⟨qx.refl, rfl, ha, hp⟩, 0, rfl, rfl, by decide, by decide⟩ ?_ ?_
  · intro k y hy
    obtain ⟨x, u⟩ := y
    obtain ⟨⟨a1, a2, a3, a4⟩, v, b1, b2, b3⟩ := hy
    dsimp only at a1 a2 a3 a4 b1 b2 b3 ⊢
    have e : dgs κ 3 p 0 = (p + 3, v) := b1
    unfold wX4_nextNumber_4
    refine ⟨fun _ => hq x u a1 a2 (by rw [e]; exact a3) ?_, fun z => absurd (by decide) z⟩
    rw [e, if_neg (by dsimp only; omega)]
    rw [if_neg (by decide)] at b2
    exact b2
  · intro k i y hi2 hy kk
    obtain ⟨x, u⟩ := y
    obtain ⟨⟨a1, a2, a3, a4⟩, v, b1, b2, b3⟩ := hy
    dsimp only at a1 a2 a3 a4 b1 b2 b3 ⊢
    have hvu := hv' u a1
    have eL := vx_tl hi hvu
    have cp : (nI (p + i)).toNatClampNeg = p + i := nI_clamp (by omega)
    have e3 : 3 - i = (3 - (i + 1)) + 1 := by omega
    have es : dgs κ (3 - i) (p + i) v = if 48 ≤ bt κ (p + i) ∧ bt κ (p + i) ≤ 57 then dgs κ (3 - (i + 1)) (p + i + 1) (10 * v + bt κ (p + i) - 48) else (p + i, v) := by rw [e3]; rfl
    have stop : ¬ (48 ≤ bt κ (p + i) ∧ bt κ (p + i) ≤ 57) → post x u := fun z => by
      rw [es, if_neg z] at b1
      refine hq x u a1 a2 (by rw [b1]; exact a3) ?_
      rw [b1, b2]
      dsimp only
      by_cases q : i = 0
      · rw [if_pos q, if_pos (by omega)]
      · rw [if_neg q, if_neg (by omega)]
    unfold wX4_nextNumber_4
    rw [eL, a3, cp]
    refine ⟨fun z => absurd z (nI_ge (b := 3) hi2 (by decide)), fun _ => ⟨fun z => stop ?_, fun z => ?_⟩⟩
    · rw [nI_leI (by omega) (by omega)] at z
      rw [bt_n z]; omega
    · rw [nI_leI (by omega) (by omega)] at z
      have eb := vx_bt hi hvu (show p + i < tlN κ by omega)
      have vi : vp_in (nI (p + i)) 60 := vp_in_nI (by omega) (by omega)
      rw [iLt, iLe, eb, show (48 : Int32).toInt = 48 from rfl, show (57 : Int32).toInt = 57 from rfl]
      refine ⟨vi, fun q => stop (by omega), fun q => ⟨vi, fun q2 => ?_, fun q2 => stop (by omega)⟩⟩
      have bi := bI_s (d := bt κ (p + i)) hi2 b3 (by omega)
      have bb : bI (i + 1) ≤ 999 := by unfold bI; split <;> (try split) <;> (try split) <;> omega
      have vb : 0 ≤ v ∧ v ≤ 999 := ⟨b3.1, by have : bI i ≤ 999 := by (unfold bI; split <;> (try split) <;> (try split) <;> omega)
                                             omega⟩
      refine maxI_ok b2 n0 (fun r hr => ?_)
      have hr' : r.toInt = v := by
        rw [hr]
        by_cases q0 : i = 0
        · rw [if_pos q0, if_pos (by decide)]
          subst q0
          have : bI 0 = 0 := rfl
          omega
        · rw [if_neg q0]
          split <;> omega
      rw [a3, cp, nI_1, nI_1]
      refine ⟨vi, kk (_, wI u 8 2 (nI (p + i + 1))) ⟨⟨a1.wI (by decide) (by omega) (by decide), a2, by dsimp only; rw [wI_1, uS]; rfl, by omega⟩, 10 * v + bt κ (p + i) - 48, ?_, ?_, bi⟩⟩
      · rw [b1, es, if_pos ⟨by omega, q2⟩]; rfl
      · rw [if_neg (by omega)]
        have e1 := iMul hr' (show (10 : Int32).toInt = 10 from rfl) (by omega) (by omega)
        have e2 := iSub (iAdd e1 eb (by omega) (by omega)) (show (48 : Int32).toInt = 48 from rfl) (by omega) (by omega)
        dsimp only
        rw [e2]
        omega
/-- the class within a part -/
def TXc (κ : Kp) (σ : Sto) (p : Nat) (t b : Int) (s : Int64) (u : Sto) : Prop := qx σ u ∧ u.1 8 2 = nI p ∧ (u.2 12 0).toInt = t ∧ (u.2 12 1).toInt = b ∧ u.2 8 3 = s
theorem X_part {κ : Kp} {σ : Sto} {post : Int32 → Sto → Prop} {s : Int64} (hi : Inv κ) (hv : vx σ = κ) : ∀ (k i : Nat) (sgI : Int32) (sg : Int) (p : Nat) (t b : Int) (u : Sto), i + k = 61 → 2 * i ≤ p → p ≤ tlN κ → okF t b → sgI.toInt = sg → TXc κ σ p t b s u → (∀ (f : Int32) v, qx σ v → v.2 8 3 = s → f.toInt = (ptF κ k sg p t b).1 → ((ptF κ k sg p t b).1 = -1 → TXc κ σ (ptF κ k sg p t b).2.1 (ptF κ k sg p t b).2.2.1 (ptF κ k sg p t b).2.2.2 s v) → post f v) → wX4_faultOfPart_14 post (fun σ_1 => post (σ_1.1 8 2) σ_1) (fun x3_2 σ_2 => post x3_2 σ_2) (fun x3_3 σ_3 => post x3_3 σ_3) (fun σ_4 => post ((-1 : Int32)) σ_4) (k + 1) sgI (nI i) u := by
  have l60 := (tlN_b hi).1
  have hv' : ∀ u, qx σ u → vx u = κ := fun u f => by rw [f.vx, hv]
  intro k
  induction k with
  | zero => intro i sgI sg p t b u h1 h2 h3; omega
  | succ k ih =>
    intro i sgI sg p t b u h1 h2 h3 h4 h5 h6 hq
    obtain ⟨x1, x2, x3, x4, x5⟩ := h6
    have pT : (nI p).toInt = p := nI_toInt (by omega)
    have s47 : sgI = 47 ↔ sg = 47 := by rw [iEq, h5]; exact Iff.rfl
    rw [ptF_s] at hq
    have dp := dgs_p (κ := κ) 3 p 0
    have dv := dgs_3 (κ := κ) p
    have bad : (dgs κ 3 p 0).1 = p ∨ (sg = 47 ∧ (dgs κ 3 p 0).2 = 0) → ∀ v, qx σ v → v.2 8 3 = s → post (nI p) v := fun z v q1 q2 => by
      rw [if_pos z] at hq
      exact hq (nI p) v q1 q2 pT (fun e => by dsimp only at e; omega)
    unfold wX4_faultOfPart_14
    rw [x2, s47]
    refine ⟨fun z => absurd z (nI_nlt (a := 60) (by omega) (by omega)), fun _ => X_next hi (hv' u x1) x2 h3 (fun r v f g1 g2 hr => ?_)⟩
    have fv := x1.trans f
    have v8 : v.2 8 3 = s := by rw [g1]; exact x5
    refine ⟨fun e => bad (Or.inl ?_) v fv v8, fun e => ?_⟩
    · rw [e, nm1] at hr
      by_cases q : (dgs κ 3 p 0).1 = p
      · exact q
      · rw [if_neg q] at hr; omega
    · have q1 : ¬ (dgs κ 3 p 0).1 = p := fun q => by rw [if_pos q] at hr; exact e (iExt hr nm1)
      rw [if_neg q1] at hr
      have go : ¬ (sg = 47 ∧ (dgs κ 3 p 0).2 = 0) → wX4_faultOfPart_50 post (fun x3_3 σ_3 => post x3_3 σ_3) (fun σ_4 => post ((-1 : Int32)) σ_4) (wX4_faultOfPart_14 post (fun σ_1 => post (σ_1.1 8 2) σ_1) (fun x3_2 σ_2 => post x3_2 σ_2) (fun x3_3 σ_3 => post x3_3 σ_3) (fun σ_4 => post ((-1 : Int32)) σ_4) (k + 1)) sgI (nI i) (nI p) r v := fun q2 => by
        have ng : ¬ ((dgs κ 3 p 0).1 = p ∨ (sg = 47 ∧ (dgs κ 3 p 0).2 = 0)) := fun z => z.elim q1 q2
        rw [if_neg ng] at hq
        have tb := tb_b (sg := sg) h4 dv q2
        have c0 : (v.2 12 0).toInt = t := by rw [g1]; exact x3
        have c1 : (v.2 12 1).toInt = b := by rw [g1]; exact x4
        have ok4 := h4
        obtain ⟨⟨t1, t2⟩, t3, t4⟩ := ok4
        -- what comes behind the fraction
        have tail : ∀ a c : Int64, a.toInt = loA (tpZ sg t (dgs κ 3 p 0).2) (btZ sg b (dgs κ 3 p 0).2) → c.toInt = loB (tpZ sg t (dgs κ 3 p 0).2) (btZ sg b (dgs κ 3 p 0).2) → wX4_faultOfPart_109 post (fun x3_3 σ_3 => post x3_3 σ_3) (fun σ_4 => post ((-1 : Int32)) σ_4) (wX4_faultOfPart_14 post (fun σ_1 => post (σ_1.1 8 2) σ_1) (fun x3_2 σ_2 => post x3_2 σ_2) (fun x3_3 σ_3 => post x3_3 σ_3) (fun σ_4 => post ((-1 : Int32)) σ_4) (k + 1)) (nI i) (nI p) (wL (wL v 12 0 a) 12 1 c) := fun a c ha hc => by
          have fw : qx σ (wL (wL v 12 0 a) 12 1 c) := (fv.wL (by decide)).wL (by decide)
          have w0 : (wL (wL v 12 0 a) 12 1 c).2 12 0 = a := by rw [wL_2, uLN (by decide), wL_2, uLS]
          have w1 : (wL (wL v 12 0 a) 12 1 c).2 12 1 = c := by rw [wL_2, uLS]
          have w8 : (wL (wL v 12 0 a) 12 1 c).2 8 3 = s := by rw [wL_n (by decide), wL_n (by decide)]; exact v8
          have wa : (wL (wL v 12 0 a) 12 1 c).1 8 2 = nI (dgs κ 3 p 0).1 := by rw [wL_1, wL_1]; exact g2
          generalize wL (wL v 12 0 a) 12 1 c = w at fw w0 w1 w8 wa
          have hvw := hv' w fw
          have eL := vx_tl hi hvw
          have big : 100000 < loA (tpZ sg t (dgs κ 3 p 0).2) (btZ sg b (dgs κ 3 p 0).2) ∨ 100000 < loB (tpZ sg t (dgs κ 3 p 0).2) (btZ sg b (dgs κ 3 p 0).2) → post (nI p) w := fun z => by
            rw [if_pos z] at hq
            exact hq (nI p) w fw w8 pT (fun e => by dsimp only at e; omega)
          have dl60 : (dgs κ 3 p 0).1 ≤ tlN κ := by omega
          have cd : (nI (dgs κ 3 p 0).1).toNatClampNeg = (dgs κ 3 p 0).1 := nI_clamp (by omega)
          unfold wX4_faultOfPart_109
          rw [w0, w1, wa, eL, cd, lLt, lLe, ha, hc, show (100000 : Int64).toInt = 100000 from rfl, nI_leI (by omega) (by omega)]
          refine ⟨fun z => big (Or.inl z), fun z => ⟨fun z2 => ?_, fun z2 => big (Or.inr (by omega))⟩⟩
          have nb : ¬ (100000 < loA (tpZ sg t (dgs κ 3 p 0).2) (btZ sg b (dgs κ 3 p 0).2) ∨ 100000 < loB (tpZ sg t (dgs κ 3 p 0).2) (btZ sg b (dgs κ 3 p 0).2)) := by omega
          rw [if_neg nb] at hq
          have okn := okF_lo tb.1.1 tb.2.1 nb
          have fin : ¬ (bt κ (dgs κ 3 p 0).1 = 42 ∨ bt κ (dgs κ 3 p 0).1 = 47) → post (-1) w := fun q => by
            unfold hdF at hq
            rw [if_neg q] at hq
            exact hq (-1) w fw w8 rfl (fun _ => ⟨fw, wa, by rw [w0]; exact ha, by rw [w1]; exact hc, w8⟩)
          refine ⟨fun q => fin (by rw [bt_n q]; omega), fun q => ?_⟩
          have ql : (dgs κ 3 p 0).1 < tlN κ := by omega
          have eb := vx_bt hi hvw ql
          have vi : vp_in (nI (dgs κ 3 p 0).1) 60 := vp_in_nI (by omega) (by omega)
          have b42 : w.1 59 (dgs κ 3 p 0).1 = 42 ↔ bt κ (dgs κ 3 p 0).1 = 42 := by rw [iEq, eb]; exact Iff.rfl
          have b47 : w.1 59 (dgs κ 3 p 0).1 = 47 ↔ bt κ (dgs κ 3 p 0).1 = 47 := by rw [iEq, eb]; exact Iff.rfl
          have nxt : (bt κ (dgs κ 3 p 0).1 = 42 ∨ bt κ (dgs κ 3 p 0).1 = 47) → wX4_faultOfPart_180 post (wX4_faultOfPart_14 post (fun σ_1 => post (σ_1.1 8 2) σ_1) (fun x3_2 σ_2 => post x3_2 σ_2) (fun x3_3 σ_3 => post x3_3 σ_3) (fun σ_4 => post ((-1 : Int32)) σ_4) (k + 1)) (nI i) w := fun q => by
            unfold hdF at hq
            rw [if_pos q] at hq
            unfold wX4_faultOfPart_180
            rw [wa, cd, nI_1, nI_1]
            refine ⟨vi, ih (i + 1) _ _ ((dgs κ 3 p 0).1 + 1) _ _ _ (by omega) (by omega) (by omega) okn eb ⟨fw.wI (by decide) (by omega) (by decide), by rw [wI_1, uS], by rw [wI_2, w0]; exact ha, by rw [wI_2, w1]; exact hc, by rw [wI_2]; exact w8⟩ hq⟩
          rw [b42, b47]
          exact ⟨vi, fun q2 => nxt (Or.inl q2), fun q2 => ⟨vi, fun q3 => nxt (Or.inr q3), fun q3 => fin (fun q4 => q4.elim q2 q3)⟩⟩
        unfold wX4_faultOfPart_50
        rw [s47]
        refine ⟨fun z => ?_, fun z => ?_⟩
        · have e1 : tpZ sg t (dgs κ 3 p 0).2 = t * (dgs κ 3 p 0).2 := by unfold tpZ; rw [if_neg z]
          have e2 : btZ sg b (dgs κ 3 p 0).2 = b := by unfold btZ; rw [if_neg z]
          rw [e1, e2] at tb tail
          exact X_become (lMul c0 (iL hr) (by omega) (by omega)) c1 (by omega) (by omega) (by omega) tail
        · have e1 : tpZ sg t (dgs κ 3 p 0).2 = t := by unfold tpZ; rw [if_pos z]
          have e2 : btZ sg b (dgs κ 3 p 0).2 = b * (dgs κ 3 p 0).2 := by unfold btZ; rw [if_pos z]
          rw [e1, e2] at tb tail
          exact X_become c0 (lMul c1 (iL hr) (by omega) (by omega)) (by omega) (by omega) (by omega) tail
      have r0 : r = 0 ↔ (dgs κ 3 p 0).2 = 0 := by rw [iEq, hr]; exact Iff.rfl
      rw [r0]
      exact ⟨fun z => go (fun q => z q.1), fun z => ⟨fun y => go (fun q => y q.2), fun y => bad (Or.inr ⟨z, y⟩) v fv v8⟩⟩
theorem X_faultOfPart {κ : Kp} {p : Nat} {σ u : Sto} {s : Int64} {post : Int32 → Sto → Prop} (hi : Inv κ) (hv : vx σ = κ) (hf : qx σ u) (ha : u.1 8 2 = nI p) (hp : p ≤ tlN κ) (hs : u.2 8 3 = s) (hq : ∀ (f : Int32) v, qx σ v → v.2 8 3 = s → f.toInt = (ptF κ 61 42 p 1 1).1 → ((ptF κ 61 42 p 1 1).1 = -1 → TXc κ σ (ptF κ 61 42 p 1 1).2.1 (ptF κ 61 42 p 1 1).2.2.1 (ptF κ 61 42 p 1 1).2.2.2 s v) → post f v) : wX4_faultOfPart u post := by
  unfold wX4_faultOfPart
  refine X_become (show (1 : Int64).toInt = 1 from rfl) (show (1 : Int64).toInt = 1 from rfl) (by decide) (by decide) (by decide) (fun a c h1 h2 => ⟨62, ?_⟩)
  have e1 : loA 1 1 = 1 := by decide
  have e2 : loB 1 1 = 1 := by decide
  exact X_part hi hv 61 0 42 42 p 1 1 _ rfl (by omega) hp ⟨⟨by decide, by decide⟩, by decide, by decide⟩ rfl ⟨(hf.wL (by decide)).wL (by decide), by rw [wL_1, wL_1]; exact ha, by rw [wL_2, uLN (by decide), wL_2, uLS, h1, e1], by rw [wL_2, uLS, h2, e2], by rw [wL_n (by decide), wL_n (by decide)]; exact hs⟩ hq
theorem X_square {t b : Int} {σ : Sto} {post : Int64 → Sto → Prop} (h0 : (σ.2 12 0).toInt = t) (h1 : (σ.2 12 1).toInt = b) (ok : okF t b) (hq : ∀ r : Int64, r.toInt = sqC t b → post r σ) : wX4_squareOfPart σ post := by
  have sb := sqC_b ok
  have e1 : (σ.2 12 1 * σ.2 12 1).toInt = b * b := lMul h1 h1 (by omega) (by omega)
  have e2 : (σ.2 12 0 * σ.2 12 0).toInt = t * t := lMul h0 h0 (by omega) (by omega)
  have e3 := lMul e2 (show (10000 : Int64).toInt = 10000 from rfl) (by omega) (by omega)
  have e4 := lSub (lAdd e3 e1 (by omega) (by omega)) (show (1 : Int64).toInt = 1 from rfl) (by omega) (by omega)
  unfold wX4_squareOfPart
  rw [lLe, lEq, e1, show (0 : Int64).toInt = 0 from rfl]
  refine ⟨fun z => absurd z (by omega), fun _ => ⟨by omega, hq _ ?_⟩⟩
  rw [lDiv e4 e1 (by omega), Int.tdiv_eq_ediv_of_nonneg (by omega), Int.mul_comm (t * t) 10000]
  rfl
theorem X_ff {κ : Kp} {σ : Sto} {post : Int32 → Sto → Prop} (hi : Inv κ) (hv : vx σ = κ) : ∀ (k i p : Nat) (s : Int) (u : Sto), i + k = 61 → 2 * i ≤ p → p ≤ tlN κ → qx σ u → u.1 8 2 = nI p → (u.2 8 3).toInt = s → (0 ≤ s ∧ s ≤ 100000000000000 * (i : Int)) → (∀ (f : Int32) v, qx σ v → f.toInt = (ffF κ k p s).1 → (v.2 8 3).toInt = (ffF κ k p s).2 ∨ (ffF κ k p s).1 ≠ -1 → post f v) → wX4_firstFault_12 post (fun σ_1 => post (σ_1.1 8 2) σ_1) (fun σ_2 => post (σ_2.1 8 2) σ_2) (fun σ_3 => post ((-1 : Int32)) σ_3) (fun x2_4 σ_4 => post x2_4 σ_4) (k + 1) (nI i) u := by
  have l60 := (tlN_b hi).1
  have hv' : ∀ u, qx σ u → vx u = κ := fun u f => by rw [f.vx, hv]
  intro k
  induction k with
  | zero => intro i p s u h1 h2 h3; omega
  | succ k ih =>
    intro i p s u h1 h2 h3 fu au su sb hq
    rw [ffF_s] at hq
    have pb := ptF_b hi 61 0 42 p 1 1 rfl (by omega) h3 ⟨⟨by decide, by decide⟩, by decide, by decide⟩
    unfold wX4_firstFault_12
    refine ⟨fun z => absurd z (nI_nlt (a := 60) (by omega) (by omega)), fun _ => X_faultOfPart hi hv fu au h3 rfl (fun f v fv sv hf ht => ?_)⟩
    have f1 : f = -1 ↔ (ptF κ 61 42 p 1 1).1 = -1 := by rw [iEq, hf]; exact Iff.rfl
    rw [f1]
    refine ⟨fun e => ?_, fun e => ?_⟩
    · rw [if_pos e] at hq
      obtain ⟨x1, x2, x3, x4, x5⟩ := ht e
      have g : p < (ptF κ 61 42 p 1 1).2.1 ∧ (ptF κ 61 42 p 1 1).2.1 ≤ tlN κ ∧ okF (ptF κ 61 42 p 1 1).2.2.1 (ptF κ 61 42 p 1 1).2.2.2 := by
        rcases pb with q | q
        · exact q.2
        · omega
      generalize ptF κ 61 42 p 1 1 = r at *
      have qb := sqC_b g.2.2
      refine X_square x3 x4 g.2.2 (fun c hc => ?_)
      have hvv := hv' v fv
      have eL := vx_tl hi hvv
      have cr : (nI r.2.1).toNatClampNeg = r.2.1 := nI_clamp (by omega)
      have es : (v.2 8 3 + c).toInt = s + sqC r.2.2.1 r.2.2.2 := lAdd (by rw [sv]; exact su) hc (by omega) (by omega)
      have fw : qx σ (wL v 8 3 (v.2 8 3 + c)) := fv.wL (by decide)
      have sw : ((wL v 8 3 (v.2 8 3 + c)).2 8 3).toInt = s + sqC r.2.2.1 r.2.2.2 := by rw [wL_2, uLS]; exact es
      rw [x2, eL, cr, nI_ltI (by omega) (by omega)]
      refine ⟨fun q => ?_, fun q => ?_⟩
      · rw [if_neg (by omega)] at hq
        have eb := vx_bt hi hvv q
        have b43 : v.1 59 r.2.1 = 43 ↔ bt κ r.2.1 = 43 := by rw [iEq, eb]; exact Iff.rfl
        rw [b43]
        refine ⟨vp_in_nI (by omega) (by omega), fun q2 => ?_, fun q2 => ?_⟩
        · rw [if_pos q2] at hq
          rw [nI_1, nI_1]
          exact ih (i + 1) (r.2.1 + 1) _ _ (by omega) (by omega) (by omega) (fw.wI (by decide) (by omega) (by decide)) (by rw [wI_1, uS]) (by rw [wI_2]; exact sw) (by omega) hq
        · rw [if_neg q2] at hq
          rw [wL_1, x2]
          exact hq _ _ fw (nI_toInt (by omega)) (Or.inl sw)
      · rw [if_pos (by omega)] at hq
        exact hq _ _ fw rfl (Or.inl sw)
    · rw [if_neg e] at hq
      exact hq f v fv hf (Or.inr e)
theorem X_firstFault {σ : Sto} {post : Int32 → Sto → Prop} (h : OX σ) (hq : ∀ (f : Int32) v, qx σ v → f.toInt = flZ (vx σ) → (flZ (vx σ) = -1 → (v.2 8 3).toInt = sqT (vx σ)) → post f v) : wX4_firstFault σ post := by
  unfold wX4_firstFault
  refine ⟨62, X_ff h.1 rfl 61 0 0 0 _ rfl (Nat.le_refl _) (Nat.zero_le _) ((qx.refl.wI (by decide) (by decide) (by decide)).wL (by decide)) (by rw [wL_1, wI_1, uS]; rfl) (by rw [wL_2, uLS]; rfl) (by decide) (fun f v fv hf hs => hq f v fv hf (fun e => hs.resolve_right (fun z => z e)))⟩
theorem X_doubtOf {s : Int} {σ : Sto} {post : Int32 → Sto → Prop} (hs : (σ.2 8 3).toInt = s) (hq : post (nI (dqN s)) σ) : wX4_doubtOfSquare σ post := by
  unfold wX4_doubtOfSquare
  refine pk_loop (fun k d (_ : Unit) => wX4_doubtOfSquare_2 post (fun σ_1 => post ((1000 : Int32)) σ_1) (fun x1_2 σ_2 => post x1_2 σ_2) k (nI d) σ) (fun d _ => 1 ≤ d ∧ ∀ e, 1 ≤ e → e < d → dqB s e = false) 1000 1 () (by decide) ⟨Nat.le_refl _, fun e a b => by omega⟩ ?_ ?_
  · intro k _ hd
    unfold wX4_doubtOfSquare_2
    refine ⟨fun _ => ?_, fun z => absurd (by decide) z⟩
    have e : dqN s = 1000 := by
      unfold dqN
      rw [fst_none (fun x a b => hd.2 x a (by omega))]
    rw [e] at hq
    exact hq
  · intro k d _ hd hI kk
    obtain ⟨d1, dd⟩ := hI
    have dT : (nI d).toInt = d := nI_toInt (by omega)
    have m := mulB (x := (d : Int)) (y := (d : Int)) (A := 1000) (B := 1000) (M := 1000000) ⟨by omega, by omega⟩ ⟨by omega, by omega⟩ (by decide)
    have e1 : (((nI d * nI d).toInt64) * (10000 : Int64)).toInt = (d : Int) * d * 10000 := lMul (iL (iMul dT dT (by omega) (by omega))) rfl (by omega) (by omega)
    unfold wX4_doubtOfSquare_2
    rw [lLt, e1, hs, nI_1]
    refine ⟨fun z => absurd z (nI_ge (b := 1000) hd (by decide)), fun _ => ⟨fun z => kk () ⟨by omega, fun e a b => ?_⟩, fun z => ?_⟩⟩
    · by_cases q : e = d
      · rw [q]; exact decide_eq_false (by omega)
      · exact dd e a (by omega)
    · have e2 : dqN s = d := by
        unfold dqN
        rw [fst_spec d1 (by omega) (decide_eq_true (by omega)) (fun x a b => dd x a b)]
      rw [e2] at hq
      exact hq
theorem flZ_b {κ : Kp} (h : Inv κ) : ∀ (k i p : Nat) (s : Int), i + k = 61 → 2 * i ≤ p → p ≤ tlN κ → -1 ≤ (ffF κ k p s).1 ∧ (ffF κ k p s).1 ≤ 60
  | 0, i, p, s, h1, h2, h3 => by have := (tlN_b h).1; omega
  | k + 1, i, p, s, h1, h2, h3 => by
    have l60 := (tlN_b h).1
    have pb := ptF_b h 61 0 42 p 1 1 rfl (by omega) h3 ⟨⟨by decide, by decide⟩, by decide, by decide⟩
    rw [ffF_s]
    by_cases e : (ptF κ 61 42 p 1 1).1 = -1
    · rw [if_pos e]
      have g : p < (ptF κ 61 42 p 1 1).2.1 ∧ (ptF κ 61 42 p 1 1).2.1 ≤ tlN κ := by
        rcases pb with q | q
        · exact ⟨q.2.1, q.2.2.1⟩
        · omega
      by_cases q : tlN κ ≤ (ptF κ 61 42 p 1 1).2.1
      · rw [if_pos q]; dsimp only; omega
      · rw [if_neg q]
        by_cases q2 : bt κ (ptF κ 61 42 p 1 1).2.1 = 43
        · rw [if_pos q2]
          exact flZ_b h k (i + 1) _ _ (by omega) (by omega) (by omega)
        · rw [if_neg q2]; dsimp only; omega
    · rw [if_neg e]
      rcases pb with q | q
      · exact absurd q.1 e
      · dsimp only; omega
noncomputable def S_fault (κ : Kp) : Int32 := Int32.ofInt (flZ κ)
theorem fl_b {κ : Kp} (h : Inv κ) : -1 ≤ flZ κ ∧ flZ κ ≤ 60 := flZ_b h 61 0 0 0 rfl (Nat.le_refl _) (Nat.zero_le _)
theorem X_faultQ {σ : Sto} {post : Int32 → Sto → Prop} (h : OX σ) (hq : ∀ τ, qx σ τ → post (S_fault (vx σ)) τ) : wX10_fault σ post := by
  have b := fl_b h.1
  refine X_firstFault h (fun f v fv hf _ => ?_)
  rw [oI hf (by omega) (by omega)]
  exact hq v fv
theorem X_fault : SpX wX10_fault S_fault (fun κ => κ) := fun σ post h hp => X_faultQ h (fun τ f => hp τ (h.qx f) f.vx f.fm)
noncomputable def S_reckon (κ : Kp) : Int32 := if flZ κ = -1 then nI (dqN (sqT κ)) else -3
theorem X_reckon : SpX wX10_reckon S_reckon (fun κ => κ) := by
  intro σ post h hp
  unfold S_reckon at hp
  unfold wX10_reckon
  refine X_firstFault h (fun f v fv hf hs => ?_)
  have f1 : f = -1 ↔ flZ (vx σ) = -1 := by rw [iEq, hf]; exact Iff.rfl
  have := hp v (h.qx fv) fv.vx fv.fm
  rw [f1]
  refine ⟨fun e => ?_, fun e => X_doubtOf (hs e) ?_⟩
  · rw [if_neg e] at this; exact this
  · rw [if_pos e] at this; exact this
noncomputable def S_claim (a : Int32) (κ : Kp) : Int32 := @ite _ (okHouse a κ) (Classical.propDecidable _) (if flZ κ = -1 then κ 2 a.toNatClampNeg else -3) (-2)
noncomputable def U_claim (a : Int32) (κ : Kp) : Kp := @ite _ (okHouse a κ ∧ flZ κ = -1) (Classical.propDecidable _) (kup κ 2 a.toNatClampNeg (nI (dqN (sqT κ)))) κ
theorem X_claim (a : Int32) : SpX (wX10_claim a) (S_claim a) (U_claim a) := by
  intro σ post h hp
  unfold S_claim at hp
  unfold wX10_claim
  refine noHouse_ok (And.symm (br_n (fun (h1 : okHouse a (vx σ)) => ?_) (fun (h1 : ¬ okHouse a (vx σ)) => ?_)))
  · refine X_firstFault h (fun f v fv hf hs => ?_)
    have f1 : f = -1 ↔ flZ (vx σ) = -1 := by rw [iEq, hf]; exact Iff.rfl
    have ho := h.qx fv
    rw [f1]
    refine ⟨fun e => X_doubtOf (hs e) ?_, fun e => ?_⟩
    · have db := dqN_b (sqT (vx σ))
      have hU : U_claim a (vx σ) = kup (vx σ) 2 a.toNatClampNeg (nI (dqN (sqT (vx σ)))) := by unfold U_claim; rw [if_pos ⟨h1, e⟩]
      rw [hU] at hp
      rw [if_pos h1, if_pos e] at hp
      clear hU hs hf f1 e
      generalize dqN (sqT (vx σ)) = D at hp db ⊢
      have dT : (nI D).toInt = D := nI_toInt (by omega)
      have hk : okHouse a (vx v) := by rw [fv.vx]; exact h1
      have hv : vx (wI v 14 a.toNatClampNeg (nI D)) = kup (vx v) 2 a.toNatClampNeg (nI D) := vx_a2 (hk.lt ho.1)
      refine ⟨hk.in ho.1, hk.in ho.1, ?_⟩
      have := hp (wI v 14 a.toNatClampNeg (nI D)) (ox_upd ho (fun c a _ _ => wI_n (by omega)) hv (SD.mkc (Or.inr (Or.inl rfl))) (ho.1.kupc (Or.inl rfl) (fun _ => by omega) (fun q => by omega) (fun q => by omega) (fun q => by omega))) (by rw [hv, fv.vx]) (fv.fm.wI (by omega))
      rw [← fv.vx, vx_r (c := 2) (by omega) (hk.lt ho.1)] at this
      exact this
    · have := hp v ho (by rw [fv.vx]; unfold U_claim; rw [if_neg (fun q => e q.2)]) fv.fm
      rw [if_pos h1, if_neg e] at this
      exact this
  · have := hp σ h (by unfold U_claim; rw [if_neg (fun q => h1 q.1)]) fm.refl
    rw [if_neg h1] at this
    exact this

/-! parts: the class -/
theorem den_b {n h : Nat} (h2 : 2 ≤ n) (h8 : n ≤ 8) (g2 : 2 ≤ h) (g14 : h ≤ 14) : (0 < (h : Int) * n * ((n : Int) - 1) ∧ (h : Int) * n * ((n : Int) - 1) ≤ 784) ∧ (0 < (n : Int) * n * ((n : Int) - 1) * h * ((h : Int) - 1) ∧ (n : Int) * n * ((n : Int) - 1) * h * ((h : Int) - 1) ≤ 81536) ∧ (h : Int) * ((h : Int) - 1) * n * n * ((n : Int) - 1) = (n : Int) * n * ((n : Int) - 1) * h * ((h : Int) - 1) ∧ ((0 ≤ (h : Int) * n ∧ (h : Int) * n ≤ 112) ∧ (0 ≤ (n : Int) * n ∧ (n : Int) * n ≤ 64)) ∧ ((0 ≤ (n : Int) * n * ((n : Int) - 1) ∧ (n : Int) * n * ((n : Int) - 1) ≤ 448) ∧ (0 ≤ (n : Int) * n * ((n : Int) - 1) * h ∧ (n : Int) * n * ((n : Int) - 1) * h ≤ 6272)) ∧ ((0 ≤ (h : Int) * ((h : Int) - 1) ∧ (h : Int) * ((h : Int) - 1) ≤ 182) ∧ (0 ≤ (h : Int) * ((h : Int) - 1) * n ∧ (h : Int) * ((h : Int) - 1) * n ≤ 1456) ∧ (0 ≤ (h : Int) * ((h : Int) - 1) * n * n ∧ (h : Int) * ((h : Int) - 1) * n * n ≤ 11648)) := by
  rcases n28 h2 h8 with e | e | e | e | e | e | e <;> rcases h214 g2 g14 with f | f | f | f | f | f | f | f | f | f | f | f | f <;> subst e <;> subst f <;> decide
theorem aprt_b {κ : Kp} (h : Inv κ) (p : Nat) : (-45158400000000 ≤ (ptN κ p : Int) * sumQ κ p (nH κ) ∧ (ptN κ p : Int) * sumQ κ p (nH κ) ≤ 45158400000000) ∧ (-45158400000000 ≤ sumS κ p (nH κ) * sumS κ p (nH κ) ∧ sumS κ p (nH κ) * sumS κ p (nH κ) ≤ 45158400000000) ∧ (-722534400000000 ≤ ((ptN κ p : Int) * sumQ κ p (nH κ) - sumS κ p (nH κ) * sumS κ p (nH κ)) * ((mxN κ p (nH κ) : Int) - 1) ∧ ((ptN κ p : Int) * sumQ κ p (nH κ) - sumS κ p (nH κ) * sumS κ p (nH κ)) * ((mxN κ p (nH κ) : Int) - 1) ≤ 722534400000000) ∧ -45158400000000 ≤ insd κ p (nH κ) * ((ptN κ p : Int) - 1) ∧ insd κ p (nH κ) * ((ptN κ p : Int) - 1) ≤ 45158400000000 := by
  have h14 := nH_le h
  have b := prt_b h p (nH κ) h14
  have pl := ptN_le h p
  have m8 := mxN_le h (p := p) (nH κ)
  have m1 := mulB (x := (ptN κ p : Int)) (y := sumQ κ p (nH κ)) (A := 14) (B := 3225600000000) (M := 45158400000000) ⟨by omega, by omega⟩ ⟨by omega, by omega⟩ (by decide)
  have m2 := mulB (x := sumS κ p (nH κ)) (y := sumS κ p (nH κ)) (A := 6720000) (B := 6720000) (M := 45158400000000) ⟨by omega, by omega⟩ ⟨by omega, by omega⟩ (by decide)
  have m3 := mulB (x := (ptN κ p : Int) * sumQ κ p (nH κ) - sumS κ p (nH κ) * sumS κ p (nH κ)) (y := (mxN κ p (nH κ) : Int) - 1) (A := 90316800000000) (B := 8) (M := 722534400000000) ⟨by omega, by omega⟩ ⟨by omega, by omega⟩ (by decide)
  have m4 := mulB (x := insd κ p (nH κ)) (y := (ptN κ p : Int) - 1) (A := 3225600000000) (B := 14) (M := 45158400000000) ⟨by omega, by omega⟩ ⟨by omega, by omega⟩ (by decide)
  exact ⟨m1, m2, m3, m4⟩
theorem w01 {w : Int32} (h : 0 ≤ w.toInt ∧ w.toInt ≤ 1) (e : ¬ w = 0) : w = 1 := iExt (show w.toInt = 1 by have : ¬ w.toInt = 0 := fun q => e (iExt q n0); omega) n1
theorem lo_w {w : Int32} (h : 0 ≤ w.toInt ∧ w.toInt ≤ 1) {b : Int} (hb : 0 < b) : loW w 0 b = w.toInt := by
  unfold loW
  rw [(lo_zero hb).1, (lo_zero hb).2]
  by_cases e : w = 0
  · rw [if_pos e, e]; rfl
  · rw [if_neg e, w01 h e]; rfl
theorem X_parts (p t w : Int32) : SpX (wX10_parts p t w) (S_parts p t w) (fun κ => κ) := by
  intro σ post h hp
  have hh := hp σ h rfl fm.refl
  unfold S_parts at hp hh
  have no : ¬ (okS p ∧ (0 ≤ t.toInt ∧ t.toInt ≤ 1) ∧ 0 ≤ w.toInt ∧ w.toInt ≤ 1) → post (-9223372036854775806) σ := fun q => by rwa [if_neg q] at hh
  unfold wX10_parts
  refine noPiece_ok (br_n (fun h1 => ?_) (fun h1 => no (fun q => h1 q.1)))
  simp only [iLt, iLe, n0, n1]
  refine ⟨fun q => no (by omega), fun q1 => ⟨fun q => no (by omega), fun q2 => ⟨fun q => no (by omega), fun q3 => ⟨fun q4 => ?_, fun q => no (by omega)⟩⟩⟩⟩
  have ok : okS p ∧ (0 ≤ t.toInt ∧ t.toInt ≤ 1) ∧ 0 ≤ w.toInt ∧ w.toInt ≤ 1 := ⟨h1, by omega, by omega⟩
  have hi := h.1
  have h14 := nH_le hi
  have pl := ptN_le hi p.toNatClampNeg
  have m8 := mxN_le hi (p := p.toNatClampNeg) (nH (vx σ))
  rw [if_pos ok] at hh
  have notP : ¬ (eqM (vx σ) p.toNatClampNeg (nH (vx σ)) ∧ 2 ≤ mxN (vx σ) p.toNatClampNeg (nH (vx σ)) ∧ 2 ≤ ptN (vx σ) p.toNatClampNeg) → post (-9223372036854775805) σ := fun q => by rwa [if_neg q] at hh
  have pT : ((nI (ptN (vx σ) p.toNatClampNeg)).toInt64).toInt = ptN (vx σ) p.toNatClampNeg := iL (nI_toInt (by omega))
  unfold wX8_reckonPart
  refine X_likeMany h rfl h1 (fun r hE hr => X_bits h h1 ?_) (fun hE => X_bits h h1 ?_)
  · rw [lLt, lLe, iL hr, pT, show (2 : Int64).toInt = 2 from rfl]
    refine ⟨fun z => ⟨fun e => (by cases e), fun _ => notP (by omega)⟩, fun z => ⟨fun z2 => ?_, fun z2 => ⟨fun e => (by cases e), fun _ => notP (by omega)⟩⟩⟩
    have okP : eqM (vx σ) p.toNatClampNeg (nH (vx σ)) ∧ 2 ≤ mxN (vx σ) p.toNatClampNeg (nH (vx σ)) ∧ 2 ≤ ptN (vx σ) p.toNatClampNeg := ⟨hE, by omega, by omega⟩
    refine X_gatherR h h1 (fun u f g => ?_)
    have hvu := f.vx
    generalize hκ : vx σ = κ at *
    have eH : u.1 1 2 = nI (nH κ) := by rw [← nH_I hi, ← hvu]; rfl
    have nT : r.toInt64.toInt = mxN κ p.toNatClampNeg (nH κ) := iL hr
    generalize r.toInt64 = nn at nT ⊢
    generalize (nI (ptN κ p.toNatClampNeg)).toInt64 = hL at pT ⊢
    refine pk_loop (fun k i (y : Int64 × Int64 × Int64) => wX8_reckonPart_57 _ _ k t nn hL y.1 y.2.1 y.2.2 (nI i) u) (fun i y => y.1.toInt = insd κ p.toNatClampNeg i ∧ y.2.1.toInt = sumS κ p.toNatClampNeg i ∧ y.2.2.toInt = sumQ κ p.toNatClampNeg i) (nH κ) 0 (0, 0, 0) (Nat.zero_le _) ⟨rfl, rfl, rfl⟩ ?_ ?_
    · intro k y hy
      obtain ⟨y1, y2, y3⟩ := y
      obtain ⟨b1, b2, b3⟩ := hy
      dsimp only at b1 b2 b3 ⊢
      have pb := prt_b hi p.toNatClampNeg (nH κ) h14
      have ab := aprt_b hi p.toNatClampNeg
      have db := den_b okP.2.1 m8 okP.2.2 pl
      have f2 : ∀ a b : Int64, qx σ (wL (wL u 11 0 a) 11 1 b) := fun a b => (f.wL (c := 11) (i := 0) (v := a) (by decide)).wL (c := 11) (i := 1) (v := b) (by decide)
      have fin : ∀ a b : Int64, ∀ r2 : Int64, r2.toInt = (if ¬ t = 0 ∧ aprt κ p.toNatClampNeg ≤ 0 then w.toInt else loW w (prA κ p.toNatClampNeg t) (prB κ p.toNatClampNeg t)) → (-9223372036854775808 ≤ r2.toInt) → post r2 (wL (wL u 11 0 a) 11 1 b) := fun a b r2 hr2 _ => by
        have := hp _ (h.qx (f2 a b)) (by rw [(f2 a b).vx, hκ]) (f2 a b).fm
        rw [if_pos ok, if_pos okP] at this
        by_cases q : ¬ t = 0 ∧ aprt κ p.toNatClampNeg ≤ 0
        · rw [if_pos q] at this hr2
          have e : r2 = w.toInt64 := lExt hr2 (iL rfl)
          rw [e]; exact this
        · rw [if_neg q] at this hr2
          have e : r2 = Int64.ofInt (loW w (prA κ p.toNatClampNeg t) (prB κ p.toNatClampNeg t)) := by
            have := lR r2
            exact oL hr2 (by omega) (by omega)
          rw [e]; exact this
      have n1T : (nn - (1 : Int64)).toInt = (mxN κ p.toNatClampNeg (nH κ) : Int) - 1 := lSub nT rfl (by omega) (by omega)
      have h1T : (hL - (1 : Int64)).toInt = (ptN κ p.toNatClampNeg : Int) - 1 := lSub pT rfl (by omega) (by omega)
      unfold wX8_reckonPart_57
      rw [eH]
      refine ⟨fun _ => ⟨fun t0 => ?_, fun t0 => ?_⟩, fun z => absurd (nI_le (Nat.le_refl _) (by omega)) z⟩
      · have eA : ((hL * y3 - y2 * y2) * (nn - (1 : Int64)) - y1 * (hL - (1 : Int64))).toInt = aprt κ p.toNatClampNeg := by
          have c1 := lMul pT b3 (by omega) (by omega)
          have c2 := lMul b2 b2 (by omega) (by omega)
          have c3 := lMul (lSub c1 c2 (by omega) (by omega)) n1T (by omega) (by omega)
          have c4 := lMul b1 h1T (by omega) (by omega)
          exact lSub c3 c4 (by omega) (by omega)
        have eB : (nn * nn * (nn - (1 : Int64)) * hL * (hL - (1 : Int64))).toInt = (mxN κ p.toNatClampNeg (nH κ) : Int) * mxN κ p.toNatClampNeg (nH κ) * ((mxN κ p.toNatClampNeg (nH κ) : Int) - 1) * ptN κ p.toNatClampNeg * ((ptN κ p.toNatClampNeg : Int) - 1) := lMul (lMul (lMul (lMul nT nT (by omega) (by omega)) n1T (by omega) (by omega)) pT (by omega) (by omega)) h1T (by omega) (by omega)
        have aB : -800000000000000 ≤ aprt κ p.toNatClampNeg ∧ aprt κ p.toNatClampNeg ≤ 800000000000000 := by unfold aprt; omega
        refine maxL_ok (show (0 : Int64).toInt = 0 from rfl) eA (fun r2 hr2 => ?_)
        refine X_become hr2 eB (by split <;> omega) (by omega) (by omega) (fun a b ha hb => ⟨fun _ => X_side (u := a) (v := b) ?_ ?_ ha hb (fun r3 hr3 => fin a b r3 ?_ (lR r3).1), fun e => by cases e⟩)
        · rw [wL_2, uLN (by decide), wL_2, uLS]
        · rw [wL_2, uLS]
        · by_cases q : aprt κ p.toNatClampNeg ≤ 0
          · rw [if_neg (by omega), lo_w ok.2.2 (by omega)] at hr3
            rw [if_pos ⟨t0, q⟩]; exact hr3
          · rw [if_pos (by omega)] at hr3
            rw [if_neg (fun z => q z.2)]
            unfold prA prB
            rw [if_neg t0, if_neg t0]; exact hr3
      · have eB : (hL * nn * (nn - (1 : Int64))).toInt = (ptN κ p.toNatClampNeg : Int) * mxN κ p.toNatClampNeg (nH κ) * ((mxN κ p.toNatClampNeg (nH κ) : Int) - 1) := lMul (lMul pT nT (by omega) (by omega)) n1T (by omega) (by omega)
        refine X_become b1 eB (by omega) (by omega) (by omega) (fun a b ha hb => ⟨fun _ => X_side (u := a) (v := b) ?_ ?_ ha hb (fun r3 hr3 => fin a b r3 ?_ (lR r3).1), fun e => by cases e⟩)
        · rw [wL_2, uLN (by decide), wL_2, uLS]
        · rw [wL_2, uLS]
        · rw [if_neg (fun z => z.1 t0)]
          unfold prA prB
          rw [if_pos t0, if_pos t0]; exact hr3
    · intro k i y hi2 hy kk
      obtain ⟨y1, y2, y3⟩ := y
      obtain ⟨b1, b2, b3⟩ := hy
      dsimp only at b1 b2 b3 ⊢
      have ci : (nI i).toNatClampNeg = i := nI_clamp (by omega)
      have v14 : vp_in (nI i) 14 := vp_in_nI (by omega) (by omega)
      have pb := prt_b hi p.toNatClampNeg i (by omega)
      have rb := rp_b hi i p.toNatClampNeg (Nat.le_refl _)
      have rb1 : -480000 ≤ rS κ i p.toNatClampNeg ∧ rS κ i p.toNatClampNeg ≤ 480000 := rb.1
      have sb := spr_bb hi i p.toNatClampNeg
      have m2 := mulB (x := rS κ i p.toNatClampNeg) (y := rS κ i p.toNatClampNeg) (A := 480000) (B := 480000) (M := 230400000000) ⟨by omega, by omega⟩ ⟨by omega, by omega⟩ (by decide)
      unfold wX8_reckonPart_57
      rw [eH]
      refine ⟨fun z => absurd z (nI_ge hi2 (by omega)), fun _ => X_spread hi g (by omega) nT (by omega) (fun s hs => ?_)⟩
      rw [ci, nI_1]
      have e5 := g.s (show i < 14 by omega)
      have e6 := lMul e5 e5 (by omega) (by omega)
      unfold insd at b1
      unfold sumS at b2
      unfold sumQ at b3
      unfold insd sumS sumQ at pb kk
      refine ⟨v14, v14, v14, kk (_, _, _) ?_⟩
      dsimp only
      cases q : pt κ p.toNatClampNeg i with
      | true =>
        have eN := okP.1 i hi2 q
        have hs' : s.toInt = spr κ i p.toNatClampNeg := by rw [hs]; unfold spr; rw [eN]
        rw [tot_s1 q, tot_s1 q, tot_s1 q]
        exact ⟨lAdd b1 hs' (by omega) (by omega), lAdd b2 e5 (by omega) (by omega), lAdd b3 e6 (by omega) (by omega)⟩
      | false =>
        have z : cN κ i p.toNatClampNeg = 0 := by have := of_decide_eq_false q; omega
        have z2 := cN_0 z
        rw [z2.1, z2.2, Int.mul_zero] at hs
        rw [z2.1] at e5 e6
        rw [tot_s0 q, tot_s0 q, tot_s0 q, lAdd b1 hs (by omega) (by omega), lAdd b2 e5 (by omega) (by omega), lAdd b3 e6 (by omega) (by omega)]
        omega
  · rw [lLt, show ((0 : Int32).toInt64).toInt = 0 from rfl, show (2 : Int64).toInt = 2 from rfl]
    exact ⟨fun _ => ⟨fun e => (by cases e), fun _ => notP (fun q => hE q.1)⟩, fun z => absurd (by decide) z⟩

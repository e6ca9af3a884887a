/-! the text: the model -/
theorem vm_tl {σ : Sto} {κ : Kp} (hi : Inv κ) (hv : vm σ = κ) : σ.1 67 29 = nI (tlN κ) := by rw [← (tlN_b hi).2, ← hv]; rfl
theorem M_byte {κ : Kp} {p : Nat} {σ : Sto} {post : Int32 → Sto → Prop} (hi : Inv κ) (hv : vm σ = κ) (hp : p ≤ 100) (hq : ∀ r : Int32, r.toInt = bt κ p → post r σ) : wX11_byteAt (nI p) σ post := by
  have l60 := (tlN_b hi).1
  unfold wX11_byteAt
  rw [vm_tl hi hv, nI_leI (by omega) (by omega), nI_clamp (by omega)]
  refine ⟨fun z => hq _ (by rw [bt_n z]; rfl), fun z => ⟨vp_in_nI (by omega) (by omega), hq _ ?_⟩⟩
  rw [bt_y (by omega), ← hv, vm_r (c := 9) (by omega) (by omega) (show p < 60 by omega), show (axm 9).2.2 + p = p from Nat.zero_add _]
  rfl
theorem M_fig {κ : Kp} {p : Nat} {σ u0 : Sto} {post : Int32 → Sto → Prop} (hi : Inv κ) (hv : vm σ = κ) (f0 : qd σ u0) (ha : u0.1 67 31 = nI p) (hp : p ≤ tlN κ) (hq : ∀ (r : Int32) u, qd σ u → u.2 = u0.2 → u.1 67 31 = nI (dgs κ 3 p 0).1 → u.1 67 32 = (if (dgs κ 3 p 0).1 = p then nI p else u0.1 67 32) → r.toInt = (dgs κ 3 p 0).2 → post r u) : wX11_figures u0 post := by
  have l60 := (tlN_b hi).1
  have hv' : ∀ u, qd σ u → vm u = κ := fun u f => by rw [f.1.vm, hv]
  unfold wX11_figures
  rw [ha]
  have done : ∀ (x : Int32) (u : Sto) (i : Nat) (v : Int), qd σ u → u.2 = u0.2 → u.1 67 32 = u0.1 67 32 → u.1 67 31 = nI (p + i) → i ≤ 3 → dgs κ 3 p 0 = (p + i, v) → x.toInt = v → wX11_figures_73 post (nI p) x u := fun x u i v a1 a2 a3 a4 a5 a6 a7 => by
    unfold wX11_figures_73
    rw [a4, nI_eq (by omega) (by omega)]
    refine ⟨fun z => hq x u a1 a2 (by rw [a6]; exact a4) ?_ (by rw [a6]; exact a7), fun z => hq x _ (a1.wI (by decide) (by omega) (fun _ => ⟨by decide, by decide⟩)) a2 ?_ ?_ (by rw [a6]; exact a7)⟩
    · rw [a6, if_neg (by dsimp only; omega)]; exact a3
    · rw [wI_1, uN (by decide), a6]; exact a4
    · rw [wI_1, uS, a6, if_pos (by dsimp only; omega)]
  refine pk_loop (fun k i (y : Int32 × Sto) => wX11_figures_7 post (fun x1_1 x2_1 σ_1 => wX11_figures_73 post x1_1 x2_1 σ_1) k (nI p) y.1 y.2) (fun i y => (qd σ y.2 ∧ y.2.2 = u0.2 ∧ y.2.1 67 32 = u0.1 67 32 ∧ y.2.1 67 31 = nI (p + i) ∧ p + i ≤ tlN κ) ∧ ∃ v : Int, dgs κ 3 p 0 = dgs κ (3 - i) (p + i) v ∧ y.1.toInt = v ∧ 0 ≤ v ∧ v ≤ bI i) 3 0 (0, u0) (Nat.zero_le _) ⟨⟨f0, rfl, rfl, ha, hp⟩, 0, rfl, rfl, by decide, by decide⟩ ?_ ?_
  · intro k y hy
    obtain ⟨x, u⟩ := y
    obtain ⟨⟨a1, a2, a3, a4, a5⟩, v, b1, b2, b3⟩ := hy
    dsimp only at a1 a2 a3 a4 a5 b1 b2 b3 ⊢
    unfold wX11_figures_7
    rw [a4, show (3 : Int32) = nI 3 from rfl, nI_add]
    exact ⟨fun _ => done x u 3 v a1 a2 a3 a4 (Nat.le_refl _) b1 b2, fun z => absurd (nI_le (Nat.le_refl _) (by omega)) z⟩
  · intro k i y hi2 hy kk
    obtain ⟨x, u⟩ := y
    obtain ⟨⟨a1, a2, a3, a4, a5⟩, v, b1, b2, b3⟩ := hy
    dsimp only at a1 a2 a3 a4 a5 b1 b2 b3 ⊢
    have hvu := hv' u a1
    have e3 : 3 - i = (3 - (i + 1)) + 1 := by omega
    have es : dgs κ (3 - i) (p + i) v = if 48 ≤ bt κ (p + i) ∧ bt κ (p + i) ≤ 57 then dgs κ (3 - (i + 1)) (p + i + 1) (10 * v + bt κ (p + i) - 48) else (p + i, v) := by rw [e3]; rfl
    have stop : ¬ (48 ≤ bt κ (p + i) ∧ bt κ (p + i) ≤ 57) → wX11_figures_73 post (nI p) x u := fun z => by
      rw [es, if_neg z] at b1
      exact done x u i v a1 a2 a3 a4 (by omega) b1 b2
    unfold wX11_figures_7
    rw [a4, show (3 : Int32) = nI 3 from rfl, nI_add]
    refine ⟨fun z => absurd z (nI_ge (by omega) (by omega)), fun _ => M_byte hi hvu (by omega) (fun r hr => ?_)⟩
    rw [iLt, hr, show (48 : Int32).toInt = 48 from rfl, a4]
    refine ⟨fun q => stop (by omega), fun q => M_byte hi hvu (by omega) (fun r2 hr2 => ?_)⟩
    rw [iLt, hr2, show (57 : Int32).toInt = 57 from rfl, a4]
    refine ⟨fun q2 => stop (by omega), fun q2 => M_byte hi hvu (by omega) (fun r3 hr3 => ?_)⟩
    have bi := bI_s (d := bt κ (p + i)) hi2 b3 (by omega)
    have vb : v ≤ 999 := by
      have : bI i ≤ 999 := by unfold bI; split <;> (try split) <;> (try split) <;> omega
      omega
    have pl := bt_lt (κ := κ) (p := p + i) rfl (by omega)
    rw [a4, nI_1]
    refine kk (_, wI u 67 31 (nI (p + i + 1))) ⟨⟨a1.wI (by decide) (by omega) (fun _ => ⟨by decide, by decide⟩), a2, by dsimp only; rw [wI_1, uN (by decide)]; exact a3, by dsimp only; rw [wI_1, uS]; rfl, by omega⟩, 10 * v + bt κ (p + i) - 48, ?_, ?_, bi⟩
    · rw [b1, es, if_pos ⟨by omega, by omega⟩]; rfl
    · have e1 := iMul (show (10 : Int32).toInt = 10 from rfl) b2 (by omega) (by omega)
      exact iSub (iAdd e1 hr3 (by omega) (by omega)) (show (48 : Int32).toInt = 48 from rfl) (by omega) (by omega)
/-- the model within a part -/
def TMc (σ : Sto) (p : Nat) (t b : Int) (s : Int64) (u : Sto) : Prop := qd σ u ∧ u.1 67 31 = nI p ∧ (u.2 67 33).toInt = t ∧ (u.2 67 34).toInt = b ∧ u.2 67 35 = s
theorem M_partL {κ : Kp} {σ : Sto} {post : Sto → Prop} {K : Sto → Prop} {s : Int64} (hi : Inv κ) (hv : vm σ = κ) : ∀ (k i p : Nat) (t b : Int) (u : Sto), i + k = 61 → 2 * i ≤ p + 1 → p ≤ tlN κ → okF t b → TMc σ p t b s u → u.1 67 32 = -1 → (∀ v, qd σ v → v.2 67 35 = s → (v.1 67 32).toInt = (hdF κ k p t b).1 → ((hdF κ k p t b).1 = -1 → TMc σ (hdF κ k p t b).2.1 (hdF κ k p t b).2.2.1 (hdF κ k p t b).2.2.2 s v) → K v) → wX11_part_14 post K (k + 2) u := by
  have l60 := (tlN_b hi).1
  have hv' : ∀ u, qd σ u → vm u = κ := fun u f => by rw [f.1.vm, hv]
  intro k
  induction k with
  | zero => intro i p t b u h1 h2 h3; omega
  | succ k ih =>
    intro i p t b u h1 h2 h3 h4 h6 hF hq
    obtain ⟨x1, x2, x3, x4, x5⟩ := h6
    have hvu := hv' u x1
    have body : (bt κ p = 42 ∨ bt κ p = 47) → wX11_part_48 post (wX11_part_14 post K (k + 2)) u := fun hs => by
      have pl : p < tlN κ := hs.elim (fun e => bt_lt e (by decide)) (fun e => bt_lt e (by decide))
      unfold hdF at hq
      rw [if_pos hs, ptF_s] at hq
      unfold wX11_part_48
      rw [x2]
      refine M_byte hi hvu (by omega) (fun sg hsg => ?_)
      rw [x2, nI_1]
      have dp := dgs_p (κ := κ) 3 (p + 1) 0
      have dv := dgs_3 (κ := κ) (p + 1)
      have pT : (nI (p + 1)).toInt = ((p + 1 : Nat) : Int) := nI_toInt (by omega)
      refine M_fig (p := p + 1) hi hv (x1.wI (by decide) (by omega) (fun _ => ⟨by decide, by decide⟩)) (by rw [wI_1, uS]) (by omega) (fun r v f g1 g2 g3 hr => ?_)
      rw [wI_1, uN (by decide), hF] at g3
      rw [wI_2] at g1
      have v35 : v.2 67 35 = s := by rw [g1]; exact x5
      have c0 : (v.2 67 33).toInt = t := by rw [g1]; exact x3
      have c1 : (v.2 67 34).toInt = b := by rw [g1]; exact x4
      have sg47 : sg = 47 ↔ bt κ p = 47 := by rw [iEq, hsg]; exact Iff.rfl
      have sg42 : sg = 42 ↔ bt κ p = 42 := by rw [iEq, hsg]; exact Iff.rfl
      -- a fault: the loop ends
      have flt : ∀ w, qd σ w → w.2 67 35 = s → w.1 67 32 = nI (p + 1) → ((dgs κ 3 (p + 1) 0).1 = p + 1 ∨ (bt κ p = 47 ∧ (dgs κ 3 (p + 1) 0).2 = 0)) ∨ (¬ ((dgs κ 3 (p + 1) 0).1 = p + 1 ∨ (bt κ p = 47 ∧ (dgs κ 3 (p + 1) 0).2 = 0)) ∧ (100000 < loA (tpZ (bt κ p) t (dgs κ 3 (p + 1) 0).2) (btZ (bt κ p) b (dgs κ 3 (p + 1) 0).2) ∨ 100000 < loB (tpZ (bt κ p) t (dgs κ 3 (p + 1) 0).2) (btZ (bt κ p) b (dgs κ 3 (p + 1) 0).2))) → wX11_part_14 post K (k + 2) w := fun w q1 q2 q3 q4 => by
        have nn : ¬ w.1 67 32 = -1 := fun e => by
          rw [q3] at e
          have := congrArg Int32.toInt e
          rw [pT, nm1] at this
          omega
        unfold wX11_part_14
        refine ⟨fun _ => hq w q1 q2 ?_ ?_, fun e => absurd e nn⟩
        · rcases q4 with z | z
          · rw [if_pos z, q3]; exact pT
          · rw [if_neg z.1, if_pos z.2, q3]; exact pT
        · rcases q4 with z | z
          · rw [if_pos z]; intro e; dsimp only at e; omega
          · rw [if_neg z.1, if_pos z.2]; intro e; dsimp only at e; omega
      have m1 : ∀ w : Sto, (w.1 67 32 = -1 ↔ (w.1 67 32).toInt = -1) := fun w => by rw [iEq, nm1]
      by_cases q1 : (dgs κ 3 (p + 1) 0).1 = p + 1
      · rw [if_pos q1] at g3
        have nn : ¬ v.1 67 32 = -1 := fun e => by
          rw [g3] at e
          have := congrArg Int32.toInt e
          rw [pT, nm1] at this
          omega
        refine ⟨fun _ => ?_, fun e => absurd e nn⟩
        unfold wX11_part_103
        exact ⟨fun _ => flt v f v35 g3 (Or.inl (Or.inl q1)), fun e => absurd e nn⟩
      · rw [if_neg q1] at g3
        have go : ¬ (bt κ p = 47 ∧ (dgs κ 3 (p + 1) 0).2 = 0) → wX11_part_103 post (wX11_part_14 post K (k + 2)) sg (nI (p + 1)) r.toInt64 v := fun q2 => by
          have ng : ¬ ((dgs κ 3 (p + 1) 0).1 = p + 1 ∨ (bt κ p = 47 ∧ (dgs κ 3 (p + 1) 0).2 = 0)) := fun z => z.elim q1 q2
          have tb := tb_b (sg := bt κ p) h4 dv q2
          have ok4 := h4
          obtain ⟨⟨t1, t2⟩, t3, t4⟩ := ok4
          have fin : ∀ y0 y1 : Int64, (v.2 67 33 * y0).toInt = tpZ (bt κ p) t (dgs κ 3 (p + 1) 0).2 → (v.2 67 34 * y1).toInt = btZ (bt κ p) b (dgs κ 3 (p + 1) 0).2 → wX11_part_147 post (wX11_part_14 post K (k + 2)) (nI (p + 1)) y1 (v.2 67 34) (wL v 67 33 (v.2 67 33 * y0)) := fun y0 y1 hT hB => by
            unfold wX11_part_147
            have e33 : (wL v 67 33 (v.2 67 33 * y0)).2 67 33 = v.2 67 33 * y0 := by rw [wL_2, uLS]
            rw [e33]
            have gp := gd_pos (a := tpZ (bt κ p) t (dgs κ 3 (p + 1) 0).2) (b := btZ (bt κ p) b (dgs κ 3 (p + 1) 0).2) (by omega)
            have gl := gd_le (a := tpZ (bt κ p) t (dgs κ 3 (p + 1) 0).2) (b := btZ (bt κ p) b (dgs κ 3 (p + 1) 0).2) (by omega)
            refine M_divisor hT hB (by omega) (by omega) (fun g hg => ?_)
            have gT : g.toInt = (gd (tpZ (bt κ p) t (dgs κ 3 (p + 1) 0).2) (btZ (bt κ p) b (dgs κ 3 (p + 1) 0).2) : Int) := by rw [hg]; exact pk_lT (by omega)
            have g0 : ¬ g = 0 := fun z => by
              rw [lEq, gT, show (0 : Int64).toInt = 0 from rfl] at z
              omega
            have w33 : (wL (wL v 67 33 (v.2 67 33 * y0)) 67 34 (v.2 67 34 * y1)).2 67 33 = v.2 67 33 * y0 := by rw [wL_2, uLN (by decide), wL_2, uLS]
            have w34 : (wL (wL v 67 33 (v.2 67 33 * y0)) 67 34 (v.2 67 34 * y1)).2 67 34 = v.2 67 34 * y1 := by rw [wL_2, uLS]
            rw [w33, w34]
            have eA := gD_A hT gT (by omega)
            have eB := gD_B (a := tpZ (bt κ p) t (dgs κ 3 (p + 1) 0).2) hB gT (by omega)
            generalize v.2 67 33 * y0 / g = A at eA ⊢
            generalize v.2 67 34 * y1 / g = B at eB ⊢
            have qq : ∀ a b c d : Int64, qd v (wL (wL (wL (wL v 67 33 a) 67 34 b) 67 33 c) 67 34 d) := fun a b c d => (((qd.refl.wL (by decide) (by omega)).wL (by decide) (by omega)).wL (by decide) (by omega)).wL (by decide) (by omega)
            have fw := f.trans (qq (v.2 67 33 * y0) (v.2 67 34 * y1) A B)
            have z33 : (wL (wL (wL (wL v 67 33 (v.2 67 33 * y0)) 67 34 (v.2 67 34 * y1)) 67 33 A) 67 34 B).2 67 33 = A := by rw [wL_2, uLN (by decide), wL_2, uLS]
            have z34 : (wL (wL (wL (wL v 67 33 (v.2 67 33 * y0)) 67 34 (v.2 67 34 * y1)) 67 33 A) 67 34 B).2 67 34 = B := by rw [wL_2, uLS]
            have z35 : (wL (wL (wL (wL v 67 33 (v.2 67 33 * y0)) 67 34 (v.2 67 34 * y1)) 67 33 A) 67 34 B).2 67 35 = s := by rw [wL_2, uLN (by decide), wL_2, uLN (by decide), wL_2, uLN (by decide), wL_2, uLN (by decide)]; exact v35
            have z31 : (wL (wL (wL (wL v 67 33 (v.2 67 33 * y0)) 67 34 (v.2 67 34 * y1)) 67 33 A) 67 34 B).1 67 31 = nI (dgs κ 3 (p + 1) 0).1 := g2
            generalize wL (wL (wL (wL v 67 33 (v.2 67 33 * y0)) 67 34 (v.2 67 34 * y1)) 67 33 A) 67 34 B = w at fw z33 z34 z35 z31
            have big : (100000 < loA (tpZ (bt κ p) t (dgs κ 3 (p + 1) 0).2) (btZ (bt κ p) b (dgs κ 3 (p + 1) 0).2) ∨ 100000 < loB (tpZ (bt κ p) t (dgs κ 3 (p + 1) 0).2) (btZ (bt κ p) b (dgs κ 3 (p + 1) 0).2)) → wX11_part_209 post (wX11_part_14 post K (k + 2)) (nI (p + 1)) w := fun z => by
              unfold wX11_part_209
              exact flt _ (fw.wI (by decide) (by omega) (fun _ => ⟨by decide, by decide⟩)) z35 (by rw [wI_1, uS]) (Or.inr ⟨ng, z⟩)
            rw [lLt, lLe, eA, eB, show (100000 : Int64).toInt = 100000 from rfl]
            refine ⟨g0, g0, fun z => big (Or.inl z), fun z => ⟨fun z2 => ?_, fun z2 => big (Or.inr (by omega))⟩⟩
            have nb : ¬ (100000 < loA (tpZ (bt κ p) t (dgs κ 3 (p + 1) 0).2) (btZ (bt κ p) b (dgs κ 3 (p + 1) 0).2) ∨ 100000 < loB (tpZ (bt κ p) t (dgs κ 3 (p + 1) 0).2) (btZ (bt κ p) b (dgs κ 3 (p + 1) 0).2)) := by omega
            rw [if_neg ng, if_neg nb] at hq
            have okn := okF_lo tb.1.1 tb.2.1 nb
            exact ih (i + 1) (dgs κ 3 (p + 1) 0).1 _ _ _ (by omega) (by omega) (by omega) okn ⟨fw.wI (by decide) (by omega) (fun _ => ⟨by decide, by decide⟩), by rw [wI_1, uN (by decide)]; exact z31, by rw [wI_2, z33]; exact eA, by rw [wI_2, z34]; exact eB, by rw [wI_2]; exact z35⟩ (by rw [wI_1, uS]) hq
          unfold wX11_part_103
          rw [g3]
          refine ⟨fun e => absurd rfl e, fun _ => ⟨fun z => ?_, fun z => ?_⟩⟩
          · have e47 : bt κ p = 47 := hs.resolve_left (fun q => z (sg42.mpr q))
            unfold wX11_part_127
            have e1 : tpZ (bt κ p) t (dgs κ 3 (p + 1) 0).2 = t := by unfold tpZ; rw [if_pos e47]
            have e2 : btZ (bt κ p) b (dgs κ 3 (p + 1) 0).2 = b * (dgs κ 3 (p + 1) 0).2 := by unfold btZ; rw [if_pos e47]
            rw [e1, e2] at tb fin
            refine ⟨fun q => absurd (sg47.mpr e47) q, fun _ => fin 1 r.toInt64 ?_ (lMul c1 (iL hr) (by omega) (by omega))⟩
            rw [lMul c0 (show (1 : Int64).toInt = 1 from rfl) (by omega) (by omega), Int.mul_one]
          · have e42 : bt κ p = 42 := sg42.mp z
            have n47 : ¬ bt κ p = 47 := by omega
            unfold wX11_part_127
            have e1 : tpZ (bt κ p) t (dgs κ 3 (p + 1) 0).2 = t * (dgs κ 3 (p + 1) 0).2 := by unfold tpZ; rw [if_neg n47]
            have e2 : btZ (bt κ p) b (dgs κ 3 (p + 1) 0).2 = b := by unfold btZ; rw [if_neg n47]
            rw [e1, e2] at tb fin
            refine ⟨fun q => fin r.toInt64 1 (lMul c0 (iL hr) (by omega) (by omega)) ?_, fun q => absurd (sg47.mp q) n47⟩
            rw [lMul c1 (show (1 : Int64).toInt = 1 from rfl) (by omega) (by omega), Int.mul_one]
        have r0 : r.toInt64 = 0 ↔ (dgs κ 3 (p + 1) 0).2 = 0 := by rw [lEq, iL hr]; exact Iff.rfl
        rw [g3, sg47, r0]
        refine ⟨fun e => absurd rfl e, fun _ => ⟨fun z => go (fun q => z q.1), fun z => ⟨fun y => go (fun q => y q.2), fun y => ?_⟩⟩⟩
        have nn : ¬ (wI v 67 32 (nI (p + 1))).1 67 32 = -1 := fun e => by
          rw [wI_1, uS] at e
          have := congrArg Int32.toInt e
          rw [pT, nm1] at this
          omega
        unfold wX11_part_103
        exact ⟨fun _ => flt _ (f.wI (by decide) (by omega) (fun _ => ⟨by decide, by decide⟩)) v35 (by rw [wI_1, uS]) (Or.inl (Or.inr ⟨z, y⟩)), fun e => absurd e nn⟩
    unfold wX11_part_14
    rw [hF, x2]
    refine ⟨fun e => absurd rfl e, fun _ => M_byte hi hvu (by omega) (fun r hr => ?_)⟩
    have r42 : r = 42 ↔ bt κ p = 42 := by rw [iEq, hr]; exact Iff.rfl
    rw [r42, x2]
    refine ⟨fun q => body (Or.inl q), fun q => M_byte hi hvu (by omega) (fun r2 hr2 => ?_)⟩
    have r47 : r2 = 47 ↔ bt κ p = 47 := by rw [iEq, hr2]; exact Iff.rfl
    rw [r47]
    refine ⟨fun q2 => ?_, fun q2 => body (Or.inr q2)⟩
    unfold hdF at hq
    rw [if_neg (fun z => z.elim q q2)] at hq
    exact hq u x1 x5 (by rw [hF]; rfl) (fun _ => ⟨x1, x2, x3, x4, x5⟩)
theorem lo_1 {v : Int} : loA v 1 = v ∧ loB v 1 = 1 := by
  have e : gd v 1 = 1 := Nat.gcd_one_right _
  unfold loA loB
  rw [e]
  exact ⟨Int.ediv_one _, Int.ediv_one _⟩
theorem M_part {κ : Kp} {p : Nat} {S : Int} {σ u : Sto} {post : Sto → Prop} (hi : Inv κ) (hv : vm σ = κ) (hf : qd σ u) (ha : u.1 67 31 = nI p) (hF : u.1 67 32 = -1) (hs : (u.2 67 35).toInt = S) (bS : 0 ≤ S ∧ S ≤ 9000000000000000) (hp : p ≤ tlN κ) (hq : ∀ v, qd σ v → (v.1 67 32).toInt = (ptF κ 61 42 p 1 1).1 → ((ptF κ 61 42 p 1 1).1 = -1 → v.1 67 31 = nI (ptF κ 61 42 p 1 1).2.1 ∧ (v.2 67 35).toInt = S + sqC (ptF κ 61 42 p 1 1).2.2.1 (ptF κ 61 42 p 1 1).2.2.2) → post v) : wX11_part u post := by
  have l60 := (tlN_b hi).1
  have pb := ptF_b hi 61 0 42 p 1 1 rfl (by omega) hp ⟨⟨by decide, by decide⟩, by decide, by decide⟩
  have dp := dgs_p (κ := κ) 3 p 0
  have dv := dgs_3 (κ := κ) p
  have pT : (nI p).toInt = p := nI_toInt (by omega)
  have e42 : tpZ 42 1 (dgs κ 3 p 0).2 = (dgs κ 3 p 0).2 := by unfold tpZ; rw [if_neg (by decide), Int.one_mul]
  have e43 : btZ 42 1 (dgs κ 3 p 0).2 = 1 := by unfold btZ; rw [if_neg (by decide)]
  unfold wX11_part
  refine M_fig hi hv hf ha hp (fun r v f g1 g2 g3 hr => ?_)
  rw [hF] at g3
  have qq : qd v (wL (wL v 67 33 r.toInt64) 67 34 1) := (qd.refl.wL (by decide) (by omega)).wL (by decide) (by omega)
  have z33 : (wL (wL v 67 33 r.toInt64) 67 34 1).2 67 33 = r.toInt64 := by rw [wL_2, uLN (by decide), wL_2, uLS]
  have z34 : (wL (wL v 67 33 r.toInt64) 67 34 1).2 67 34 = 1 := by rw [wL_2, uLS]
  have z35 : (wL (wL v 67 33 r.toInt64) 67 34 1).2 67 35 = u.2 67 35 := by rw [wL_2, uLN (by decide), wL_2, uLN (by decide), g1]
  have fw := f.trans qq
  have z31 : (wL (wL v 67 33 r.toInt64) 67 34 1).1 67 31 = nI (dgs κ 3 p 0).1 := g2
  have z32 : (wL (wL v 67 33 r.toInt64) 67 34 1).1 67 32 = (if (dgs κ 3 p 0).1 = p then nI p else -1) := g3
  generalize wL (wL v 67 33 r.toInt64) 67 34 1 = w at fw z33 z34 z35 z31 z32
  rw [ptF_s, e42, e43, lo_1.1, lo_1.2] at hq pb
  by_cases q : (dgs κ 3 p 0).1 = p
  · rw [if_pos (Or.inl q)] at hq
    rw [if_pos q] at z32
    have nn : ¬ w.1 67 32 = -1 := fun e => by
      rw [z32] at e
      have := congrArg Int32.toInt e
      rw [pT, nm1] at this
      omega
    refine ⟨1, fun _ => ?_, fun e => absurd e nn⟩
    unfold wX11_part_220
    exact ⟨fun _ => hq w fw (by rw [z32]; exact pT) (fun e => by dsimp only at e; omega), fun e => absurd e nn⟩
  · rw [if_neg (fun z => z.elim q (fun y => absurd y.1 (by decide))), if_neg (by omega)] at hq pb
    rw [if_neg q] at z32
    refine ⟨62, M_partL hi hv 60 1 (dgs κ 3 p 0).1 (dgs κ 3 p 0).2 1 w rfl (by omega) (by omega) ⟨⟨by omega, by omega⟩, by decide, by decide⟩ ⟨fw, z31, by rw [z33]; exact iL hr, by rw [z34]; rfl, z35⟩ z32 (fun x fx sx hx ht => ?_)⟩
    have i32 : x.1 67 32 = -1 ↔ (hdF κ 60 (dgs κ 3 p 0).1 (dgs κ 3 p 0).2 1).1 = -1 := by rw [iEq, hx]; exact Iff.rfl
    unfold wX11_part_220
    rw [i32]
    refine ⟨fun e => hq x fx hx (fun z => absurd z e), fun e => ?_⟩
    obtain ⟨y1, y2, y3, y4, y5⟩ := ht e
    have okr : okF (hdF κ 60 (dgs κ 3 p 0).1 (dgs κ 3 p 0).2 1).2.2.1 (hdF κ 60 (dgs κ 3 p 0).1 (dgs κ 3 p 0).2 1).2.2.2 := by
      rcases pb with g | g
      · exact g.2.2.2
      · omega
    generalize hdF κ 60 (dgs κ 3 p 0).1 (dgs κ 3 p 0).2 1 = R at *
    have sb := sqC_b okr
    have eB : (x.2 67 34 * x.2 67 34).toInt = R.2.2.2 * R.2.2.2 := lMul y4 y4 (by omega) (by omega)
    have t1 : 0 ≤ R.2.2.1 ∧ R.2.2.1 ≤ 100000 := okr.1
    have eT : ((10000 : Int64) * x.2 67 33 * x.2 67 33).toInt = 10000 * (R.2.2.1 * R.2.2.1) := by
      have e1 := lMul (show (10000 : Int64).toInt = 10000 from rfl) y3 (by omega) (by omega)
      rw [lMul e1 y3 (by rw [Int.mul_assoc]; omega) (by rw [Int.mul_assoc]; omega), Int.mul_assoc]
    have e4 := lSub (lAdd eT eB (by omega) (by omega)) (show (1 : Int64).toInt = 1 from rfl) (by omega) (by omega)
    have eQ : ((((10000 : Int64) * x.2 67 33 * x.2 67 33) + x.2 67 34 * x.2 67 34 - (1 : Int64)) / (x.2 67 34 * x.2 67 34)).toInt = sqC R.2.2.1 R.2.2.2 := by
      rw [lDiv e4 eB (by omega), Int.tdiv_eq_ediv_of_nonneg (by omega)]
      rfl
    refine ⟨fun z => ?_, hq _ (fx.wL (by decide) (by omega)) (by rw [wL_1]; exact hx) (fun _ => ⟨by rw [wL_1]; exact y2, ?_⟩)⟩
    · rw [lEq, eB, show (0 : Int64).toInt = 0 from rfl] at z
      omega
    · rw [wL_2, uLS]
      exact lAdd (by rw [sx]; exact hs) eQ (by omega) (by omega)
theorem M_ff {κ : Kp} {σ : Sto} {post : Int32 → Sto → Prop} (hi : Inv κ) (hv : vm σ = κ) : ∀ (k i p : Nat) (s : Int) (v : Sto), i + (k + 1) = 61 → 2 * i ≤ p → p ≤ tlN κ → qd σ v → (0 ≤ s ∧ s ≤ 100000000000000 * (i : Int)) → (v.1 67 32).toInt = (ptF κ 61 42 p 1 1).1 → ((ptF κ 61 42 p 1 1).1 = -1 → v.1 67 31 = nI (ptF κ 61 42 p 1 1).2.1 ∧ (v.2 67 35).toInt = s + sqC (ptF κ 61 42 p 1 1).2.2.1 (ptF κ 61 42 p 1 1).2.2.2) → (∀ (f : Int32) w, qd σ w → f.toInt = (ffF κ (k + 1) p s).1 → ((ffF κ (k + 1) p s).1 = -1 → (w.2 67 35).toInt = (ffF κ (k + 1) p s).2) → post f w) → wX11_faultNow_19 post (fun σ_1 => post (σ_1.1 67 32) σ_1) (fun σ_2 => post (σ_2.1 67 31) (wI σ_2 67 32 (σ_2.1 67 31))) (k + 1) v := by
  have l60 := (tlN_b hi).1
  have hv' : ∀ u, qd σ u → vm u = κ := fun u f => by rw [f.1.vm, hv]
  intro k
  induction k with
  | zero => intro i p s v h1 h2 h3; omega
  | succ k ih =>
    intro i p s v h1 h2 h3 fv sb hx ht hq
    rw [ffF_s] at hq
    have pb := ptF_b hi 61 0 42 p 1 1 rfl (by omega) h3 ⟨⟨by decide, by decide⟩, by decide, by decide⟩
    have i32 : v.1 67 32 = -1 ↔ (ptF κ 61 42 p 1 1).1 = -1 := by rw [iEq, hx]; exact Iff.rfl
    unfold wX11_faultNow_19
    rw [i32]
    refine ⟨fun e => ?_, fun e => ?_⟩
    · rw [if_neg e] at hq
      exact hq _ v fv hx (fun z => absurd z e)
    · rw [if_pos e] at hq
      obtain ⟨y1, y2⟩ := ht e
      have g : p < (ptF κ 61 42 p 1 1).2.1 ∧ (ptF κ 61 42 p 1 1).2.1 ≤ tlN κ ∧ okF (ptF κ 61 42 p 1 1).2.2.1 (ptF κ 61 42 p 1 1).2.2.2 := by
        rcases pb with q | q
        · exact q.2
        · omega
      have hxe : v.1 67 32 = -1 := i32.mpr e
      clear pb i32 ht
      generalize ptF κ 61 42 p 1 1 = r at *
      have qb := sqC_b g.2.2
      have hvv := hv' v fv
      rw [vm_tl hi hvv, y1, nI_leI (by omega) (by omega)]
      refine ⟨fun q => ?_, fun q => M_byte hi hvv (by omega) (fun c hc => ?_)⟩
      · rw [if_pos q] at hq
        exact hq _ v fv (by rw [hx, e]) (fun _ => y2)
      · rw [if_neg q] at hq
        have c43 : c = 43 ↔ bt κ r.2.1 = 43 := by rw [iEq, hc]; exact Iff.rfl
        rw [c43, y1, nI_1]
        refine ⟨fun q2 => ?_, fun q2 => ?_⟩
        · rw [if_pos q2] at hq
          refine M_part (p := r.2.1 + 1) (S := s + sqC r.2.2.1 r.2.2.2) hi hv (fv.wI (by decide) (by omega) (fun _ => ⟨by decide, by decide⟩)) (by rw [wI_1, uS]) (by rw [wI_1, uN (by decide)]; exact hxe) (by rw [wI_2]; exact y2) (by omega) (by omega) (fun w fw hw1 hw2 => ?_)
          exact ih (i + 1) (r.2.1 + 1) _ w (by omega) (by omega) (by omega) fw (by omega) hw1 hw2 hq
        · rw [if_neg q2] at hq
          exact hq _ _ (fv.wI (by decide) (by omega) (fun _ => ⟨by decide, by decide⟩)) (nI_toInt (by omega)) (fun z => by dsimp only at z; omega)
theorem M_faultNow {σ : Sto} {post : Int32 → Sto → Prop} (h : OM σ) (hq : ∀ (f : Int32) v, qd σ v → f.toInt = flZ (vm σ) → (flZ (vm σ) = -1 → (v.2 67 35).toInt = sqT (vm σ)) → post f v) : wX11_faultNow σ post := by
  unfold wX11_faultNow
  refine M_part (κ := vm σ) (σ := σ) (p := 0) (S := 0) h.1 rfl (((qd.refl.wI (by decide) (by omega) (fun _ => ⟨by decide, by decide⟩)).wI (by decide) (by omega) (fun _ => ⟨by decide, by decide⟩)).wL (by decide) (by omega)) (by rw [wL_1, wI_1, uN (by decide), wI_1, uS]; rfl) (by rw [wL_1, wI_1, uS]) (by rw [wL_2, uLS]; rfl) (by decide) (Nat.zero_le _) (fun v fv h1 h2 => ⟨61, ?_⟩)
  exact M_ff h.1 rfl 60 0 0 0 v rfl (Nat.le_refl _) (Nat.zero_le _) fv (by decide) h1 h2 hq
theorem M_fault : SpM wX11_fault S_fault (fun κ => κ) := by
  intro σ post h hp
  have b := fl_b h.1
  refine M_faultNow h (fun f v fv hf _ => ?_)
  rw [oI hf (by omega) (by omega)]
  exact hp v (h.qd fv) fv.1.vm fv.1.fx
theorem M_reckons {σ : Sto} {post : Int32 → Sto → Prop} (h : OM σ) (hq : ∀ v, qd σ v → post (if flZ (vm σ) = -1 then nI (dqN (sqT (vm σ))) else -1) v) : wX11_reckons σ post := by
  unfold wX11_reckons
  refine M_faultNow h (fun f v fv hf hs => ?_)
  have f1 : f = -1 ↔ flZ (vm σ) = -1 := by rw [iEq, hf]; exact Iff.rfl
  have hq := hq v fv
  rw [f1]
  refine ⟨fun e => ?_, fun e => ?_⟩
  · rw [if_pos e] at hq
    have hs := hs e
    clear f1 hf e
    generalize sqT (vm σ) = s at *
    refine pk_loop (fun k d (_ : Unit) => wX11_reckons_12 post (fun x1_1 σ_1 => post x1_1 σ_1) k (nI d) v) (fun d _ => 1 ≤ d ∧ ∀ e, 1 ≤ e → e < d → dqB s e = false) 1000 1 () (by decide) ⟨Nat.le_refl _, fun e a b => by omega⟩ ?_ ?_
    · intro k _ hd
      unfold wX11_reckons_12
      refine ⟨fun _ => ?_, fun z => absurd (by decide) z⟩
      have e : dqN s = 1000 := by
        unfold dqN
        rw [fst_none (fun x a b => hd.2 x a (by omega))]
      rw [e] at hq
      exact hq
    · intro k d _ hd hI kk
      obtain ⟨d1, dd⟩ := hI
      have dT : (nI d).toInt = d := nI_toInt (by omega)
      have m := mulB (x := (d : Int)) (y := (d : Int)) (A := 1000) (B := 1000) (M := 1000000) ⟨by omega, by omega⟩ ⟨by omega, by omega⟩ (by decide)
      have e1 : (((10000 : Int64) * (nI d).toInt64) * (nI d).toInt64).toInt = 10000 * ((d : Int) * d) := by
        have e0 := lMul (show (10000 : Int64).toInt = 10000 from rfl) (iL dT) (by omega) (by omega)
        rw [lMul e0 (iL dT) (by rw [Int.mul_assoc]; omega) (by rw [Int.mul_assoc]; omega), Int.mul_assoc]
      unfold wX11_reckons_12
      rw [lLe, e1, hs, nI_1]
      refine ⟨fun z => absurd z (nI_ge (b := 1000) hd (by decide)), fun _ => ⟨fun z => ?_, fun z => kk () ⟨by omega, fun e a b => ?_⟩⟩⟩
      · have e2 : dqN s = d := by
          unfold dqN
          rw [fst_spec d1 (by omega) (decide_eq_true (by omega)) (fun x a b => dd x a b)]
        rw [e2] at hq
        exact hq
      · by_cases q : e = d
        · rw [q]; exact decide_eq_false (by omega)
        · exact dd e a (by omega)
  · rw [if_neg e] at hq
    exact hq
theorem nI_nm1 {D : Nat} (h : D < 2 ^ 31) : ¬ nI D = -1 := fun e => by
  have := congrArg Int32.toInt e
  rw [nI_toInt h, nm1] at this
  omega
theorem M_reckon : SpM wX11_reckon S_reckon (fun κ => κ) := by
  intro σ post h hp
  unfold S_reckon at hp
  unfold wX11_reckon
  refine M_reckons h (fun v fv => ?_)
  have := hp v (h.qd fv) fv.1.vm fv.1.fx
  by_cases e : flZ (vm σ) = -1
  · rw [if_pos e] at this ⊢
    have db := dqN_b (sqT (vm σ))
    clear hp e
    generalize dqN (sqT (vm σ)) = D at *
    exact ⟨fun _ => this, fun z => absurd z (nI_nm1 (by omega))⟩
  · rw [if_neg e] at this ⊢
    exact ⟨fun z => absurd rfl z, fun _ => this⟩
theorem M_claim (a : Int32) : SpM (wX11_claim a) (S_claim a) (U_claim a) := by
  intro σ post h hp
  unfold S_claim at hp
  unfold wX11_claim
  refine isHouse_ok h.1.2.2.1.1 (And.symm (br_d' (fun (h1 : okHouse a (vm σ)) => ?_) (fun (h1 : ¬ okHouse a (vm σ)) => ?_)))
  · refine M_reckons h (fun v fv => ?_)
    have ho := h.qd fv
    rw [if_pos h1] at hp
    by_cases e : flZ (vm σ) = -1
    · have db := dqN_b (sqT (vm σ))
      have hU : U_claim a (vm σ) = kup (vm σ) 2 a.toNatClampNeg (nI (dqN (sqT (vm σ)))) := by unfold U_claim; rw [if_pos ⟨h1, e⟩]
      rw [hU] at hp
      rw [if_pos e] at hp ⊢
      clear hU e
      generalize dqN (sqT (vm σ)) = D at *
      have dT : (nI D).toInt = D := nI_toInt (by omega)
      have hk : okHouse a (vm v) := by rw [fv.1.vm]; exact h1
      have hv : vm (wI v 69 a.toNatClampNeg (nI D)) = kup (vm v) 2 a.toNatClampNeg (nI D) := vm_a2 (hk.lt ho.1)
      refine ⟨fun _ => ⟨hk.in ho.1, hk.in ho.1, ?_⟩, fun z => absurd z (nI_nm1 (by omega))⟩
      have := hp (wI v 69 a.toNatClampNeg (nI D)) (om_upd ho hv (ho.1.kupc (Or.inl rfl) (fun _ => by omega) (fun q => by omega) (fun q => by omega) (fun q => by omega)) (Or.inr ⟨by rw [wI_n (by omega)], fun c a b => ⟨wI_n (by omega), rfl⟩, SD.mkc (Or.inr (Or.inl rfl))⟩) ⟨wI_n (by omega), wI_n (by omega)⟩) (by rw [hv, fv.1.vm]) (fv.1.fx.wI (by omega))
      rw [← fv.1.vm, vm_r (c := 2) (by omega) (by omega) (hk.lt ho.1), show (axm 2).2.2 + a.toNatClampNeg = a.toNatClampNeg from Nat.zero_add _] at this
      exact this
    · have := hp v ho (by rw [fv.1.vm]; unfold U_claim; rw [if_neg (fun q => e q.2)]) fv.1.fx
      rw [if_neg e] at this ⊢
      exact ⟨fun z => absurd rfl z, fun _ => this⟩
  · have := hp σ h (by unfold U_claim; rw [if_neg (fun q => h1 q.1)]) fx.refl
    rw [if_neg h1] at this
    exact this

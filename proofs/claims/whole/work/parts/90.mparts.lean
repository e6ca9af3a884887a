/-! parts: the model -/
theorem mxN_c {κ : Kp} {p : Nat} : ∀ n, cnt (pt κ p) n = 0 ↔ mxN κ p n = 0
  | 0 => ⟨fun _ => rfl, fun _ => rfl⟩
  | n + 1 => by
    have ih := mxN_c (κ := κ) (p := p) n
    have e : mxN κ p (n + 1) = max (mxN κ p n) (cN κ n p) := rfl
    cases q : pt κ p n with
    | true =>
      have z : 0 < cN κ n p := of_decide_eq_true q
      rw [cnt_s1 q, e]; omega
    | false =>
      have z : ¬ 0 < cN κ n p := of_decide_eq_false q
      rw [cnt_s0 q, e]; omega
def PI (κ : Kp) (p i : Nat) (h n : Int64) (s : Int32) (a b c : Int64) : Prop := h.toInt = cnt (pt κ p) i ∧ ((s = 1 ∧ eqM κ p i ∧ n.toInt = mxN κ p i) ∨ (s = 0 ∧ ¬ eqM κ p i)) ∧ a.toInt = sumS κ p i ∧ b.toInt = sumQ κ p i ∧ c.toInt = insd κ p i
theorem M_parts (p t w : Int32) : SpM (wX11_parts p t w) (S_parts p t w) (fun κ => κ) := by
  intro σ post h hp
  have hh := hp σ h rfl fx.refl
  unfold S_parts at hp hh
  have no : ¬ (okS p ∧ (0 ≤ t.toInt ∧ t.toInt ≤ 1) ∧ 0 ≤ w.toInt ∧ w.toInt ≤ 1) → post (-9223372036854775806) σ := fun q => by rwa [if_neg q] at hh
  unfold wX11_parts
  refine isPiece_ok (br_d' (fun h1 => ?_) (fun h1 => no (fun q => h1 q.1)))
  refine in_ok (br_d' (fun h2 => ?_) (fun h2 => no (fun q => h2 q.2.1)))
  refine in_ok (br_d (fun h3 => ?_) (fun h3 => no (fun q => h3 q.2.2)))
  rw [n0, n1] at h2 h3
  have ok : okS p ∧ (0 ≤ t.toInt ∧ t.toInt ≤ 1) ∧ 0 ≤ w.toInt ∧ w.toInt ≤ 1 := ⟨h1, h2, h3⟩
  have hi := h.1
  have h14 := nH_le hi
  have pl := ptN_le hi p.toNatClampNeg
  have m8 := mxN_le hi (p := p.toNatClampNeg) (nH (vm σ))
  have hv : ∀ u, qm σ u → vm u = vm σ := fun u f => f.vm
  refine works_Q h (fun u wk f _ => ?_)
  generalize hκ : vm σ = κ at *
  refine pk_loop (fun k i (y : (Int64 × Int64 × Int32) × (Int64 × Int64 × Int64) × Sto) => wX11_parts_54 post _ k p t w y.1.1 y.1.2.1 y.1.2.2 y.2.1.1 y.2.1.2.1 y.2.1.2.2 (nI i) y.2.2) (fun i y => PI κ p.toNatClampNeg i y.1.1 y.1.2.1 y.1.2.2 y.2.1.1 y.2.1.2.1 y.2.1.2.2 ∧ WK y.2.2 ∧ qm σ y.2.2) (nH κ) 0 ((0, 0, 1), (0, 0, 0), u) (Nat.zero_le _) ⟨⟨rfl, Or.inl ⟨rfl, eqM_0 rfl, rfl⟩, rfl, rfl, rfl⟩, wk, f⟩ ?_ ?_
  · intro k y hy
    obtain ⟨⟨y1, y2, y3⟩, ⟨y4, y5, y6⟩, v⟩ := y
    obtain ⟨⟨b1, b2, b3, b4, b5⟩, w1, f1⟩ := hy
    dsimp only at b1 b2 b3 b4 b5 w1 f1 ⊢
    have hvv := hv v f1
    have eH : v.1 67 1 = nI (nH κ) := by rw [← nH_I hi, ← hvv]; rfl
    have hpv := hp v w1.1 hvv f1.fx
    rw [if_pos ok] at hpv
    have notP : ¬ (eqM κ p.toNatClampNeg (nH κ) ∧ 2 ≤ mxN κ p.toNatClampNeg (nH κ) ∧ 2 ≤ ptN κ p.toNatClampNeg) → post (-9223372036854775805) v := fun q => by rwa [if_neg q] at hpv
    have b1' : y1.toInt = ptN κ p.toNatClampNeg := b1
    unfold wX11_parts_54
    rw [eH]
    refine ⟨fun _ => ?_, fun z => absurd (nI_le (Nat.le_refl _) (by omega)) z⟩
    rcases b2 with ⟨s1, sE, s2⟩ | ⟨s1, sE⟩
    · rw [s1, lLt, lLe, b1', s2, show (2 : Int64).toInt = 2 from rfl]
      refine ⟨fun z => absurd z (by decide), fun _ => ⟨fun z => notP (by omega), fun z => ⟨fun z2 => ?_, fun z2 => notP (by omega)⟩⟩⟩
      have okP : eqM κ p.toNatClampNeg (nH κ) ∧ 2 ≤ mxN κ p.toNatClampNeg (nH κ) ∧ 2 ≤ ptN κ p.toNatClampNeg := ⟨sE, by omega, by omega⟩
      rw [if_pos okP] at hpv
      have pb := prt_b hi p.toNatClampNeg (nH κ) h14
      have ab := aprt_b hi p.toNatClampNeg
      have db := den_b okP.2.1 m8 okP.2.2 pl
      have n1T : (y2 - (1 : Int64)).toInt = (mxN κ p.toNatClampNeg (nH κ) : Int) - 1 := lSub s2 rfl (by omega) (by omega)
      have h1T : (y1 - (1 : Int64)).toInt = (ptN κ p.toNatClampNeg : Int) - 1 := lSub b1' rfl (by omega) (by omega)
      have aB : -800000000000000 ≤ aprt κ p.toNatClampNeg ∧ aprt κ p.toNatClampNeg ≤ 800000000000000 := by unfold aprt; omega
      refine ⟨fun t0 => ?_, fun t0 => ?_⟩
      · have eA : ((y1 * y5 - y4 * y4) * (y2 - (1 : Int64)) - y6 * (y1 - (1 : Int64))).toInt = aprt κ p.toNatClampNeg := by
          have c1 := lMul b1' b4 (by omega) (by omega)
          have c2 := lMul b3 b3 (by omega) (by omega)
          have c3 := lMul (lSub c1 c2 (by omega) (by omega)) n1T (by omega) (by omega)
          have c4 := lMul b5 h1T (by omega) (by omega)
          exact lSub c3 c4 (by omega) (by omega)
        have eB : (y1 * (y1 - (1 : Int64)) * y2 * y2 * (y2 - (1 : Int64))).toInt = prB κ p.toNatClampNeg t := by
          unfold prB
          rw [if_neg t0, ← db.2.2.1]
          exact lMul (lMul (lMul (lMul b1' h1T (by omega) (by omega)) s2 (by omega) (by omega)) s2 (by omega) (by omega)) n1T (by rw [db.2.2.1]; omega) (by rw [db.2.2.1]; omega)
        have pB : 0 < prB κ p.toNatClampNeg t ∧ prB κ p.toNatClampNeg t ≤ 81536 := by unfold prB; rw [if_neg t0]; omega
        show _ ∧ _
        rw [lLt, eA, show (0 : Int64).toInt = 0 from rfl]
        refine ⟨fun q => M_lowest eA eB (by omega) pB.1 (fun r hr => ?_), fun q => ?_⟩
        · rw [if_neg (fun z => by omega)] at hpv
          have eq : prA κ p.toNatClampNeg t = aprt κ p.toNatClampNeg := by unfold prA; rw [if_neg t0]
          rw [eq] at hpv
          have := lR r
          rw [oL hr (by omega) (by omega)]
          exact hpv
        · rw [if_pos ⟨t0, by omega⟩] at hpv
          exact hpv
      · have eB : (y1 * y2 * (y2 - (1 : Int64))).toInt = prB κ p.toNatClampNeg t := by
          unfold prB
          rw [if_pos t0]
          exact lMul (lMul b1' s2 (by omega) (by omega)) n1T (by omega) (by omega)
        have pB : 0 < prB κ p.toNatClampNeg t ∧ prB κ p.toNatClampNeg t ≤ 784 := by unfold prB; rw [if_pos t0]; omega
        refine M_lowest b5 eB (by omega) pB.1 (fun r hr => ?_)
        rw [if_neg (fun z => z.1 t0)] at hpv
        have eq : prA κ p.toNatClampNeg t = insd κ p.toNatClampNeg (nH κ) := by unfold prA; rw [if_pos t0]
        rw [eq] at hpv
        have := lR r
        rw [oL hr (by omega) (by omega)]
        exact hpv
    · rw [s1]
      exact ⟨fun _ => notP (fun q => sE q.1), fun z => absurd rfl z⟩
  · intro k i y hi2 hy kk
    obtain ⟨⟨y1, y2, y3⟩, ⟨y4, y5, y6⟩, v⟩ := y
    obtain ⟨⟨b1, b2, b3, b4, b5⟩, w1, f1⟩ := hy
    dsimp only at b1 b2 b3 b4 b5 w1 f1 ⊢
    have hvv := hv v f1
    have eH : v.1 67 1 = nI (nH κ) := by rw [← nH_I hi, ← hvv]; rfl
    have ci : (nI i).toNatClampNeg = i := nI_clamp (by omega)
    have iT : (nI i).toInt = i := nI_toInt (by omega)
    have pb := prt_b hi p.toNatClampNeg i (by omega)
    have mc := mxN_c (κ := κ) (p := p.toNatClampNeg) i
    have ms : mxN κ p.toNatClampNeg (i + 1) = max (mxN κ p.toNatClampNeg i) (cN κ i p.toNatClampNeg) := rfl
    have cl := cnt_le (P := pt κ p.toNatClampNeg) (n := i)
    unfold wX11_parts_54
    rw [eH]
    refine ⟨fun z => absurd z (nI_ge hi2 (by omega)), fun _ => takes_W w1 (by omega) h1 ?_⟩
    rw [ci, hvv]
    refine br_d' (fun z => ?_) (fun z => ?_)
    · have pz : pt κ p.toNatClampNeg i = true := decide_eq_true z
      obtain ⟨vi, e⟩ := ix56 (a := nI i) (by omega) h1
      rw [ci] at e
      have g := (w1.dm.2 i p.toNatClampNeg (by omega) (show p.toNatClampNeg < 4 from okS.lt h1)).1
      rw [hvv] at g
      have gL := iL g
      have rb := rp_b hi i p.toNatClampNeg (Nat.le_refl _)
      have rb1 : -480000 ≤ rS κ i p.toNatClampNeg ∧ rS κ i p.toNatClampNeg ≤ 480000 := rb.1
      have sb := spr_bb hi i p.toNatClampNeg
      have m2 := mulB (x := rS κ i p.toNatClampNeg) (y := rS κ i p.toNatClampNeg) (A := 480000) (B := 480000) (M := 230400000000) ⟨by omega, by omega⟩ ⟨by omega, by omega⟩ (by decide)
      rw [e]
      generalize (v.1 80 (4 * i + p.toNatClampNeg)).toInt64 = of at gL ⊢
      have fin : ∀ s : Int32, ((s = 1 ∧ eqM κ p.toNatClampNeg (i + 1) ∧ of.toInt = mxN κ p.toNatClampNeg (i + 1)) ∨ (s = 0 ∧ ¬ eqM κ p.toNatClampNeg (i + 1))) → wX11_parts_112 post (wX11_parts_54 post _ k) p t w y1 y4 y5 y6 (nI i) of s v := fun s hs => by
        unfold wX11_parts_112
        refine M_wTop w1.1 (by rw [hvv]; exact hi2) h1 (fun u1 r w2 f2 hr1 hr2 => ?_)
        rw [hvv] at hr1 hr2
        rw [nI_1]
        have e6 := lMul hr1 hr1 (by omega) (by omega)
        unfold sumS at b3
        unfold sumQ at b4
        unfold insd at b5
        unfold insd sumS sumQ at pb
        refine kk ((_, _, _), (_, _, _), u1) ⟨⟨?_, hs, ?_, ?_, ?_⟩, w2, f1.trans f2⟩
        · dsimp only
          rw [cnt_s1 pz, lAdd b1 (show (1 : Int64).toInt = 1 from rfl) (by omega) (by omega)]
          omega
        · show _ = tot _ _ _
          rw [tot_s1 pz]
          exact lAdd b3 hr1 (by omega) (by omega)
        · show _ = tot _ _ _
          rw [tot_s1 pz]
          exact lAdd b4 e6 (by omega) (by omega)
        · show _ = tot _ _ _
          rw [tot_s1 pz]
          exact lAdd b5 hr2 (by omega) (by omega)
      refine ⟨vi, fun q => ?_, fun q => ⟨fun q2 => ?_, fun q2 => ⟨fun q3 => ?_, fun q3 => ?_⟩⟩⟩
      · refine fin 0 (Or.inr ⟨rfl, fun eE => ?_⟩)
        rcases b2 with g2 | g2
        · rw [q] at g2; exact absurd g2.1 (by decide)
        · exact g2.2 (eqM_s.mp eE).1
      · rw [lEq, b1, show (0 : Int64).toInt = 0 from rfl] at q2
        rcases b2 with ⟨s1, s2, s3⟩ | g2
        · have m0 : mxN κ p.toNatClampNeg i = 0 := mc.mp (by omega)
          exact fin 1 (Or.inl ⟨rfl, eqM_s.mpr ⟨s2, Or.inr (Or.inl m0)⟩, by rw [gL, ms]; omega⟩)
        · exact absurd g2.1 q
      · rw [lEq, gL] at q3
        rw [lEq, b1, show (0 : Int64).toInt = 0 from rfl] at q2
        rcases b2 with ⟨s1, s2, s3⟩ | g2
        · rw [s3] at q3
          have m0 : mxN κ p.toNatClampNeg i ≠ 0 := fun x => q2 (by rw [mc.mpr x]; rfl)
          refine fin 0 (Or.inr ⟨rfl, fun eE => ?_⟩)
          have := (eqM_s.mp eE).2
          omega
        · exact absurd g2.1 q
      · rw [lEq, gL] at q3
        rcases b2 with ⟨s1, s2, s3⟩ | g2
        · rw [s3] at q3
          refine fin 1 (Or.inl ⟨rfl, eqM_s.mpr ⟨s2, Or.inr (Or.inr (by omega))⟩, by rw [gL, ms]; omega⟩)
        · exact absurd g2.1 q
    · have pz : pt κ p.toNatClampNeg i = false := decide_eq_false z
      have c0 : cN κ i p.toNatClampNeg = 0 := by omega
      have me : mxN κ p.toNatClampNeg (i + 1) = mxN κ p.toNatClampNeg i := by rw [ms]; omega
      have ee : eqM κ p.toNatClampNeg (i + 1) ↔ eqM κ p.toNatClampNeg i := ⟨fun q => (eqM_s.mp q).1, fun q => eqM_s.mpr ⟨q, Or.inl c0⟩⟩
      rw [nI_1]
      refine kk ((y1, y2, y3), (y4, y5, y6), v) ⟨⟨?_, ?_, ?_, ?_, ?_⟩, w1, f1⟩
      · dsimp only; rw [cnt_s0 pz]; exact b1
      · dsimp only; rw [ee, me]; exact b2
      · show _ = tot _ _ _; rw [tot_s0 pz]; exact b3
      · show _ = tot _ _ _; rw [tot_s0 pz]; exact b4
      · show _ = tot _ _ _; rw [tot_s0 pz]; exact b5

/-! one number: the class -/
theorem minL_ok {x y : Int64} {a b : Int} {σ : Sto} {post : Int64 → Sto → Prop} (hx : x.toInt = a) (hy : y.toInt = b) (h : ∀ r : Int64, r.toInt = (if b < a then b else a) → post r σ) : wJ9_min_f86c9 x y σ post := by
  unfold wJ9_min_f86c9
  rw [lLt, hx, hy]
  exact ⟨fun z => h _ (by rw [if_pos z]; exact hy), fun z => h _ (by rw [if_neg z]; exact hx)⟩
theorem maxL_ok {x y : Int64} {a b : Int} {σ : Sto} {post : Int64 → Sto → Prop} (hx : x.toInt = a) (hy : y.toInt = b) (h : ∀ r : Int64, r.toInt = (if a < b then b else a) → post r σ) : wJ9_max_f86c9 x y σ post := by
  unfold wJ9_max_f86c9
  rw [lLt, hx, hy]
  exact ⟨fun z => h _ (by rw [if_pos z]; exact hy), fun z => h _ (by rw [if_neg z]; exact hx)⟩
/-- the class's row, while scratch beside it changes -/
def RX (σ : Sto) (n : Nat) (L : List Int) (u : Sto) : Prop := qx σ u ∧ u.1 5 5 = nI n ∧ RwL u 52 L
theorem RX.fr {σ u v : Sto} {n : Nat} {L : List Int} {c : Nat} (h : RX σ n L u) (f : fr1 c u v) (hc : scr c = true) (h52 : c ≠ 52) : RX σ n L v := ⟨h.1.trans (f.qx hc), by rw [f.1]; exact h.2.1, h.2.2.keep (f.2 52 (fun e => h52 e.symm))⟩
theorem X_byPairs {σ u : Sto} {post : Sto → Prop} {n : Nat} {L : List Int} (hr : RX σ n L u) (hl : L.length = n) (ok : okL L) (hq : ∀ τ (x y : Int64), qx σ τ → τ.2 10 0 = x → τ.2 10 1 = y → x.toInt = loA (twZ (srt (prs L))) 4 → y.toInt = loB (twZ (srt (prs L))) 4 → post τ) : wX6_byPairs u post := by
  have hn := ok.1
  unfold wX6_byPairs
  refine pk_loop (fun k i (x : Int32 × Sto) => wX6_byPairs_4 post _ k x.1 (nI i) x.2) (fun i x => RX σ n L x.2 ∧ ∃ M, x.1 = nI M.length ∧ RwL x.2 54 M ∧ SL M (prs (L.take i))) n 0 (0, u) (Nat.zero_le _) ⟨hr, [], rfl, fun k hk => absurd hk (Nat.not_lt_zero _), SL_nil⟩ ?_ ?_
  · intro k x hx
    obtain ⟨x, v⟩ := x
    obtain ⟨a1, M, a2, a3, a4⟩ := hx
    dsimp only at a1 a2 a3 a4 ⊢
    rw [List.take_of_length_le (by omega)] at a4
    have eM := SL_srt a4
    have ln := SL_len a4
    have l5 := prs_105 (l := L) (by omega)
    have pl := prs_len L
    have pm := Nat.mul_le_mul hn.1 (show 2 ≤ L.length + 1 by omega)
    have mb : ∀ w, w ∈ M → -120000000 ≤ w ∧ w ≤ 120000000 := fun w hw => prs_mem (B := 60000000) L ok.2 w (a4.2.mem_iff.mp hw)
    unfold wX6_byPairs_4
    rw [a1.2.1, a2]
    refine ⟨fun _ => X_twice (by decide) a3 rfl (by omega) (by omega) (fun j hj => by have := gD_b (B := 120000000) mb hj; omega) (fun r hr => ?_), fun z => absurd (nI_le (Nat.le_refl _) (by omega)) z⟩
    rw [eM] at hr
    have tb := twZ_b (B := 120000000) (prs_mem L ok.2) (l := prs L) (by omega)
    refine X_become hr (show (4 : Int64).toInt = 4 from rfl) (by omega) (by decide) (by decide) (fun p q hp hq2 => ?_)
    exact hq _ p q ((a1.1.wL (by decide)).wL (by decide)) (by rw [wL_2, uLN (by decide), wL_2, uLS]) (by rw [wL_2, uLS]) hp hq2
  · intro k i x hi hx kk
    obtain ⟨x, v⟩ := x
    obtain ⟨a1, M, a2, a3, a4⟩ := hx
    dsimp only at a1 a2 a3 a4 ⊢
    have ci : (nI i).toNatClampNeg = i := nI_clamp (by omega)
    unfold wX6_byPairs_4
    rw [a1.2.1]
    refine ⟨fun z => absurd z (nI_ge hi (by omega)), fun _ => ?_⟩
    have ti : L.take (i + 1) = L.take i ++ [L.getD i 0] := by rw [List.take_add_one, List.getElem?_eq_getElem (by omega), gD_i (by omega)]; rfl
    have bi := gD_b (B := 60000000) ok.2 (k := i) (by omega)
    have pli := prs_len (L.take i)
    rw [List.length_take, show min i L.length = i by omega] at pli
    have pmi := Nat.mul_le_mul (show i ≤ 13 by omega) (show i + 1 ≤ 14 by omega)
    refine pk_loop (fun k2 j (y : Int32 × Sto) => wX6_byPairs_14 post _ k2 y.1 (nI i) (nI j) y.2) (fun j y => RX σ n L y.2 ∧ ∃ M, y.1 = nI M.length ∧ RwL y.2 54 M ∧ SL M (prs (L.take i) ++ (L.take j).map (fun z => L.getD i 0 + z))) (i + 1) 0 (x, v) (Nat.zero_le _) ⟨a1, M, a2, a3, by rw [List.take_zero, List.map_nil, List.append_nil]; exact a4⟩ ?_ ?_
    · intro k2 y hy
      obtain ⟨y, w⟩ := y
      obtain ⟨b1, M2, b2, b3, b4⟩ := hy
      dsimp only at b1 b2 b3 b4 ⊢
      unfold wX6_byPairs_14
      rw [nI_1]
      refine ⟨fun _ => kk (y, w) ⟨b1, M2, b2, b3, SL_perm b4 ?_⟩, fun z => absurd (nI_lt (by omega) (by omega)) z⟩
      rw [ti]
      exact (prs_snoc _ _).symm
    · intro k2 j y hj hy kk2
      obtain ⟨y, w⟩ := y
      obtain ⟨b1, M2, b2, b3, b4⟩ := hy
      dsimp only at b1 b2 b3 b4 ⊢
      have cj : (nI j).toNatClampNeg = j := nI_clamp (by omega)
      have bj := gD_b (B := 60000000) ok.2 (k := j) (by omega)
      have ln := SL_len b4
      rw [List.length_append, List.length_map, List.length_take, show min j L.length = j by omega] at ln
      have tj : L.take (j + 1) = L.take j ++ [L.getD j 0] := by rw [List.take_add_one, List.getElem?_eq_getElem (by omega), gD_i (by omega)]; rfl
      unfold wX6_byPairs_14
      rw [ci, cj, nI_1 j, b2, nI_1 M2.length]
      refine ⟨fun z => absurd z (nI_nlt (by omega) (by omega)), fun _ => ⟨vp_in_nI (by omega) (by omega), vp_in_nI (by omega) (by omega), X_order (by decide) (lAdd (b1.2.2 i (by omega)) (b1.2.2 j (by omega)) (by omega) (by omega)) b3 b4 rfl (by omega) (fun w2 M3 f1 r1 s1 => ?_)⟩⟩
      have l3 := SL_len s1
      rw [List.length_cons, List.length_append, List.length_map, List.length_take, show min j L.length = j by omega] at l3
      refine kk2 (_, w2) ⟨b1.fr f1 (by decide) (by decide), M3, ?_, r1, ?_⟩
      · rw [l3, ← ln]; rfl
      · rw [tj, List.map_append, ← List.append_assoc]
        exact SL_snoc s1
theorem X_byWeights {p : Int32} {σ u : Sto} {post : Sto → Prop} (h : OX σ) (hp : okS p) (hn : ptN (vx σ) p.toNatClampNeg ≠ 0) (hu : qx σ u) (hq : ∀ τ (x y : Int64), qx σ τ → τ.2 10 0 = x → τ.2 10 1 = y → x.toInt = loA (wtA (vx σ) p.toNatClampNeg) (wtB (vx σ) p.toNatClampNeg) → y.toInt = loB (wtA (vx σ) p.toNatClampNeg) (wtB (vx σ) p.toNatClampNeg) → post τ) : wX6_byWeights p u post := by
  have hi := h.1
  have h14 := nH_le hi
  have hv := hu.vx
  have ho := h.qx hu
  generalize hκ : vx σ = κ at *
  have eH : u.1 1 2 = nI (nH κ) := by rw [← nH_I hi, ← hv]; rfl
  refine pk_loop (fun k i (x : Int64 × Int64) => wX6_byWeights_8 post _ k p x.1 x.2 (nI i) u) (fun i x => x.1.toInt = tot (pt κ p.toNatClampNeg) (fun a => 100000000 / wZ κ a * tL κ a p.toNatClampNeg) i ∧ x.2.toInt = tot (pt κ p.toNatClampNeg) (fun a => 100000000 / wZ κ a) i) (nH κ) 0 (0, 0) (Nat.zero_le _) ⟨rfl, rfl⟩ ?_ ?_
  · intro k x hx
    obtain ⟨x, y⟩ := x
    obtain ⟨a1, a2⟩ := hx
    dsimp only at a1 a2 ⊢
    have w := wtB_b hi hn
    unfold wX6_byWeights_8
    rw [eH]
    refine ⟨fun _ => X_become (show x.toInt = wtA κ p.toNatClampNeg from a1) (show y.toInt = wtB κ p.toNatClampNeg from a2) (by omega) (by omega) (by omega) (fun s t hs ht => ?_), fun z => absurd (nI_le (Nat.le_refl _) (by omega)) z⟩
    exact hq _ s t ((hu.wL (by decide)).wL (by decide)) (by rw [wL_2, uLN (by decide), wL_2, uLS]) (by rw [wL_2, uLS]) hs ht
  · intro k i x hi2 hx kk
    obtain ⟨x, y⟩ := x
    obtain ⟨a1, a2⟩ := hx
    dsimp only at a1 a2 ⊢
    have ci : (nI i).toNatClampNeg = i := nI_clamp (by omega)
    have iT : (nI i).toInt = i := nI_toInt (by omega)
    have wb := wZ_b hi hi2
    have tb := tL_b hi i p.toNatClampNeg
    have b := wt_b hi p.toNatClampNeg i (by omega)
    have cl := cnt_le (P := pt κ p.toNatClampNeg) (n := i)
    unfold wX6_byWeights_8
    rw [eH]
    refine ⟨fun z => absurd z (nI_ge hi2 (by omega)), fun _ => X_sq ho (by rw [hv]; exact okH_nI hi hi2) (fun r hr => ?_)⟩
    rw [hv, ci] at hr
    rw [iLe, hr, n0]
    refine ⟨fun z => absurd z (by omega), fun _ => X_takes ho (by omega) hp ?_⟩
    rw [ci, hv, nI_1]
    refine br_d' (fun z => ⟨fun w => ?_, hp.in, vp_in_nI (by omega) (by omega), ?_⟩) (fun z => ?_)
    · rw [lEq, iL hr, show (0 : Int64).toInt = 0 from rfl] at w
      omega
    · have pz : pt κ p.toNatClampNeg i = true := decide_eq_true z
      have eM := X_mean ho (a := i) (p := p.toNatClampNeg) (by omega) hp.lt
      rw [hv] at eM
      have q1 : 1 ≤ 100000000 / wZ κ i := by rw [Int.le_ediv_iff_mul_le (by omega)]; omega
      have q2 : 100000000 / wZ κ i ≤ 100000000 := Int.ediv_le_self _ (by decide)
      have eD : ((100000000 : Int64) / r.toInt64).toInt = 100000000 / wZ κ i := by
        rw [lDiv (show (100000000 : Int64).toInt = 100000000 from rfl) (iL hr) (by omega), Int.tdiv_eq_ediv_of_nonneg (by decide)]
      have m := mulB (x := 100000000 / wZ κ i) (y := tL κ i p.toNatClampNeg) (A := 100000000) (B := 60000000) (M := 6000000000000000) ⟨by omega, by omega⟩ ⟨by omega, by omega⟩ (by decide)
      have eP := lMul eD (iL eM) (by omega) (by omega)
      refine kk (_, _) ⟨?_, ?_⟩
      · rw [tot_s1 pz]
        exact lAdd a1 eP (by omega) (by omega)
      · rw [tot_s1 pz]
        exact lAdd a2 eD (by omega) (by omega)
    · have pz : pt κ p.toNatClampNeg i = false := decide_eq_false z
      exact kk (_, _) ⟨by rw [tot_s0 pz]; exact a1, by rw [tot_s0 pz]; exact a2⟩
theorem clZ_mm {X R v : Int} (hR : 0 ≤ R) : (if X - R < (if v < X + R then v else X + R) then (if v < X + R then v else X + R) else X - R) = clZ X R v := by
  unfold clZ
  by_cases q : v < X + R
  · rw [if_pos q, if_neg (show ¬ X + R < v by omega)]
    by_cases q1 : v < X - R
    · rw [if_neg (by omega), if_pos q1]
    · rw [if_neg q1]
      split <;> omega
  · rw [if_neg q, if_neg (show ¬ v < X - R by omega)]
    by_cases q1 : X + R < v
    · rw [if_pos q1]
      split <;> omega
    · rw [if_neg q1]
      split <;> omega
theorem sq_nn (x : Int) : 0 ≤ x * x := by
  rcases Int.le_total 0 x with q | q
  · exact Int.mul_nonneg q q
  · have := Int.mul_nonneg (show 0 ≤ -x by omega) (show 0 ≤ -x by omega)
    rwa [Int.neg_mul_neg] at this
theorem X_clMean {σ u : Sto} {x r : Int64} {X R : Int} {n : Nat} {L : List Int} {post : Int64 → Sto → Prop} (hr : RX σ n L u) (hl : L.length = n) (ok : okL L) (hx : x.toInt = X) (hR : r.toInt = R) (bx : -60000000 ≤ X ∧ X ≤ 60000000) (bR : 0 ≤ R ∧ R ≤ 300000000) (hq : ∀ τ (y : Int64), RX σ n L τ → (∀ k, k < n → (τ.2 53 k).toInt = clZ X R (L.getD k 0)) → y.toInt = lsum (L.map (clZ X R)) / n → post y τ) : wX6_clippedMean x r u post := by
  have hn := ok.1
  unfold wX6_clippedMean
  refine pk_loop (fun k i (y : Int64 × Sto) => wX6_clippedMean_6 post _ k x r y.1 (nI i) y.2) (fun i y => RX σ n L y.2 ∧ y.1.toInt = lsum ((L.take i).map (clZ X R)) ∧ ∀ k, k < i → (y.2.2 53 k).toInt = clZ X R (L.getD k 0)) n 0 (0, u) (Nat.zero_le _) ⟨hr, rfl, fun k hk => absurd hk (Nat.not_lt_zero _)⟩ ?_ ?_
  · intro k y hy
    obtain ⟨y, v⟩ := y
    obtain ⟨a1, a2, a3⟩ := hy
    dsimp only at a1 a2 a3 ⊢
    rw [List.take_of_length_le (by omega)] at a2
    have nT : (nI n).toInt = n := nI_toInt (by omega)
    have sb := lsum_b (B := 60000000) (by decide) (L.map (clZ X R)) (fun w hw => by
      obtain ⟨z, hz, e⟩ := List.mem_map.mp hw
      rw [← e]; exact clZ_b bx bR.1 (ok.2 z hz))
    rw [List.length_map] at sb
    unfold wX6_clippedMean_6
    rw [a1.2.1]
    refine ⟨fun _ => ⟨fun z => absurd z (nI_nle (by omega) (by omega)), fun _ => ?_⟩, fun z => absurd (nI_le (Nat.le_refl _) (by omega)) z⟩
    exact fd_ok a2 (iL nT) (by omega) (by omega) (fun q hq2 => hq v q a1 a3 hq2)
  · intro k i y hi hy kk
    obtain ⟨y, v⟩ := y
    obtain ⟨a1, a2, a3⟩ := hy
    dsimp only at a1 a2 a3 ⊢
    have ci : (nI i).toNatClampNeg = i := nI_clamp (by omega)
    have bi := gD_b (B := 60000000) ok.2 (k := i) (by omega)
    have v14 : vp_in (nI i) 14 := vp_in_nI (by omega) (by omega)
    have sb := lsum_b (B := 60000000) (by decide) ((L.take i).map (clZ X R)) (fun w hw => by
      obtain ⟨z, hz, e⟩ := List.mem_map.mp hw
      rw [← e]; exact clZ_b bx bR.1 (ok.2 z (List.mem_of_mem_take hz)))
    rw [List.length_map, List.length_take, show min i L.length = i by omega] at sb
    have cb := clZ_b bx bR.1 bi
    unfold wX6_clippedMean_6
    rw [a1.2.1, ci, nI_1]
    refine ⟨fun z => absurd z (nI_ge hi (by omega)), fun _ => ⟨v14, minL_ok (lAdd hx hR (by omega) (by omega)) (a1.2.2 i (by omega)) (fun r1 h1 => maxL_ok (lSub hx hR (by omega) (by omega)) h1 (fun r2 h2 => ⟨v14, v14, ?_⟩))⟩⟩
    have e2 : r2.toInt = clZ X R (L.getD i 0) := by
      rw [h2]
      exact clZ_mm bR.1
    rw [wL_2, uLS]
    refine kk (_, wL v 53 i r2) ⟨a1.fr (c := 53) fr1.refl.wL (by decide) (by decide), ?_, fun j hj => ?_⟩
    · dsimp only
      rw [lsum_take (by omega)]
      exact lAdd a2 e2 (by omega) (by omega)
    · dsimp only
      rw [wL_2]
      by_cases e : j = i
      · rw [e, uLS]; exact e2
      · rw [uLN e]; exact a3 j (by omega)
theorem sqZ_b {X R Y v : Int} (hc : -60000000 ≤ clZ X R v ∧ clZ X R v ≤ 60000000) (hy : -60000000 ≤ Y ∧ Y ≤ 60000000) : 0 ≤ sqZ X R Y v ∧ sqZ X R Y v ≤ 14400000000000000 := by
  have m := mulB (x := clZ X R v - Y) (y := clZ X R v - Y) (A := 120000000) (B := 120000000) (M := 14400000000000000) ⟨by omega, by omega⟩ ⟨by omega, by omega⟩ (by decide)
  have p := sq_nn (clZ X R v - Y)
  unfold sqZ
  omega
theorem lsum_nn : ∀ l : List Int, (∀ v, v ∈ l → 0 ≤ v) → 0 ≤ lsum l
  | [], _ => Int.le_refl _
  | a :: t, h => by
    have h1 := lsum_nn t (fun v hv => h v (List.mem_cons_of_mem _ hv))
    have h2 := h a List.mem_cons_self
    show 0 ≤ a + lsum t
    omega
/-- what is under the root, as long numbers reckon it -/
theorem spV_ok {x y : Int64} {q : Int} {n : Nat} (hx : x.toInt = q) (hy : y.toInt = (n : Int) - 1) (hn : 2 ≤ n) (hq : 0 ≤ q) : (x / y * (1286 : Int64) / (1000 : Int64)).toInt = spV q n := by
  have e1 : (x / y).toInt = q / ((n : Int) - 1) := by rw [lDiv hx hy (by omega), Int.tdiv_eq_ediv_of_nonneg hq]
  have e2 : (x / y * (1286 : Int64)).toInt = wr64 (q / ((n : Int) - 1) * 1286) := by
    rw [Int64.toInt_mul, e1]
    rfl
  rw [lDiv e2 (show (1000 : Int64).toInt = 1000 from rfl) (by decide)]
  rfl
theorem X_clSpread {σ u : Sto} {y : Int64} {X R Y : Int} {n : Nat} {L : List Int} {post : Int64 → Sto → Prop} (hr : RX σ n L u) (hl : L.length = n) (ok : okL L) (bx : -60000000 ≤ X ∧ X ≤ 60000000) (bR : 0 ≤ R) (hy : y.toInt = Y) (bY : -60000000 ≤ Y ∧ Y ≤ 60000000) (h53 : ∀ k, k < n → (u.2 53 k).toInt = clZ X R (L.getD k 0)) (hq : ∀ z : Int64, z.toInt = (if n = 1 then 0 else spV (lsum (L.map (sqZ X R Y))) n) → post z u) : wX6_clippedSpread y u post := by
  have hn := ok.1
  have nT : (nI n).toInt = n := nI_toInt (by omega)
  unfold wX6_clippedSpread
  rw [hr.2.1]
  refine ⟨fun q => ?_, fun q => hq 0 ?_⟩
  · rw [iLe, nT, show (2 : Int32).toInt = 2 from rfl] at q
    refine pk_loop (fun k i (s : Int64) => wX6_clippedSpread_15 post _ k y s (nI i) u) (fun i s => s.toInt = lsum ((L.take i).map (sqZ X R Y))) n 0 0 (Nat.zero_le _) rfl ?_ ?_
    · intro k s hs
      rw [List.take_of_length_le (by omega)] at hs
      unfold wX6_clippedSpread_15
      rw [hr.2.1]
      have m1 : ((nI n - (1 : Int32)).toInt64).toInt = (n : Int) - 1 := iL (iSub nT n1 (by omega) (by omega))
      have nn : 0 ≤ lsum (L.map (sqZ X R Y)) := lsum_nn _ (fun w hw => by
        obtain ⟨z, hz, e⟩ := List.mem_map.mp hw
        rw [← e]; exact (sqZ_b (clZ_b bx bR (ok.2 z hz)) bY).1)
      refine ⟨fun _ => ⟨fun z => ?_, hq _ ?_⟩, fun z => absurd (nI_le (Nat.le_refl _) (by omega)) z⟩
      · rw [lEq, m1, show (0 : Int64).toInt = 0 from rfl] at z
        omega
      · rw [if_neg (by omega)]
        exact spV_ok hs m1 (by omega) nn
    · intro k i s hi hs kk
      have ci : (nI i).toNatClampNeg = i := nI_clamp (by omega)
      have v14 : vp_in (nI i) 14 := vp_in_nI (by omega) (by omega)
      have bi := gD_b (B := 60000000) ok.2 (k := i) (by omega)
      have cb := clZ_b bx bR bi
      have qb := sqZ_b cb bY
      have e3 := h53 i (by omega)
      have d1 := lSub e3 hy (by omega) (by omega)
      have d2 : ((u.2 53 i - y) * (u.2 53 i - y)).toInt = sqZ X R Y (L.getD i 0) := lMul d1 d1 (by unfold sqZ at qb; omega) (by unfold sqZ at qb; omega)
      have sb := lsum_b (B := 14400000000000000) (by decide) ((L.take i).map (sqZ X R Y)) (fun w hw => by
        obtain ⟨z, hz, e⟩ := List.mem_map.mp hw
        have := sqZ_b (clZ_b bx bR (ok.2 z (List.mem_of_mem_take hz))) bY
        rw [← e]; omega)
      rw [List.length_map, List.length_take, show min i L.length = i by omega] at sb
      unfold wX6_clippedSpread_15
      rw [hr.2.1, ci, nI_1]
      refine ⟨fun z => absurd z (nI_ge hi (by omega)), fun _ => ⟨v14, v14, kk _ ?_⟩⟩
      rw [lsum_take (by omega)]
      exact lAdd hs d2 (by omega) (by omega)
  · rw [iLe, nT, show (2 : Int32).toInt = 2 from rfl] at q
    rw [if_pos (by omega)]
    rfl
theorem rtZ_0 : rtZ 0 = 0 := rtZ_eq ⟨by decide, Or.inl rfl, by decide⟩
theorem X_bySteps {σ u : Sto} {post : Int64 → Sto → Prop} {n : Nat} {l L : List Int} (hr : RX σ n L u) (hs : SL L l) (hl : L.length = n) (ok : okL L) (hq : ∀ τ (x : Int64), qx σ τ → x.toInt = stX l → post x τ) : wX6_bySteps u post := by
  have hn := ok.1
  have okl : okL l := ⟨by rw [← SL_len hs]; exact hn, fun v hv => ok.2 v (hs.2.mem_iff.mpr hv)⟩
  have nT : (nI n).toInt = n := nI_toInt (by omega)
  unfold wX6_bySteps
  rw [hr.2.1]
  have eL := SL_srt hs
  have tb := twZ_b (B := 60000000) okl.2 (by have := okl.1; omega)
  refine X_twice (by decide) hr.2.2 hl (by omega) (by omega) (fun j hj => by have := gD_b (B := 60000000) ok.2 (k := j) (by omega); omega) (fun r1 h1 => fd_ok h1 (show (2 : Int64).toInt = 2 from rfl) (by decide) (by rw [eL]; omega) (fun x hx => ?_))
  have ex : x.toInt = stx0 l := by rw [hx, eL]; rfl
  have bx : -60000000 ≤ stx0 l ∧ stx0 l ≤ 60000000 := (stN_b okl 0).1
  refine pk_loop (fun k i v => wX6_bySteps_20 post _ k x (nI i) v) (fun i v => RX σ n L v ∧ ∃ M, RwL v 53 M ∧ SL M ((L.take i).map (dvZ (stx0 l)))) n 0 u (Nat.zero_le _) ⟨hr, [], fun k hk => absurd hk (Nat.not_lt_zero _), by rw [List.take_zero]; exact SL_nil⟩ ?_ ?_
  · intro k v hv
    obtain ⟨a1, M, a2, a3⟩ := hv
    rw [List.take_of_length_le (by omega)] at a3
    have a4 : SL M (l.map (dvZ (stx0 l))) := SL_perm a3 (hs.2.map _)
    have eM := SL_srt a4
    have lM := SL_len a4
    rw [List.length_map, ← SL_len hs, hl] at lM
    have mb : ∀ w, w ∈ M → -120000000 ≤ w ∧ w ≤ 120000000 := fun w hw => by
      obtain ⟨z, hz, e⟩ := List.mem_map.mp (a4.2.mem_iff.mp hw)
      have := okl.2 z hz
      rw [← e]
      unfold dvZ
      split <;> omega
    have sb := (stN_b okl 0).2
    have tb2 := twZ_b (B := 120000000) (l := l.map (dvZ (stx0 l))) (fun w hw => mb w (a4.2.mem_iff.mpr hw)) (by rw [List.length_map]; have := okl.1; omega)
    unfold wX6_bySteps_20
    rw [a1.2.1]
    refine ⟨fun _ => X_twice (by decide) a2 lM (by omega) (by omega) (fun j hj => by have := gD_b (B := 120000000) mb (k := j) (by omega); omega) (fun r2 h2 => ?_), fun z => absurd (nI_le (Nat.le_refl _) (by omega)) z⟩
    rw [eM] at h2
    have t0 : 0 ≤ twZ (srt (l.map (dvZ (stx0 l)))) := by
      have : 0 ≤ sts0 l := sb.1
      unfold sts0 at this
      omega
    have es : (r2 * (1483 : Int64) / (2000 : Int64)).toInt = sts0 l := by
      have e1 : (r2 * (1483 : Int64)).toInt = twZ (srt (l.map (dvZ (stx0 l)))) * 1483 := lMul h2 rfl (by omega) (by omega)
      rw [lDiv e1 (show (2000 : Int64).toInt = 2000 from rfl) (by decide), Int.tdiv_eq_ediv_of_nonneg (by omega)]
      rfl
    refine pk_loop (fun k2 i (y : Int64 × Int64 × Sto) => wX6_bySteps_76 post _ k2 y.1 y.2.1 (nI i) y.2.2) (fun i y => RX σ n L y.2.2 ∧ y.1.toInt = (stN l i).1 ∧ y.2.1.toInt = (stN l i).2) 10 0 (x, r2 * (1483 : Int64) / (2000 : Int64), v) (Nat.zero_le _) ⟨a1, ex, es⟩ ?_ ?_
    · intro k2 y hy
      obtain ⟨y1, y2, w⟩ := y
      obtain ⟨b1, b2, b3⟩ := hy
      dsimp only at b1 b2 b3 ⊢
      unfold wX6_bySteps_76
      exact ⟨fun _ => hq w y1 b1.1 b2, fun z => absurd (by decide) z⟩
    · intro k2 i y hi hy kk
      obtain ⟨y1, y2, w⟩ := y
      obtain ⟨b1, b2, b3⟩ := hy
      dsimp only at b1 b2 b3 ⊢
      have sbi := stN_b okl i
      have e3 : ((3 : Int64) * y2 / (2 : Int64)).toInt = 3 * (stN l i).2 / 2 := by
        have e1 : ((3 : Int64) * y2).toInt = 3 * (stN l i).2 := lMul rfl b3 (by omega) (by omega)
        rw [lDiv e1 (show (2 : Int64).toInt = 2 from rfl) (by decide), Int.tdiv_eq_ediv_of_nonneg (by omega)]
      unfold wX6_bySteps_76
      refine ⟨fun z => absurd z (nI_ge (b := 10) hi (by decide)), fun _ => X_clMean b1 hl ok b2 e3 sbi.1 (by omega) (fun w2 x' c1 c2 c3 => ?_)⟩
      have st1 : stN l (i + 1) = stp L (stN l i) := (stp_perm hs.2 (stN l i)).symm
      have e4 : x'.toInt = (stN l (i + 1)).1 := by rw [c3, st1, ← hl]; rfl
      have bb := stN_b okl (i + 1)
      refine X_clSpread c1 hl ok sbi.1 (by omega) e4 bb.1 c2 (fun z hz => X_root hz (fun r hr2 => ?_))
      rw [nI_1]
      refine kk (x', r, w2) ⟨c1, e4, ?_⟩
      dsimp only
      rw [← rtZ_eq hr2, st1]
      show _ = if L.length = 1 then 0 else rtZ _
      rw [hl]
      by_cases q : n = 1
      · rw [if_pos q, if_pos q, rtZ_0]
      · rw [if_neg q, if_neg q]
        have : (stp L (stN l i)).1 = lsum (L.map (clZ (stN l i).1 (3 * (stN l i).2 / 2))) / n := by rw [← hl]; rfl
        rw [this]
  · intro k i v hi hv kk
    obtain ⟨a1, M, a2, a3⟩ := hv
    have ci : (nI i).toNatClampNeg = i := nI_clamp (by omega)
    have v14 : vp_in (nI i) 14 := vp_in_nI (by omega) (by omega)
    have bi := gD_b (B := 60000000) ok.2 (k := i) (by omega)
    have lM := SL_len a3
    rw [List.length_map, List.length_take, show min i L.length = i by omega] at lM
    have ti : L.take (i + 1) = L.take i ++ [L.getD i 0] := by rw [List.take_add_one, List.getElem?_eq_getElem (by omega), gD_i (by omega)]; rfl
    unfold wX6_bySteps_20
    rw [a1.2.1, ci, nI_1]
    refine ⟨fun z => absurd z (nI_ge hi (by omega)), fun _ => ⟨v14, absL_ok (lSub (a1.2.2 i (by omega)) ex (by omega) (by omega)) (by omega) (fun r hr2 => ?_)⟩⟩
    have e5 : r.toInt = dvZ (stx0 l) (L.getD i 0) := by
      rw [hr2]
      unfold dvZ
      split <;> omega
    refine X_order (by decide) e5 a2 a3 lM (by omega) (fun w M2 f1 r1 s1 => ?_)
    refine kk w ⟨a1.fr f1 (by decide) (by decide), M2, r1, ?_⟩
    rw [ti, List.map_append]
    exact SL_snoc s1
theorem X_reckonBy {r p : Int32} {σ : Sto} {post : Bool → Sto → Prop} (h : OX σ) (hp : okS p) (hf : ptN (vx σ) p.toNatClampNeg = 0 → ∀ τ, qx σ τ → post false τ) (hq : ptN (vx σ) p.toNatClampNeg ≠ 0 → ∀ τ (x y : Int64), qx σ τ → τ.2 10 0 = x → τ.2 10 1 = y → x.toInt = loA (nmA (vx σ) p.toNatClampNeg r) (nmB (vx σ) p.toNatClampNeg r) → y.toInt = loB (nmA (vx σ) p.toNatClampNeg r) (nmB (vx σ) p.toNatClampNeg r) → post true τ) : wX6_reckonBy r p σ post := by
  have hi := h.1
  unfold wX6_reckonBy
  refine X_gatherN h hp (fun u f g => ?_)
  have n14 := ptN_le hi p.toNatClampNeg
  rw [g.1, nI_z (by omega)]
  refine ⟨fun nz => ?_, fun z => hf z u f⟩
  have hq := hq nz
  have okT := okL_TL hi nz
  have hr : RX σ (ptN (vx σ) p.toNatClampNeg) (srt (TL (vx σ) p.toNatClampNeg)) u := ⟨f, g.1, g.2⟩
  have hs : SL (srt (TL (vx σ) p.toNatClampNeg)) (TL (vx σ) p.toNatClampNeg) := by
    refine ⟨?_, srt_p _⟩
    have := List.pairwise_mergeSort (le := fun (a b : Int) => decide (a ≤ b)) (fun a b c h1 h2 => by simp at h1 h2 ⊢; omega) (fun a b => by simp; omega) (TL (vx σ) p.toNatClampNeg)
    exact this.imp (fun h => of_decide_eq_true h)
  have hl : (srt (TL (vx σ) p.toNatClampNeg)).length = ptN (vx σ) p.toNatClampNeg := by rw [srt_len, TL_len]
  have ok : okL (srt (TL (vx σ) p.toNatClampNeg)) := ⟨by rw [srt_len]; exact okT.1, fun v hv => okT.2 v (hs.2.mem_iff.mp hv)⟩
  unfold nmA nmB at hq
  refine ⟨fun r0 => ⟨fun r1 => ⟨fun r2 => ?_, fun r2 => ?_⟩, fun r1 => ?_⟩, fun r0 => ?_⟩
  · rw [if_neg r0, if_neg r1, if_neg r2, if_neg r0, if_neg r1, if_neg r2] at hq
    have b := (stN_b okT 10).1
    refine X_bySteps hr hs hl ok (fun τ x q hx => X_become hx (show (1 : Int64).toInt = 1 from rfl) (by unfold stX; omega) (by decide) (by decide) (fun s t h1 h2 => ?_))
    exact hq _ s t ((q.wL (by decide)).wL (by decide)) (by rw [wL_2, uLN (by decide), wL_2, uLS]) (by rw [wL_2, uLS]) h1 h2
  · rw [if_neg r0, if_neg r1, if_pos r2, if_neg r0, if_neg r1, if_pos r2] at hq
    exact X_byWeights h hp nz f hq
  · rw [if_neg r0, if_pos r1, if_neg r0, if_pos r1] at hq
    rw [← srt_eq (prs_perm hs.2)] at hq
    exact X_byPairs hr hl ok hq
  · rw [if_pos r0, if_pos r0] at hq
    have tb := twZ_b (B := 60000000) okT.2 (by have := okT.1; omega)
    refine X_twice (by decide) g.2 hl (by omega) (by omega) (fun j hj => by have := gD_b (B := 60000000) ok.2 (k := j) (by omega); omega) (fun x hx => X_become hx (show (2 : Int64).toInt = 2 from rfl) (by omega) (by decide) (by decide) (fun s t h1 h2 => ?_))
    exact hq _ s t ((f.wL (by decide)).wL (by decide)) (by rw [wL_2, uLN (by decide), wL_2, uLS]) (by rw [wL_2, uLS]) h1 h2

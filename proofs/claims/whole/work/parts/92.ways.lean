/-! ways -/
theorem X_choices {n k : Nat} {σ : Sto} {post : Int64 → Sto → Prop} (hk : k ≤ n) (hn : n ≤ 13) (hq : post (lN (ch n k)) σ) : wX3_choices (nI n) (nI k) σ post := by
  unfold wX3_choices
  refine pk_loop (fun f i (y : Int64) => wX3_choices_5 post (fun x2_1 σ_1 => post x2_1 σ_1) f (nI n) (nI k) y (nI i) σ) (fun i y => 1 ≤ i ∧ y = lN (ch (n - k + (i - 1)) (i - 1))) (k + 1) 1 1 (by omega) ⟨Nat.le_refl _, by rw [show 1 - 1 = 0 from rfl, ch_z]; rfl⟩ ?_ ?_
  · intro f y hy
    obtain ⟨_, e⟩ := hy
    unfold wX3_choices_5
    refine ⟨fun _ => ?_, fun z => absurd (nI_lt (by omega) (by omega)) z⟩
    rw [e, Nat.add_sub_cancel, show n - k + k = n by omega]
    exact hq
  · intro f i y hi hy kk
    obtain ⟨i1, e⟩ := hy
    have m1 : ((nI n - nI k) + nI i).toInt = ((n - k + i : Nat) : Int) := by
      have a1 : (nI n).toInt = n := nI_toInt (by omega)
      have a2 : (nI k).toInt = k := nI_toInt (by omega)
      have a3 : (nI i).toInt = i := nI_toInt (by omega)
      rw [iAdd (iSub a1 a2 (by omega) (by omega)) a3 (by omega) (by omega)]
      omega
    have m2 : ((nI n - nI k) + nI i).toInt64 = lN (n - k + i) := lN_of (iL m1)
    have m3 : (nI i).toInt64 = lN i := lN_of (iL (nI_toInt (by omega)))
    have cb := ch_le (n - k + (i - 1)) (i - 1)
    have pb : 2 ^ (n - k + (i - 1)) ≤ 2 ^ 13 := Nat.pow_le_pow_right (by decide) (by omega)
    have id := ch_id (n - k + (i - 1)) (i - 1)
    rw [show i - 1 + 1 = i by omega, show n - k + (i - 1) + 1 = n - k + i by omega] at id
    have ub := Nat.mul_le_mul (show ch (n - k + (i - 1)) (i - 1) ≤ 8192 by omega) (show n - k + i ≤ 13 by omega)
    unfold wX3_choices_5
    rw [m2, m3, e, lN_mul, pk_lDiv (by omega) (by omega) (by omega), nI_1]
    refine ⟨fun z => absurd z (nI_nlt (by omega) (by omega)), fun _ => ⟨fun z => ?_, kk _ ⟨by omega, ?_⟩⟩⟩
    · rw [show (0 : Int64) = lN 0 from rfl, pk_lEQ (by omega) (by decide)] at z
      omega
    · rw [Nat.mul_comm, ← id, Nat.mul_div_cancel_left _ (by omega), Nat.add_sub_cancel]
theorem X_dealt {L : List Int} {σ : Sto} (hL : ∀ k, k < L.length → (σ.1 57 k).toInt = L.getD k 0) (hb : ∀ v, v ∈ L → -60000000 ≤ v ∧ v ≤ 60000000) : ∀ (m fuel k : Nat) (x : Int64) (X : Int) (post : Int32 → Sto → Prop), m ≤ 13 → m ≤ L.length → k ≤ 13 → m + 1 ≤ fuel → x.toInt = X → (-(2000000000 - 60000000 * (m : Int)) ≤ X ∧ X ≤ 2000000000 - 60000000 * (m : Int)) → post (nI (dl (L.take m).reverse k X)) σ → wX3_dealt fuel 57 14 (nI m) (nI k) x σ post := by
  intro m
  induction m with
  | zero =>
    intro fuel k x X post h13 hl hk hf hx hB hq
    obtain ⟨g, rfl⟩ : ∃ g, fuel = g + 1 := ⟨fuel - 1, by omega⟩
    unfold wX3_dealt
    rw [lLt, hx, show (0 : Int64).toInt = 0 from rfl]
    cases k with
    | zero =>
      rw [dl_z] at hq
      refine ⟨fun z => absurd z (by decide), fun _ => ⟨fun z => ?_, fun z => ?_⟩⟩
      · rw [if_neg (by omega)] at hq; exact hq
      · rw [if_pos (by omega)] at hq; exact hq
    | succ k =>
      rw [dl_0 _ _ _ (by rw [List.take_zero]; show 0 < k + 1; omega)] at hq
      exact ⟨fun _ => ⟨fun _ => hq, fun z => absurd (nI_lt (by omega) (by omega)) z⟩, fun z => absurd (nI_lt (a := 0) (by omega) (by omega)) z⟩
  | succ m ih =>
    intro fuel k x X post h13 hl hk hf hx hB hq
    obtain ⟨g, rfl⟩ : ∃ g, fuel = g + 1 := ⟨fuel - 1, by omega⟩
    unfold wX3_dealt
    rw [lLt, hx, show (0 : Int64).toInt = 0 from rfl]
    cases k with
    | zero =>
      rw [dl_z] at hq
      refine ⟨fun z => absurd z (by decide), fun _ => ⟨fun z => ?_, fun z => ?_⟩⟩
      · rw [if_neg (by omega)] at hq; exact hq
      · rw [if_pos (by omega)] at hq; exact hq
    | succ k =>
      have lt : (L.take (m + 1)).reverse.length = m + 1 := by rw [List.length_reverse, List.length_take]; omega
      have cm : (nI m).toNatClampNeg = m := nI_clamp (by omega)
      rw [nI_pred, nI_pred, cm]
      refine ⟨fun _ => ⟨fun z => ?_, fun z => ⟨fun _ => ⟨vp_in_nI (by omega) (by omega), ?_⟩, fun w => absurd (nI_le (b := 14) (by omega) (by decide)) w⟩⟩, fun z => absurd (nI_lt (a := 0) (by omega) (by omega)) z⟩
      · rw [nI_ltI (by omega) (by omega)] at z
        rw [dl_0 _ _ _ (by rw [lt]; omega)] at hq
        exact hq
      · have vm := hL m (by omega)
        have bm := hb _ (gD_mem (L := L) (k := m) (by omega))
        rw [tk_rev (by omega), dl_s] at hq
        refine ih g k _ (X - L.getD m 0) _ (by omega) (by omega) (by omega) (by omega) (lSub hx (iL vm) (by omega) (by omega)) (by omega) ?_
        refine ih g (k + 1) x X _ (by omega) (by omega) (by omega) (by omega) hx (by omega) ?_
        rw [nI_add]
        exact hq
theorem wy_b {κ : Kp} (h : Inv κ) (p : Nat) : wyN κ p 0 + wyN κ p 1 = ptN κ p ∧ ptN κ p ≤ 14 := ⟨wy_split h p (nH κ) (Nat.le_refl _), ptN_le h p⟩
/-- the chance, as long numbers reckon it -/
theorem ch_ok {κ : Kp} {p : Nat} {x y : Int64} (hn : ptN κ p ≤ 13) (hk : wyN κ p 1 ≤ ptN κ p) (hx : x.toInt = ((dl (TL κ p) (wyN κ p 1) (scZ κ p) * 1000000 : Nat) : Int)) (hy : y.toInt = (ch (ptN κ p) (wyN κ p 1) : Int)) : ¬ y = 0 ∧ x / y = Int64.ofInt (chZ κ p) := by
  have cp := ch_pos _ _ hk
  have d := dl_le (TL κ p) (wyN κ p 1) (scZ κ p)
  rw [TL_len] at d
  have pb : 2 ^ ptN κ p ≤ 2 ^ 13 := Nat.pow_le_pow_right (by decide) hn
  refine ⟨fun z => ?_, ?_⟩
  · rw [lEq, hy, show (0 : Int64).toInt = 0 from rfl] at z
    omega
  · have e : (x / y).toInt = chZ κ p := by
      rw [lDiv hx hy (by omega), Int.tdiv_eq_ediv_of_nonneg (by omega)]
      rfl
    have q : dl (TL κ p) (wyN κ p 1) (scZ κ p) * 1000000 / ch (ptN κ p) (wyN κ p 1) ≤ dl (TL κ p) (wyN κ p 1) (scZ κ p) * 1000000 := Nat.div_le_self _ _
    have e0 : chZ κ p = ((dl (TL κ p) (wyN κ p 1) (scZ κ p) * 1000000 / ch (ptN κ p) (wyN κ p 1) : Nat) : Int) := rfl
    generalize dl (TL κ p) (wyN κ p 1) (scZ κ p) * 1000000 / ch (ptN κ p) (wyN κ p 1) = Q at q e0
    exact oL e (by rw [e0]; omega) (by rw [e0]; omega)
theorem X_ways (p x : Int32) : SpX (wX10_ways p x) (S_ways p x) (fun κ => κ) := by
  intro σ post h hp
  have hh := hp σ h rfl fm.refl
  unfold S_ways at hp hh
  have no : ¬ (okS p ∧ 0 ≤ x.toInt ∧ x.toInt ≤ 2) → post (-2) σ := fun q => by rwa [if_neg q] at hh
  have hi := h.1
  unfold wX10_ways
  refine noPiece_ok (br_n (fun h1 => ?_) (fun h1 => no (fun q => h1 q.1)))
  simp only [iLt, iLe, n0, show (2 : Int32).toInt = 2 from rfl]
  refine ⟨fun q => no (by omega), fun q1 => ⟨fun q2 => ?_, fun q => no (by omega)⟩⟩
  have ok : okS p ∧ 0 ≤ x.toInt ∧ x.toInt ≤ 2 := ⟨h1, by omega, q2⟩
  refine X_gatherW h h1 (fun τ f g => ?_)
  have hpt := hp τ (h.qx f) f.vx f.fm
  rw [if_pos ok] at hpt
  have wb := wy_b hi p.toNatClampNeg
  have c0 : (0 : Int32).toNatClampNeg = 0 := rfl
  have c1 : (1 : Int32).toNatClampNeg = 1 := rfl
  have g0 : τ.1 58 0 = nI (wyN (vx σ) p.toNatClampNeg 0) := g.way 0 (by decide)
  have g1 : τ.1 58 1 = nI (wyN (vx σ) p.toNatClampNeg 1) := g.way 1 (by decide)
  have g4 : τ.1 7 4 = nI (ptN (vx σ) p.toNatClampNeg) := g.many
  have pT : (nI (ptN (vx σ) p.toNatClampNeg)).toInt = ptN (vx σ) p.toNatClampNeg := nI_toInt (by omega)
  rw [c0, c1, g0, g1, g4, nI_z (by omega), nI_z (by omega), pT, show (13 : Int32).toInt = 13 from rfl]
  refine ⟨fun z => ⟨vp_iff.mpr (by decide), fun w => ?_, fun w => ⟨vp_iff.mpr (by decide), fun v => ⟨fun y => ?_, fun y => ?_⟩, fun v => ?_⟩⟩, fun z => ⟨vp_iff.mpr (by omega), ?_⟩⟩
  · rw [if_neg (fun e => by rw [e, n0] at z; omega), if_neg (fun e => by rw [e, n1] at z; omega), if_pos (Or.inl w)] at hpt
    exact hpt
  · rw [if_neg (fun e => by rw [e, n0] at z; omega), if_neg (fun e => by rw [e, n1] at z; omega), if_neg (by omega), if_neg (by omega)] at hpt
    unfold wX3_chance
    rw [c1, g1, g4]
    refine ⟨vp_iff.mpr (by decide), X_choices (by omega) (by omega) ⟨vp_iff.mpr (by decide), ?_⟩⟩
    rw [g1, g4]
    have sc := sc_b hi p.toNatClampNeg 1 (nH (vx σ)) (nH_le hi)
    have gs : (τ.2 7 5).toInt = scZ (vx σ) p.toNatClampNeg := g.sum
    have ln := TL_len (κ := vx σ) (p := p.toNatClampNeg)
    have cb := ch_le (ptN (vx σ) p.toNatClampNeg) (wyN (vx σ) p.toNatClampNeg 1)
    have cp := ch_pos (ptN (vx σ) p.toNatClampNeg) (wyN (vx σ) p.toNatClampNeg 1) (by omega)
    have pb : 2 ^ ptN (vx σ) p.toNatClampNeg ≤ 2 ^ 13 := Nat.pow_le_pow_right (by decide) (by omega)
    refine X_dealt (L := TL (vx σ) p.toNatClampNeg) (fun k hk => g.row k (by rw [ln] at hk; exact hk)) (TLn_mem hi _) _ 20 _ _ _ _ (by omega) (by omega) (by omega) (by omega) gs (by unfold scZ; omega) ?_
    rw [List.take_of_length_le (by omega), dl_perm (List.reverse_perm _)]
    have d := dl_le (TL (vx σ) p.toNatClampNeg) (wyN (vx σ) p.toNatClampNeg 1) (scZ (vx σ) p.toNatClampNeg)
    rw [ln] at d
    have eC : (lN (ch (ptN (vx σ) p.toNatClampNeg) (wyN (vx σ) p.toNatClampNeg 1))).toInt = (ch (ptN (vx σ) p.toNatClampNeg) (wyN (vx σ) p.toNatClampNeg 1) : Int) := pk_lT (by omega)
    have eD : ((nI (dl (TL (vx σ) p.toNatClampNeg) (wyN (vx σ) p.toNatClampNeg 1) (scZ (vx σ) p.toNatClampNeg))).toInt64 * (1000000 : Int64)).toInt = ((dl (TL (vx σ) p.toNatClampNeg) (wyN (vx σ) p.toNatClampNeg 1) (scZ (vx σ) p.toNatClampNeg) * 1000000 : Nat) : Int) := by
      rw [lMul (iL (nI_toInt (by omega))) (show (1000000 : Int64).toInt = 1000000 from rfl) (by omega) (by omega)]
      omega
    have fin := ch_ok (κ := vx σ) (p := p.toNatClampNeg) (by omega) (by omega) eD eC
    rw [lLe, eC, show (0 : Int64).toInt = 0 from rfl, fin.2]
    exact ⟨fun q => absurd q (by omega), fun _ => ⟨fin.1, hpt⟩⟩
  · rw [if_neg (fun e => by rw [e, n0] at z; omega), if_neg (fun e => by rw [e, n1] at z; omega), if_neg (by omega), if_pos (by omega)] at hpt
    exact hpt
  · rw [if_neg (fun e => by rw [e, n0] at z; omega), if_neg (fun e => by rw [e, n1] at z; omega), if_pos (Or.inr v)] at hpt
    exact hpt
  · by_cases e : x = 0
    · rw [if_pos e] at hpt
      rw [e, c0, g0]; exact hpt
    · have e1 : x = 1 := iExt (show x.toInt = 1 by have : ¬ x.toInt = 0 := fun q => e (iExt q n0); omega) n1
      rw [if_neg e, if_pos e1] at hpt
      rw [e1, c1, g1]; exact hpt
theorem M_chanceOf {p : Int32} {σ : Sto} {post : Int32 → Sto → Prop} (h : OM σ) (hp : okS p) (hn : ptN (vm σ) p.toNatClampNeg ≤ 13) (hq : ∀ τ, OM τ → qm σ τ → post (Int64.ofInt (chZ (vm σ) p.toNatClampNeg)).toInt32 τ) : wX11_chanceOf p (nI (wyN (vm σ) p.toNatClampNeg 1)) σ post := by
  have hi := h.1
  have wb := wy_b hi p.toNatClampNeg
  unfold wX11_chanceOf
  refine M_scoreOf h hp (fun r u o f hr => M_rowOf o hp (fun v o2 f2 _ g => ?_))
  have q3 := f.trans f2
  have hvu := f.vm
  rw [hvu] at g
  generalize hκ : vm σ = κ at *
  generalize hK : wyN κ p.toNatClampNeg 1 = K at *
  generalize hN : ptN κ p.toNatClampNeg = n at *
  have hM : RwL v 84 (srt (TL κ p.toNatClampNeg)) := g.2
  have hl : (srt (TL κ p.toNatClampNeg)).length = n := by rw [srt_len, TL_len, hN]
  have mb : ∀ w, w ∈ srt (TL κ p.toNatClampNeg) → -60000000 ≤ w ∧ w ≤ 60000000 := fun w hw => TLn_mem hi _ w ((srt_p _).mem_iff.mp hw)
  have hD : dl (srt (TL κ p.toNatClampNeg)) = dl (TL κ p.toNatClampNeg) := by funext k x; exact dl_perm (srt_p _) k x
  have c23 : v.1 67 23 = nI n := by rw [g.1, hN]
  generalize srt (TL κ p.toNatClampNeg) = M at *
  have pb : 2 ^ n ≤ 2 ^ 13 := Nat.pow_le_pow_right (by decide) hn
  have sbd : ∀ s m, m ≤ n → -780000000 ≤ tot (Nat.testBit s) (fun i => M.getD i 0) m ∧ tot (Nat.testBit s) (fun i => M.getD i 0) m ≤ 780000000 := fun s m hm => by
    have b := tot_b (B := 60000000) (by decide) (P := Nat.testBit s) (f := fun i => M.getD i 0) (n := m) (fun i hi2 _ => gD_b (B := 60000000) mb (k := i) (by omega))
    omega
  refine pk_loop (fun k s (y : Int64 × Int64) => wX11_chanceOf_20 post _ k (nI K) r y.1 y.2 (nI s) v) (fun s y => y.1 = lN (cnt (pK K) s) ∧ y.2 = lN (cnt (pG M n K (scZ κ p.toNatClampNeg)) s)) (2 ^ n) 0 (0, 0) (Nat.zero_le _) ⟨rfl, rfl⟩ ?_ ?_
  · intro k y hy
    obtain ⟨y1, y2⟩ := y
    obtain ⟨b1, b2⟩ := hy
    dsimp only at b1 b2 ⊢
    rw [al_ch n K (by omega)] at b1
    rw [gr_all (by omega) hl, hD] at b2
    have d := dl_le (TL κ p.toNatClampNeg) K (scZ κ p.toNatClampNeg)
    rw [TL_len, hN] at d
    have cb := ch_le n K
    have e1 : y1.toInt = (ch (ptN κ p.toNatClampNeg) (wyN κ p.toNatClampNeg 1) : Int) := by rw [b1, hN, hK]; exact pk_lT (by omega)
    have e2 : ((1000000 : Int64) * y2).toInt = ((dl (TL κ p.toNatClampNeg) (wyN κ p.toNatClampNeg 1) (scZ κ p.toNatClampNeg) * 1000000 : Nat) : Int) := by
      rw [hK, b2, lMul (show (1000000 : Int64).toInt = 1000000 from rfl) (pk_lT (show dl (TL κ p.toNatClampNeg) K (scZ κ p.toNatClampNeg) < 2 ^ 63 by omega)) (by omega) (by omega)]
      omega
    have fin := ch_ok (κ := κ) (p := p.toNatClampNeg) (by omega) (by omega) e2 e1
    unfold wX11_chanceOf_20
    rw [c23, bSh n (by omega), fin.2]
    exact ⟨fun _ => ⟨fin.1, hq v o2 q3⟩, fun z => absurd (nI_le (Nat.le_refl _) (by omega)) z⟩
  · intro k s y hs hy kk
    obtain ⟨y1, y2⟩ := y
    obtain ⟨b1, b2⟩ := hy
    dsimp only at b1 b2 ⊢
    have pl := pc_le s
    unfold wX11_chanceOf_20
    rw [c23, bSh n (by omega)]
    refine ⟨fun z => absurd z (nI_ge hs (by omega)), fun _ => M_ones (by omega) ?_⟩
    rw [nI_eq (by omega) (by omega), nI_1]
    refine ⟨fun z => kk (y1, y2) ⟨?_, ?_⟩, fun z => ?_⟩
    · rw [cnt_s0 (decide_eq_false z)]; exact b1
    · rw [cnt_s0 (by unfold pG; rw [show pK K s = false from decide_eq_false z, Bool.false_and])]; exact b2
    · have pk : pK K s = true := decide_eq_true z
      refine pk_loop (fun k2 j (x : Int64) => wX11_chanceOf_46 post _ k2 (nI K) r y1 y2 (nI s) x (nI j) v) (fun j x => x.toInt = tot s.testBit (fun i => M.getD i 0) j) n 0 0 (Nat.zero_le _) rfl ?_ ?_
      · intro k2 x hx
        unfold wX11_chanceOf_46
        have hx' : x.toInt = sb M n s := hx
        rw [c23, lLt, hx', hr]
        refine ⟨fun _ => ?_, fun z => absurd (nI_le (Nat.le_refl _) (by omega)) z⟩
        unfold wX11_chanceOf_108
        rw [b1, b2, lN_1, Int64.add_zero, lN_1, nI_1]
        refine ⟨fun w => kk (_, _) ⟨by rw [cnt_s1 pk]; rfl, ?_⟩, fun w => kk (_, _) ⟨by rw [cnt_s1 pk]; rfl, ?_⟩⟩
        · rw [cnt_s0 (by unfold pG; rw [pk, decide_eq_false (by omega)]; rfl)]; rfl
        · rw [cnt_s1 (by unfold pG; rw [pk, decide_eq_true (by omega)]; rfl)]; rfl
      · intro k2 j x hj hx kk2
        have cj : (nI j).toNatClampNeg = j := nI_clamp (by omega)
        have bb := sbd s j (by omega)
        have bj := gD_b (B := 60000000) mb (k := j) (by omega)
        unfold wX11_chanceOf_46 wX11_chanceOf_79
        rw [c23, bT1 (by omega) (by omega), nI_1, Int64.add_zero, cj]
        refine ⟨fun z => absurd z (nI_ge hj (by omega)), fun _ => ⟨fun w => kk2 x ?_, fun w => ⟨vp_in_nI (by omega) (by omega), kk2 _ ?_⟩⟩⟩
        · rw [tot_s0 (by simpa using w)]; exact hx
        · rw [tot_s1 w]
          exact lAdd hx (hM j (by omega)) (by omega) (by omega)
theorem M_ways (p x : Int32) : SpM (wX11_ways p x) (S_ways p x) (fun κ => κ) := by
  intro σ post h hp
  unfold S_ways at hp
  have no : ¬ (okS p ∧ 0 ≤ x.toInt ∧ x.toInt ≤ 2) → post (-2) σ := fun q => by
    have := hp σ h rfl fx.refl
    rwa [if_neg q] at this
  have hi := h.1
  unfold wX11_ways
  refine isPiece_ok (br_d' (fun h1 => ?_) (fun h1 => no (fun q => h1 q.1)))
  refine in_ok (br_d (fun h2 => ?_) (fun h2 => no (fun q => h2 q.2)))
  rw [n0, show (2 : Int32).toInt = 2 from rfl] at h2
  have ok : okS p ∧ 0 ≤ x.toInt ∧ x.toInt ≤ 2 := ⟨h1, h2⟩
  refine M_wayMany h h1 (by decide) (fun u o1 f1 => M_wayMany o1 h1 (by decide) (fun τ o2 f2 => ?_))
  have f := f1.trans f2
  have hpt := hp τ o2 f.vm f.fx
  rw [if_pos ok] at hpt
  have wb := wy_b hi p.toNatClampNeg
  have c0 : (0 : Int32).toNatClampNeg = 0 := rfl
  have c1 : (1 : Int32).toNatClampNeg = 1 := rfl
  rw [f1.vm, c0, c1, nI_add, wb.1, nI_z (by omega), nI_z (by omega), iLe, iLe, nI_toInt (by omega), show (13 : Int32).toInt = 13 from rfl, show (2 : Int32).toInt = 2 from rfl]
  refine ⟨fun z => ⟨fun w => ?_, fun w => ⟨fun v => ⟨fun y => ?_, fun y => ?_⟩, fun v => ?_⟩⟩, fun z => ⟨fun e => ?_, fun e => ?_⟩⟩
  · rw [if_neg (fun e => by rw [e, n0] at z; omega), if_neg (fun e => by rw [e, n1] at z; omega), if_pos (Or.inl w)] at hpt
    exact hpt
  · have e := f.vm
    have := M_chanceOf (post := fun r82 s82 => post r82 s82) o2 h1 (by rw [e]; omega) (fun υ o3 f3 => ?_)
    · rw [e] at this; exact this
    · have g := hp υ o3 (f.trans f3).vm (f.trans f3).fx
      rw [if_pos ok, if_neg (fun e => by rw [e, n0] at z; omega), if_neg (fun e => by rw [e, n1] at z; omega), if_neg (by omega), if_neg (by omega)] at g
      rw [e]; exact g
  · rw [if_neg (fun e => by rw [e, n0] at z; omega), if_neg (fun e => by rw [e, n1] at z; omega), if_neg (by omega), if_pos (by omega)] at hpt
    exact hpt
  · rw [if_neg (fun e => by rw [e, n0] at z; omega), if_neg (fun e => by rw [e, n1] at z; omega), if_pos (Or.inr v)] at hpt
    exact hpt
  · have e1 : x = 1 := iExt (show x.toInt = 1 by have : ¬ x.toInt = 0 := fun q => e (iExt q n0); omega) n1
    rw [if_neg e, if_pos e1] at hpt
    exact hpt
  · rw [if_pos e] at hpt
    exact hpt

/-! marks, judged, run -/
def sgI (m : Int32) : Int32 := if m.toInt = 0 then 0 else if 0 < m.toInt then 1 else -1
theorem sg_a (x : Int32) : x >>> ((31 : Int32) &&& 31) = if x.toInt < 0 then -1 else 0 := by
  have xb := iR x
  have e : (x >>> ((31 : Int32) &&& 31)).toInt = x.toInt >>> 31 := by
    show ((x >>> ((31 : Int32) &&& 31)).toBitVec).toInt = _
    rw [Int32.toBitVec_shiftRight, show (((31 : Int32) &&& 31).toBitVec.smod 32) = BitVec.ofNat 32 31 by decide, BitVec.sshiftRight', BitVec.toInt_sshiftRight]
    rfl
  rw [Int.shiftRight_eq_div_pow] at e
  by_cases q : x.toInt < 0
  · rw [if_pos q]
    exact iExt (e.trans (show x.toInt / (2 ^ 31 : Nat) = -1 by omega)) rfl
  · rw [if_neg q]
    exact iExt (e.trans (show x.toInt / (2 ^ 31 : Nat) = 0 by omega)) rfl
theorem sg_b (y : Int32) : (y.toUInt32 >>> (((31 : Int32)).toUInt32 &&& Int32.toUInt32 31)).toInt32 = if y.toInt < 0 then 1 else 0 := by
  have e : (y.toUInt32 >>> (((31 : Int32)).toUInt32 &&& Int32.toUInt32 31)).toNat = y.toUInt32.toNat >>> 31 := by
    rw [UInt32.toNat_shiftRight]
    rfl
  have lt := y.toUInt32.toNat_lt
  have hy : y.toInt = (y.toUInt32.toNat : Int) - (if y.toInt < 0 then 4294967296 else 0) := by
    show y.toBitVec.toInt = _
    have := BitVec.toInt_eq_toNat_cond y.toBitVec
    have e2 : y.toUInt32.toNat = y.toBitVec.toNat := rfl
    have e3 : y.toInt = y.toBitVec.toInt := rfl
    rw [e2, e3]
    split at this <;> split <;> omega
  rw [Nat.shiftRight_eq_div_pow] at e
  by_cases q : y.toInt < 0
  · rw [if_pos q] at hy ⊢
    have e1 : (y.toUInt32 >>> (((31 : Int32)).toUInt32 &&& Int32.toUInt32 31)) = 1 := UInt32.toNat_inj.mp (e.trans (show y.toUInt32.toNat / 2 ^ 31 = 1 by have := iR y; omega))
    rw [e1]; rfl
  · rw [if_neg q] at hy ⊢
    have e1 : (y.toUInt32 >>> (((31 : Int32)).toUInt32 &&& Int32.toUInt32 31)) = 0 := UInt32.toNat_inj.mp (e.trans (show y.toUInt32.toNat / 2 ^ 31 = 0 by have := iR y; omega))
    rw [e1]; rfl
theorem sg_ok {x : Int32} {σ : Sto} {post : Int32 → Sto → Prop} (hx : -2147483648 < x.toInt) (h : post (sgI x) σ) : wJ6_signum_0f7a4 x σ post := by
  unfold wJ6_signum_0f7a4
  have en : (-x).toInt = -x.toInt := iNeg rfl hx
  rw [sg_a, sg_b, en]
  have : ((if x.toInt < 0 then (-1 : Int32) else 0) ||| (if -x.toInt < 0 then (1 : Int32) else 0)) = sgI x := by
    unfold sgI
    by_cases q : x.toInt = 0
    · rw [if_pos q, if_neg (by omega), if_neg (by omega)]; rfl
    · rw [if_neg q]
      by_cases q2 : 0 < x.toInt
      · rw [if_pos q2, if_neg (by omega), if_pos (by omega)]; rfl
      · rw [if_neg q2, if_pos (by omega), if_neg (by omega)]; rfl
  rw [this]
  exact h
noncomputable def mkZ (κ : Kp) (a p : Nat) : Int := ((tL κ a p - stX (TL κ p)) * 100).tdiv (1000 * dZ κ a)
theorem cnt_pos {P : Nat → Bool} : ∀ {n i : Nat}, i < n → P i = true → 0 < cnt P n
  | 0, i, h, _ => absurd h (Nat.not_lt_zero _)
  | n + 1, i, h, hp => by
    by_cases e : i = n
    · rw [← e, cnt_s1 hp]; omega
    · have := cnt_pos (P := P) (n := n) (i := i) (by omega) hp
      show 0 < cnt P n + _
      omega
theorem tdv_b {x d : Int} (h : -12000000000 ≤ x ∧ x ≤ 12000000000) (hd : 1000 ≤ d) : -12000000 ≤ x.tdiv d ∧ x.tdiv d ≤ 12000000 := by
  have up : ∀ y : Int, 0 ≤ y → y ≤ 12000000000 → 0 ≤ y.tdiv d ∧ y.tdiv d ≤ 12000000 := fun y h0 h1 => by
    rw [Int.tdiv_eq_ediv_of_nonneg h0]
    exact ⟨Int.ediv_nonneg h0 (by omega), Int.ediv_le_of_le_mul (by omega) (by omega)⟩
  rcases Int.le_total 0 x with q | q
  · have := up x q h.2; omega
  · have := up (-x) (by omega) (by omega)
    rw [Int.neg_tdiv] at this
    omega
theorem mkZ_b {κ : Kp} (h : Inv κ) {a p : Nat} (ha : a < nH κ) (hc : 0 < cN κ a p) : ptN κ p ≠ 0 ∧ (-120000000 ≤ tL κ a p - stX (TL κ p) ∧ tL κ a p - stX (TL κ p) ≤ 120000000) ∧ -12000000 ≤ mkZ κ a p ∧ mkZ κ a p ≤ 12000000 := by
  have hn : ptN κ p ≠ 0 := by
    have := cnt_pos (P := pt κ p) ha (decide_eq_true hc)
    unfold ptN
    omega
  have b := (stN_b (okL_TL h hn) 10).1
  have t := tL_b h a p
  have d := dZ_b h ha
  refine ⟨hn, ?_, ?_⟩
  · unfold stX; omega
  · unfold mkZ stX
    exact tdv_b (by omega) (by omega)
theorem X_markOf {a p : Int32} {σ : Sto} {post : Int32 → Sto → Prop} (h : OX σ) (ha : okHouse a (vx σ)) (hp : okS p) (hc : 0 < cN (vx σ) a.toNatClampNeg p.toNatClampNeg) (hq : ∀ τ, qx σ τ → post (Int32.ofInt (mkZ (vx σ) a.toNatClampNeg p.toNatClampNeg)) τ) : wX6_markOf a p σ post := by
  have hi := h.1
  have lh := ha.lh
  have ra := ha.r hi
  have mb := mkZ_b hi lh hc
  have okT := okL_TL hi mb.1
  have d := dZ_b hi lh
  unfold wX6_markOf
  refine X_gatherN h hp (fun u f g => ⟨vp_iff.mpr ra, ?_⟩)
  have ho := h.qx f
  have hvu := f.vx
  have ea : (u.1 14 a.toNatClampNeg).toInt = dZ (vx σ) a.toNatClampNeg := by rw [← hvu]; unfold dZ; rw [vx_r (c := 2) (by omega) (h14n ra)]; rfl
  have eb : ((1000 : Int64) * (u.1 14 a.toNatClampNeg).toInt64).toInt = 1000 * dZ (vx σ) a.toNatClampNeg := lMul rfl (iL ea) (by omega) (by omega)
  have eM := X_mean ho (a := a.toNatClampNeg) (p := p.toNatClampNeg) (h14n ra) hp.lt
  rw [hvu] at eM
  rw [lLe, lEq, eb, show (0 : Int64).toInt = 0 from rfl]
  refine ⟨fun z => absurd z (by omega), fun _ => ⟨hp.in, vp_iff.mpr ra, ?_⟩⟩
  have hs : SL (srt (TL (vx σ) p.toNatClampNeg)) (TL (vx σ) p.toNatClampNeg) := by
    refine ⟨?_, srt_p _⟩
    have := List.pairwise_mergeSort (le := fun (a b : Int) => decide (a ≤ b)) (fun a b c h1 h2 => by simp at h1 h2 ⊢; omega) (fun a b => by simp; omega) (TL (vx σ) p.toNatClampNeg)
    exact this.imp (fun h => of_decide_eq_true h)
  have hl : (srt (TL (vx σ) p.toNatClampNeg)).length = ptN (vx σ) p.toNatClampNeg := by rw [srt_len, TL_len]
  have ok : okL (srt (TL (vx σ) p.toNatClampNeg)) := ⟨by rw [srt_len]; exact okT.1, fun v hv => okT.2 v (hs.2.mem_iff.mp hv)⟩
  refine X_bySteps ⟨f, g.1, g.2⟩ hs hl ok (fun τ x q hx => ⟨by omega, ?_⟩)
  have e1 := lSub (iL eM) hx (by omega) (by omega)
  have e2 := lMul e1 (show (100 : Int64).toInt = 100 from rfl) (by omega) (by omega)
  have e3 : ((((u.1 (45 + p.toNatClampNeg) a.toNatClampNeg).toInt64 - x) * (100 : Int64)) / ((1000 : Int64) * (u.1 14 a.toNatClampNeg).toInt64)).toInt = mkZ (vx σ) a.toNatClampNeg p.toNatClampNeg := lDiv e2 eb (by omega)
  rw [oI (lI e3 (by omega) (by omega)) (by omega) (by omega)]
  exact hq τ q
theorem M_markOf {a p : Int32} {σ : Sto} {post : Int32 → Sto → Prop} (h : OM σ) (ha : okHouse a (vm σ)) (hp : okS p) (hc : 0 < cN (vm σ) a.toNatClampNeg p.toNatClampNeg) (hq : ∀ τ, OM τ → qm σ τ → post (Int32.ofInt (mkZ (vm σ) a.toNatClampNeg p.toNatClampNeg)) τ) : wX11_markOf a p σ post := by
  have hi := h.1
  have lh := ha.lh
  have ra := ha.r hi
  have mb := mkZ_b hi lh hc
  have d := dZ_b hi lh
  unfold wX11_markOf
  refine M_steps h hp mb.1 (fun τ wk f h1 h2 => toldOf_W wk ra hp (by rw [f.vm]; exact hc) (fun r hr => ⟨vp_iff.mpr ra, ?_⟩))
  rw [f.vm] at hr
  have ea : (τ.1 69 a.toNatClampNeg).toInt = dZ (vm σ) a.toNatClampNeg := by
    rw [← f.vm]
    unfold dZ
    rw [vm_r (c := 2) (by omega) (by omega) (h14n ra), show (axm 2).2.2 + a.toNatClampNeg = a.toNatClampNeg from Nat.zero_add _]
    rfl
  have eb : ((1000 : Int64) * (τ.1 69 a.toNatClampNeg).toInt64).toInt = 1000 * dZ (vm σ) a.toNatClampNeg := lMul rfl (iL ea) (by omega) (by omega)
  have e1 := lSub hr h1 (by omega) (by omega)
  have e2 := lMul e1 (show (100 : Int64).toInt = 100 from rfl) (by omega) (by omega)
  have e3 : (((r - τ.2 67 25) * (100 : Int64)) / ((1000 : Int64) * (τ.1 69 a.toNatClampNeg).toInt64)).toInt = mkZ (vm σ) a.toNatClampNeg p.toNatClampNeg := lDiv e2 eb (by omega)
  refine ⟨fun z => ?_, ?_⟩
  · rw [lEq, eb, show (0 : Int64).toInt = 0 from rfl] at z
    omega
  · rw [oI (lI e3 (by omega) (by omega)) (by omega) (by omega)]
    exact hq τ wk.1 f
noncomputable def mkI (κ : Kp) (a p : Nat) : Int32 := Int32.ofInt (mkZ κ a p)
theorem mkI_t {κ : Kp} (h : Inv κ) {a p : Nat} (ha : a < nH κ) (hc : 0 < cN κ a p) : (mkI κ a p).toInt = mkZ κ a p := by
  have := mkZ_b h ha hc
  exact Int32.toInt_ofInt_of_le (by omega) (by omega)
noncomputable def S_mark (a p : Int32) (κ : Kp) : Int32 := @ite _ (okHouse a κ ∧ okS p) (Classical.propDecidable _) (if 0 < cN κ a.toNatClampNeg p.toNatClampNeg then mkI κ a.toNatClampNeg p.toNatClampNeg else (-2147483647)) (-2147483648)
theorem X_mark (a p : Int32) : SpX (wX10_mark a p) (S_mark a p) (fun κ => κ) := by
  intro σ post h hp
  have hh := hp σ h rfl fm.refl
  unfold S_mark at hp hh
  have no : ¬ (okHouse a (vx σ) ∧ okS p) → post (-2147483648) σ := fun q => by rwa [if_neg q] at hh
  unfold wX10_mark
  refine noHouse_ok (br_n (fun h1 => ?_) (fun h1 => no (fun q => h1 q.1)))
  refine noPiece_ok (And.symm (br_n (fun h2 => ?_) (fun h2 => no (fun q => h2 q.2))))
  have ok : okHouse a (vx σ) ∧ okS p := ⟨h1, h2⟩
  rw [if_pos ok] at hh
  refine X_takes h (ok.1.r h.1) ok.2 (br_d' (fun z => X_markOf h ok.1 ok.2 z (fun τ f => ?_)) (fun z => ?_))
  · have := hp τ (h.qx f) f.vx f.fm
    rw [if_pos ok, if_pos z] at this
    exact this
  · rw [if_neg z] at hh; exact hh
theorem M_mark (a p : Int32) : SpM (wX11_mark a p) (S_mark a p) (fun κ => κ) := by
  intro σ post h hp
  unfold S_mark at hp
  have no : ¬ (okHouse a (vm σ) ∧ okS p) → post (-2147483648) σ := fun q => by
    have := hp σ h rfl fx.refl
    rwa [if_neg q] at this
  unfold wX11_mark
  refine isHouse_ok h.1.2.2.1.1 (br_d' (fun h1 => ?_) (fun h1 => no (fun q => h1 q.1)))
  refine isPiece_ok (br_d (fun h2 => ?_) (fun h2 => no (fun q => h2 q.2)))
  have ok : okHouse a (vm σ) ∧ okS p := ⟨h1, h2⟩
  refine takes_K h (ok.1.r h.1) ok.2 (fun τ wk f => br_d' (fun z => ?_) (fun z => ?_))
  · have e := f.vm
    refine M_markOf wk.1 (by rw [e]; exact ok.1) ok.2 (by rw [e]; exact z) (fun υ o f2 => ?_)
    have := hp υ o (f.trans f2).vm (f.trans f2).fx
    rw [if_pos ok, if_pos z] at this
    rw [e]; exact this
  · have := hp τ wk.1 f.vm f.fx
    rw [if_pos ok, if_neg z] at this
    exact this
noncomputable def jdI (m : Int32) : Int32 := if (if 0 ≤ m.toInt then m.toInt else -m.toInt) ≤ 200 then 0 else if 300 < (if 0 ≤ m.toInt then m.toInt else -m.toInt) then 2 else 1
noncomputable def S_judged (a p : Int32) (κ : Kp) : Int32 := @ite _ (okHouse a κ ∧ okS p) (Classical.propDecidable _) (if 0 < cN κ a.toNatClampNeg p.toNatClampNeg then jdI (mkI κ a.toNatClampNeg p.toNatClampNeg) else (-3)) (-2)
theorem X_judged (a p : Int32) : SpX (wX10_judged a p) (S_judged a p) (fun κ => κ) := by
  intro σ post h hp
  have hh := hp σ h rfl fm.refl
  unfold S_judged at hp hh
  have no : ¬ (okHouse a (vx σ) ∧ okS p) → post (-2) σ := fun q => by rwa [if_neg q] at hh
  unfold wX10_judged
  refine noHouse_ok (br_n (fun h1 => ?_) (fun h1 => no (fun q => h1 q.1)))
  refine noPiece_ok (And.symm (br_n (fun h2 => ?_) (fun h2 => no (fun q => h2 q.2))))
  have ok : okHouse a (vx σ) ∧ okS p := ⟨h1, h2⟩
  rw [if_pos ok] at hh
  refine X_takes h (ok.1.r h.1) ok.2 (And.symm (br_d' (fun z => X_markOf h ok.1 ok.2 z (fun τ f => ?_)) (fun z => ?_)))
  · have := hp τ (h.qx f) f.vx f.fm
    rw [if_pos ok, if_pos z] at this
    have mt := mkI_t h.1 ok.1.lh z
    have mb := mkZ_b h.1 ok.1.lh z
    refine absI_ok (x := mkI (vx σ) a.toNatClampNeg p.toNatClampNeg) rfl (by omega) (fun r hr => ?_)
    unfold jdI at this
    rw [iLt, iLe, hr, show (200 : Int32).toInt = 200 from rfl, show (300 : Int32).toInt = 300 from rfl]
    refine ⟨fun q => ⟨fun w => ?_, fun w => ?_⟩, fun q => ?_⟩
    · rw [if_neg (by omega), if_neg (by omega)] at this; exact this
    · rw [if_neg (by omega), if_pos (by omega)] at this; exact this
    · rw [if_pos (by omega)] at this; exact this
  · rw [if_neg z] at hh; exact hh
theorem M_judged (a p : Int32) : SpM (wX11_judged a p) (S_judged a p) (fun κ => κ) := by
  intro σ post h hp
  unfold S_judged at hp
  have no : ¬ (okHouse a (vm σ) ∧ okS p) → post (-2) σ := fun q => by
    have := hp σ h rfl fx.refl
    rwa [if_neg q] at this
  unfold wX11_judged
  refine isHouse_ok h.1.2.2.1.1 (br_d' (fun h1 => ?_) (fun h1 => no (fun q => h1 q.1)))
  refine isPiece_ok (br_d (fun h2 => ?_) (fun h2 => no (fun q => h2 q.2)))
  have ok : okHouse a (vm σ) ∧ okS p := ⟨h1, h2⟩
  refine takes_K h (ok.1.r h.1) ok.2 (fun τ wk f => And.symm (br_d' (fun z => ?_) (fun z => ?_)))
  · have e := f.vm
    refine M_markOf wk.1 (by rw [e]; exact ok.1) ok.2 (by rw [e]; exact z) (fun υ o f2 => ?_)
    have := hp υ o (f.trans f2).vm (f.trans f2).fx
    rw [if_pos ok, if_pos z] at this
    rw [e]
    have mt := mkI_t h.1 ok.1.lh z
    have mb := mkZ_b h.1 ok.1.lh z
    refine amount_ok (x := (mkI (vm σ) a.toNatClampNeg p.toNatClampNeg).toInt64) (iL rfl) (by omega) (fun r hr => ?_)
    unfold jdI at this
    rw [lLt, lLe, hr, show (200 : Int64).toInt = 200 from rfl, show (300 : Int64).toInt = 300 from rfl]
    refine ⟨fun q => ⟨fun w => ?_, fun w => ?_⟩, fun q => ?_⟩
    · rw [if_neg (by omega), if_neg (by omega)] at this; exact this
    · rw [if_neg (by omega), if_pos (by omega)] at this; exact this
    · rw [if_pos (by omega)] at this; exact this
  · have := hp τ wk.1 f.vm f.fx
    rw [if_pos ok, if_neg z] at this
    exact this
/-- best, length, side -/
def rnS (t : Int32 × Int32 × Int32) (s : Int32) : Int32 × Int32 × Int32 :=
  let n := if s = 0 then (0 : Int32) else if s = t.2.2 then t.2.1 + 1 else 1
  (if t.1.toInt < n.toInt then n else t.1, n, s)
noncomputable def rnF (κ : Kp) (a : Nat) : Nat → Int32 × Int32 × Int32
  | 0 => (0, 0, 0)
  | p + 1 => if 0 < cN κ a p then rnS (rnF κ a p) (sgI (mkI κ a p)) else rnF κ a p
noncomputable def S_run (a : Int32) (κ : Kp) : Int32 := @ite _ (okHouse a κ) (Classical.propDecidable _) (rnF κ a.toNatClampNeg 4).1 (-2)
theorem X_run (a : Int32) : SpX (wX10_run a) (S_run a) (fun κ => κ) := by
  intro σ post h hp
  have hh := hp σ h rfl fm.refl
  unfold S_run at hp hh
  have hi := h.1
  have hv : ∀ u, qx σ u → vx u = vx σ := fun u f => f.vx
  unfold wX10_run
  refine noHouse_ok (And.symm (br_n (fun (h1 : okHouse a (vx σ)) => ?_) (fun (h1 : ¬ okHouse a (vx σ)) => by rwa [if_neg h1] at hh)))
  have hp' : ∀ τ, qx σ τ → post (rnF (vx σ) a.toNatClampNeg 4).1 τ := fun τ f => by
    have := hp τ (h.qx f) f.vx f.fm
    rwa [if_pos h1] at this
  unfold wX6_longestRun
  refine pk_loop (fun k i (y : (Int32 × Int32 × Int32) × Sto) => wX6_longestRun_10 (fun r16 s16 => post r16 s16) (fun x2_1 σ_1 => (fun r16 s16 => post r16 s16) x2_1 σ_1) k a y.1.1 y.1.2.1 y.1.2.2 (nI i) y.2) (fun i y => y.1 = rnF (vx σ) a.toNatClampNeg i ∧ qx σ y.2) 4 0 ((0, 0, 0), σ) (Nat.zero_le _) ⟨rfl, qx.refl⟩ ?_ ?_
  · intro k y hy
    obtain ⟨⟨y1, y2, y3⟩, u⟩ := y
    obtain ⟨a1, a2⟩ := hy
    dsimp only at a1 a2 ⊢
    unfold wX6_longestRun_10
    refine ⟨fun _ => ?_, fun z => absurd (by decide) z⟩
    have := hp' u a2
    rw [← a1] at this
    exact this
  · intro k i y hi2 hy kk
    obtain ⟨⟨y1, y2, y3⟩, u⟩ := y
    obtain ⟨a1, a2⟩ := hy
    dsimp only at a1 a2 ⊢
    have ho := h.qx a2
    have hvu := hv u a2
    have ci : (nI i).toNatClampNeg = i := nI_clamp (by omega)
    have iT : (nI i).toInt = i := nI_toInt (by omega)
    have pk : okS (nI i) := ⟨by omega, by omega⟩
    unfold wX6_longestRun_10
    rw [nI_1]
    refine ⟨fun z => absurd z (nI_ge (b := 4) hi2 (by decide)), fun _ => X_takes ho (h1.r hi) pk ?_⟩
    rw [ci, hvu]
    refine br_d' (fun z => X_markOf ho (by rw [hvu]; exact h1) pk (by rw [hvu, ci]; exact z) (fun v f2 => ?_)) (fun z => ?_)
    · rw [hvu, ci]
      have mt := mkI_t hi h1.lh z
      have mb := mkZ_b hi h1.lh z
      refine sg_ok (x := mkI (vx σ) a.toNatClampNeg i) (by omega) ?_
      have nx : rnF (vx σ) a.toNatClampNeg (i + 1) = rnS (y1, y2, y3) (sgI (mkI (vx σ) a.toNatClampNeg i)) := by
        show (if _ then _ else _) = _
        rw [if_pos z, a1]
      generalize sgI (mkI (vx σ) a.toNatClampNeg i) = s at nx ⊢
      have fin : ∀ n : Int32, n = (if s = 0 then (0 : Int32) else if s = y3 then y2 + 1 else 1) → wX6_longestRun_64 (fun r16 s16 => post r16 s16) (wX6_longestRun_10 (fun r16 s16 => post r16 s16) (fun x2_1 σ_1 => (fun r16 s16 => post r16 s16) x2_1 σ_1) k) a y1 (nI i) s n v := fun n en => by
        unfold wX6_longestRun_64 wJ9_max_7cf53
        rw [iLt, nI_1]
        have st : rnF (vx σ) a.toNatClampNeg (i + 1) = (if y1.toInt < n.toInt then n else y1, n, s) := by
          rw [nx, en]; rfl
        refine ⟨fun q => kk ((n, n, s), v) ⟨?_, a2.trans f2⟩, fun q => kk ((y1, n, s), v) ⟨?_, a2.trans f2⟩⟩
        · rw [st, if_pos q]
        · rw [st, if_neg q]
      refine ⟨fun e => ⟨fun e2 => fin _ ?_, fun e2 => fin _ ?_⟩, fun e => fin _ ?_⟩
      · rw [if_neg e, if_neg e2]
      · rw [if_neg e, if_pos e2]
      · rw [if_pos e]
    · refine kk ((y1, y2, y3), u) ⟨?_, a2⟩
      show _ = (if _ then _ else _)
      rw [if_neg z]; exact a1
theorem M_run (a : Int32) : SpM (wX11_run a) (S_run a) (fun κ => κ) := by
  intro σ post h hp
  unfold S_run at hp
  have hi := h.1
  have hv : ∀ u, qm σ u → vm u = vm σ := fun u f => f.vm
  unfold wX11_run
  refine isHouse_ok h.1.2.2.1.1 (And.symm (br_d' (fun (h1 : okHouse a (vm σ)) => ?_) (fun (h1 : ¬ okHouse a (vm σ)) => by have := hp σ h rfl fx.refl; rwa [if_neg h1] at this)))
  have hp' : ∀ τ, OM τ → qm σ τ → post (rnF (vm σ) a.toNatClampNeg 4).1 τ := fun τ o f => by
    have := hp τ o f.vm f.fx
    rwa [if_pos h1] at this
  refine pk_loop (fun k i (y : (Int32 × Int32 × Int32) × Sto) => wX11_run_21 post (fun x2_1 σ_1 => post x2_1 σ_1) k a y.1.1 y.1.2.1 y.1.2.2 (nI i) y.2) (fun i y => y.1 = rnF (vm σ) a.toNatClampNeg i ∧ OM y.2 ∧ qm σ y.2) 4 0 ((0, 0, 0), σ) (Nat.zero_le _) ⟨rfl, h, qm.refl⟩ ?_ ?_
  · intro k y hy
    obtain ⟨⟨y1, y2, y3⟩, u⟩ := y
    obtain ⟨a1, a2, a3⟩ := hy
    dsimp only at a1 a2 a3 ⊢
    unfold wX11_run_21
    refine ⟨fun _ => ?_, fun z => absurd (by decide) z⟩
    have := hp' u a2 a3
    rw [← a1] at this
    exact this
  · intro k i y hi2 hy kk
    obtain ⟨⟨y1, y2, y3⟩, u⟩ := y
    obtain ⟨a1, a2, a3⟩ := hy
    dsimp only at a1 a2 a3 ⊢
    have hvu := hv u a3
    have ci : (nI i).toNatClampNeg = i := nI_clamp (by omega)
    have iT : (nI i).toInt = i := nI_toInt (by omega)
    have pk : okS (nI i) := ⟨by omega, by omega⟩
    unfold wX11_run_21
    rw [nI_1]
    refine ⟨fun z => absurd z (nI_ge (b := 4) hi2 (by decide)), fun _ => takes_K a2 (h1.r hi) pk (fun τ wk f => ?_)⟩
    rw [ci, hvu]
    have q3 := a3.trans f
    have hvt := hv τ q3
    refine br_d' (fun z => M_markOf wk.1 (by rw [hvt]; exact h1) pk (by rw [hvt, ci]; exact z) (fun v o2 f2 => ?_)) (fun z => ?_)
    · rw [hvt, ci]
      have q4 := q3.trans f2
      have nx : rnF (vm σ) a.toNatClampNeg (i + 1) = rnS (y1, y2, y3) (sgI (mkI (vm σ) a.toNatClampNeg i)) := by
        show (if _ then _ else _) = _
        rw [if_pos z, a1]
      have em : Int32.ofInt (mkZ (vm σ) a.toNatClampNeg i) = mkI (vm σ) a.toNatClampNeg i := rfl
      rw [em]
      generalize mkI (vm σ) a.toNatClampNeg i = m at nx ⊢
      have go : ∀ s : Int32, s = sgI m → wX11_run_65 post (wX11_run_21 post (fun x2_1 σ_1 => post x2_1 σ_1) k) a y1 y2 y3 (nI i) s v := fun s es => by
        rw [← es] at nx
        have fin : ∀ n : Int32, n = (if s = 0 then (0 : Int32) else if s = y3 then y2 + 1 else 1) → wX11_run_90 post (wX11_run_21 post (fun x2_1 σ_1 => post x2_1 σ_1) k) a y1 (nI i) s n v := fun n en => by
          unfold wX11_run_90 wX11_run_105
          rw [iLe, nI_1]
          have st : rnF (vm σ) a.toNatClampNeg (i + 1) = (if y1.toInt < n.toInt then n else y1, n, s) := by
            rw [nx, en]; rfl
          refine ⟨fun q => kk ((y1, n, s), v) ⟨?_, o2, q4⟩, fun q => kk ((n, n, s), v) ⟨?_, o2, q4⟩⟩
          · rw [st, if_neg (by omega)]
          · rw [st, if_pos (by omega)]
        unfold wX11_run_65
        refine ⟨fun e => ⟨fun e2 => fin _ ?_, fun e2 => fin _ ?_⟩, fun e => fin _ ?_⟩
        · rw [if_neg e, if_neg e2]
        · rw [if_neg e, if_pos e2]
        · rw [if_pos e]
      rw [iLe, iLe, n0]
      refine ⟨fun q => ⟨fun q2 => go 0 ?_, fun q2 => go (-1) ?_⟩, fun q => go 1 ?_⟩
      · unfold sgI; rw [if_pos (by omega)]
      · unfold sgI; rw [if_neg (by omega), if_neg (by omega)]
      · unfold sgI; rw [if_neg (by omega), if_pos (by omega)]
    · refine kk ((y1, y2, y3), τ) ⟨?_, wk.1, q3⟩
      show _ = (if _ then _ else _)
      rw [if_neg z]; exact a1

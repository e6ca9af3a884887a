/-! agree -/
def dZ (κ : Kp) (a : Nat) : Int := (κ 2 a).toInt
def agB (κ : Kp) (a b p : Nat) : Bool := decide ((tL κ a p - tL κ b p) * (tL κ a p - tL κ b p) ≤ 1000000 * (κ 0 4).toInt * (κ 0 4).toInt * (dZ κ a * dZ κ a + dZ κ b * dZ κ b))
theorem dZ_b {κ : Kp} (h : Inv κ) {a : Nat} (ha : a < nH κ) : 1 ≤ dZ κ a ∧ dZ κ a ≤ 1000 := (h.2.2.2.2.2.2.1 a ha).2
theorem okHouse.lh {a : Int32} {κ : Kp} (h : okHouse a κ) : a.toNatClampNeg < nH κ := by
  unfold okHouse at h
  rw [tnc]
  unfold nH
  omega
theorem X_agH {a b p : Int32} {σ : Sto} {post : Bool → Sto → Prop} (h : OX σ) (ha : okHouse a (vx σ)) (hb : okHouse b (vx σ)) (hp : okS p) (hq : post (agB (vx σ) a.toNatClampNeg b.toNatClampNeg p.toNatClampNeg) σ) : wX0_holds a b p σ post := by
  have ra := ha.r h.1
  have rb := hb.r h.1
  have va := vp_iff.mpr ra
  have vb := vp_iff.mpr rb
  have da := dZ_b h.1 ha.lh
  have db := dZ_b h.1 hb.lh
  have ta := tL_b h.1 a.toNatClampNeg p.toNatClampNeg
  have tb := tL_b h.1 b.toNatClampNeg p.toNatClampNeg
  have fF := h.1.2.2.2.2.1
  have ea : (σ.1 14 a.toNatClampNeg).toInt = dZ (vx σ) a.toNatClampNeg := by unfold dZ; rw [vx_r (c := 2) (by omega) (h14n ra)]; rfl
  have eb : (σ.1 14 b.toNatClampNeg).toInt = dZ (vx σ) b.toNatClampNeg := by unfold dZ; rw [vx_r (c := 2) (by omega) (h14n rb)]; rfl
  have eF : (σ.1 3 3).toInt = (vx σ 0 4).toInt := rfl
  have sa := mulB (x := dZ (vx σ) a.toNatClampNeg) (y := dZ (vx σ) a.toNatClampNeg) (A := 1000) (B := 1000) (M := 1000000) ⟨by omega, da.2⟩ ⟨by omega, da.2⟩ (by decide)
  have sb := mulB (x := dZ (vx σ) b.toNatClampNeg) (y := dZ (vx σ) b.toNatClampNeg) (A := 1000) (B := 1000) (M := 1000000) ⟨by omega, db.2⟩ ⟨by omega, db.2⟩ (by decide)
  have qa : ((σ.1 14 a.toNatClampNeg) * (σ.1 14 a.toNatClampNeg)).toInt = _ := iMul ea ea (by omega) (by omega)
  have qb : ((σ.1 14 b.toNatClampNeg) * (σ.1 14 b.toNatClampNeg)).toInt = _ := iMul eb eb (by omega) (by omega)
  have qs := iAdd qa qb (by omega) (by omega)
  have dd := iSub (X_mean h (h14n ra) hp.lt) (X_mean h (h14n rb) hp.lt) (by omega) (by omega)
  have m1 := mulB (x := 1000000 * (vx σ 0 4).toInt) (y := (vx σ 0 4).toInt) (A := 5000000) (B := 5) (M := 25000000) ⟨by omega, by omega⟩ ⟨by omega, by omega⟩ (by decide)
  have m2 := mulB (x := 1000000 * (vx σ 0 4).toInt * (vx σ 0 4).toInt) (y := dZ (vx σ) a.toNatClampNeg * dZ (vx σ) a.toNatClampNeg + dZ (vx σ) b.toNatClampNeg * dZ (vx σ) b.toNatClampNeg) (A := 25000000) (B := 2000000) (M := 50000000000000) m1 ⟨by omega, by omega⟩ (by decide)
  have m3 := mulB (x := tL (vx σ) a.toNatClampNeg p.toNatClampNeg - tL (vx σ) b.toNatClampNeg p.toNatClampNeg) (y := tL (vx σ) a.toNatClampNeg p.toNatClampNeg - tL (vx σ) b.toNatClampNeg p.toNatClampNeg) (A := 120000000) (B := 120000000) (M := 14400000000000000) ⟨by omega, by omega⟩ ⟨by omega, by omega⟩ (by decide)
  have r1 := lMul (iL dd) (iL dd) (by omega) (by omega)
  have r2 := lMul (lMul (lMul (show (1000000 : Int64).toInt = 1000000 from rfl) (iL eF) (by omega) (by omega)) (iL eF) (by omega) (by omega)) (iL qs) (by omega) (by omega)
  unfold agB at hq
  refine ⟨hp.in, va, hp.in, vb, va, va, vb, vb, ?_⟩
  dsimp only
  rw [lLt, r1, r2]
  refine ⟨fun z => ?_, fun z => ?_⟩
  · rw [decide_eq_false (by omega)] at hq; exact hq
  · rw [decide_eq_true (by omega)] at hq; exact hq
theorem M_agH {a b p : Int32} {σ : Sto} {post : Bool → Sto → Prop} (h : WK σ) (ha : okHouse a (vm σ)) (hb : okHouse b (vm σ)) (hp : okS p) (ca : 0 < cN (vm σ) a.toNatClampNeg p.toNatClampNeg) (cb : 0 < cN (vm σ) b.toNatClampNeg p.toNatClampNeg) (hq : post (agB (vm σ) a.toNatClampNeg b.toNatClampNeg p.toNatClampNeg) σ) : wX11_doAgree a b p σ post := by
  have hi := h.1.1
  have ra := ha.r hi
  have rb := hb.r hi
  have va := vp_iff.mpr ra
  have vb := vp_iff.mpr rb
  have da := dZ_b hi ha.lh
  have db := dZ_b hi hb.lh
  have ta := tL_b hi a.toNatClampNeg p.toNatClampNeg
  have tb := tL_b hi b.toNatClampNeg p.toNatClampNeg
  have fF := hi.2.2.2.2.1
  have ea : (σ.1 69 a.toNatClampNeg).toInt = dZ (vm σ) a.toNatClampNeg := by
    unfold dZ
    rw [vm_r (c := 2) (by omega) (by omega) (h14n ra), show (axm 2).2.2 + a.toNatClampNeg = a.toNatClampNeg from Nat.zero_add _]
    rfl
  have eb : (σ.1 69 b.toNatClampNeg).toInt = dZ (vm σ) b.toNatClampNeg := by
    unfold dZ
    rw [vm_r (c := 2) (by omega) (by omega) (h14n rb), show (axm 2).2.2 + b.toNatClampNeg = b.toNatClampNeg from Nat.zero_add _]
    rfl
  have eF : (σ.1 67 12).toInt = (vm σ 0 4).toInt := rfl
  refine toldOf_W h ra hp ca (fun r1 h1 => toldOf_W h rb hp cb (fun r2 h2 => ?_))
  have sa := mulB (x := dZ (vm σ) a.toNatClampNeg) (y := dZ (vm σ) a.toNatClampNeg) (A := 1000) (B := 1000) (M := 1000000) ⟨by omega, da.2⟩ ⟨by omega, da.2⟩ (by decide)
  have sb := mulB (x := dZ (vm σ) b.toNatClampNeg) (y := dZ (vm σ) b.toNatClampNeg) (A := 1000) (B := 1000) (M := 1000000) ⟨by omega, db.2⟩ ⟨by omega, db.2⟩ (by decide)
  have sF := mulB (x := (vm σ 0 4).toInt) (y := (vm σ 0 4).toInt) (A := 5) (B := 5) (M := 25) ⟨by omega, by omega⟩ ⟨by omega, by omega⟩ (by decide)
  have qa := lMul (iL ea) (iL ea) (by omega) (by omega)
  have qb := lMul (iL eb) (iL eb) (by omega) (by omega)
  have qs := lAdd qa qb (by omega) (by omega)
  have qF := lMul (iL eF) (iL eF) (by omega) (by omega)
  have dd := lSub h1 h2 (by omega) (by omega)
  have m2 := mulB (x := 1000000 * ((vm σ 0 4).toInt * (vm σ 0 4).toInt)) (y := dZ (vm σ) a.toNatClampNeg * dZ (vm σ) a.toNatClampNeg + dZ (vm σ) b.toNatClampNeg * dZ (vm σ) b.toNatClampNeg) (A := 25000000) (B := 2000000) (M := 50000000000000) ⟨by omega, by omega⟩ ⟨by omega, by omega⟩ (by decide)
  have m3 := mulB (x := tL (vm σ) a.toNatClampNeg p.toNatClampNeg - tL (vm σ) b.toNatClampNeg p.toNatClampNeg) (y := tL (vm σ) a.toNatClampNeg p.toNatClampNeg - tL (vm σ) b.toNatClampNeg p.toNatClampNeg) (A := 120000000) (B := 120000000) (M := 14400000000000000) ⟨by omega, by omega⟩ ⟨by omega, by omega⟩ (by decide)
  have r1' := lMul dd dd (by omega) (by omega)
  have r2' := lMul (lMul (show (1000000 : Int64).toInt = 1000000 from rfl) qF (by omega) (by omega)) qs (by omega) (by omega)
  unfold agB at hq
  rw [Int.mul_assoc 1000000] at hq
  refine ⟨va, vb, ?_⟩
  unfold wX11_square
  dsimp only
  rw [lLt, r1', r2']
  refine ⟨fun z => ?_, fun z => ?_⟩
  · rw [decide_eq_false (by omega)] at hq; exact hq
  · rw [decide_eq_true (by omega)] at hq; exact hq
def okAg (a b p : Int32) (κ : Kp) : Prop := okHouse a κ ∧ okHouse b κ ∧ ¬ a = b ∧ okS p
noncomputable def S_agree (a b p : Int32) (κ : Kp) : Int32 := @ite _ (okAg a b p κ) (Classical.propDecidable _) (if 0 < cN κ a.toNatClampNeg p.toNatClampNeg ∧ 0 < cN κ b.toNatClampNeg p.toNatClampNeg then (if agB κ a.toNatClampNeg b.toNatClampNeg p.toNatClampNeg = false then 0 else 1) else -3) (-2)
theorem X_agree (a b p : Int32) : SpX (wX10_agree a b p) (S_agree a b p) (fun κ => κ) := by
  intro σ post h hp
  have hh := hp σ h rfl fm.refl
  unfold S_agree at hh
  have no : ¬ okAg a b p (vx σ) → post (-2) σ := fun q => by rwa [if_neg q] at hh
  unfold wX10_agree
  refine noHouse_ok (br_n (fun h1 => ?_) (fun h1 => no (fun q => h1 q.1)))
  refine noHouse_ok (br_n (fun h2 => ?_) (fun h2 => no (fun q => h2 q.2.1)))
  refine ⟨fun h3 => no (fun q => q.2.2.1 h3), fun h3 => noPiece_ok (And.symm (br_n (fun h4 => ?_) (fun h4 => no (fun q => h4 q.2.2.2))))⟩
  have ok : okAg a b p (vx σ) := ⟨h1, h2, h3, h4⟩
  rw [if_pos ok] at hh
  refine X_takes h (ok.1.r h.1) h4 (br_d' (fun z1 => ?_) (fun z1 => ?_))
  · refine X_takes h (ok.2.1.r h.1) h4 (br_d (fun z2 => ?_) (fun z2 => ?_))
    · rw [if_pos ⟨z1, z2⟩] at hh
      refine X_agH h h1 h2 h4 ⟨fun w => ?_, fun w => ?_⟩
      · rw [if_pos w] at hh; exact hh
      · rw [if_neg (by rw [w]; decide)] at hh; exact hh
    · rw [if_neg (fun w => z2 w.2)] at hh; exact hh
  · rw [if_neg (fun w => z1 w.1)] at hh; exact hh
theorem M_agree (a b p : Int32) : SpM (wX11_agree a b p) (S_agree a b p) (fun κ => κ) := by
  intro σ post h hp
  have no : ¬ okAg a b p (vm σ) → post (-2) σ := fun q => by
    have := hp σ h rfl fx.refl
    unfold S_agree at this
    rwa [if_neg q] at this
  unfold wX11_agree
  refine isHouse_ok h.1.2.2.1.1 (br_d' (fun h1 => ?_) (fun h1 => no (fun q => h1 q.1)))
  refine isHouse_ok h.1.2.2.1.1 (br_d' (fun h2 => ?_) (fun h2 => no (fun q => h2 q.2.1)))
  refine ⟨fun h3 => no (fun q => q.2.2.1 h3), fun h3 => isPiece_ok (br_d (fun h4 => ?_) (fun h4 => no (fun q => h4 q.2.2.2)))⟩
  have ok : okAg a b p (vm σ) := ⟨h1, h2, h3, h4⟩
  refine takes_K h (ok.1.r h.1) h4 (fun τ wk f => ?_)
  have hh := hp τ wk.1 f.vm f.fx
  unfold S_agree at hh
  rw [if_pos ok] at hh
  refine br_d' (fun z1 => ?_) (fun z1 => ?_)
  · refine takes_W wk (ok.2.1.r h.1) h4 ?_
    rw [f.vm]
    refine br_d (fun z2 => ?_) (fun z2 => ?_)
    · rw [if_pos ⟨z1, z2⟩] at hh
      refine M_agH wk (by rw [f.vm]; exact h1) (by rw [f.vm]; exact h2) h4 (by rw [f.vm]; exact z1) (by rw [f.vm]; exact z2) ?_
      rw [f.vm]
      refine ⟨fun w => ?_, fun w => ?_⟩
      · rw [if_pos w] at hh; exact hh
      · rw [if_neg (by rw [w]; decide)] at hh; exact hh
    · rw [if_neg (fun w => z2 w.2)] at hh; exact hh
  · rw [if_neg (fun w => z1 w.1)] at hh; exact hh

/-! who takes part, as bits; how many; the score -/
theorem X_takingPart {p : Int32} {σ : Sto} {post : Int32 → Sto → Prop} (h : OX σ) (hp : okS p) (hq : post (nI (bset (pt (vx σ) p.toNatClampNeg) (nH (vx σ)))) σ) : wX7_takingPart p σ post := by
  have hi := h.1
  have h14 := nH_le hi
  have eH : σ.1 1 2 = nI (nH (vx σ)) := by rw [← nH_I hi]; rfl
  refine pk_loop (fun k i (x : Int32) => wX7_takingPart_4 post (fun x2_1 σ_1 => post x2_1 σ_1) k p x (nI i) σ) (fun i x => x = nI (bset (pt (vx σ) p.toNatClampNeg) i)) (nH (vx σ)) 0 0 (Nat.zero_le _) rfl ?_ ?_
  · intro k x hx
    unfold wX7_takingPart_4
    rw [eH, hx]
    exact ⟨fun _ => hq, fun z => absurd (nI_le (Nat.le_refl _) (by omega)) z⟩
  · intro k i x hi2 hx kk
    have c2 : (nI i).toNatClampNeg = i := nI_clamp (by omega)
    have iT : (nI i).toInt = i := nI_toInt (by omega)
    unfold wX7_takingPart_4
    rw [eH]
    refine ⟨fun z => absurd z (nI_ge hi2 (by omega)), fun _ => X_takes h (by omega) hp ?_⟩
    rw [c2, nI_1, bSh i (by omega), hx, bO]
    refine br_d' (fun z => kk _ ?_) (fun z => kk _ ?_)
    · show _ = nI (bset _ i ||| _)
      rw [if_pos (show pt (vx σ) p.toNatClampNeg i = true from decide_eq_true z)]
    · show _ = nI (bset _ i ||| _)
      rw [if_neg (show ¬ pt (vx σ) p.toNatClampNeg i = true from fun w => z (of_decide_eq_true w)), Nat.or_zero]
theorem M_wayMany {p w : Int32} {σ : Sto} {post : Int32 → Sto → Prop} (h : OM σ) (hp : okS p) (hw : 0 ≤ w.toInt) (hq : ∀ τ, OM τ → qm σ τ → post (nI (wyN (vm σ) p.toNatClampNeg w.toNatClampNeg)) τ) : wX11_wayMany p w σ post := by
  have hi := h.1
  have h14 := nH_le hi
  have hv : ∀ u, qm σ u → vm u = vm σ := fun u f => f.vm
  generalize hκ : vm σ = κ at *
  refine pk_loop (fun k i (x : Int32 × Sto) => wX11_wayMany_5 post (fun x3_1 σ_1 => post x3_1 σ_1) k p w x.1 (nI i) x.2) (fun i x => x.1 = nI (cnt (pw κ p.toNatClampNeg w.toNatClampNeg) i) ∧ OM x.2 ∧ qm σ x.2) (nH κ) 0 (0, σ) (Nat.zero_le _) ⟨rfl, h, qm.refl⟩ ?_ ?_
  · intro k x hx
    obtain ⟨x, u⟩ := x
    obtain ⟨a1, a2, a3⟩ := hx
    dsimp only at a1 a2 a3 ⊢
    have eH : u.1 67 1 = nI (nH κ) := by rw [← nH_I hi, ← hv u a3]; rfl
    unfold wX11_wayMany_5
    rw [eH, a1]
    exact ⟨fun _ => hq u a2 a3, fun z => absurd (nI_le (Nat.le_refl _) (by omega)) z⟩
  · intro k i x hi2 hx kk
    obtain ⟨x, u⟩ := x
    obtain ⟨a1, a2, a3⟩ := hx
    dsimp only at a1 a2 a3 ⊢
    have eH : u.1 67 1 = nI (nH κ) := by rw [← nH_I hi, ← hv u a3]; rfl
    have c2 : (nI i).toNatClampNeg = i := nI_clamp (by omega)
    have iT : (nI i).toInt = i := nI_toInt (by omega)
    unfold wX11_wayMany_5
    rw [eH]
    refine ⟨fun z => absurd z (nI_ge hi2 (by omega)), fun _ => takes_K a2 (by omega) hp (fun τ wk f => ?_)⟩
    rw [c2, hv u a3]
    have q3 : qm σ τ := a3.trans f
    have no : pw κ p.toNatClampNeg w.toNatClampNeg i = false → wX11_wayMany_40 post (wX11_wayMany_5 post (fun x3_1 σ_1 => post x3_1 σ_1) k) p w (nI i) x τ := fun z => by
      unfold wX11_wayMany_40 wX11_wayMany_41
      rw [nI_1]
      refine kk (x + 0, τ) ⟨?_, wk.1, q3⟩
      show x + 0 = nI (cnt _ i + _)
      rw [z, if_neg (by decide), Int32.add_zero]; exact a1
    refine br_d' (fun z => ?_) (fun z => no (by unfold pw pt; rw [decide_eq_false z]; rfl))
    have eW : τ.1 68 i = κ 1 i := by
      rw [← hv τ q3, vm_r (c := 1) (by omega) (by omega) (show i < 14 by omega), show (axm 1).2.2 + i = i from Nat.zero_add _]
      rfl
    rw [eW]
    have eq : (κ 1 i).toInt = (w.toNatClampNeg : Int) ↔ κ 1 i = w := by rw [iEq, toN hw]
    refine ⟨vp_in_nI (by omega) (by omega), fun e => no ?_, fun e => ?_⟩
    · unfold pw
      rw [decide_eq_false (fun z => e (eq.mp z)), Bool.and_false]
    · unfold wX11_wayMany_41
      rw [nI_1]
      refine kk (x + 1, τ) ⟨?_, wk.1, q3⟩
      show x + 1 = nI (cnt _ i + _)
      have : pw κ p.toNatClampNeg w.toNatClampNeg i = true := by unfold pw pt; rw [decide_eq_true z, decide_eq_true (eq.mpr e)]; rfl
      rw [this, if_pos rfl, a1, nI_1]
theorem M_scoreOf {p : Int32} {σ : Sto} {post : Int64 → Sto → Prop} (h : OM σ) (hp : okS p) (hq : ∀ r τ, OM τ → qm σ τ → r.toInt = scZ (vm σ) p.toNatClampNeg → post r τ) : wX11_scoreOf p σ post := by
  have hi := h.1
  have h14 := nH_le hi
  have hv : ∀ u, qm σ u → vm u = vm σ := fun u f => f.vm
  generalize hκ : vm σ = κ at *
  refine pk_loop (fun k i (x : Int64 × Sto) => wX11_scoreOf_5 post (fun x3_1 σ_1 => post x3_1 σ_1) k p x.1 (nI i) x.2) (fun i x => x.1.toInt = tot (pw κ p.toNatClampNeg 1) (fun a => tL κ a p.toNatClampNeg) i ∧ OM x.2 ∧ qm σ x.2) (nH κ) 0 (0, σ) (Nat.zero_le _) ⟨rfl, h, qm.refl⟩ ?_ ?_
  · intro k x hx
    obtain ⟨x, u⟩ := x
    obtain ⟨a1, a2, a3⟩ := hx
    dsimp only at a1 a2 a3 ⊢
    have eH : u.1 67 1 = nI (nH κ) := by rw [← nH_I hi, ← hv u a3]; rfl
    unfold wX11_scoreOf_5
    rw [eH]
    exact ⟨fun _ => hq x u a2 a3 a1, fun z => absurd (nI_le (Nat.le_refl _) (by omega)) z⟩
  · intro k i x hi2 hx kk
    obtain ⟨x, u⟩ := x
    obtain ⟨a1, a2, a3⟩ := hx
    dsimp only at a1 a2 a3 ⊢
    have eH : u.1 67 1 = nI (nH κ) := by rw [← nH_I hi, ← hv u a3]; rfl
    have c2 : (nI i).toNatClampNeg = i := nI_clamp (by omega)
    have iT : (nI i).toInt = i := nI_toInt (by omega)
    unfold wX11_scoreOf_5
    rw [eH]
    refine ⟨fun z => absurd z (nI_ge hi2 (by omega)), fun _ => takes_K a2 (by omega) hp (fun τ wk f => ?_)⟩
    rw [c2, hv u a3]
    have q3 : qm σ τ := a3.trans f
    have no : pw κ p.toNatClampNeg 1 i = false → wX11_scoreOf_46 post (wX11_scoreOf_5 post (fun x3_1 σ_1 => post x3_1 σ_1) k) p (nI i) x τ := fun z => by
      unfold wX11_scoreOf_46 wX11_scoreOf_47
      rw [nI_1]
      refine kk (x + 0, τ) ⟨?_, wk.1, q3⟩
      show (x + 0).toInt = tot _ _ i + _
      rw [z, if_neg (by decide), Int64.add_zero, Int.add_zero]; exact a1
    refine br_d' (fun z => ?_) (fun z => no (by unfold pw pt; rw [decide_eq_false z]; rfl))
    have eW : τ.1 68 i = κ 1 i := by
      rw [← hv τ q3, vm_r (c := 1) (by omega) (by omega) (show i < 14 by omega), show (axm 1).2.2 + i = i from Nat.zero_add _]
      rfl
    rw [eW]
    have eq : (κ 1 i).toInt = ((1 : Nat) : Int) ↔ κ 1 i = 1 := by rw [iEq]; rfl
    refine ⟨vp_in_nI (by omega) (by omega), fun e => no ?_, fun e => ?_⟩
    · unfold pw
      rw [decide_eq_false (fun z => e (eq.mp z)), Bool.and_false]
    · refine toldOf_W wk (by omega) hp (by rw [c2, hv τ q3]; exact z) (fun r hr => ?_)
      rw [c2, hv τ q3] at hr
      unfold wX11_scoreOf_47
      rw [nI_1]
      refine kk (x + r, τ) ⟨?_, wk.1, q3⟩
      show (x + r).toInt = tot _ _ i + _
      have : pw κ p.toNatClampNeg 1 i = true := by unfold pw pt; rw [decide_eq_true z, decide_eq_true (eq.mpr e)]; rfl
      have sb := sc_b hi p.toNatClampNeg 1 i (by omega)
      have tb := tL_b hi i p.toNatClampNeg
      rw [this, if_pos rfl, lAdd a1 hr (by omega) (by omega)]
theorem oL {x : Int64} {z : Int} (h : x.toInt = z) (h1 : -9223372036854775808 ≤ z) (h2 : z < 9223372036854775808) : x = Int64.ofInt z := lExt h (Int64.toInt_ofInt_of_le (by omega) (by omega))
noncomputable def S_score (p : Int32) (κ : Kp) : Int64 := @ite _ (okS p) (Classical.propDecidable _) (Int64.ofInt (scZ κ p.toNatClampNeg)) (-9223372036854775808)
theorem X_score (p : Int32) : SpX (wX10_score p) (S_score p) (fun κ => κ) := by
  intro σ post h hp
  unfold S_score at hp
  unfold wX10_score
  refine noPiece_ok (And.symm (br_n (fun (h1 : okS p) => ?_) (fun (h1 : ¬ okS p) => ?_)))
  · refine X_gatherW h h1 (fun τ f g => ?_)
    have := hp τ (h.qx f) f.vx f.fm
    rw [if_pos h1] at this
    have sb := sc_b h.1 p.toNatClampNeg 1 (nH (vx σ)) (nH_le h.1)
    have gs : (τ.2 7 5).toInt = scZ (vx σ) p.toNatClampNeg := g.sum
    unfold scZ at gs this
    rw [oL gs (by omega) (by omega)]
    exact this
  · have := hp σ h rfl fm.refl
    rwa [if_neg h1] at this
theorem M_score (p : Int32) : SpM (wX11_score p) (S_score p) (fun κ => κ) := by
  intro σ post h hp
  unfold S_score at hp
  unfold wX11_score
  refine isPiece_ok (br_d' (fun (h1 : okS p) => ?_) (fun (h1 : ¬ okS p) => ?_))
  · refine M_scoreOf h h1 (fun r τ a f e => ?_)
    have := hp τ a f.vm f.fx
    rw [if_pos h1] at this
    have sb := sc_b h.1 p.toNatClampNeg 1 (nH (vm σ)) (nH_le h.1)
    unfold scZ at e this
    rw [oL e (by omega) (by omega)]
    exact this
  · have := hp σ h rfl fx.refl
    rwa [if_neg h1] at this

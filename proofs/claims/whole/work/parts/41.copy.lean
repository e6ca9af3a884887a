/-! copy -/
def okR (i n : Int32) (s : Int32) : Prop := 0 ≤ i.toInt ∧ 0 ≤ n.toInt ∧ i.toInt + n.toInt ≤ s.toInt
def cpRow (κ : Kp) (s t i j n : Nat) : Nat → Int32 := fun q => if q < 60 then (if j ≤ q ∧ q < j + n then κ (12 + s) (i + (q - j)) else κ (12 + t) q) else 0
noncomputable def S_copy (a i b j n : Int32) (κ : Kp) : Int32 := @ite _ (okS a ∧ okS b) (Classical.propDecidable _) (@ite _ (κ 10 a.toNatClampNeg = -1 ∨ κ 10 b.toNatClampNeg = -1) (Classical.propDecidable _) (-10 - 1) (@ite _ (κ 10 a.toNatClampNeg = κ 10 b.toNatClampNeg) (Classical.propDecidable _) (@ite _ (okR i n (κ 11 a.toNatClampNeg) ∧ okR j n (κ 11 b.toNatClampNeg)) (Classical.propDecidable _) 1 (-10 - 2)) (-10 - 4))) (-2)
noncomputable def U_copy (a i b j n : Int32) (κ : Kp) : Kp := @ite _ (okS a ∧ okS b) (Classical.propDecidable _) (@ite _ (κ 10 a.toNatClampNeg = -1 ∨ κ 10 b.toNatClampNeg = -1) (Classical.propDecidable _) (kup κ 0 6 1) (@ite _ (κ 10 a.toNatClampNeg = κ 10 b.toNatClampNeg) (Classical.propDecidable _) (@ite _ (okR i n (κ 11 a.toNatClampNeg) ∧ okR j n (κ 11 b.toNatClampNeg)) (Classical.propDecidable _) (kr κ (12 + b.toNatClampNeg) (cpRow κ a.toNatClampNeg b.toNatClampNeg i.toNatClampNeg j.toNatClampNeg n.toNatClampNeg)) (kup κ 0 6 2)) (kup κ 0 6 4))) κ
theorem X_holds {a i n : Int32} {σ : Sto} {post : Bool → Sto → Prop} (ho : OX σ) (hs : okS a) (ht : okR i n (vx σ 11 a.toNatClampNeg) → post true σ) (hf : ¬ okR i n (vx σ 11 a.toNatClampNeg) → post false σ) : wX9_holds a i n σ post := by
  have g := (ho.1.2.2.2.2.2.2.2.2.2.2 a.toNatClampNeg hs.lt).2
  unfold okR at ht hf
  rw [vx_11 hs.lt] at ht hf g
  unfold wX9_holds
  simp only [iLt, n0]
  refine ⟨fun h1 => hf (by omega), fun h1 => ⟨fun h2 => hf (by omega), fun h2 => ⟨hs.in, fun h3 => hf (by omega), fun h3 => ⟨hs.in, ?_⟩⟩⟩⟩
  have e : (σ.1 66 a.toNatClampNeg - i).toInt = (σ.1 66 a.toNatClampNeg).toInt - i.toInt := iSub rfl rfl (by omega) (by omega)
  rw [e]
  exact ⟨fun h4 => hf (by omega), fun h4 => ht (by omega)⟩
theorem X_isLost {a : Int32} {σ : Sto} {post : Bool → Sto → Prop} (hs : okS a) (ht : vx σ 10 a.toNatClampNeg = -1 → post true σ) (hf : ¬ vx σ 10 a.toNatClampNeg = -1 → post false σ) : wX9_isLost a σ post := by
  rw [vx_10 hs.lt] at ht hf
  exact ⟨hs.in, hf, ht⟩
theorem X_copy (a i b j n : Int32) : SpX (wX10_copy a i b j n) (S_copy a i b j n) (U_copy a i b j n) := by
  intro σ post h hp
  have no : ¬ (okS a ∧ okS b) → post (-2) σ := fun q => by
    have := hp σ h (by unfold U_copy; rw [if_neg q]) fm.refl
    unfold S_copy at this
    rwa [if_neg q] at this
  unfold wX10_copy
  refine noSheet_ok (br_n (fun h1 => ?_) (fun h1 => no (fun q => h1 q.1)))
  refine noSheet_ok (And.symm (br_n (fun h2 => ?_) (fun h2 => no (fun q => h2 q.2))))
  have ha : okS a := h1
  have hb : okS b := h2
  have ok : okS a ∧ okS b := ⟨h1, h2⟩
  have lost : (vx σ 10 a.toNatClampNeg = -1 ∨ vx σ 10 b.toNatClampNeg = -1) → wX10_copy_39 post σ := fun q => by
    refine X_find h (fun τ a1 a2 a3 => ?_)
    have := hp τ a1 (by rw [a2]; unfold U_copy; rw [if_pos ok, if_pos q]) a3
    unfold S_copy at this
    rw [if_pos ok, if_pos q] at this
    exact this
  refine X_isLost ha (fun q => ⟨fun _ => lost (Or.inl q), fun z => (by cases z)⟩) (fun q1 => ⟨fun z => (by cases z), fun _ => ?_⟩)
  refine X_isLost hb (fun q => ⟨fun z => (by cases z), fun _ => lost (Or.inr q)⟩) (fun q2 => ⟨fun _ => ⟨ha.in, hb.in, ?_⟩, fun z => (by cases z)⟩)
  have hl : ¬ (vx σ 10 a.toNatClampNeg = -1 ∨ vx σ 10 b.toNatClampNeg = -1) := fun q => q.elim q1 q2
  rw [← vx_10 ha.lt, ← vx_10 hb.lt]
  refine ⟨fun q3 => ?_, fun q3 => ?_⟩
  · have ix : ¬ (okR i n (vx σ 11 a.toNatClampNeg) ∧ okR j n (vx σ 11 b.toNatClampNeg)) → wX10_copy_107 post σ := fun q => by
      refine X_find h (fun τ a1 a2 a3 => ?_)
      have := hp τ a1 (by rw [a2]; unfold U_copy; rw [if_pos ok, if_neg hl, if_pos q3, if_neg q]) a3
      unfold S_copy at this
      rw [if_pos ok, if_neg hl, if_pos q3, if_neg q] at this
      exact this
    refine X_holds h ha (fun q4 => ⟨fun z => (by cases z), fun _ => ?_⟩) (fun q4 => ⟨fun _ => ix (fun q => q4 q.1), fun z => (by cases z)⟩)
    refine X_holds h hb (fun q5 => ⟨fun _ => ?_, fun z => (by cases z)⟩) (fun q5 => ⟨fun z => (by cases z), fun _ => ix (fun q => q5 q.2)⟩)
    have okr : okR i n (vx σ 11 a.toNatClampNeg) ∧ okR j n (vx σ 11 b.toNatClampNeg) := ⟨q4, q5⟩
    have ga := (h.1.2.2.2.2.2.2.2.2.2.2 a.toNatClampNeg ha.lt).2
    have gb := (h.1.2.2.2.2.2.2.2.2.2.2 b.toNatClampNeg hb.lt).2
    unfold okR at q4 q5
    have l1 : i.toNatClampNeg + n.toNatClampNeg ≤ 60 := by rw [tnc, tnc]; omega
    have l2 : j.toNatClampNeg + n.toNatClampNeg ≤ 60 := by rw [tnc, tnc]; omega
    have hla := ha.lt
    have hlb := hb.lt
    refine ⟨ha.in, hb.in, ⟨⟨by rw [iLt, n0]; omega, by rw [iLt, n0]; omega, by rw [iLt, n0]; omega⟩, l1, l2⟩, ?_⟩
    generalize hτ : wA σ (61 + b.toNatClampNeg) (va_cpy (σ.1 (61 + a.toNatClampNeg)) (σ.1 (61 + b.toNatClampNeg)) i.toNatClampNeg j.toNatClampNeg n.toNatClampNeg) = τ
    have hv : vx τ = kr (vx σ) (12 + b.toNatClampNeg) (cpRow (vx σ) a.toNatClampNeg b.toNatClampNeg i.toNatClampNeg j.toNatClampNeg n.toNatClampNeg) := by
      rw [← hτ, vx_row hb.lt]
      congr 1
      funext q
      unfold cpRow
      by_cases z : q < 60
      · rw [if_pos z, if_pos z]
        by_cases y : j.toNatClampNeg ≤ q ∧ q < j.toNatClampNeg + n.toNatClampNeg
        · rw [if_pos y, pk_cpy_in y.1 y.2, vx_itr ha.lt (by omega)]
        · rw [if_neg y, pk_cpy_out (by omega), vx_itr hb.lt z]
      · rw [if_neg z, if_neg z]
    have := hp τ (ox_upd h (fun c _ d _ => by rw [← hτ, wA_n' (by omega)]) hv (sd_row (by omega)) (h.1.krow (by omega))) (by rw [hv]; unfold U_copy; rw [if_pos ok, if_neg hl, if_pos q3, if_pos okr]) (by rw [← hτ]; exact fm.refl.wA (by omega))
    unfold S_copy at this
    rw [if_pos ok, if_neg hl, if_pos q3, if_pos okr] at this
    exact this
  · refine X_find h (fun τ a1 a2 a3 => ?_)
    have := hp τ a1 (by rw [a2]; unfold U_copy; rw [if_pos ok, if_neg hl, if_neg q3]) a3
    unfold S_copy at this
    rw [if_pos ok, if_neg hl, if_neg q3] at this
    exact this
theorem i60b {a i x : Int32} (ha : okS a) (hi : 0 ≤ i.toInt) (hx : 0 ≤ x.toInt) (hs : i.toInt + x.toInt < 60) : vp_in ((60 : Int32) * a + i + x) 240 ∧ ((60 : Int32) * a + i + x).toNatClampNeg = 60 * a.toNatClampNeg + i.toNatClampNeg + x.toNatClampNeg := by
  unfold okS at ha
  have e1 : ((60 : Int32) * a).toInt = 60 * a.toInt := iMul (by decide) rfl (by omega) (by omega)
  have e2 : ((60 : Int32) * a + i).toInt = 60 * a.toInt + i.toInt := iAdd e1 rfl (by omega) (by omega)
  have e3 : ((60 : Int32) * a + i + x).toInt = 60 * a.toInt + i.toInt + x.toInt := iAdd e2 rfl (by omega) (by omega)
  refine ⟨vp_iff.mpr (by rw [e3]; omega), ?_⟩
  rw [tnc, tnc, tnc, tnc, e3]
  omega
theorem copyM1 {a i b j n : Int32} {σ : Sto} {post : Int32 → Sto → Prop} {K : Int32 → Int32 → Int32 → Sto → Prop} (ha : okS a) (hi : 0 ≤ i.toInt) (hn : 0 ≤ n.toInt) (hs : i.toInt + n.toInt ≤ 60)
    (h : K b j n (wA σ 90 (fun k => if k < n.toNatClampNeg then σ.1 89 (60 * a.toNatClampNeg + i.toNatClampNeg + k) else σ.1 90 k))) : ∃ k, wX11_copy_120 post K k a i b j n 0 σ := by
  have en : n = nI n.toNatClampNeg := iExt rfl (by rw [nI_toInt (by rw [tnc]; omega), tnc]; omega)
  have hl : n.toNatClampNeg ≤ 60 := by rw [tnc]; omega
  refine pk_loop (fun k x s => wX11_copy_120 post K k a i b j n (nI x) s) (fun x s => s = wA σ 90 (fun k => if k < x then σ.1 89 (60 * a.toNatClampNeg + i.toNatClampNeg + k) else σ.1 90 k)) n.toNatClampNeg 0 σ (Nat.zero_le _) ?_ ?_ ?_
  · have : (fun k => if k < 0 then σ.1 89 (60 * a.toNatClampNeg + i.toNatClampNeg + k) else σ.1 90 k) = σ.1 90 := by funext j; simp
    rw [this, wA_self]
  · intro k s hs
    unfold wX11_copy_120
    refine ⟨fun _ => by rw [hs]; exact h, fun q => absurd ?_ q⟩
    conv => lhs; rw [en]
    exact nI_le (Nat.le_refl _) (by omega)
  · intro k x s hx hs2 kk
    unfold wX11_copy_120
    have hxt : (nI x).toInt = x := nI_toInt (by omega)
    obtain ⟨e2, e3⟩ := i60b (x := nI x) ha hi (by rw [hxt]; omega) (by rw [hxt]; rw [tnc] at hx; omega)
    refine ⟨fun q => absurd q ?_, fun _ => ⟨e2, vp_in_nI (by omega) (by omega), ?_⟩⟩
    · rw [iLe, hxt]; rw [tnc] at hx; omega
    · rw [nI_1, e3, nI_clamp (by omega)]
      refine kk _ ?_
      rw [hs2, wA_n' (show 89 ≠ 90 by omega), wI_wA]
      congr 1
      funext y
      unfold upd
      by_cases e1 : y = x
      · subst e1; rw [if_pos rfl, if_pos (by omega)]
      · rw [if_neg e1]
        show (if y < x then _ else _) = _
        by_cases e4 : y < x
        · rw [if_pos e4, if_pos (by omega)]
        · rw [if_neg e4, if_neg (by omega)]
theorem copyM2 {b j n : Int32} {σ : Sto} {post : Int32 → Sto → Prop} {K : Sto → Prop} (hb : okS b) (hj : 0 ≤ j.toInt) (hn : 0 ≤ n.toInt) (hs : j.toInt + n.toInt ≤ 60)
    (h : K (wA σ 89 (fun q => if 60 * b.toNatClampNeg + j.toNatClampNeg ≤ q ∧ q < 60 * b.toNatClampNeg + j.toNatClampNeg + n.toNatClampNeg then σ.1 90 (q - (60 * b.toNatClampNeg + j.toNatClampNeg)) else σ.1 89 q))) : ∃ k, wX11_copy_157 post K k b j n 0 σ := by
  have en : n = nI n.toNatClampNeg := iExt rfl (by rw [nI_toInt (by rw [tnc]; omega), tnc]; omega)
  have hl : n.toNatClampNeg ≤ 60 := by rw [tnc]; omega
  refine pk_loop (fun k x s => wX11_copy_157 post K k b j n (nI x) s) (fun x s => s = wA σ 89 (fun q => if 60 * b.toNatClampNeg + j.toNatClampNeg ≤ q ∧ q < 60 * b.toNatClampNeg + j.toNatClampNeg + x then σ.1 90 (q - (60 * b.toNatClampNeg + j.toNatClampNeg)) else σ.1 89 q)) n.toNatClampNeg 0 σ (Nat.zero_le _) ?_ ?_ ?_
  · have : (fun q => if 60 * b.toNatClampNeg + j.toNatClampNeg ≤ q ∧ q < 60 * b.toNatClampNeg + j.toNatClampNeg + 0 then σ.1 90 (q - (60 * b.toNatClampNeg + j.toNatClampNeg)) else σ.1 89 q) = σ.1 89 := by
      funext q
      rw [if_neg (by omega)]
    rw [this, wA_self]
  · intro k s hs
    unfold wX11_copy_157
    refine ⟨fun _ => by rw [hs]; exact h, fun q => absurd ?_ q⟩
    conv => lhs; rw [en]
    exact nI_le (Nat.le_refl _) (by omega)
  · intro k x s hx hs2 kk
    unfold wX11_copy_157
    have hxt : (nI x).toInt = x := nI_toInt (by omega)
    obtain ⟨e2, e3⟩ := i60b (x := nI x) hb hj (by rw [hxt]; omega) (by rw [hxt]; rw [tnc] at hx; omega)
    refine ⟨fun q => absurd q ?_, fun _ => ⟨vp_in_nI (by omega) (by omega), e2, ?_⟩⟩
    · rw [iLe, hxt]; rw [tnc] at hx; omega
    · rw [nI_1, e3, nI_clamp (by omega)]
      refine kk _ ?_
      rw [hs2, wA_n' (show 90 ≠ 89 by omega), wI_wA]
      congr 1
      funext y
      unfold upd
      by_cases e1 : y = 60 * b.toNatClampNeg + j.toNatClampNeg + x
      · subst e1; rw [if_pos rfl, if_pos (by omega), show 60 * b.toNatClampNeg + j.toNatClampNeg + x - (60 * b.toNatClampNeg + j.toNatClampNeg) = x by omega]
      · rw [if_neg e1]
        show (if 60 * b.toNatClampNeg + j.toNatClampNeg ≤ y ∧ y < 60 * b.toNatClampNeg + j.toNatClampNeg + x then _ else _) = _
        by_cases e4 : 60 * b.toNatClampNeg + j.toNatClampNeg ≤ y ∧ y < 60 * b.toNatClampNeg + j.toNatClampNeg + x
        · rw [if_pos e4, if_pos (by omega)]
        · rw [if_neg e4, if_neg (by omega)]

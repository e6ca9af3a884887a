/-! who takes part, by ways; the told in the houses' order -/
def pt (κ : Kp) (p a : Nat) : Bool := decide (0 < cN κ a p)
def pw (κ : Kp) (p w a : Nat) : Bool := pt κ p a && decide ((κ 1 a).toInt = w)
def ptN (κ : Kp) (p : Nat) : Nat := cnt (pt κ p) (nH κ)
def wyN (κ : Kp) (p w : Nat) : Nat := cnt (pw κ p w) (nH κ)
def scZ (κ : Kp) (p : Nat) : Int := tot (pw κ p 1) (fun a => tL κ a p) (nH κ)
def TLn (κ : Kp) (p : Nat) : Nat → List Int
  | 0 => []
  | n + 1 => TLn κ p n ++ (if pt κ p n = true then [tL κ n p] else [])
def TL (κ : Kp) (p : Nat) : List Int := TLn κ p (nH κ)
theorem TLn_len {κ : Kp} {p : Nat} : ∀ n, (TLn κ p n).length = cnt (pt κ p) n
  | 0 => rfl
  | n + 1 => by
    show (TLn κ p n ++ _).length = cnt _ n + _
    rw [List.length_append, TLn_len n]
    by_cases q : pt κ p n = true
    · rw [if_pos q, if_pos q]; rfl
    · rw [if_neg q, if_neg q]; rfl
theorem gD_l {l m : List Int} {k : Nat} (h : k < l.length) : (l ++ m).getD k 0 = l.getD k 0 := by
  rw [List.getD_eq_getElem?_getD, List.getD_eq_getElem?_getD, List.getElem?_append_left h]
theorem gD_r {l m : List Int} {k : Nat} (h : l.length ≤ k) : (l ++ m).getD k 0 = m.getD (k - l.length) 0 := by
  rw [List.getD_eq_getElem?_getD, List.getD_eq_getElem?_getD, List.getElem?_append_right h]
theorem wy_split {κ : Kp} (h : Inv κ) (p : Nat) : ∀ n, n ≤ nH κ → cnt (pw κ p 0) n + cnt (pw κ p 1) n = cnt (pt κ p) n
  | 0, _ => rfl
  | n + 1, hn => by
    have h1 := wy_split h p n (by omega)
    have h2 := (h.2.2.2.2.2.2.1 n (by omega)).1
    show cnt _ n + _ + (cnt _ n + _) = cnt _ n + _
    have e : (κ 1 n).toInt = 0 ∨ (κ 1 n).toInt = 1 := by omega
    have e0 : pw κ p 0 n = (pt κ p n && decide ((κ 1 n).toInt = 0)) := rfl
    have e1 : pw κ p 1 n = (pt κ p n && decide ((κ 1 n).toInt = 1)) := rfl
    rw [e0, e1]
    rcases e with e | e <;> rw [e] <;> cases pt κ p n <;> simp <;> omega
theorem tot_b {P : Nat → Bool} {f : Nat → Int} {B : Int} (hB : 0 ≤ B) : ∀ {n : Nat}, (∀ r, r < n → P r = true → -B ≤ f r ∧ f r ≤ B) → -(B * n) ≤ tot P f n ∧ tot P f n ≤ B * n
  | 0, _ => by show -(B * 0) ≤ (0 : Int) ∧ (0 : Int) ≤ B * 0; omega
  | n + 1, h => by
    have h1 := tot_b hB (P := P) (f := f) (n := n) (fun r hr => h r (by omega))
    have h2 := h n (by omega)
    have e : B * ((n + 1 : Nat) : Int) = B * n + B := by rw [Int.natCast_succ, Int.mul_add, Int.mul_one]
    rw [e]
    show -(B * n + B) ≤ tot P f n + _ ∧ tot P f n + _ ≤ B * n + B
    by_cases q : P n = true
    · rw [if_pos q]
      have := h2 q
      omega
    · rw [if_neg q]; omega
theorem sc_b {κ : Kp} (h : Inv κ) (p w n : Nat) (hn : n ≤ 14) : -840000000 ≤ tot (pw κ p w) (fun a => tL κ a p) n ∧ tot (pw κ p w) (fun a => tL κ a p) n ≤ 840000000 := by
  have := tot_b (B := 60000000) (by decide) (P := pw κ p w) (f := fun a => tL κ a p) (n := n) (fun r _ _ => tL_b h r p)
  omega
def GT (κ : Kp) (p n : Nat) (τ : Sto) : Prop := τ.1 7 4 = nI (cnt (pt κ p) n) ∧ (∀ w, w < 2 → τ.1 58 w = nI (cnt (pw κ p w) n)) ∧ (τ.2 7 5).toInt = tot (pw κ p 1) (fun a => tL κ a p) n ∧ ∀ k, k < cnt (pt κ p) n → (τ.1 57 k).toInt = (TLn κ p n).getD k 0
theorem GT.many {κ : Kp} {p n : Nat} {τ : Sto} (g : GT κ p n τ) : τ.1 7 4 = nI (cnt (pt κ p) n) := g.1
theorem GT.way {κ : Kp} {p n : Nat} {τ : Sto} (g : GT κ p n τ) : ∀ w, w < 2 → τ.1 58 w = nI (cnt (pw κ p w) n) := g.2.1
theorem GT.sum {κ : Kp} {p n : Nat} {τ : Sto} (g : GT κ p n τ) : (τ.2 7 5).toInt = tot (pw κ p 1) (fun a => tL κ a p) n := g.2.2.1
theorem GT.row {κ : Kp} {p n : Nat} {τ : Sto} (g : GT κ p n τ) : ∀ k, k < cnt (pt κ p) n → (τ.1 57 k).toInt = (TLn κ p n).getD k 0 := g.2.2.2
theorem X_gatherW {p : Int32} {σ : Sto} {post : Sto → Prop} (h : OX σ) (hp : okS p) (hq : ∀ τ, qx σ τ → GT (vx σ) p.toNatClampNeg (nH (vx σ)) τ → post τ) : wX3_gather p σ post := by
  have hi := h.1
  have h14 := nH_le hi
  have hv : ∀ u, qx σ u → vx u = vx σ := fun u f => f.vx
  generalize hκ : vx σ = κ at *
  unfold wX3_gather
  refine fillI_ok (by decide) ?_
  generalize hu0 : (wL (wI (wA σ 58 (fun i => if i < 2 then (0 : Int32) else σ.1 58 i)) 7 4 (0 : Int32)) 7 5 (0 : Int64)) = u0
  have q0 : qx σ u0 := by
    rw [← hu0]
    refine qx.wL (qx.wI ?_ (by decide) (fun e => by omega) (fun e => by omega)) (by decide)
    refine ⟨fun c x => ⟨?_, rfl⟩, rfl, rfl⟩
    show (if c = 58 then _ else σ.1 c) = _
    rw [if_neg (fun e => by subst e; cases x)]
  refine pk_loop (fun k i u => wX3_gather_20 post (fun σ_1 => post σ_1) k p (nI i) u) (fun i u => qx σ u ∧ GT κ p.toNatClampNeg i u) (nH κ) 0 u0 (Nat.zero_le _) ⟨q0, ?_⟩ ?_ ?_
  · refine ⟨by rw [← hu0]; rfl, fun w hw => ?_, by rw [← hu0]; rfl, fun k hk => absurd hk (Nat.not_lt_zero _)⟩
    rw [← hu0, wL_1, wI_n (by omega)]
    show (if (58 : Nat) = 58 then (fun i => if i < 2 then (0 : Int32) else σ.1 58 i) else σ.1 58) w = _
    rw [if_pos rfl, if_pos hw]
    rfl
  · intro k u hu
    have eH : u.1 1 2 = nI (nH κ) := by rw [← nH_I hi, ← hv u hu.1]; rfl
    unfold wX3_gather_20
    rw [eH]
    exact ⟨fun _ => hq u hu.1 hu.2, fun z => absurd (nI_le (Nat.le_refl _) (by omega)) z⟩
  · intro k i u hi2 hu kk
    obtain ⟨f, g⟩ := hu
    have hvu := hv u f
    have eH : u.1 1 2 = nI (nH κ) := by rw [← nH_I hi, ← hvu]; rfl
    have ho : OX u := h.qx f
    have c2 : (nI i).toNatClampNeg = i := nI_clamp (by omega)
    have iT : (nI i).toInt = i := nI_toInt (by omega)
    have v14 : vp_in (nI i) 14 := vp_in_nI (by omega) (by omega)
    unfold wX3_gather_20
    rw [eH]
    refine ⟨fun z => absurd z (nI_ge hi2 (by omega)), fun _ => X_takes ho (by omega) hp ?_⟩
    rw [c2, hvu, nI_1]
    refine br_d' (fun z => ?_) (fun z => ?_)
    · have pz : pt κ p.toNatClampNeg i = true := decide_eq_true z
      have cl := cnt_le (P := pt κ p.toNatClampNeg) (n := i)
      have hw := (hi.2.2.2.2.2.2.1 i hi2).1
      have eW : u.1 13 i = κ 1 i := by rw [← hvu, vx_r (c := 1) (by omega) (show i < 14 by omega)]; rfl
      have eM := X_mean ho (a := i) (p := p.toNatClampNeg) (by omega) hp.lt
      rw [hvu] at eM
      have sb := sc_b hi p.toNatClampNeg 1 i (by omega)
      have tb := tL_b hi i p.toNatClampNeg
      rw [eW, g.many, nI_clamp (show cnt (pt κ p.toNatClampNeg) i < 2 ^ 31 by omega)]
      have vw : vp_in (κ 1 i) 2 := vp_iff.mpr (by omega)
      generalize hW : (κ 1 i).toNatClampNeg = W
      have hWn : (W : Int) = (κ 1 i).toInt := by rw [← hW]; exact toN hw.1
      have cW := cnt_le (P := pw κ p.toNatClampNeg W) (n := i)
      have nxt : ∀ (v : Int64), v.toInt = (if (κ 1 i).toInt = 1 then tL κ i p.toNatClampNeg else 0) → wX3_gather_117 post (wX3_gather_20 post (fun σ_1 => post σ_1) k) p (nI i) v (u.2 7 5) (wI (wI (wI u 57 (cnt (pt κ p.toNatClampNeg) i) (u.1 (45 + p.toNatClampNeg) i)) 7 4 (nI (cnt (pt κ p.toNatClampNeg) i) + 1)) 58 W (u.1 58 W + 1)) := by
        intro v hvv
        unfold wX3_gather_117
        rw [nI_1]
        have pwI : ∀ w, pw κ p.toNatClampNeg w i = decide (w = W) := fun w => by
          unfold pw
          rw [pz, Bool.true_and]
          exact decide_eq_decide.mpr (by omega)
        refine kk _ ⟨qx.wL (qx.wI (qx.wI (qx.wI f (by decide) (fun e => by omega) (fun e => by omega)) (by decide) (fun e => by omega) (fun e => by omega)) (by decide) (fun e => by omega) (fun e => by omega)) (by decide), ?_, ?_, ?_, ?_⟩
        · rw [wL_1, wI_n (by omega), wI_1, uS, nI_1]
          show _ = nI (cnt _ i + _)
          rw [if_pos pz]
        · intro w hw2
          rw [wL_1, wI_1]
          show _ = nI (cnt _ i + _)
          rw [pwI w]
          by_cases e : w = W
          · rw [e, uS, g.way W (by omega), nI_1, decide_eq_true rfl, if_pos rfl]
          · rw [uN e, wI_n (by omega), wI_n (by omega), g.way w hw2, decide_eq_false e, if_neg (by decide)]; rfl
        · rw [wL_2, uLS]
          show _ = tot _ _ i + _
          rw [pwI 1]
          by_cases e : (κ 1 i).toInt = 1
          · rw [if_pos e] at hvv
            rw [lAdd g.sum hvv (by omega) (by omega), decide_eq_true (by omega), if_pos rfl]
          · rw [if_neg e] at hvv
            rw [lAdd g.sum hvv (by omega) (by omega), decide_eq_false (by omega), if_neg (by decide)]
        · intro m hm
          rw [wL_1, wI_n (by omega), wI_n (by omega), wI_1]
          have hm' : m < cnt (pt κ p.toNatClampNeg) i + 1 := by
            have : cnt (pt κ p.toNatClampNeg) (i + 1) = cnt (pt κ p.toNatClampNeg) i + _ := rfl
            rw [this, if_pos pz] at hm
            exact hm
          show _ = (TLn κ p.toNatClampNeg i ++ _).getD m 0
          have ln := TLn_len (κ := κ) (p := p.toNatClampNeg) i
          by_cases e : m = cnt (pt κ p.toNatClampNeg) i
          · rw [e, uS, if_pos pz, gD_r (by omega), ln, Nat.sub_self, eM]
            rfl
          · rw [uN e, g.row m (by omega), gD_l (by omega)]
      refine ⟨hp.in, v14, vp_in_nI (by omega) (by omega), v14, vw, vw, v14, fun e => nxt 0 ?_, fun e => nxt _ ?_⟩
      · rw [if_neg (fun q : (κ 1 i).toInt = 1 => e (iExt q n1))]; rfl
      · rw [e, if_pos n1]; exact iL eM
    · have pz : pt κ p.toNatClampNeg i = false := decide_eq_false z
      have pz2 : ∀ w, pw κ p.toNatClampNeg w i = false := fun w => by unfold pw; rw [pz]; rfl
      refine kk u ⟨f, ?_, fun w hw => ?_, ?_, fun m hm => ?_⟩
      · show _ = nI (cnt _ i + _)
        rw [pz, if_neg (by decide)]; exact g.many
      · show _ = nI (cnt _ i + _)
        rw [pz2 w, if_neg (by decide)]; exact g.way w hw
      · show _ = tot _ _ i + _
        rw [pz2 1, if_neg (by decide), Int.add_zero]; exact g.sum
      · have : cnt (pt κ p.toNatClampNeg) (i + 1) = cnt (pt κ p.toNatClampNeg) i + _ := rfl
        rw [this, pz, if_neg (by decide)] at hm
        show _ = (TLn κ p.toNatClampNeg i ++ _).getD m 0
        rw [pz, if_neg (by decide), List.append_nil]
        exact g.row m hm

/-! what the houses told, in order: both sides -/
def GN (κ : Kp) (p : Nat) (τ : Sto) : Prop := τ.1 5 5 = nI (ptN κ p) ∧ RwL τ 52 (srt (TL κ p))
theorem TL_len {κ : Kp} {p : Nat} : (TL κ p).length = ptN κ p := TLn_len _
theorem srt_len (l : List Int) : (srt l).length = l.length := (srt_p l).length_eq
theorem ptN_le {κ : Kp} (h : Inv κ) (p : Nat) : ptN κ p ≤ 14 := Nat.le_trans cnt_le (nH_le h)
theorem TLn_s1 {κ : Kp} {p n : Nat} (h : pt κ p n = true) : TLn κ p (n + 1) = TLn κ p n ++ [tL κ n p] := by
  show TLn κ p n ++ _ = _
  rw [if_pos h]
theorem TLn_s0 {κ : Kp} {p n : Nat} (h : pt κ p n = false) : TLn κ p (n + 1) = TLn κ p n := by
  show TLn κ p n ++ _ = _
  rw [h, if_neg (by decide), List.append_nil]
theorem cnt_s1 {P : Nat → Bool} {n : Nat} (h : P n = true) : cnt P (n + 1) = cnt P n + 1 := by
  show cnt P n + _ = _
  rw [if_pos h]
theorem cnt_s0 {P : Nat → Bool} {n : Nat} (h : P n = false) : cnt P (n + 1) = cnt P n := by
  show cnt P n + _ = _
  rw [h, if_neg (by decide)]; rfl
theorem tot_s1 {P : Nat → Bool} {f : Nat → Int} {n : Nat} (h : P n = true) : tot P f (n + 1) = tot P f n + f n := by
  show tot P f n + _ = _
  rw [if_pos h]
theorem tot_s0 {P : Nat → Bool} {f : Nat → Int} {n : Nat} (h : P n = false) : tot P f (n + 1) = tot P f n := by
  show tot P f n + _ = _
  rw [h, if_neg (by decide), Int.add_zero]
theorem SL_snoc {M l : List Int} {v : Int} (h : SL M (v :: l)) : SL M (l ++ [v]) := SL_perm h (List.perm_append_singleton v l).symm
theorem SL_nil : SL [] [] := ⟨List.Pairwise.nil, List.Perm.refl _⟩
theorem X_gatherN {p : Int32} {σ : Sto} {post : Sto → Prop} (h : OX σ) (hp : okS p) (hq : ∀ τ, qx σ τ → GN (vx σ) p.toNatClampNeg τ → post τ) : wX6_gather p σ post := by
  have hi := h.1
  have h14 := nH_le hi
  have hv : ∀ u, qx σ u → vx u = vx σ := fun u f => f.vx
  generalize hκ : vx σ = κ at *
  unfold wX6_gather
  refine pk_loop (fun k i u => wX6_gather_7 post (fun σ_1 => post σ_1) k p (nI i) u) (fun i u => qx σ u ∧ u.1 5 5 = nI (cnt (pt κ p.toNatClampNeg) i) ∧ ∃ M, RwL u 52 M ∧ SL M (TLn κ p.toNatClampNeg i)) (nH κ) 0 _ (Nat.zero_le _) ⟨qx.refl.wI (by decide) (by decide) (by decide), by rw [wI_1, uS]; rfl, [], fun k hk => absurd hk (Nat.not_lt_zero _), SL_nil⟩ ?_ ?_
  · intro k u hu
    obtain ⟨f, g1, M, g2, g3⟩ := hu
    have eH : u.1 1 2 = nI (nH κ) := by rw [← nH_I hi, ← hv u f]; rfl
    unfold wX6_gather_7
    rw [eH]
    refine ⟨fun _ => hq u f ⟨g1, ?_⟩, fun z => absurd (nI_le (Nat.le_refl _) (by omega)) z⟩
    have e : M = srt (TL κ p.toNatClampNeg) := SL_srt g3
    rw [← e]; exact g2
  · intro k i u hi2 hu kk
    obtain ⟨f, g1, M, g2, g3⟩ := hu
    have hvu := hv u f
    have ho := h.qx f
    have eH : u.1 1 2 = nI (nH κ) := by rw [← nH_I hi, ← hvu]; rfl
    have c2 : (nI i).toNatClampNeg = i := nI_clamp (by omega)
    have iT : (nI i).toInt = i := nI_toInt (by omega)
    have cl := cnt_le (P := pt κ p.toNatClampNeg) (n := i)
    unfold wX6_gather_7
    rw [eH, c2, nI_1]
    refine ⟨fun z => absurd z (nI_ge hi2 (by omega)), fun _ => X_takes ho (by omega) hp ?_⟩
    rw [c2, hvu]
    refine br_d' (fun z => ⟨hp.in, vp_in_nI (by omega) (by omega), ?_⟩) (fun z => ?_)
    · have pz : pt κ p.toNatClampNeg i = true := decide_eq_true z
      have eM := X_mean ho (a := i) (p := p.toNatClampNeg) (by omega) hp.lt
      rw [hvu] at eM
      rw [g1]
      refine X_order (by decide) (iL eM) g2 g3 (by rw [SL_len g3, TLn_len]) (by omega) (fun v M2 f1 r1 s1 => ?_)
      rw [f1.1, g1, nI_1]
      refine kk _ ⟨(f.trans (f1.qx (by decide))).wI (by decide) (by decide) (by decide), by rw [wI_1, uS, cnt_s1 pz], M2, r1, ?_⟩
      rw [TLn_s1 pz]
      exact SL_snoc s1
    · have pz : pt κ p.toNatClampNeg i = false := decide_eq_false z
      exact kk u ⟨f, by rw [cnt_s0 pz]; exact g1, M, g2, by rw [TLn_s0 pz]; exact g3⟩
theorem fr1.qd {σ τ : Sto} (h : fr1 84 σ τ) : qd σ τ := ⟨⟨fun c x => ⟨by rw [h.1], h.2 c (fun e => by subst e; cases x)⟩, fun i _ => by rw [h.1]⟩, fun c a b => ⟨by rw [h.1], h.2 c (by omega)⟩, by rw [h.1]⟩
/-- the model's row after an addition: what has changed -/
theorem add_qd {m : Nat} {σ τ : Sto} (h : ∃ s, fr1 84 σ s ∧ τ = wI s 67 23 (nI m)) : qd σ τ ∧ τ.1 67 23 = nI m ∧ (∀ i, i ≠ 23 → τ.1 67 i = σ.1 67 i) ∧ τ.2 67 = σ.2 67 := by
  obtain ⟨s, f, rfl⟩ := h
  exact ⟨(fr1.qd f).wI (by decide) (by omega) (fun _ => ⟨by decide, by decide⟩), by rw [wI_1, uS], fun i e => by rw [wI_1, uN e, f.1], by rw [wI_2, f.2 67 (by decide)]⟩
def GM (κ : Kp) (p : Nat) (τ : Sto) : Prop := τ.1 67 23 = nI (ptN κ p) ∧ RwL τ 84 (srt (TL κ p))
theorem RwL.keep {c : Nat} {σ τ : Sto} {L : List Int} (h : RwL σ c L) (e : τ.2 c = σ.2 c) : RwL τ c L := fun k hk => by rw [e]; exact h k hk
theorem M_rowOf {p : Int32} {σ : Sto} {post : Sto → Prop} (h : OM σ) (hp : okS p) (hq : ∀ τ, OM τ → qm σ τ → (nH (vm σ) = 0 ∨ WK τ) → GM (vm σ) p.toNatClampNeg τ → post τ) : wX11_rowOf p σ post := by
  have hi := h.1
  have h14 := nH_le hi
  have hv : ∀ u, qm σ u → vm u = vm σ := fun u f => f.vm
  generalize hκ : vm σ = κ at *
  have q0 : qd σ (wI σ 67 23 0) := qd.refl.wI (by decide) (by omega) (fun _ => ⟨by decide, by decide⟩)
  unfold wX11_rowOf
  refine pk_loop (fun k i u => wX11_rowOf_7 post (fun σ_1 => post σ_1) k p (nI i) u) (fun i u => OM u ∧ qm σ u ∧ (i = 0 ∨ WK u) ∧ u.1 67 23 = nI (cnt (pt κ p.toNatClampNeg) i) ∧ ∃ M, RwL u 84 M ∧ SL M (TLn κ p.toNatClampNeg i)) (nH κ) 0 _ (Nat.zero_le _) ⟨h.qd q0, q0.1, Or.inl rfl, by rw [wI_1, uS]; rfl, [], fun k hk => absurd hk (Nat.not_lt_zero _), SL_nil⟩ ?_ ?_
  · intro k u hu
    obtain ⟨o, f, w, g1, M, g2, g3⟩ := hu
    have eH : u.1 67 1 = nI (nH κ) := by rw [← nH_I hi, ← hv u f]; rfl
    unfold wX11_rowOf_7
    rw [eH]
    refine ⟨fun _ => hq u o f w ⟨g1, ?_⟩, fun z => absurd (nI_le (Nat.le_refl _) (by omega)) z⟩
    have e : M = srt (TL κ p.toNatClampNeg) := SL_srt g3
    rw [← e]; exact g2
  · intro k i u hi2 hu kk
    obtain ⟨o, f, w, g1, M, g2, g3⟩ := hu
    have hvu := hv u f
    have eH : u.1 67 1 = nI (nH κ) := by rw [← nH_I hi, ← hvu]; rfl
    have c2 : (nI i).toNatClampNeg = i := nI_clamp (by omega)
    have iT : (nI i).toInt = i := nI_toInt (by omega)
    have cl := cnt_le (P := pt κ p.toNatClampNeg) (n := i)
    unfold wX11_rowOf_7
    rw [eH, nI_1]
    refine ⟨fun z => absurd z (nI_ge hi2 (by omega)), fun _ => takes_Q o (by omega) hp (fun τ wk f1 f2 => ?_)⟩
    rw [c2, hvu]
    have q3 := f.trans f1
    have hvt := hv τ q3
    have t1 : τ.1 67 23 = nI (cnt (pt κ p.toNatClampNeg) i) := by rw [f2.2.1 23 (by decide)]; exact g1
    have t2 : RwL τ 84 M := g2.keep (f2.2.2 84 (by omega))
    refine br_d' (fun z => toldOf_W wk (by omega) hp (by rw [c2, hvt]; exact z) (fun r hr => ?_)) (fun z => ?_)
    · have pz : pt κ p.toNatClampNeg i = true := decide_eq_true z
      rw [c2, hvt] at hr
      refine M_add hr t2 g3 (by rw [SL_len g3, TLn_len]) t1 (by omega) (fun v M2 f1 r1 s1 => ?_)
      obtain ⟨a1, a2, a3, a4⟩ := add_qd f1
      refine kk v ⟨wk.1.qd a1, q3.trans a1.1, Or.inr (wk.qd a1), by rw [a2, cnt_s1 pz], M2, r1, ?_⟩
      rw [TLn_s1 pz]
      exact SL_snoc s1
    · have pz : pt κ p.toNatClampNeg i = false := decide_eq_false z
      exact kk τ ⟨wk.1, q3, Or.inr wk, by rw [cnt_s0 pz]; exact t1, M, t2, by rw [TLn_s0 pz]; exact g3⟩
theorem TLn_mem {κ : Kp} (h : Inv κ) {p : Nat} : ∀ n, ∀ v, v ∈ TLn κ p n → -60000000 ≤ v ∧ v ≤ 60000000
  | 0, v, hv => by cases hv
  | n + 1, v, hv => by
    have hv' : v ∈ TLn κ p n ++ (if pt κ p n = true then [tL κ n p] else []) := hv
    rcases List.mem_append.mp hv' with q | q
    · exact TLn_mem h n v q
    · split at q
      · rw [List.mem_singleton.mp q]; exact tL_b h n p
      · cases q
theorem gD_mem {L : List Int} {k : Nat} (h : k < L.length) : L.getD k 0 ∈ L := by
  rw [gD_i h]
  exact List.getElem_mem h
theorem srt_b {κ : Kp} (h : Inv κ) {p k : Nat} (hk : k < (srt (TL κ p)).length) : -60000000 ≤ (srt (TL κ p)).getD k 0 ∧ (srt (TL κ p)).getD k 0 ≤ 60000000 := TLn_mem h _ _ ((srt_p _).mem_iff.mp (gD_mem hk))
/-! sums over lists -/
def lsum : List Int → Int
  | [] => 0
  | a :: t => a + lsum t
theorem lsum_app (l m : List Int) : lsum (l ++ m) = lsum l + lsum m := by
  induction l with
  | nil => show lsum m = 0 + lsum m; omega
  | cons a t ih =>
    show a + lsum (t ++ m) = a + lsum t + lsum m
    rw [ih]; omega
theorem lsum_perm {l m : List Int} (h : l.Perm m) : lsum l = lsum m := by
  induction h with
  | nil => rfl
  | cons x _ ih => show x + _ = x + _; rw [ih]
  | swap x y l => show y + (x + _) = x + (y + _); omega
  | trans _ _ ih1 ih2 => rw [ih1, ih2]
theorem lsum_take {L : List Int} {g : Int → Int} {k : Nat} (h : k < L.length) : lsum ((L.take (k + 1)).map g) = lsum ((L.take k).map g) + g (L.getD k 0) := by
  rw [List.take_add_one, List.map_append, lsum_app, List.getElem?_eq_getElem h, gD_i h]
  show _ + (g _ + 0) = _
  omega
theorem lsum_TLn1 {κ : Kp} {p n : Nat} {g : Int → Int} (h : pt κ p n = true) : lsum ((TLn κ p (n + 1)).map g) = lsum ((TLn κ p n).map g) + g (tL κ n p) := by
  rw [TLn_s1 h, List.map_append, lsum_app]
  show _ + (g _ + 0) = _
  omega
theorem lsum_b {B : Int} (hB : 0 ≤ B) : ∀ (l : List Int), (∀ v, v ∈ l → -B ≤ v ∧ v ≤ B) → -(B * l.length) ≤ lsum l ∧ lsum l ≤ B * l.length
  | [], _ => by show -(B * 0) ≤ (0 : Int) ∧ (0 : Int) ≤ B * 0; omega
  | a :: t, h => by
    have h1 := lsum_b hB t (fun v hv => h v (List.mem_cons_of_mem _ hv))
    have h2 := h a List.mem_cons_self
    have e : B * ((a :: t).length : Int) = B * t.length + B := by rw [List.length_cons, Int.natCast_succ, Int.mul_add, Int.mul_one]
    rw [e]
    show -(B * t.length + B) ≤ a + lsum t ∧ a + lsum t ≤ B * t.length + B
    omega

/-! digest -/
def dcF (κ : Kp) : Nat → Int64
  | 0 => 17
  | i + 1 => if i = 8 then dcF κ i else (31 : Int64) * dcF κ i + (S_count (nI i) κ).toInt64
noncomputable def dtF (κ : Kp) (a : Nat) : Nat → Int64 → Int64
  | 0, h => h
  | p + 1, h => (31 : Int64) * dtF κ a p h + (tldI κ a p).toInt64
noncomputable def dhF (κ : Kp) : Nat → Int64
  | 0 => dcF κ 11
  | a + 1 => dtF κ a 4 ((31 : Int64) * dhF κ a + (κ 2 a).toInt64)
noncomputable def dnA (κ : Kp) (p : Nat) (r : Int32) : Int64 := if ptN κ p = 0 then -3 else Int64.ofInt (loA (nmA κ p r) (nmB κ p r))
noncomputable def dnB (κ : Kp) (p : Nat) (r : Int32) : Int64 := if ptN κ p = 0 then -3 else Int64.ofInt (loB (nmA κ p r) (nmB κ p r))
noncomputable def drF (κ : Kp) (p : Nat) : Nat → Int64 → Int64
  | 0, h => h
  | r + 1, h => (31 : Int64) * ((31 : Int64) * drF κ p r h + dnA κ p (nI r)) + dnB κ p (nI r)
noncomputable def dpF (κ : Kp) : Nat → Int64
  | 0 => dhF κ (nH κ)
  | p + 1 => (31 : Int64) * drF κ p 4 ((31 : Int64) * ((31 : Int64) * dpF κ p + (nI (agZ κ p)).toInt64) + (nI (cmF κ p (nH κ)).1).toInt64) + (Int32.ofInt (wdF κ p (nH κ)).1).toInt64
noncomputable def S_digest (κ : Kp) : Int64 := (31 : Int64) * dpF κ 4 + (S_fault κ).toInt64
theorem dn_ok {κ : Kp} (h : Inv κ) {p : Nat} {r : Int32} (hn : ptN κ p ≠ 0) {x y : Int64} (hx : x.toInt = loA (nmA κ p r) (nmB κ p r)) (hy : y.toInt = loB (nmA κ p r) (nmB κ p r)) : x = dnA κ p r ∧ y = dnB κ p r := by
  have b := nm_b h hn r
  have l := lo_b (a := nmA κ p r) b.1.1
  unfold dnA dnB
  rw [if_neg hn, if_neg hn]
  exact ⟨oL hx (by omega) (by omega), oL hy (by omega) (by omega)⟩
def JX (κ : Kp) (σ u : Sto) : Prop := OX u ∧ vx u = κ ∧ fm σ u
def JM (κ : Kp) (σ u : Sto) : Prop := OM u ∧ vm u = κ ∧ fx σ u
theorem JX.sp {R : Type} {W : Sto → (R → Sto → Prop) → Prop} {S : Kp → R} {κ : Kp} {σ u : Sto} {post : R → Sto → Prop} (h : SpX W S (fun κ => κ)) (j : JX κ σ u) (hq : ∀ τ, JX κ σ τ → post (S κ) τ) : W u post := h u post j.1 (fun τ a b c => by
  have := hq τ ⟨a, b.trans j.2.1, j.2.2.trans c⟩
  rw [← j.2.1] at this
  exact this)
theorem X_dig1 {κ : Kp} {σ u : Sto} {p : Nat} {h : Int64} {post : Int64 → Sto → Prop} (hi : Inv κ) (hp : p < 4) (j : JX κ σ u) (hq : ∀ τ, JX κ σ τ → post ((31 : Int64) * drF κ p 4 ((31 : Int64) * ((31 : Int64) * h + (nI (agZ κ p)).toInt64) + (nI (cmF κ p (nH κ)).1).toInt64) + (Int32.ofInt (wdF κ p (nH κ)).1).toInt64) τ) : wX10_digestPiece h (nI p) u post := by
  have cp : (nI p).toNatClampNeg = p := nI_clamp (by omega)
  have pT : (nI p).toInt = p := nI_toInt (by omega)
  have ok : okS (nI p) := ⟨by omega, by omega⟩
  have s1 : S_agreeing (nI p) κ = nI (agZ κ p) := by unfold S_agreeing; rw [if_pos ok, cp]
  have s2 : S_common (nI p) 0 κ = nI (cmF κ p (nH κ)).1 := by unfold S_common; rw [if_pos ⟨ok, by decide, by decide⟩, if_pos rfl, cp]
  have s3 : S_widest (nI p) κ = Int32.ofInt (wdF κ p (nH κ)).1 := by unfold S_widest; rw [if_pos ok, cp]
  unfold wX10_digestPiece
  refine j.sp (X_agreeing (nI p)) (fun u1 j1 => j1.sp (X_common (nI p) 0) (fun u2 j2 => ?_))
  rw [s1, s2]
  refine pk_loop (fun k r (y : Int64 × Sto) => wX10_digestPiece_33 post _ k (nI p) y.1 (nI r) y.2) (fun r y => y.1 = drF κ p r ((31 : Int64) * ((31 : Int64) * h + (nI (agZ κ p)).toInt64) + (nI (cmF κ p (nH κ)).1).toInt64) ∧ JX κ σ y.2) 4 0 (_, u2) (Nat.zero_le _) ⟨rfl, j2⟩ ?_ ?_
  · intro k y hy
    obtain ⟨y, v⟩ := y
    obtain ⟨a1, a2⟩ := hy
    dsimp only at a1 a2 ⊢
    unfold wX10_digestPiece_33
    refine ⟨fun _ => a2.sp (X_widest (nI p)) (fun τ j3 => ?_), fun z => absurd (by decide) z⟩
    rw [s3, a1]
    exact hq τ j3
  · intro k r y hr hy kk
    obtain ⟨y, v⟩ := y
    obtain ⟨a1, a2⟩ := hy
    dsimp only at a1 a2 ⊢
    obtain ⟨o, hv, hf⟩ := a2
    unfold wX10_digestPiece_33
    refine ⟨fun z => absurd z (nI_ge (b := 4) hr (by decide)), fun _ => X_reckonBy o ok (fun z τ f => ?_) (fun z τ a b f e1 e2 h1 h2 => ?_)⟩
    · rw [hv, cp] at z
      refine ⟨fun _ => ?_, fun e => by cases e⟩
      unfold wX10_digestPiece_78 wX10_digestPiece_108
      rw [nI_1]
      refine ⟨fun _ => kk (_, τ) ⟨?_, o.qx f, by rw [f.vx, hv], hf.trans f.fm⟩, fun e => absurd rfl e⟩
      show _ = (31 : Int64) * ((31 : Int64) * drF κ p r _ + dnA κ p (nI r)) + dnB κ p (nI r)
      unfold dnA dnB
      rw [if_pos z, if_pos z, a1]
    · rw [hv, cp] at z h1 h2
      have dn := dn_ok hi z h1 h2
      refine ⟨fun e => (by cases e), fun _ => ?_⟩
      unfold wX10_digestPiece_78 wX10_digestPiece_108
      rw [nI_1, e1, e2]
      refine ⟨fun e => absurd e (by decide), fun _ => kk (_, τ) ⟨?_, o.qx f, by rw [f.vx, hv], hf.trans f.fm⟩⟩
      show _ = (31 : Int64) * ((31 : Int64) * drF κ p r _ + dnA κ p (nI r)) + dnB κ p (nI r)
      rw [dn.1, dn.2, a1]
theorem dh0 (κ : Kp) : (31 : Int64) * ((31 : Int64) * dcF κ 8 + (S_count 9 κ).toInt64) + (S_count 10 κ).toInt64 = dhF κ 0 := by
  have s : ∀ i, dcF κ (i + 1) = if i = 8 then dcF κ i else (31 : Int64) * dcF κ i + (S_count (nI i) κ).toInt64 := fun i => rfl
  have e9 : nI 9 = (9 : Int32) := rfl
  have e10 : nI 10 = (10 : Int32) := rfl
  have e : dhF κ 0 = dcF κ 11 := rfl
  rw [e, s 10, if_neg (by decide), s 9, if_neg (by decide), s 8, if_pos rfl, e9, e10]
theorem X_digest : SpX wX10_digest S_digest (fun κ => κ) := by
  intro σ post h hp
  have hi := h.1
  have h14 := nH_le hi
  have hp' : ∀ τ, JX (vx σ) σ τ → post (S_digest (vx σ)) τ := fun τ j => hp τ j.1 j.2.1 j.2.2
  have j0 : JX (vx σ) σ σ := ⟨h, rfl, fm.refl⟩
  clear hp
  generalize vx σ = κ at *
  unfold wX10_digest
  refine pk_loop (fun k i (y : Int64) => wX10_digest_6 post _ k y (nI i) σ) (fun i y => y = dcF κ i) 8 0 17 (Nat.zero_le _) rfl ?_ ?_
  · intro k y hy
    unfold wX10_digest_6
    refine ⟨fun _ => X_countQ h (X_countQ h ?_), fun z => absurd (by decide) z⟩
    rw [j0.2.1, hy]
    refine pk_loop (fun k a (y : Int64 × Sto) => wX10_digest_61 post _ k y.1 (nI a) y.2) (fun a y => y.1 = dhF κ a ∧ JX κ σ y.2) (nH κ) 0 (_, σ) (Nat.zero_le _) ⟨dh0 κ, j0⟩ ?_ ?_
    · intro k y hy
      obtain ⟨y, u⟩ := y
      obtain ⟨a1, a2⟩ := hy
      dsimp only at a1 a2 ⊢
      have eH : u.1 1 2 = nI (nH κ) := by rw [← nH_I hi, ← a2.2.1]; rfl
      unfold wX10_digest_61
      rw [eH]
      refine ⟨fun _ => ?_, fun z => absurd (nI_le (Nat.le_refl _) (by omega)) z⟩
      refine pk_loop (fun k p (y : Int64 × Sto) => wX10_digest_127 post _ k y.1 (nI p) y.2) (fun p y => y.1 = dpF κ p ∧ JX κ σ y.2) 4 0 (y, u) (Nat.zero_le _) ⟨a1, a2⟩ ?_ ?_
      · intro k y hy
        obtain ⟨y, v⟩ := y
        obtain ⟨b1, b2⟩ := hy
        dsimp only at b1 b2 ⊢
        unfold wX10_digest_127
        refine ⟨fun _ => b2.sp X_fault (fun τ j3 => ?_), fun z => absurd (by decide) z⟩
        rw [b1]
        exact hp' τ j3
      · intro k p y hp2 hy kk
        obtain ⟨y, v⟩ := y
        obtain ⟨b1, b2⟩ := hy
        dsimp only at b1 b2 ⊢
        unfold wX10_digest_127
        refine ⟨fun z => absurd z (nI_ge (b := 4) hp2 (by decide)), fun _ => X_dig1 hi hp2 b2 (fun τ j3 => ?_)⟩
        rw [nI_1, b1]
        exact kk (_, τ) ⟨rfl, j3⟩
    · intro k a y ha hy kk
      obtain ⟨y, u⟩ := y
      obtain ⟨a1, a2⟩ := hy
      dsimp only at a1 a2 ⊢
      have eH : u.1 1 2 = nI (nH κ) := by rw [← nH_I hi, ← a2.2.1]; rfl
      have ca : (nI a).toNatClampNeg = a := nI_clamp (by omega)
      have ed : u.1 14 a = κ 2 a := by rw [← a2.2.1, vx_r (c := 2) (by omega) (show a < 14 by omega)]; rfl
      unfold wX10_digest_61
      rw [eH, ca, ed]
      refine ⟨fun z => absurd z (nI_ge ha (by omega)), fun _ => ⟨vp_in_nI (by omega) (by omega), ?_⟩⟩
      refine pk_loop (fun k2 p (y : Int64 × Sto) => wX10_digest_92 post _ k2 y.1 (nI a) (nI p) y.2) (fun p y => y.1 = dtF κ a p ((31 : Int64) * dhF κ a + (κ 2 a).toInt64) ∧ JX κ σ y.2) 4 0 (_, u) (Nat.zero_le _) ⟨by dsimp only; rw [a1]; rfl, a2⟩ ?_ ?_
      · intro k2 y hy
        obtain ⟨y, v⟩ := y
        obtain ⟨b1, b2⟩ := hy
        dsimp only at b1 b2 ⊢
        unfold wX10_digest_92
        rw [nI_1]
        exact ⟨fun _ => kk (y, v) ⟨b1, b2⟩, fun z => absurd (by decide) z⟩
      · intro k2 p y hp2 hy kk2
        obtain ⟨y, v⟩ := y
        obtain ⟨b1, b2⟩ := hy
        dsimp only at b1 b2 ⊢
        have cp : (nI p).toNatClampNeg = p := nI_clamp (by omega)
        have pT : (nI p).toInt = p := nI_toInt (by omega)
        have st : S_told (nI a) (nI p) κ = tldI κ a p := by unfold S_told; rw [if_pos ⟨okH_nI hi ha, by omega, by omega⟩, ca, cp]
        unfold wX10_digest_92
        refine ⟨fun z => absurd z (nI_ge (b := 4) hp2 (by decide)), fun _ => b2.sp (X_told (nI a) (nI p)) (fun τ j3 => ?_)⟩
        rw [st, nI_1, b1]
        exact kk2 (_, τ) ⟨rfl, j3⟩
  · intro k i y hi2 hy kk
    unfold wX10_digest_6
    refine ⟨fun z => absurd z (nI_nlt (a := 7) (by omega) (by decide)), fun _ => X_countQ h ?_⟩
    rw [j0.2.1, nI_1, hy]
    refine kk _ ?_
    show _ = if i = 8 then _ else _
    rw [if_neg (by omega)]
theorem M_digest : SpM wX11_digest S_digest (fun κ => κ) := by
  intro σ post h hp
  have hi := h.1
  have h14 := nH_le hi
  have hp' : ∀ τ, JM (vm σ) σ τ → post (S_digest (vm σ)) τ := fun τ j => hp τ j.1 j.2.1 j.2.2
  have j0 : JM (vm σ) σ σ := ⟨h, rfl, fx.refl⟩
  clear hp
  generalize vm σ = κ at *
  have up : ∀ {u τ : Sto}, JM κ σ u → OM τ → qm u τ → JM κ σ τ := fun j o q => ⟨o, by rw [q.vm]; exact j.2.1, j.2.2.trans q.fx⟩
  unfold wX11_digest
  refine pk_loop (fun k i (y : Int64 × Sto) => wX11_digest_6 post _ k y.1 (nI i) y.2) (fun i y => y.1 = dcF κ i ∧ JM κ σ y.2) 11 0 (17, σ) (Nat.zero_le _) ⟨rfl, j0⟩ ?_ ?_
  · intro k y hy
    obtain ⟨y, u0⟩ := y
    obtain ⟨c1, c2⟩ := hy
    dsimp only at c1 c2 ⊢
    unfold wX11_digest_6
    refine ⟨fun _ => ?_, fun z => absurd (by decide) z⟩
    refine pk_loop (fun k a (y : Int64 × Sto) => wX11_digest_43 post _ k y.1 (nI a) y.2) (fun a y => y.1 = dhF κ a ∧ JM κ σ y.2) (nH κ) 0 (y, u0) (Nat.zero_le _) ⟨c1, c2⟩ ?_ ?_
    · intro k y hy
      obtain ⟨y, u⟩ := y
      obtain ⟨a1, a2⟩ := hy
      dsimp only at a1 a2 ⊢
      have eH : u.1 67 1 = nI (nH κ) := by rw [← nH_I hi, ← a2.2.1]; rfl
      unfold wX11_digest_43
      rw [eH]
      refine ⟨fun _ => ?_, fun z => absurd (nI_le (Nat.le_refl _) (by omega)) z⟩
      refine pk_loop (fun k p (y : Int64 × Sto) => wX11_digest_103 post _ k y.1 (nI p) y.2) (fun p y => y.1 = dpF κ p ∧ JM κ σ y.2) 4 0 (y, u) (Nat.zero_le _) ⟨a1, a2⟩ ?_ ?_
      · intro k y hy
        obtain ⟨y, v⟩ := y
        obtain ⟨b1, b2⟩ := hy
        dsimp only at b1 b2 ⊢
        unfold wX11_digest_103
        refine ⟨fun _ => M_faultNow b2.1 (fun f w fw hf _ => ?_), fun z => absurd (by decide) z⟩
        have b := fl_b hi
        rw [b2.2.1] at hf
        rw [b1, oI hf (by omega) (by omega)]
        exact hp' w (up b2 (b2.1.qd fw) fw.1)
      · intro k p y hp2 hy kk
        obtain ⟨y, v⟩ := y
        obtain ⟨b1, b2⟩ := hy
        dsimp only at b1 b2 ⊢
        have cp : (nI p).toNatClampNeg = p := nI_clamp (by omega)
        have pT : (nI p).toInt = p := nI_toInt (by omega)
        have ok : okS (nI p) := ⟨by omega, by omega⟩
        unfold wX11_digest_103
        refine ⟨fun z => absurd z (nI_ge (b := 4) hp2 (by decide)), fun _ => M_agreeingOf b2.1 ok (fun u1 o1 f1 => M_commonOf o1 ok (fun u2 o2 f2 _ => ?_))⟩
        have j1 := up b2 o1 f1
        have j2 := up j1 o2 f2
        rw [j1.2.1, b2.2.1, cp, b1]
        refine pk_loop (fun k2 r (y : Int64 × Sto) => wX11_digest_137 post _ k2 y.1 (nI p) (nI r) y.2) (fun r y => y.1 = drF κ p r ((31 : Int64) * ((31 : Int64) * dpF κ p + (nI (agZ κ p)).toInt64) + (nI (cmF κ p (nH κ)).1).toInt64) ∧ JM κ σ y.2) 4 0 (_, u2) (Nat.zero_le _) ⟨rfl, j2⟩ ?_ ?_
        · intro k2 y hy
          obtain ⟨y, w⟩ := y
          obtain ⟨d1, d2⟩ := hy
          dsimp only at d1 d2 ⊢
          unfold wX11_digest_137
          refine ⟨fun _ => M_widestOf d2.1 ok (fun τ r3 o3 f3 _ hr3 => ?_), fun z => absurd (by decide) z⟩
          have wb := wdF_b hi p
          rw [d2.2.1, cp] at hr3
          rw [nI_1, d1, oI hr3 (by omega) (by omega)]
          exact kk (_, τ) ⟨rfl, up d2 o3 f3⟩
        · intro k2 r y hr hy kk2
          obtain ⟨y, w⟩ := y
          obtain ⟨d1, d2⟩ := hy
          dsimp only at d1 d2 ⊢
          unfold wX11_digest_137
          refine ⟨fun z => absurd z (nI_ge (b := 4) hr (by decide)), fun _ => M_finds d2.1 ok (fun z τ o3 f3 => ?_) (fun z τ o3 f3 g => ?_)⟩
          · rw [d2.2.1, cp] at z
            refine ⟨fun _ => ?_, fun e => by cases e⟩
            unfold wX11_digest_180 wX11_digest_210
            rw [nI_1]
            refine ⟨fun _ => kk2 (_, τ) ⟨?_, up d2 o3 f3⟩, fun e => absurd rfl e⟩
            show _ = (31 : Int64) * ((31 : Int64) * drF κ p r _ + dnA κ p (nI r)) + dnB κ p (nI r)
            unfold dnA dnB
            rw [if_pos z, if_pos z, d1]
          · rw [d2.2.1, cp] at z g
            obtain ⟨T, B, g1, g2, g3, g4, g5⟩ := g
            refine ⟨fun e => (by cases e), fun _ => M_lowest g1 g2 g4 g3 (fun x hx => ?_)⟩
            rw [g5] at hx
            unfold wX11_digest_180 wX11_digest_210
            refine ⟨fun e => absurd e (by decide), fun _ => M_lowest g1 g2 g4 g3 (fun x2 hx2 => ?_)⟩
            rw [g5] at hx2
            have dn := dn_ok hi z (show x.toInt = loA _ _ from hx) (show x2.toInt = loB _ _ from hx2)
            rw [nI_1]
            refine kk2 (_, τ) ⟨?_, up d2 o3 f3⟩
            show _ = (31 : Int64) * ((31 : Int64) * drF κ p r _ + dnA κ p (nI r)) + dnB κ p (nI r)
            rw [dn.1, dn.2, d1]
    · intro k a y ha hy kk
      obtain ⟨y, u⟩ := y
      obtain ⟨a1, a2⟩ := hy
      dsimp only at a1 a2 ⊢
      have eH : u.1 67 1 = nI (nH κ) := by rw [← nH_I hi, ← a2.2.1]; rfl
      have ca : (nI a).toNatClampNeg = a := nI_clamp (by omega)
      have aT : (nI a).toInt = a := nI_toInt (by omega)
      have ed : u.1 69 a = κ 2 a := by
        rw [← a2.2.1, vm_r (c := 2) (by omega) (by omega) (show a < 14 by omega), show (axm 2).2.2 + a = a from Nat.zero_add _]
        rfl
      unfold wX11_digest_43
      rw [eH, ca, ed]
      refine ⟨fun z => absurd z (nI_ge ha (by omega)), fun _ => ⟨vp_in_nI (by omega) (by omega), ?_⟩⟩
      refine pk_loop (fun k2 p (y : Int64 × Sto) => wX11_digest_68 post _ k2 y.1 (nI a) (nI p) y.2) (fun p y => y.1 = dtF κ a p ((31 : Int64) * dhF κ a + (κ 2 a).toInt64) ∧ JM κ σ y.2) 4 0 (_, u) (Nat.zero_le _) ⟨by dsimp only; rw [a1]; rfl, a2⟩ ?_ ?_
      · intro k2 y hy
        obtain ⟨y, v⟩ := y
        obtain ⟨b1, b2⟩ := hy
        dsimp only at b1 b2 ⊢
        unfold wX11_digest_68
        rw [nI_1]
        exact ⟨fun _ => kk (y, v) ⟨b1, b2⟩, fun z => absurd (by decide) z⟩
      · intro k2 p y hp2 hy kk2
        obtain ⟨y, v⟩ := y
        obtain ⟨b1, b2⟩ := hy
        dsimp only at b1 b2 ⊢
        have cp : (nI p).toNatClampNeg = p := nI_clamp (by omega)
        have pT : (nI p).toInt = p := nI_toInt (by omega)
        unfold wX11_digest_68
        refine ⟨fun z => absurd z (nI_ge (b := 4) hp2 (by decide)), fun _ => M_toldOrNot b2.1 (by omega) ⟨by omega, by omega⟩ (fun τ wk f => ?_)⟩
        rw [ca, cp, b2.2.1, nI_1, b1]
        exact kk2 (_, τ) ⟨rfl, up b2 wk.1 f⟩
  · intro k i y hi2 hy kk
    obtain ⟨y, u0⟩ := y
    obtain ⟨c1, c2⟩ := hy
    dsimp only at c1 c2 ⊢
    unfold wX11_digest_6 wX11_digest_34
    rw [show (8 : Int32) = nI 8 from rfl, nI_eq (by omega) (by omega), nI_1]
    refine ⟨fun z => absurd z (nI_ge (b := 11) hi2 (by decide)), fun _ => ⟨fun z => M_countQ c2.1 (fun τ o f => ?_), fun z => kk (y, u0) ⟨?_, c2⟩⟩⟩
    · rw [c2.2.1, c1]
      refine kk (_, τ) ⟨?_, up c2 o f⟩
      show _ = if i = 8 then _ else _
      rw [if_neg z]
    · show _ = if i = 8 then _ else _
      rw [if_pos z]; exact c1

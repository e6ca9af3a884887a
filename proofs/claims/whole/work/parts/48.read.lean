/-! read: readings out of a sheet, one after the other -/
noncomputable def rdS (s : Nat) : Nat → Nat → Kp → Nat × Kp
  | 0, k, κ => (k, κ)
  | m + 1, k, κ => if (S_reading (κ (12 + s) (4 * k)) (κ (12 + s) (4 * k + 1)) (κ (12 + s) (4 * k + 2)) (κ (12 + s) (4 * k + 3)) κ).toInt < 0 then (k, κ) else rdS s m (k + 1) (U_reading (κ (12 + s) (4 * k)) (κ (12 + s) (4 * k + 1)) (κ (12 + s) (4 * k + 2)) (κ (12 + s) (4 * k + 3)) κ)
theorem U_read_neg {a p o v : Int32} {κ : Kp} (hi : Inv κ) (h : (S_reading a p o v κ).toInt < 0) : U_reading a p o v κ = κ := by
  unfold S_reading at h
  unfold U_reading
  by_cases q : okRead a p o v κ
  · rw [if_pos q] at h ⊢
    by_cases z : fullRead a p κ
    · rw [if_pos z]
    · rw [if_neg z] at h
      have g := hi.2.2.2.1
      have e1 : (κ 0 3 + 1).toInt = (κ 0 3).toInt + 1 := iAdd rfl (by decide) (by omega) (by omega)
      rw [iSub e1 (show (1 : Int32).toInt = 1 from rfl) (by omega) (by omega)] at h
      omega
  · rw [if_neg q]
theorem U_read_row {a p o v : Int32} {κ : Kp} {c i : Nat} (hc : 9 ≤ c) : U_reading a p o v κ c i = κ c i := by
  unfold U_reading
  by_cases q : okRead a p o v κ
  · rw [if_pos q]
    by_cases z : fullRead a p κ
    · rw [if_pos z]
    · rw [if_neg z, krd_c (by omega) (by omega)]
  · rw [if_neg q]
noncomputable def S_read (a : Int32) (κ : Kp) : Int32 := @ite _ (okS a) (Classical.propDecidable _) (if κ 10 a.toNatClampNeg = -1 then -10 - 1 else nI (rdS a.toNatClampNeg ((κ 11 a.toNatClampNeg).toInt.toNat / 4) 0 κ).1) (-2)
noncomputable def U_read (a : Int32) (κ : Kp) : Kp := @ite _ (okS a) (Classical.propDecidable _) (if κ 10 a.toNatClampNeg = -1 then kup κ 0 6 1 else (rdS a.toNatClampNeg ((κ 11 a.toNatClampNeg).toInt.toNat / 4) 0 κ).2) κ
theorem X_read_1 (hren : RenewOk) (a : Int32) : SpX (wX10_read a) (S_read a) (U_read a) := by
  intro σ post h hp
  unfold wX10_read
  refine noSheet_ok (And.symm (br_n (fun h1 => ?_) (fun h1 => ?_)))
  · have hs : okS a := h1
    have hl := hs.lt
    refine X_isLost hs (fun q => ⟨fun z => (by cases z), fun _ => ?_⟩) (fun q => ⟨fun _ => ⟨hs.in, hs.in, ?_⟩, fun z => (by cases z)⟩)
    · refine X_find h (fun τ a1 a2 a3 => ?_)
      have := hp τ a1 (by rw [a2]; unfold U_read; rw [if_pos hs, if_pos q]) a3
      unfold S_read at this
      rw [if_pos hs, if_pos q] at this
      exact this
    · have g := (h.1.2.2.2.2.2.2.2.2.2.2 a.toNatClampNeg hl).2
      generalize hw : (vx σ 11 a.toNatClampNeg).toInt.toNat / 4 = w
      have hw15 : w ≤ 15 := by omega
      have eN : σ.1 66 a.toNatClampNeg = nI (vx σ 11 a.toNatClampNeg).toInt.toNat := by
        rw [vx_11 hl] at g ⊢
        exact iExt rfl (by rw [nI_toInt (by omega)]; omega)
      have eW : σ.1 66 a.toNatClampNeg / 4 = nI w := by
        rw [eN, show (4 : Int32) = nI 4 from rfl, pk_div (by omega) (by omega) (by omega), hw]
      rw [eW]
      have fin : ∀ (k : Nat) (s : Sto), OX s → fm σ s → (k, vx s) = rdS a.toNatClampNeg w 0 (vx σ) → post (nI k) s := fun k s a1 a2 a3 => by
        have := hp s a1 (by unfold U_read; rw [if_pos hs, if_neg q, hw, ← a3]) a2
        unfold S_read at this
        rw [if_pos hs, if_neg q, hw, ← a3] at this
        exact this
      refine pk_loop (fun k i s => wX10_read_55 post (fun x3_1 σ_1 => post x3_1 σ_1) (fun x4_2 σ_2 => post x4_2 σ_2) k a (nI w) (nI i) s) (fun i s => OX s ∧ fm σ s ∧ rdS a.toNatClampNeg (w - i) i (vx s) = rdS a.toNatClampNeg w 0 (vx σ)) w 0 σ (Nat.zero_le _) ⟨h, fm.refl, rfl⟩ ?_ ?_
      · intro k s hs2
        obtain ⟨a1, a2, a3⟩ := hs2
        unfold wX10_read_55
        refine ⟨fun _ => fin w s a1 a2 (by rw [← a3, Nat.sub_self]; rfl), fun z => absurd (nI_le (Nat.le_refl w) (by omega)) z⟩
      · intro k i s hi hs2 kk
        obtain ⟨a1, a2, a3⟩ := hs2
        unfold wX10_read_55
        have e0 : nI i * 4 = nI (4 * i) := by rw [show (4 : Int32) = nI 4 from rfl, pk_mul, Nat.mul_comm]
        have e1 : nI (4 * i) + 1 = nI (4 * i + 1) := nI_1 _
        have e2 : nI (4 * i) + 2 = nI (4 * i + 2) := by rw [show (2 : Int32) = nI 2 from rfl, nI_add]
        have e3 : nI (4 * i) + 3 = nI (4 * i + 3) := by rw [show (3 : Int32) = nI 3 from rfl, nI_add]
        rw [e0, e1, e2, e3, nI_clamp (show 4 * i < 2 ^ 31 by omega), nI_clamp (show 4 * i + 1 < 2 ^ 31 by omega), nI_clamp (show 4 * i + 2 < 2 ^ 31 by omega), nI_clamp (show 4 * i + 3 < 2 ^ 31 by omega), nI_1]
        rw [← vx_itr hl (show 4 * i < 60 by omega), ← vx_itr hl (show 4 * i + 1 < 60 by omega), ← vx_itr hl (show 4 * i + 2 < 60 by omega), ← vx_itr hl (show 4 * i + 3 < 60 by omega)]
        have hun : rdS a.toNatClampNeg (w - i) i (vx s) = if (S_reading (vx s (12 + a.toNatClampNeg) (4 * i)) (vx s (12 + a.toNatClampNeg) (4 * i + 1)) (vx s (12 + a.toNatClampNeg) (4 * i + 2)) (vx s (12 + a.toNatClampNeg) (4 * i + 3)) (vx s)).toInt < 0 then (i, vx s) else rdS a.toNatClampNeg (w - (i + 1)) (i + 1) (U_reading (vx s (12 + a.toNatClampNeg) (4 * i)) (vx s (12 + a.toNatClampNeg) (4 * i + 1)) (vx s (12 + a.toNatClampNeg) (4 * i + 2)) (vx s (12 + a.toNatClampNeg) (4 * i + 3)) (vx s)) := by
          rw [show w - i = (w - (i + 1)) + 1 by omega]
          rfl
        refine ⟨fun z => absurd z (nI_ge hi (by omega)), fun _ => ⟨vp_in_nI (by omega) (by omega), vp_in_nI (by omega) (by omega), vp_in_nI (by omega) (by omega), vp_in_nI (by omega) (by omega), ?_⟩⟩
        refine X_tell_1 hren _ _ _ _ s _ a1 (fun τ b1 b2 b3 => ⟨fun z => ?_, fun z => ?_⟩)
        · rw [iLe, n0] at z
          refine kk τ ⟨b1, a2.trans b3, ?_⟩
          rw [b2, ← a3, hun, if_neg (by omega)]
        · rw [iLe, n0] at z
          refine fin i τ b1 (a2.trans b3) ?_
          rw [← a3, hun, if_pos (by omega), b2, U_read_neg a1.1 (by omega)]
  · have h1 : ¬ okS a := h1
    have := hp σ h (by unfold U_read; rw [if_neg h1]) fm.refl
    unfold S_read at this
    rwa [if_neg h1] at this
theorem M_read (a : Int32) : SpM (wX11_read a) (S_read a) (U_read a) := by
  intro σ post h hp
  unfold wX11_read
  refine isSheet_ok (br_d (fun h1 => ?_) (fun h1 => ?_))
  · have hs : okS a := h1
    have hl := hs.lt
    refine ⟨hs.in, fun q => ?_, fun q => ?_⟩
    · have q : ¬ vm σ 10 a.toNatClampNeg = -1 := fun z => q ((vm_10_lost h hl).mp z)
      have g := (h.1.2.2.2.2.2.2.2.2.2.2 a.toNatClampNeg hl).2
      generalize hw : (vm σ 11 a.toNatClampNeg).toInt.toNat / 4 = w
      have hw15 : w ≤ 15 := by omega
      have ea : (60 : Int32) * a = nI (60 * a.toNatClampNeg) := by
        unfold okS at hs
        refine iExt (iMul (a := 60) (b := a.toInt) (by decide) rfl (by omega) (by omega)) ?_
        rw [nI_toInt (by omega), tnc]
        omega
      have fin : ∀ (k : Nat) (s : Sto), OM s → fx σ s → (k, vm s) = rdS a.toNatClampNeg w 0 (vm σ) → post (nI k) s := fun k s a1 a2 a3 => by
        have := hp s a1 (by unfold U_read; rw [if_pos hs, if_neg q, hw, ← a3]) a2
        unfold S_read at this
        rw [if_pos hs, if_neg q, hw, ← a3] at this
        exact this
      rw [ea]
      refine pk_loop (fun k i s => wX11_read_32 post (fun x2_1 σ_1 => post x2_1 σ_1) (fun x2_2 σ_2 => post x2_2 σ_2) k a (nI i) (nI (60 * a.toNatClampNeg + 4 * i)) s) (fun i s => OM s ∧ fx σ s ∧ rdS a.toNatClampNeg (w - i) i (vm s) = rdS a.toNatClampNeg w 0 (vm σ) ∧ vm s 11 a.toNatClampNeg = vm σ 11 a.toNatClampNeg) w 0 σ (Nat.zero_le _) ⟨h, fx.refl, rfl, rfl⟩ ?_ ?_
      · intro k s hs2
        obtain ⟨a1, a2, a3, a4⟩ := hs2
        unfold wX11_read_32
        have a5 : s.1 88 a.toNatClampNeg = nI (vm σ 11 a.toNatClampNeg).toInt.toNat := by rw [← vm_11 hl, a4]; exact iExt rfl (by rw [nI_toInt (by omega)]; omega)
        rw [ea, a5, nI_add, show (3 : Int32) = nI 3 from rfl, nI_add]
        exact ⟨hs.in, fun _ => fin w s a1 a2 (by rw [← a3, Nat.sub_self]; rfl), fun z => absurd (nI_le (by omega) (by omega)) z⟩
      · intro k i s hi hs2 kk
        obtain ⟨a1, a2, a3, a4⟩ := hs2
        unfold wX11_read_32
        have a5 : s.1 88 a.toNatClampNeg = nI (vm σ 11 a.toNatClampNeg).toInt.toNat := by rw [← vm_11 hl, a4]; exact iExt rfl (by rw [nI_toInt (by omega)]; omega)
        have e1 : nI (60 * a.toNatClampNeg + 4 * i) + 1 = nI (60 * a.toNatClampNeg + (4 * i + 1)) := nI_1 _
        have e2 : nI (60 * a.toNatClampNeg + 4 * i) + 2 = nI (60 * a.toNatClampNeg + (4 * i + 2)) := by rw [show (2 : Int32) = nI 2 from rfl, nI_add]; rfl
        have e3 : nI (60 * a.toNatClampNeg + 4 * i) + 3 = nI (60 * a.toNatClampNeg + (4 * i + 3)) := by rw [show (3 : Int32) = nI 3 from rfl, nI_add]; rfl
        have e4 : nI (60 * a.toNatClampNeg + 4 * i) + 4 = nI (60 * a.toNatClampNeg + 4 * (i + 1)) := by rw [show (4 : Int32) = nI 4 from rfl, nI_add]; congr 1
        rw [ea, a5, nI_add, e1, e2, e3, e4, nI_1, nI_clamp (show 60 * a.toNatClampNeg + 4 * i < 2 ^ 31 by omega), nI_clamp (show 60 * a.toNatClampNeg + (4 * i + 1) < 2 ^ 31 by omega), nI_clamp (show 60 * a.toNatClampNeg + (4 * i + 2) < 2 ^ 31 by omega), nI_clamp (show 60 * a.toNatClampNeg + (4 * i + 3) < 2 ^ 31 by omega)]
        rw [← vm_itr hl (show 4 * i < 60 by omega), ← vm_itr hl (show 4 * i + 1 < 60 by omega), ← vm_itr hl (show 4 * i + 2 < 60 by omega), ← vm_itr hl (show 4 * i + 3 < 60 by omega)]
        have hun : rdS a.toNatClampNeg (w - i) i (vm s) = if (S_reading (vm s (12 + a.toNatClampNeg) (4 * i)) (vm s (12 + a.toNatClampNeg) (4 * i + 1)) (vm s (12 + a.toNatClampNeg) (4 * i + 2)) (vm s (12 + a.toNatClampNeg) (4 * i + 3)) (vm s)).toInt < 0 then (i, vm s) else rdS a.toNatClampNeg (w - (i + 1)) (i + 1) (U_reading (vm s (12 + a.toNatClampNeg) (4 * i)) (vm s (12 + a.toNatClampNeg) (4 * i + 1)) (vm s (12 + a.toNatClampNeg) (4 * i + 2)) (vm s (12 + a.toNatClampNeg) (4 * i + 3)) (vm s)) := by
          rw [show w - i = (w - (i + 1)) + 1 by omega]
          rfl
        refine ⟨hs.in, fun z => absurd z (nI_ge (by omega) (by omega)), fun _ => ⟨vp_in_nI (by omega) (by omega), vp_in_nI (by omega) (by omega), vp_in_nI (by omega) (by omega), vp_in_nI (by omega) (by omega), ?_⟩⟩
        refine M_readingMore _ _ _ _ s _ a1 (fun τ b1 b2 b3 => ⟨fun z => ?_, fun z => ?_⟩)
        · rw [iLe, n0] at z
          refine kk τ ⟨b1, a2.trans b3, ?_, by rw [b2, U_read_row (by omega), a4]⟩
          rw [b2, ← a3, hun, if_neg (by omega)]
        · rw [iLe, n0] at z
          refine fin i τ b1 (a2.trans b3) ?_
          rw [← a3, hun, if_pos (by omega), b2, U_read_neg a1.1 (by omega)]
    · have q : vm σ 10 a.toNatClampNeg = -1 := (vm_10_lost h hl).mpr q
      refine M_find h (fun τ a1 a2 a3 => ?_)
      have := hp τ a1 (by rw [a2]; unfold U_read; rw [if_pos hs, if_pos q]) a3
      unfold S_read at this
      rw [if_pos hs, if_pos q] at this
      exact this
  · have h1 : ¬ okS a := h1
    have := hp σ h (by unfold U_read; rw [if_neg h1]) fx.refl
    unfold S_read at this
    rwa [if_neg h1] at this

/-! the law's loop -/
theorem and63 (x : Int32) : ∃ v, v < 64 ∧ x &&& 63 = nI v := by
  refine ⟨(x.toBitVec &&& (63 : Int32).toBitVec).toNat, ?_, ?_⟩
  · rw [BitVec.toNat_and]
    have : (63 : Int32).toBitVec.toNat = 63 := by decide
    rw [this]
    exact Nat.lt_succ_of_le Nat.and_le_right
  · refine Int32.toBitVec_inj.mp ?_
    rw [Int32.toBitVec_and, nI_bv, BitVec.ofNat_toNat, BitVec.setWidth_eq]
theorem lw_sw {E : Ev} {b L : Nat} {xs : Nat → Int32} {i : Int32} {σ : Sto} (hR : Rel σ) (h1 : vp_in (i + 1) L) (h2 : vp_in (i + 2) L) (h3 : vp_in (i + 3) L) (h4 : vp_in (i + 4) L) (h5 : vp_in (i + 5) L) (kk : ∀ τ, Rel τ → VL E b L xs i 1444 [] τ) (v : Nat) (hv : v < 64) : VL E b L xs i 33 [.int (nI v)] σ := by
  have vT : (nI v).toInt = v := nI_toInt (by omega)
  rcases Nat.lt_or_ge v 40 with q | q
  · match v, q with
    | 0, _ => exact VL_tabIn (pc := 33) (tgt := 208) dL_33 (by decide) (by decide) rfl (by decide) (cs_0 hR h1 h2 h3 h4 h5 kk)
    | 1, _ => exact VL_tabIn (pc := 33) (tgt := 231) dL_33 (by decide) (by decide) rfl (by decide) (cs_1 hR h1 h2 h3 h4 h5 kk)
    | 2, _ => exact VL_tabIn (pc := 33) (tgt := 254) dL_33 (by decide) (by decide) rfl (by decide) (cs_2 hR h1 h2 h3 h4 h5 kk)
    | 3, _ => exact VL_tabIn (pc := 33) (tgt := 287) dL_33 (by decide) (by decide) rfl (by decide) (cs_3 hR h1 h2 h3 h4 h5 kk)
    | 4, _ => exact VL_tabIn (pc := 33) (tgt := 340) dL_33 (by decide) (by decide) rfl (by decide) (cs_4 hR h1 h2 h3 h4 h5 kk)
    | 5, _ => exact VL_tabIn (pc := 33) (tgt := 363) dL_33 (by decide) (by decide) rfl (by decide) (cs_5 hR h1 h2 h3 h4 h5 kk)
    | 6, _ => exact VL_tabIn (pc := 33) (tgt := 386) dL_33 (by decide) (by decide) rfl (by decide) (cs_6 hR h1 h2 h3 h4 h5 kk)
    | 7, _ => exact VL_tabIn (pc := 33) (tgt := 419) dL_33 (by decide) (by decide) rfl (by decide) (cs_7 hR h1 h2 h3 h4 h5 kk)
    | 8, _ => exact VL_tabIn (pc := 33) (tgt := 442) dL_33 (by decide) (by decide) rfl (by decide) (cs_8 hR h1 h2 h3 h4 h5 kk)
    | 9, _ => exact VL_tabIn (pc := 33) (tgt := 465) dL_33 (by decide) (by decide) rfl (by decide) (cs_9 hR h1 h2 h3 h4 h5 kk)
    | 10, _ => exact VL_tabIn (pc := 33) (tgt := 498) dL_33 (by decide) (by decide) rfl (by decide) (cs_10 hR h1 h2 h3 h4 h5 kk)
    | 11, _ => exact VL_tabIn (pc := 33) (tgt := 531) dL_33 (by decide) (by decide) rfl (by decide) (cs_11 hR h1 h2 h3 h4 h5 kk)
    | 12, _ => exact VL_tabIn (pc := 33) (tgt := 564) dL_33 (by decide) (by decide) rfl (by decide) (cs_12 hR h1 h2 h3 h4 h5 kk)
    | 13, _ => exact VL_tabIn (pc := 33) (tgt := 607) dL_33 (by decide) (by decide) rfl (by decide) (cs_13 hR h1 h2 h3 h4 h5 kk)
    | 14, _ => exact VL_tabIn (pc := 33) (tgt := 630) dL_33 (by decide) (by decide) rfl (by decide) (cs_14 hR h1 h2 h3 h4 h5 kk)
    | 15, _ => exact VL_tabIn (pc := 33) (tgt := 663) dL_33 (by decide) (by decide) rfl (by decide) (cs_15 hR h1 h2 h3 h4 h5 kk)
    | 16, _ => exact VL_tabIn (pc := 33) (tgt := 696) dL_33 (by decide) (by decide) rfl (by decide) (cs_16 hR h1 h2 h3 h4 h5 kk)
    | 17, _ => exact VL_tabIn (pc := 33) (tgt := 729) dL_33 (by decide) (by decide) rfl (by decide) (cs_17 hR h1 h2 h3 h4 h5 kk)
    | 18, _ => exact VL_tabIn (pc := 33) (tgt := 773) dL_33 (by decide) (by decide) rfl (by decide) (cs_18 hR h1 h2 h3 h4 h5 kk)
    | 19, _ => exact VL_tabIn (pc := 33) (tgt := 806) dL_33 (by decide) (by decide) rfl (by decide) (cs_19 hR h1 h2 h3 h4 h5 kk)
    | 20, _ => exact VL_tabIn (pc := 33) (tgt := 839) dL_33 (by decide) (by decide) rfl (by decide) (cs_20 hR h1 h2 h3 h4 h5 kk)
    | 21, _ => exact VL_tabIn (pc := 33) (tgt := 862) dL_33 (by decide) (by decide) rfl (by decide) (cs_21 hR h1 h2 h3 h4 h5 kk)
    | 22, _ => exact VL_tabIn (pc := 33) (tgt := 906) dL_33 (by decide) (by decide) rfl (by decide) (cs_22 hR h1 h2 h3 h4 h5 kk)
    | 23, _ => exact VL_tabIn (pc := 33) (tgt := 929) dL_33 (by decide) (by decide) rfl (by decide) (cs_23 hR h1 h2 h3 h4 h5 kk)
    | 24, _ => exact VL_tabIn (pc := 33) (tgt := 963) dL_33 (by decide) (by decide) rfl (by decide) (cs_24 hR h1 h2 h3 h4 h5 kk)
    | 25, _ => exact VL_tabIn (pc := 33) (tgt := 1007) dL_33 (by decide) (by decide) rfl (by decide) (cs_25 hR h1 h2 h3 h4 h5 kk)
    | 26, _ => exact VL_tabIn (pc := 33) (tgt := 1040) dL_33 (by decide) (by decide) rfl (by decide) (cs_26 hR h1 h2 h3 h4 h5 kk)
    | 27, _ => exact VL_tabIn (pc := 33) (tgt := 1064) dL_33 (by decide) (by decide) rfl (by decide) (cs_27 hR h1 h2 h3 h4 h5 kk)
    | 28, _ => exact VL_tabIn (pc := 33) (tgt := 1087) dL_33 (by decide) (by decide) rfl (by decide) (cs_28 hR h1 h2 h3 h4 h5 kk)
    | 29, _ => exact VL_tabIn (pc := 33) (tgt := 1100) dL_33 (by decide) (by decide) rfl (by decide) (cs_29 hR h1 h2 h3 h4 h5 kk)
    | 30, _ => exact VL_tabIn (pc := 33) (tgt := 1113) dL_33 (by decide) (by decide) rfl (by decide) (cs_30 hR h1 h2 h3 h4 h5 kk)
    | 31, _ => exact VL_tabIn (pc := 33) (tgt := 1126) dL_33 (by decide) (by decide) rfl (by decide) (cs_31 hR h1 h2 h3 h4 h5 kk)
    | 32, _ => exact VL_tabIn (pc := 33) (tgt := 1149) dL_33 (by decide) (by decide) rfl (by decide) (cs_32 hR h1 h2 h3 h4 h5 kk)
    | 33, _ => exact VL_tabIn (pc := 33) (tgt := 1192) dL_33 (by decide) (by decide) rfl (by decide) (cs_33 hR h1 h2 h3 h4 h5 kk)
    | 34, _ => exact VL_tabIn (pc := 33) (tgt := 1215) dL_33 (by decide) (by decide) rfl (by decide) (cs_34 hR h1 h2 h3 h4 h5 kk)
    | 35, _ => exact VL_tabIn (pc := 33) (tgt := 1268) dL_33 (by decide) (by decide) rfl (by decide) (cs_35 hR h1 h2 h3 h4 h5 kk)
    | 36, _ => exact VL_tabIn (pc := 33) (tgt := 1311) dL_33 (by decide) (by decide) rfl (by decide) (cs_36 hR h1 h2 h3 h4 h5 kk)
    | 37, _ => exact VL_tabIn (pc := 33) (tgt := 1374) dL_33 (by decide) (by decide) rfl (by decide) (cs_37 hR h1 h2 h3 h4 h5 kk)
    | 38, _ => exact VL_tabIn (pc := 33) (tgt := 1407) dL_33 (by decide) (by decide) rfl (by decide) (cs_38 hR h1 h2 h3 h4 h5 kk)
    | 39, _ => exact VL_tabIn (pc := 33) (tgt := 1430) dL_33 (by decide) (by decide) rfl (by decide) (cs_39 hR h1 h2 h3 h4 h5 kk)
    | w + 40, q => exact absurd q (by omega)
  · exact VL_tabOut (pc := 33) (tgt := 1444) dL_33 (Or.inr (by rw [vT]; omega)) (by decide) (kk σ hR)
theorem lw_loop {E : Ev} {b L : Nat} {xs : Nat → Int32} (hL : L ≤ 3072) : ∀ (n k : Nat) (σ : Sto), L < k + n → k ≤ L → Rel σ → VL E b L xs (nI k) 18 [] σ := by
  intro n
  induction n with
  | zero => intro k σ h1 h2; omega
  | succ n ih =>
    intro k σ h1 h2 hR
    have kT : (nI k).toInt = k := nI_toInt (by omega)
    have LT : (Int32.ofNat L).toInt = L := nI_toInt (by omega)
    have sT : (Int32.ofNat L - 6).toInt = (L : Int) - 6 := iSub LT rfl (by omega) (by omega)
    refine VL_head (pc := 18) (tgt := 1450) dL_18 dL_19 dL_20 dL_21 dL_23 dL_24 (by decide) (fun q => VL_end (pc := 1450) dL_1450 dL_1451) (fun q => ?_)
    rw [iLt, sT, kT] at q
    have hin : ∀ j : Nat, j < 6 → vp_in (nI k + nI j) L := fun j hj => by rw [nI_add]; exact vp_in_nI (by omega) (by omega)
    refine VL_op (pc := 27) dL_27 dL_28 dL_29 (vp_in_nI (by omega) (by omega)) ?_
    refine VL_bipush (pc := 30) (v := 63) dL_30 (by decide) ?_
    refine VL_iand (pc := 32) dL_32 ?_
    obtain ⟨v, hv, ev⟩ := and63 (xs (nI k).toNatClampNeg)
    rw [ev]
    refine lw_sw hR (hin 1 (by decide)) (hin 2 (by decide)) (hin 3 (by decide)) (hin 4 (by decide)) (hin 5 (by decide)) (fun τ hτ => ?_) v hv
    exact VL_step (pc := 1444) (tgt := 18) (v := nI (k + 6)) dL_1444 dL_1447 (by rw [show Int32.ofInt 6 = nI 6 by decide, nI_add]) (by decide) (ih (k + 6) τ (by omega) (by omega) hτ)

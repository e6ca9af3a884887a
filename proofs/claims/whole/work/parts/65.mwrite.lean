theorem M_write (p s : Int32) : SpM (wX11_write p s) (S_write p s) (U_write p s) := by
  intro σ post h hp
  have no : ¬ (okS p ∧ okS s) → post (-2) σ := fun q => by
    have := hp σ h (by unfold U_write; rw [if_neg q]) fx.refl
    unfold S_write at this
    rwa [if_neg q] at this
  unfold wX11_write
  refine isPiece_ok (br_d' (fun h1 => ?_) (fun h1 => no (fun q => h1 q.1)))
  refine isSheet_ok (br_d (fun h2 => ?_) (fun h2 => no (fun q => h2 q.2)))
  have ok : okS p ∧ okS s := ⟨h1, h2⟩
  have hl := ok.1.lt
  have hs := ok.2.lt
  refine ⟨ok.2.in, fun q => ?_, fun q => ?_⟩
  · have q : ¬ vm σ 10 s.toNatClampNeg = -1 := fun z => q ((vm_10_lost h hs).mp z)
    have g3 := h.1.2.2.1
    have g11 := (h.1.2.2.2.2.2.2.2.2.2.2 s.toNatClampNeg hs).2
    generalize hκ : vm σ = κ at *
    have n14' : wrN κ s.toNatClampNeg ≤ 14 := by unfold wrN nH; omega
    refine pk_loop (fun k i u => wX11_write_34 post (fun x3_1 σ_1 => post x3_1 σ_1) k p s (nI i) u) (fun i u => OM u ∧ fx σ u ∧ vm u = kr κ (12 + s.toNatClampNeg) (wrRow κ p.toNatClampNeg s.toNatClampNeg i)) (wrN κ s.toNatClampNeg) 0 σ (Nat.zero_le _) ⟨h, fx.refl, by rw [wr_0]; exact hκ⟩ ?_ ?_
    · intro k u hu
      obtain ⟨a1, a2, a3⟩ := hu
      have eH : (u.1 67 1).toInt = (κ 0 2).toInt := by
        have : vm u 0 2 = κ 0 2 := by rw [a3, kr_n (by omega)]
        rw [← this]
        rfl
      have eS : (u.1 88 s.toNatClampNeg).toInt = (κ 11 s.toNatClampNeg).toInt := by rw [← vm_11 hs, a3, kr_n (by omega)]
      have fin : post (nI (wrN κ s.toNatClampNeg)) u := by
        have := hp u a1 (by rw [a3]; unfold U_write; rw [if_pos ok, if_neg q]) a2
        unfold S_write at this
        rw [if_pos ok, if_neg q] at this
        exact this
      unfold wX11_write_34
      simp only [iLe]
      rw [nI_toInt (show wrN κ s.toNatClampNeg < 2 ^ 31 by omega), eH, eS]
      refine ⟨fun _ => fin, fun z => ⟨ok.2.in, fun _ => fin, fun w => ?_⟩⟩
      unfold wrN nH at z w
      omega
    · intro k i u hi hu kk
      obtain ⟨a1, a2, a3⟩ := hu
      have eH : (u.1 67 1).toInt = (κ 0 2).toInt := by
        have : vm u 0 2 = κ 0 2 := by rw [a3, kr_n (by omega)]
        rw [← this]
        rfl
      have eS : (u.1 88 s.toNatClampNeg).toInt = (κ 11 s.toNatClampNeg).toInt := by rw [← vm_11 hs, a3, kr_n (by omega)]
      have c2 : (nI i).toNatClampNeg = i := nI_clamp (by omega)
      have iT : (nI i).toInt = i := nI_toInt (by omega)
      have hi2 : (i : Int) < (κ 0 2).toInt ∧ (i : Int) < (κ 11 s.toNatClampNeg).toInt := by unfold wrN nH at hi; omega
      unfold wX11_write_34
      refine ⟨fun z => absurd z (by rw [iLe, eH, iT]; omega), fun _ => ⟨ok.2.in, fun z => absurd z (by rw [iLe, eS, iT]; omega), fun _ => ?_⟩⟩
      refine takes_K a1 (by omega) ok.1 (fun w wk f => ?_)
      rw [c2]
      have sd : SD κ (vm u) := by rw [a3]; exact sd_row (by omega)
      have lay : ∀ v : Int32, v = Int32.ofInt (tL κ i p.toNatClampNeg) → wX11_write_75 post (wX11_write_34 post (fun x3_1 σ_1 => post x3_1 σ_1) k) p s (nI i) v (nI i) s w := fun v hv => by
        unfold wX11_write_75
        refine M_lay ok.2 (by omega) ?_
        have ew : vm w = vm u := f.vm
        have lost : ¬ w.1 86 s.toNatClampNeg = 0 := fun z => by
          have := (vm_10_lost wk.1 hs).mpr z
          rw [ew, a3, kr_n (by omega)] at this
          exact q this
        have e10 : w.1 87 s.toNatClampNeg = κ 10 s.toNatClampNeg := by
          have : vm w 10 s.toNatClampNeg = κ 10 s.toNatClampNeg := by rw [ew, a3, kr_n (by omega)]
          rw [← this, vm_10 hs, if_neg lost]
        rw [c2, hv, e10, nI_1]
        have hv2 := vm_it (σ := w) (i := i) (v := nar (κ 10 s.toNatClampNeg) (Int32.ofInt (tL κ i p.toNatClampNeg))) hs (by omega)
        refine kk _ ⟨om_upd wk.1 hv2 (wk.1.1.kupc (Or.inr (by omega)) (fun z => by omega) (fun z => by omega) (fun z => by omega) (fun z => by omega)) (Or.inr ⟨by rw [wI_n (by omega)], fun c a b => ⟨wI_n (by omega), rfl⟩, SD.mkc (Or.inr (Or.inr (by omega)))⟩) ⟨wI_n (by omega), wI_n (by omega)⟩, (a2.trans f.fx).wI (by omega), ?_⟩
        rw [hv2, ew, a3, wr_step]
      refine br_d' (fun z => ?_) (fun z => lay 0 ?_)
      · refine toldOf_W wk (by omega) ok.1 (by rw [f.vm, c2]; exact z) (fun r hr => lay _ ?_)
        rw [f.vm, c2, sd_tL sd] at hr
        have tb := tL_b a1.1 i p.toNatClampNeg
        rw [sd_tL sd] at tb
        exact oI (lI hr (by omega) (by omega)) (by omega) (by omega)
      · rw [sd_cN sd] at z
        have : tL κ i p.toNatClampNeg = 0 := by unfold tL; rw [if_pos (by omega)]
        rw [this]
        rfl
  · have q : vm σ 10 s.toNatClampNeg = -1 := (vm_10_lost h hs).mpr q
    refine M_find h (fun τ a1 a2 a3 => ?_)
    have := hp τ a1 (by rw [a2]; unfold U_write; rw [if_pos ok, if_pos q]) a3
    unfold S_write at this
    rw [if_pos ok, if_pos q] at this
    exact this

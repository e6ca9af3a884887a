/-! THE LAW FROM ITS ENTRY: the tables' words of kinds and links, both constructors, the loop -/
theorem dL_0 : decode code 0 = .ok (.new 7, 3) := by decide +kernel
theorem dL_3 : decode code 3 = .ok (.dup, 1) := by decide +kernel
theorem dL_4 : decode code 4 = .ok (.invokespecial 9, 3) := by decide +kernel
theorem dL_7 : decode code 7 = .ok (.astore_n 1, 1) := by decide +kernel
theorem dL_8 : decode code 8 = .ok (.new 10, 3) := by decide +kernel
theorem dL_11 : decode code 11 = .ok (.dup, 1) := by decide +kernel
theorem dL_12 : decode code 12 = .ok (.invokespecial 12, 3) := by decide +kernel
theorem dL_15 : decode code 15 = .ok (.astore_n 2, 1) := by decide +kernel
theorem dL_16 : decode code 16 = .ok (.iconst 0, 1) := by decide +kernel
theorem dL_17 : decode code 17 = .ok (.istore_n 3, 1) := by decide +kernel
set_option maxRecDepth 100000 in
theorem cl_L_7 : Cond.classLink R_law 7 RX10 ∈ gt := gt_1 17 rfl rfl
set_option maxRecDepth 100000 in
theorem cl_L_10 : Cond.classLink R_law 10 RX11 ∈ gt := gt_4 200 rfl rfl
set_option maxRecDepth 100000 in
theorem ml_L_9 : Cond.methodLink R_law 9 yX10_init ∈ gt := gt_1 19 rfl rfl
set_option maxRecDepth 100000 in
theorem ml_L_12 : Cond.methodLink R_law 12 yX11_init ∈ gt := gt_4 202 rfl rfl
theorem tb_1 {w : Cond} (i : Nat) (h : tables_1_1[i]? = some w) : w ∈ lw_tbl := List.mem_append_right _ (List.mem_append_left _ (List.mem_of_getElem? h))
theorem tb_2 {w : Cond} (i : Nat) (h : tables_1_2[i]? = some w) : w ∈ lw_tbl := List.mem_append_right _ (List.mem_append_right _ (List.mem_append_left _ (List.mem_of_getElem? h)))
theorem tb_3 {w : Cond} (i : Nat) (h : tables_1_3[i]? = some w) : w ∈ lw_tbl := List.mem_append_right _ (List.mem_append_right _ (List.mem_append_right _ (List.mem_append_left _ (List.mem_of_getElem? h))))
theorem tb_4 {w : Cond} (i : Nat) (h : tables_1_4[i]? = some w) : w ∈ lw_tbl := List.mem_append_right _ (List.mem_append_right _ (List.mem_append_right _ (List.mem_append_right _ (List.mem_append_left _ (List.mem_of_getElem? h)))))
set_option maxRecDepth 100000 in
theorem tb_over : Cond.arrayOver (.array .int) ∈ lw_tbl := tb_1 102 rfl
set_option maxRecDepth 100000 in
theorem tb_neL : ∀ q ∈ neL, Cond.methodLinkNest q.1 q.2.1 q.2.2.1 q.2.2.2 ∈ lw_tbl := List.forall_mem_cons.mpr ⟨tb_2 206 rfl, List.forall_mem_cons.mpr ⟨tb_3 140 rfl, List.forall_mem_cons.mpr ⟨tb_4 5 rfl, fun _ h => absurd h List.not_mem_nil⟩⟩⟩
set_option maxRecDepth 100000 in
theorem tb_neC : ∀ q ∈ neC, Cond.methodLinkNest q.1 q.2.1 q.2.2.1 q.2.2.2 ∈ lw_tbl := List.forall_mem_cons.mpr ⟨tb_1 27 rfl, List.forall_mem_cons.mpr ⟨tb_2 48 rfl, List.forall_mem_cons.mpr ⟨tb_1 195 rfl, List.forall_mem_cons.mpr ⟨tb_2 0 rfl, List.forall_mem_cons.mpr ⟨tb_2 53 rfl, fun _ h => absurd h List.not_mem_nil⟩⟩⟩⟩⟩
theorem cl_all : ∀ (k : Nat) (q : vw_C), vwCl[k]? = some q → (∀ w ∈ u_ws q.1 q.2.1 q.2.2, w ∈ gt) ∧ Cond.instantiable q.1 q.2.2 ∈ gt := by
  intro k q hq
  have go : ∀ {ci N : Nat} {Cn : String} {fs : List Value}, clOk ci N Cn fs → vwCl[ci]? = some q → q.2.2 = N → q.1 = Cn → (∀ w ∈ u_ws q.1 q.2.1 q.2.2, w ∈ gt) ∧ Cond.instantiable q.1 q.2.2 ∈ gt := by
    intro ci N Cn fs h h1 h2 h3
    obtain ⟨T, ty, g1, g2, -, -, g3, -⟩ := h
    have e : q = (Cn, T, N) := Option.some.inj (h1.symm.trans g1)
    subst e
    exact ⟨g2, g3⟩
  match k, hq with
  | 0, hq => exact go cO_X0 hq (by cases hq; rfl) (by cases hq; rfl)
  | 1, hq => exact go cO_X1 hq (by cases hq; rfl) (by cases hq; rfl)
  | 2, hq => exact go cO_X2 hq (by cases hq; rfl) (by cases hq; rfl)
  | 3, hq => exact go cO_X3 hq (by cases hq; rfl) (by cases hq; rfl)
  | 4, hq => exact go cO_X4 hq (by cases hq; rfl) (by cases hq; rfl)
  | 5, hq => exact go cO_X5 hq (by cases hq; rfl) (by cases hq; rfl)
  | 6, hq => exact go cO_X6 hq (by cases hq; rfl) (by cases hq; rfl)
  | 7, hq => exact go cO_X7 hq (by cases hq; rfl) (by cases hq; rfl)
  | 8, hq => exact go cO_X8 hq (by cases hq; rfl) (by cases hq; rfl)
  | 9, hq => exact go cO_X9 hq (by cases hq; rfl) (by cases hq; rfl)
  | 10, hq => exact go cO_X10 hq (by cases hq; rfl) (by cases hq; rfl)
  | 11, hq => exact go cO_X11 hq (by cases hq; rfl) (by cases hq; rfl)
  | k + 12, hq => simp [vwCl] at hq
theorem over_says {args : Array Value} {s : State} (h : (Cond.arrayOver (.array .int)).before args s = true) : ∃ (cI cA : ClassId) (kA : Class), s.vm.findClass (FieldType.array .int).toString = some cI ∧ s.vm.classes[cA]? = some kA ∧ kA.kind = .array cI (.array .int) ∧ s.vm.findClass ("[" ++ (FieldType.array .int).toString) = some cA := by
  simp only [Cond.before, Cond.holds, Cond.value, beq_iff_eq] at h
  cases hc : s.vm.findClass (FieldType.array .int).toString with
  | none => simp [hc] at h
  | some cI =>
    simp only [hc, Option.bind_some, Option.bind_eq_some_iff, Option.map_eq_some_iff] at h
    obtain ⟨cA, h1, kA, h2, h3⟩ := h
    obtain ⟨hlt, h4, -⟩ := Array.findIdx?_eq_some_iff_getElem.mp h1
    rw [(Array.getElem?_eq_some_iff.mp h2).2] at h4
    cases hk : kA.kind with
    | array c t =>
      rw [hk] at h3 h4
      simp at h3 h4
      exact ⟨cI, cA, kA, rfl, h2, by rw [hk, h4, h3.1], h3.2⟩
    | _ => rw [hk] at h3; simp at h3
/-- the kinds, the arrays' kinds and the links at the law's entry -/
theorem nK_first {s : State} {args : Array Value} (hts : ∀ w ∈ lw_tbl, w.before args s = true) : ∃ (D : va_G) (cA : Nat → ClassId), nK D cA s := by
  have htg : ∀ w ∈ gt, w.before args s = true := fun w hw => hts w (List.mem_filter.mp hw).1
  have h : ∀ k : Nat, ∃ (c : ClassId) (iS : Nat → Nat), ∀ q : vw_C, vwCl[k]? = some q → u_Kn s q.1 q.2.1 q.2.2 c iS := by
    intro k
    cases hk : vwCl[k]? with
    | none => exact ⟨0, fun _ => 0, fun q hq => by cases hq⟩
    | some q =>
      obtain ⟨g1, g2⟩ := cl_all k q hk
      obtain ⟨c, iS, hK⟩ := u_known htg g1 (htg _ g2)
      exact ⟨c, iS, fun q' hq' => by cases hq'; exact hK⟩
  obtain ⟨c0, k0, m0, a1, a2, a3⟩ := Cond.arrayClass_spec (htg _ aw_I)
  obtain ⟨c1, k1, m1, b1, b2, b3⟩ := Cond.arrayClass_spec (htg _ aw_J)
  obtain ⟨c2, k2, m2, d1, d2, d3⟩ := Cond.arrayClass_spec (htg _ aw_Z)
  obtain ⟨cI, cA, kA, e1, e2, e3, e4⟩ := over_says (hts _ tb_over)
  have hcI : cI = c0 := Option.some.inj (e1.symm.trans a1)
  subst hcI
  have hAr : ∀ {c : ClassId} {k : Class} {mm : ClassId} {ty : FieldType}, s.vm.classes[c]? = some k → k.kind = .array mm ty → ArrOfT s c ty := fun g1 g2 n z => ⟨fun k h => (by cases h), _, g1, _, g2⟩
  refine ⟨(fun k => Classical.choose (h k), fun k => Classical.choose (Classical.choose_spec (h k))), fun t => match t with | 0 => cI | 1 => c1 | 2 => c2 | _ => cA, ⟨⟨fun k q hq => Classical.choose_spec (Classical.choose_spec (h k)) q hq, fun k q hq => ?_⟩, fun q hq => va_Nw.of rfl (hts _ (tb_neL q hq))⟩, fun q hq => va_Nw.of rfl (hts _ (tb_neC q hq)), kA, k0, m0, e2, e3, a2, a3⟩
  match k, hq with
  | 0, hq => cases hq; exact ⟨hAr a2 a3, a1⟩
  | 1, hq => cases hq; exact ⟨hAr b2 b3, b1⟩
  | 2, hq => cases hq; exact ⟨hAr d2 d3, d1⟩
  | 3, hq => cases hq; exact ⟨hAr e2 e3, e4⟩
/-- a constructor called by the law -/
theorem W_ctor {p : Program} {e : Env} {R : Room} {s : State} {m : MethodId} {args : Array Value} {below : List Frame} {meth : Method} {c : Code} {H : Heap} {locs : List Loc} {cells slots : Nat} {Q : State → Prop} {pc nL : Nat} {cc : ByteArray} {own : String} {ls : Array Slot} {rest : List Value} {E : Nv} {d idx b' mc ms : Nat} {y : MethodName} {cb : ByteArray} {mL : Nat} {Lc LF : List va_E}
    (S : CallFix p m c cc nL s args gt own) (hls : ls.size = nL) (hK : nK E.2.1 E.2.2 s) (hd : decode cc pc = .ok (.invokespecial idx, 3)) (hl1 : Cond.methodLink own idx y ∈ gt) (hi : Cond.instanceMethod y ∈ gt) (K : kOk 0 (y, cb, mL, none)) (hnm : y.name = "<init>") (hR : (nqR d mc ms).frames + 1 ≤ R.frames ∧ 8 + (mL + 11) + (nqR d mc ms).locals ≤ R.locals) (hlen : (lg_sl [Value.ref b']).length ≤ mL) (hroom : (rest.map fun v => v.category).sum ≤ 8) (hk : cells + mc ≤ R.cells) (hz : slots + ms ≤ R.slots)
    (hP : nP E.2.1 b' Lc H) (hc : NV E d (y, cb, mL, none) (b', LF, mc, ms) 0 (lv_args 0 [.ref b']) [] Lc 0 0)
    (kk : ∀ (H1 : Heap) (L1 : List Loc), nP E.2.1 b' LF H1 → (∀ q : Nat, q < b' → H1[q]? = H[q]?) → (∀ q ∈ L1, b' ≤ q.base) → W p E.1 e R s m args below meth c H1 (locs ++ L1) (cells + mc) (slots + ms) Q (F0 m (pc + 3) ls rest)) : W p E.1 e R s m args below meth c H locs cells slots Q (F0 m pc ls (.ref b' :: rest)) := by
  intro T hT X
  have hts := S.2.2.2.2
  have hrun := va_runI (l := E.1) (R := R) (H := H) (below := below) (meth := meth) (e := e) (locs := locs) (cells := cells) (slots := slots) (g := F0 m pc ls (.ref b' :: rest)) (As := []) (b := b') (rest := rest) S (NV_met (G := (b', LF, mc, ms)) [.ref b'] K.2.2.2.2 hlen hc) ⟨callB_of 0 hts (gt_good K.2.1) rfl rfl rfl (hts _ K.1) (hts _ hl1) K.2.2.1 hR, hnm, hts _ hi⟩ ⟨nPre_blind, fun U hU hW => ⟨rfl, hK.warm hW, by rw [hU]; exact hP⟩⟩ rfl rfl hls rfl (lv_room hroom) hd ⟨hk, hz⟩
  obtain ⟨v, st₀, t, T', Lo, h0, X', hLo, e1, e2, ⟨hv, hP', hkp⟩, hgo⟩ := hrun T hT X
  cases hv
  rw [h0] at hkp
  obtain ⟨t2, c1, c2⟩ := kk T'.heap Lo (by rw [e1]; exact hP') (fun q hq => by rw [e1]; exact hkp q hq) hLo T' rfl X'
  exact ⟨t2, hgo t2 c1, c2⟩
theorem new_at {D : va_G} {cA : Nat → ClassId} {s : State} {args : Array Value} {ci N a : Nat} {Cn : String} {fs : List Value} {kC : Class} {H : Heap} (htg : ∀ w ∈ gt, w.before args s = true) (hK : nK D cA s) (hO : clOk ci N Cn fs) (hkC : s.vm.classes[D.1 ci]? = some kC) (e1 : H[a]? = some (blank (D.1 ci) kC)) (z1 : H.size = a + 1) : nP D a [.inr (ci, fs)] H := by
  obtain ⟨T, ty, hc, hin, hty, hfs, hi, hn⟩ := hO
  have hKn := hK.1.1.1 ci _ hc
  exact nP_one z1 ⟨_, hc, (u_born ty htg hin hKn hkC e1 hty).to hfs⟩
set_option maxHeartbeats 4000000 in
set_option maxRecDepth 100000 in
theorem whole_start {p : Program} {e : Env} {s : State} {m : MethodId} {below : List Frame} {meth : Method} {c : Code} (l : Launch) {b L : Nat} {xs : Nat → Int32} (hL : L ≤ 3072) (C0 : lw_At p s m meth c b L xs) : W p l e room_1 s m #[Value.ref b] below meth c s.heap [] 0 0 (lw_Z below #[Value.ref b] s) (entryFrame m ([Value.ref b] : List Value).toArray 4) := by
  obtain ⟨hx, hb, hr, hml, hown, hts, hX, hbl, hlocks, hgv⟩ := id C0
  have htg : ∀ w ∈ gt, w.before #[Value.ref b] s = true := fun w hw => hts w (List.mem_filter.mp hw).1
  obtain ⟨D, cA, hK⟩ := nK_first hts
  have hl := lv_entry ([.ref b]) (n := 4) (Nat.le_of_ble_eq_true rfl)
  rw [lg_entry_eq]
  generalize (lg_sl ([.ref b]) ++ List.replicate (4 - (lg_sl ([.ref b])).length) Slot.unset).toArray = ls at hl ⊢
  have hl : lv_has ls 4 [(0, .ref b)] := hl
  obtain ⟨_, _, g10, -, -, -, i10, n10⟩ := id cO_X10
  obtain ⟨_, _, g11, -, -, -, i11, n11⟩ := id cO_X11
  have hf10 := (hK.1.1.1 10 _ g10).2.1
  have hf11 := (hK.1.1.1 11 _ g11).2.1
  refine W.newcK hx hb hown (htg _ cl_L_7) (htg _ i10) (htg _ n10) rfl dL_0 (Nat.le_of_ble_eq_true rfl) (Nat.le_of_ble_eq_true rfl) hf10 (h := s.heap.size) rfl (fun H1 kC hkC e1 z1 o1 => ?_)
  have hP1 := new_at htg hK cO_X10 hkC e1 z1
  refine lv_dup hx hb dL_3 rfl ?_
  refine W_ctor (E := (l, D, cA)) (d := 2) ⟨hx, hb, hml, hown, htg⟩ hl.1 hK dL_4 ml_L_9 im_X10_init ko_X10_init rfl ⟨Nat.le_of_ble_eq_true rfl, Nat.le_of_ble_eq_true rfl⟩ (Nat.le_of_ble_eq_true rfl) (Nat.le_of_ble_eq_true rfl) (Nat.le_of_ble_eq_true rfl) (Nat.le_of_ble_eq_true rfl) hP1 (nX10 (l, D, cA) s.heap.size) (fun H2 L2 hP2 o2 hL2 => ?_)
  refine lv_astore_n (lv' := [(1, .ref s.heap.size), (0, .ref b)]) hx hb dL_7 rfl hl (by decide) rfl (fun ls hl => ?_)
  have hz2 : H2.size = s.heap.size + 67 := hP2.1
  refine W.newcK hx hb hown (htg _ cl_L_10) (htg _ i11) (htg _ n11) rfl dL_8 (Nat.le_of_ble_eq_true rfl) (Nat.le_of_ble_eq_true rfl) hf11 (h := s.heap.size + 67) hz2 (fun H3 kD hkD e3 z3 o3 => ?_)
  have hP3 := new_at htg hK cO_X11 hkD e3 z3
  refine lv_dup hx hb dL_11 rfl ?_
  refine W_ctor (E := (l, D, cA)) (d := 0) ⟨hx, hb, hml, hown, htg⟩ hl.1 hK dL_12 ml_L_12 im_X11_init ko_X11_init rfl ⟨Nat.le_of_ble_eq_true rfl, Nat.le_of_ble_eq_true rfl⟩ (Nat.le_of_ble_eq_true rfl) (Nat.le_of_ble_eq_true rfl) (Nat.le_of_ble_eq_true rfl) (Nat.le_of_ble_eq_true rfl) hP3 (nX11 (l, D, cA) (s.heap.size + 67)) (fun H4 L4 hP4 o4 hL4 => ?_)
  refine lv_astore_n (lv' := [(2, .ref (s.heap.size + 67)), (1, .ref s.heap.size), (0, .ref b)]) hx hb dL_15 rfl hl (by decide) rfl (fun ls hl => ?_)
  refine lv_iconst (v := nI 0) hx hb dL_16 (by decide) ?_
  refine lv_istore_n (lv' := [(3, .int (nI 0)), (2, .ref (s.heap.size + 67)), (1, .ref s.heap.size), (0, .ref b)]) hx hb dL_17 rfl hl (by decide) rfl (fun ls hl => ?_)
  refine W.widen (k := 600000) (n := 7302249) (Nat.le_of_ble_eq_true rfl) (Nat.le_of_ble_eq_true rfl) ?_
  have hPA : nP D s.heap.size (lAll cA s.heap.size) H4 := nP_app hP2.2 (fun q hq => (o4 q hq).trans (o3 q hq)) hP4
  have hz4 : H4.size = s.heap.size + 67 + 24 := hP4.1
  refine lw_loop (E := (l, D, adN s.heap.size, cA)) hL (L + 1) 0 zg0 (by omega) (Nat.zero_le _) Rel_0 p e s m below meth c H4 _ ls ⟨C0, hK.1, adN_inj _, fun q hq => ?_⟩ (zw_all hPA) ⟨by omega, fun q hq _ => ?_, fun q hq => ?_⟩ hl
  · obtain ⟨k, -, rfl⟩ := hq
    exact Nat.le_add_right _ _
  · rw [o4 q (by omega), o3 q (by omega), o2 q hq, o1 q hq]
  · rcases List.mem_append.mp hq with h | h
    · rcases List.mem_append.mp h with h | h
      · exact absurd h List.not_mem_nil
      · exact hL2 q h
    · have := hL4 q h
      show s.heap.size ≤ q.base
      omega

/-! THE CLAIM OUT OF ONE WALK OF THE LAW'S BODY. Your part is whole_start (and what it stands on); all else here is the same for every law, but numbers. -/
def R_law : String := "SentRoundLaw"
def lw_P (b : Addr) (xs : List Int32) (args : Array Value) (s : State) : Prop := args = #[.ref b] ∧ s.IntsAt b xs ∧ xs.length ≤ 3072 ∧ (Jvm.Cond.and given_1 narrow_1).before args s = true
def lw_Q (_ : Array Value) (s : State) (o : Outcome) (t : State) : Prop := o = .returned (some (.int 1)) ∧ Framed s o t [] 600000 7302249
def lw_Z (below : List Frame) (a : Array Value) (s : State) : State → Prop := fun t => ∃ o, t.status = .running ∧ Ended t below o ∧ lw_Q a s o t
/-- the law's own end, with 1 on the stack, nothing written that was there before, its room as the claim has it -/
theorem lw_ret {p : Program} {l : Launch} {e : Env} {s : State} {m : MethodId} {below : List Frame} {meth : Method} {c : Code} {b : Nat} (hx : p.tables.exec = Jvm.exec) (hb : c.code = code) (hr : meth.sig.returnType = ret) (hlocks : meth.locks = false) {pc : Nat} {H : Heap} {ls : Array Slot} (hdg : decode code pc = .ok (.ireturn, 1)) : W p l e room_1 s m #[Value.ref b] below meth c H [] 600000 7302249 (lw_Z below #[Value.ref b] s) (F0 m pc ls [.int 1]) := by
  intro T hT X
  obtain ⟨fs, hret, hrun, hended, hW, hframe⟩ := X.leave (v := some (.int 1)) (hlocks := hlocks) (fun h => by rw [hr] at h; cases h)
  have hmeth' : T.vm.method? m = some meth := X.method'
  refine ⟨T.setFrames fs, ?_, .returned (some (.int 1)), hrun, hended, rfl, ⟨_, rfl⟩, hW, hframe⟩
  jvm_step X.here [X.here.top, hx, hb, hdg, hmeth', hr, ret, narrow_b1]
  (try refine ⟨rfl, ?_⟩); (try refine ⟨rfl, ?_⟩)
  first | (intro acts; rw [hret _ acts rfl rfl rfl]) | rw [hret _ _ rfl rfl rfl]
  exact Steps.refl _
/-- what holds at the law's entry: the machine, the code, the tables' words (any of lw_tbl by 'hts w (by decide +kernel)'), the script of L ints xs at the cell b, what the Statement gives of the start (any of its parts by flat_of_before) -/
def lw_At (p : Program) (s : State) (m : MethodId) (meth : Method) (c : Code) (b L : Nat) (xs : Nat → Int32) : Prop :=
  p.tables.exec = Jvm.exec ∧ c.code = code ∧ meth.sig.returnType = ret ∧ c.maxLocals = 4 ∧ s.vm.findClass R_law = some m.cls ∧ (∀ w ∈ lw_tbl, w.before #[Value.ref b] s = true) ∧ va_X b L xs s s.heap ∧ b < s.heap.size ∧ meth.locks = false ∧ (Jvm.Cond.and given_1 narrow_1).before #[Value.ref b] s = true
/-! THE LAW'S FRAME: the judgement VL; locals 0 the script, 1 the class's object, 2 the model's, 3 the place -/
def CL (E : Ev) (p : Program) (s : State) (m : MethodId) (meth : Method) (c : Code) (b L : Nat) (xs : Nat → Int32) : Prop := lw_At p s m meth c b L xs ∧ zK E.2.1 E.2.2.2 s ∧ zinj E.2.2.1 ∧ ∀ q, zA E.2.2.1 q → s.heap.size ≤ q
abbrev lvL (E : Ev) (b : Nat) (i : Int32) : List (Nat × Value) := [(3, .int i), (2, .ref (E.2.2.1 67)), (1, .ref (E.2.2.1 0)), (0, .ref b)]
def VL (E : Ev) (b L : Nat) (xs : Nat → Int32) (i : Int32) (pc : Nat) (st : List Value) (σ : Sto) : Prop :=
  ∀ (p : Program) (e : Env) (s : State) (m : MethodId) (below : List Frame) (meth : Method) (c : Code) (H : Heap) (locs : List Loc) (ls : Array Slot),
    CL E p s m meth c b L xs → va_P E.2.1 vwCl (zG E.2.2.1 E.2.2.2 σ) H → va_S (fun q : Nat => s.heap.size ≤ q) s.heap H locs → lv_has ls 4 (lvL E b i) →
    W p E.1 e room_1 s m #[Value.ref b] below meth c H locs 600000 7302249 (lw_Z below #[Value.ref b] s) (F0 m pc ls (st.map (tr E.2.2.1)))
section VLR
variable {E : Ev} {b L : Nat} {xs : Nat → Int32} {i : Int32} {st : List Value} {σ : Sto}
theorem CL.hx {p : Program} {s : State} {m : MethodId} {meth : Method} {c : Code} (C : CL E p s m meth c b L xs) : p.tables.exec = Jvm.exec := C.1.1
theorem CL.hb {p : Program} {s : State} {m : MethodId} {meth : Method} {c : Code} (C : CL E p s m meth c b L xs) : c.code = code := C.1.2.1
theorem VL_x {pc : Nat} (hd : decode code pc = .ok (.aload_n 1, 1)) (k : VL E b L xs i (pc + 1) (.ref 0 :: st) σ) : VL E b L xs i pc st σ :=
  fun p e s m below meth c H locs ls C hP hS hl => lv_aload_n C.hx C.hb hd rfl (lv_at hl 2 rfl) (k p e s m below meth c H locs ls C hP hS hl)
theorem VL_m {pc : Nat} (hd : decode code pc = .ok (.aload_n 2, 1)) (k : VL E b L xs i (pc + 1) (.ref 67 :: st) σ) : VL E b L xs i pc st σ :=
  fun p e s m below meth c H locs ls C hP hS hl => lv_aload_n C.hx C.hb hd rfl (lv_at hl 1 rfl) (k p e s m below meth c H locs ls C hP hS hl)
theorem VL_arg {pc : Nat} {n : Int} {v : Int32} (h0 : decode code pc = .ok (.aload_n 0, 1)) (h1 : decode code (pc + 1) = .ok (.iload_n 3, 1)) (h2 : decode code (pc + 1 + 1) = .ok (.iconst n, 1)) (h3 : decode code (pc + 1 + 1 + 1) = .ok (.iadd, 1)) (h4 : decode code (pc + 1 + 1 + 1 + 1) = .ok (.iaload, 1)) (hv : Int32.ofInt n = v) (hin : vp_in (i + v) L)
    (k : VL E b L xs i (pc + 1 + 1 + 1 + 1 + 1) (.int (xs (i + v).toNatClampNeg) :: st) σ) : VL E b L xs i pc st σ := by
  intro p e s m below meth c H locs ls C hP hS hl
  obtain ⟨hx, hb, hr, hml, hown, hts, hX, hbl, hlocks, hgv⟩ := id C.1
  refine lv_aload_n hx hb h0 rfl (lv_at hl 3 rfl) ?_
  refine lv_iload_n hx hb h1 rfl (lv_at hl 0 rfl) ?_
  refine lv_iconst hx hb h2 hv ?_
  refine lv_iadd hx hb h3 ?_
  exact va_sld (H0 := s.heap) hx hb hX hbl (Nat.not_le.mpr hbl) hS hin h4 (k p e s m below meth c H locs ls C hP hS hl)
theorem VL_op {pc : Nat} (h0 : decode code pc = .ok (.aload_n 0, 1)) (h1 : decode code (pc + 1) = .ok (.iload_n 3, 1)) (h4 : decode code (pc + 1 + 1) = .ok (.iaload, 1)) (hin : vp_in i L)
    (k : VL E b L xs i (pc + 1 + 1 + 1) (.int (xs i.toNatClampNeg) :: st) σ) : VL E b L xs i pc st σ := by
  intro p e s m below meth c H locs ls C hP hS hl
  obtain ⟨hx, hb, hr, hml, hown, hts, hX, hbl, hlocks, hgv⟩ := id C.1
  refine lv_aload_n hx hb h0 rfl (lv_at hl 3 rfl) ?_
  refine lv_iload_n hx hb h1 rfl (lv_at hl 0 rfl) ?_
  exact va_sld (H0 := s.heap) hx hb hX hbl (Nat.not_le.mpr hbl) hS hin h4 (k p e s m below meth c H locs ls C hP hS hl)
theorem VL_bipush {pc : Nat} {n : Int} {v : Int32} (hd : decode code pc = .ok (.bipush n, 2)) (hv : (Int8.ofInt n).toInt32 = v) (k : VL E b L xs i (pc + 2) (.int v :: st) σ) : VL E b L xs i pc st σ :=
  fun p e s m below meth c H locs ls C hP hS hl => lv_bipush C.hx C.hb hd hv (k p e s m below meth c H locs ls C hP hS hl)
theorem VL_iand {pc : Nat} {x y : Int32} (hd : decode code pc = .ok (.iand, 1)) (k : VL E b L xs i (pc + 1) (.int (x &&& y) :: st) σ) : VL E b L xs i pc (.int y :: .int x :: st) σ :=
  fun p e s m below meth c H locs ls C hP hS hl => lv_iand C.hx C.hb hd (k p e s m below meth c H locs ls C hP hS hl)
theorem VL_tabOut {pc tgt : Nat} {dflt lo hi : Int} {offs : Array Int} {len : Nat} {x : Int32} (hd : decode code pc = .ok (.tableswitch dflt lo hi offs, len)) (h : x.toInt < lo ∨ hi < x.toInt) (ht : (pc : Int) + dflt = (tgt : Int)) (k : VL E b L xs i tgt st σ) : VL E b L xs i pc (.int x :: st) σ :=
  fun p e s m below meth c H locs ls C hP hS hl => lv_tableOut C.hx C.hb hd h ht (k p e s m below meth c H locs ls C hP hS hl)
theorem VL_tabIn {pc tgt : Nat} {dflt lo hi off : Int} {offs : Array Int} {len : Nat} {x : Int32} (hd : decode code pc = .ok (.tableswitch dflt lo hi offs, len)) (h1 : ¬ x.toInt < lo) (h2 : ¬ hi < x.toInt) (ho : offs[(x.toInt - lo).toNat]? = some off) (ht : (pc : Int) + off = (tgt : Int)) (k : VL E b L xs i tgt st σ) : VL E b L xs i pc (.int x :: st) σ :=
  fun p e s m below meth c H locs ls C hP hS hl => lv_tableIn C.hx C.hb hd h1 h2 ho ht (k p e s m below meth c H locs ls C hP hS hl)
theorem VL_eqI {pc : Nat} {off : Int} {x y : Int32} (hd : decode code pc = .ok (.if_icmp .eq off, 3)) (ht : (pc : Int) + off = ((1444 : Nat) : Int)) (h : x = y) (k : VL E b L xs i 1444 st σ) : VL E b L xs i pc (.int y :: .int x :: st) σ :=
  fun p e s m below meth c H locs ls C hP hS hl => lv_icmp_eq C.hx C.hb hd ht (fun _ => k p e s m below meth c H locs ls C hP hS hl) (fun q => absurd h q)
theorem VL_eqL {pc : Nat} {off : Int} {x y : Int64} (hd : decode code pc = .ok (.lcmp, 1)) (hd2 : decode code (pc + 1) = .ok (.ifCond .eq off, 3)) (ht : ((pc + 1 : Nat) : Int) + off = ((1444 : Nat) : Int)) (h : x = y) (k : VL E b L xs i 1444 st σ) : VL E b L xs i pc (.long y :: .long x :: st) σ := by
  subst h
  intro p e s m below meth c H locs ls C hP hS hl
  exact W.lcmp C.hx C.hb hd (lv_if_eq C.hx C.hb hd2 ht (fun _ => k p e s m below meth c H locs ls C hP hS hl) (fun q => absurd ((lc_eq x x).mpr rfl) q))
theorem VL_step {pc tgt : Nat} {off n : Int} {v : Int32} (h0 : decode code pc = .ok (.iinc 3 n, 3)) (h1 : decode code (pc + 3) = .ok (.goto off, 3)) (hv : i + Int32.ofInt n = v) (ht : ((pc + 3 : Nat) : Int) + off = (tgt : Int)) (k : VL E b L xs v tgt st σ) : VL E b L xs i pc st σ := by
  intro p e s m below meth c H locs ls C hP hS hl
  refine lv_iinc (v := v) (lv' := lvL E b v) C.hx C.hb h0 hl (k := 0) rfl hv (by decide) rfl (fun ls hl => ?_)
  exact lv_goto C.hx C.hb h1 ht (k p e s m below meth c H locs ls C hP hS hl)
/-- the loop's head: iload_3, aload_0, arraylength, bipush 6, isub, if_icmpgt -/
theorem VL_head {pc tgt : Nat} {off : Int} (h0 : decode code pc = .ok (.iload_n 3, 1)) (h1 : decode code (pc + 1) = .ok (.aload_n 0, 1)) (h2 : decode code (pc + 1 + 1) = .ok (.arraylength, 1)) (h3 : decode code (pc + 1 + 1 + 1) = .ok (.bipush 6, 2)) (h4 : decode code (pc + 1 + 1 + 1 + 2) = .ok (.isub, 1)) (h5 : decode code (pc + 1 + 1 + 1 + 2 + 1) = .ok (.if_icmp .gt off, 3)) (ht : ((pc + 1 + 1 + 1 + 2 + 1 : Nat) : Int) + off = (tgt : Int))
    (kt : Int32.ofNat L - 6 < i → VL E b L xs i tgt st σ) (kf : ¬ Int32.ofNat L - 6 < i → VL E b L xs i (pc + 1 + 1 + 1 + 2 + 1 + 3) st σ) : VL E b L xs i pc st σ := by
  intro p e s m below meth c H locs ls C hP hS hl
  obtain ⟨hx, hb, hr, hml, hown, hts, hX, hbl, hlocks, hgv⟩ := id C.1
  refine lv_iload_n hx hb h0 rfl (lv_at hl 0 rfl) ?_
  refine lv_aload_n hx hb h1 rfl (lv_at hl 3 rfl) ?_
  refine va_slen (H0 := s.heap) hx hb hX hbl (Nat.not_le.mpr hbl) hS h2 ?_
  refine lv_bipush (v := 6) hx hb h3 (by decide) ?_
  refine lv_isub hx hb h4 ?_
  exact lv_icmp_gt hx hb h5 ht (fun q => kt q p e s m below meth c H locs ls C hP hS hl) (fun q => kf q p e s m below meth c H locs ls C hP hS hl)
theorem VL_end {pc : Nat} (h0 : decode code pc = .ok (.iconst 1, 1)) (h1 : decode code (pc + 1) = .ok (.ireturn, 1)) : VL E b L xs i pc [] σ := by
  intro p e s m below meth c H locs ls C hP hS hl
  obtain ⟨hx, hb, hr, hml, hown, hts, hX, hbl, hlocks, hgv⟩ := id C.1
  refine lv_iconst (v := 1) hx hb h0 (by decide) ?_
  exact va_forget (fun q hq => hS.2.2 q hq) (lw_ret hx hb hr hlocks h1)
theorem VL_callV {d' : Nat} {M' : Mt} {post' : Po} {pc idx n ci b' : Nat} {fs : List Nat} {stk : List Value} (hd : decode code pc = .ok (.invokevirtual idx, 3)) (hL : Cond.methodLink R_law idx M'.1 ∈ gt) (S : vOk ci M') (K : kOk n M') (hs : gs b' = .inr (ci, fs)) (hbN : b' < gN) (hdep : d' ≤ 100) (hn : ((stk.take n).reverse).length = n) (hb0 : stk[n]? = some (.ref b')) (hlen : (lg_sl (.ref b' :: (stk.take n).reverse)).length ≤ M'.2.2.1) (hroom : ((stk.drop (n + 1)).map fun v => v.category).sum ≤ 8)
    (hb1 : V E d' M' post' 0 (lv_args 0 (.ref b' :: (stk.take n).reverse)) [] σ) (kk : ∀ (r : Option Value) (τ : Sto), post' r τ → (∀ a, r ≠ some (.ref a)) ∧ VL E b L xs i (pc + 3) (r.toList ++ stk.drop (n + 1)) τ) : VL E b L xs i pc stk σ := by
  intro p e s m below meth c H locs ls C hP hS hl T hT X
  obtain ⟨hx, hb, hr, hml, hown, hts0, hX, hbl, hlocks, hgv⟩ := id C.1
  obtain ⟨-, hzK, hinj, hnew⟩ := id C
  have hts : ∀ w ∈ gt, w.before #[Value.ref b] s = true := fun w hw => hts0 w (List.mem_filter.mp hw).1
  obtain ⟨S1, S2, q, S3, S4⟩ := S
  have hcell := zG_get (ad := E.2.2.1) (cA := E.2.2.2) (σ := σ) hbN
  rw [hs] at hcell
  have hrec := va_recv hzK.1 hP S3 hcell
  rw [S4] at hrec
  have hstk : stk = stk.take n ++ .ref b' :: stk.drop (n + 1) := by
    have h1 := List.drop_eq_getElem?_toList_append (l := stk) (i := n)
    rw [hb0] at h1
    conv => lhs; rw [← List.take_append_drop n stk, h1]
    rfl
  have hfit : (rmD d').frames + 1 ≤ room_1.frames ∧ 8 + (M'.2.2.1 + 11) + (rmD d').locals ≤ room_1.locals := by
    have := K.2.2.2.1
    refine ⟨?_, ?_⟩
    · show d' + 1 + 1 ≤ 2048
      omega
    · show 8 + (M'.2.2.1 + 11) + 64 * (d' + 1) ≤ 84000
      omega
  have run : va_Run p E.1 e room_1 s m #[Value.ref b] below meth c H locs 600000 7302249 0 0 (F0 m pc ls (stk.map (tr E.2.2.1))) ((stk.drop (n + 1)).map (tr E.2.2.1)) (zQ E post' (((Value.ref b' :: (stk.take n).reverse)).map (tr E.2.2.1)).toArray) (zA E.2.2.1) :=
    va_runV (C := M'.1.cls) (b := E.2.2.1 b') (As := ((stk.take n).reverse).map (tr E.2.2.1)) ⟨hx, hb, hml, hown, hts⟩ (V_met (.ref b' :: (stk.take n).reverse) K.2.2.2.2 hlen hb1) ⟨callB_of n hts (gt_good K.2.1) rfl rfl rfl (hts _ K.1) (hts _ hL) K.2.2.1 hfit, hts _ S1, hts _ S2⟩ ⟨zP_blind, hrec, fun U hU hW => ⟨rfl, hzK.warm hW, hinj, by rw [hU]; exact hP⟩⟩ rfl (by rw [List.length_map]; exact hn) hl.1 (by
      conv => lhs; rw [hstk]
      rw [List.map_append, ← List.map_reverse, List.reverse_reverse]
      rfl) (lv_room (by rw [map_cat]; exact hroom)) hd ⟨Nat.le_refl _, Nat.le_refl _⟩
  obtain ⟨v, st₀, t, T', L', h0, X', hL', e1, e2, ⟨r, τ, hv, hpost, hP', hz, hk⟩, hgo⟩ := run T hT X
  cases hv
  rw [h0] at hz hk
  obtain ⟨hnr, hV⟩ := kk v τ hpost
  have hS1 : va_S (fun q : Nat => s.heap.size ≤ q) s.heap T'.heap (locs ++ L') := ⟨Nat.le_trans hS.1 (by rw [e1]; exact hz), fun q h1 h2 => by rw [e1, hk q (Nat.lt_of_lt_of_le h1 hS.1) (fun z => h2 (hnew q z))]; exact hS.2.1 q h1 h2, fun q hq => by
      rcases List.mem_append.mp hq with h | h
      · exact hS.2.2 q h
      · exact hnew _ (hL' q h)⟩
  obtain ⟨t2, a1, b1⟩ := hV p e s m below meth c T'.heap (locs ++ L') ls C (by rw [e1]; exact hP') hS1 hl T' rfl X'
  refine ⟨t2, hgo t2 ?_, b1⟩
  have e3 : (v.toList ++ stk.drop (n + 1)).map (tr E.2.2.1) = v.toList ++ (stk.drop (n + 1)).map (tr E.2.2.1) := by
    cases v with
    | none => rfl
    | some x => cases x with
      | ref a => exact absurd rfl (hnr a)
      | _ => rfl
  rw [e3] at a1
  exact a1
end VLR

/-! FOUR ROWS OF INTS AT ONCE (multianewarray with 4 and M on the stack): the state behind i rows, step by step -/
def mO (cA : ClassId) (h i : Nat) : Cell := arrV cA 4 (fun j => if j < i then .ref (h + 1 + j) else .null)
def mR (cI : ClassId) (M : Nat) : Cell := arrV cI M (fun _ => .int 0)
def mqS (T : State) (cA cI : ClassId) (M : Nat) : Nat → State
  | 0 => T.pushCell (mO cA T.heap.size 0)
  | i + 1 => ((mqS T cA cI M i).pushCell (mR cI M)).setCell T.heap.size (mO cA T.heap.size (i + 1))
theorem mO_step (cA : ClassId) (h i : Nat) : (mO cA h i).setSlot i (.ref (h + 1 + i)) = mO cA h (i + 1) := by
  unfold mO
  rw [arrV_store]
  congr 1
  funext j
  by_cases e : j = i
  · subst e
    simp [updV]
  · simp only [updV, e, if_false]
    by_cases q : j < i
    · rw [if_pos q, if_pos (by omega)]
    · rw [if_neg q, if_neg (by omega)]
theorem mqS_heap (T : State) (cA cI : ClassId) (M : Nat) : ∀ i, (mqS T cA cI M i).heap.size = T.heap.size + 1 + i ∧ (mqS T cA cI M i).heap[T.heap.size]? = some (mO cA T.heap.size i) ∧ (∀ q : Nat, q < T.heap.size → (mqS T cA cI M i).heap[q]? = T.heap[q]?) ∧ ∀ j, j < i → (mqS T cA cI M i).heap[T.heap.size + 1 + j]? = some (mR cI M)
  | 0 => ⟨by simp [mqS], by simp [mqS], fun q h => State.heap_pushCell_of_lt _ _ h, fun j h => absurd h (Nat.not_lt_zero _)⟩
  | i + 1 => by
    obtain ⟨a1, a2, a3, a4⟩ := mqS_heap T cA cI M i
    have hz : ((mqS T cA cI M i).pushCell (mR cI M)).heap.size = T.heap.size + 1 + i + 1 := by simp [a1]
    have hl : T.heap.size < ((mqS T cA cI M i).pushCell (mR cI M)).heap.size := by omega
    refine ⟨?_, ?_, fun q hq => ?_, fun j hj => ?_⟩
    · show (State.setCell _ _ _).heap.size = _
      rw [size_setCell, hz]
      omega
    · exact heapAt_setCell_self _ hl
    · show (State.setCell _ _ _).heap[q]? = _
      rw [heapAt_setCell_ne (a := T.heap.size) (b := q) _ (show T.heap.size ≠ q by omega), State.heap_pushCell_of_lt _ _ (show q < (mqS T cA cI M i).heap.size by omega)]
      exact a3 q hq
    · show (State.setCell _ _ _).heap[T.heap.size + 1 + j]? = _
      rw [heapAt_setCell_ne (a := T.heap.size) (b := T.heap.size + 1 + j) _ (show T.heap.size ≠ T.heap.size + 1 + j by omega)]
      by_cases e : j = i
      · subst e
        rw [← a1]
        exact State.heap_pushCell_size _ _
      · rw [State.heap_pushCell_of_lt _ _ (show T.heap.size + 1 + j < (mqS T cA cI M i).heap.size by omega)]
        exact a4 j (by omega)
theorem mqS_rest (T : State) (cA cI : ClassId) (M : Nat) : ∀ i, (mqS T cA cI M i).vm = T.vm ∧ (mqS T cA cI M i).slotsUsed = T.slotsUsed + 4 + i * M
  | 0 => ⟨rfl, by simp [mqS, mO, arrV]⟩
  | i + 1 => by
    obtain ⟨a1, a2⟩ := mqS_rest T cA cI M i
    refine ⟨a1, ?_⟩
    show ((mqS T cA cI M i).pushCell (mR cI M)).slotsUsed = _
    rw [State.slotsUsed_pushCell, a2, Nat.succ_mul]
    simp [mR, arrV]
    omega
theorem mqS_top (T : State) (f : JFrame) (cA cI : ClassId) (M : Nat) : ∀ i, mqS (T.setTop f) cA cI M i = (mqS T cA cI M i).setTop f
  | 0 => rfl
  | i + 1 => by
    simp only [mqS, mqS_top T f cA cI M i, State.heap_setTop, State.pushCell_setTop, State.setCell_setTop]
theorem mqS_stand {p : Program} {l : Launch} {e : Env} {R : Room} {s : State} {m : MethodId} {args : Array Value} {below : List Frame} {meth : Method} {c : Code} {T : State} {locs : List Loc} {cells slots : Nat} (X : Stand p l e R s m args below meth c T locs cells slots) (cA cI : ClassId) (M : Nat) :
    ∀ i, ∃ L : List Loc, (∀ q ∈ L, q.base = T.heap.size) ∧ Stand p l e R s m args below meth c (mqS T cA cI M i) (locs ++ L) (cells + 1 + i) (slots + 4 + i * M)
  | 0 => by
    have h := X.pushed (mO cA T.heap.size 0)
    have e : (mO cA T.heap.size 0).slots.size = 4 := arrV_size _ _ _
    rw [e] at h
    exact ⟨[], fun q hq => absurd hq List.not_mem_nil, by simpa [mqS] using h⟩
  | i + 1 => by
    obtain ⟨L, hL, X1⟩ := mqS_stand X cA cI M i
    obtain ⟨a1, a2, -, -⟩ := mqS_heap T cA cI M i
    have hc : ((mqS T cA cI M i).pushCell (mR cI M)).heap[T.heap.size]? = some (mO cA T.heap.size i) := by
      rw [State.heap_pushCell_of_lt _ _ (show T.heap.size < (mqS T cA cI M i).heap.size by omega)]
      exact a2
    have h := (X1.pushed (mR cI M)).stored hc i (.ref (T.heap.size + 1 + i))
    rw [mO_step] at h
    have e : (mR cI M).slots.size = M := arrV_size _ _ _
    rw [e] at h
    refine ⟨L ++ [⟨T.heap.size, i⟩], fun q hq => ?_, ?_⟩
    · rcases List.mem_append.mp hq with z | z
      · exact hL q z
      · rw [List.mem_singleton.mp z]
    · rw [← List.append_assoc, show slots + 4 + (i + 1) * M = slots + 4 + i * M + M by rw [Nat.succ_mul]; omega]
      exact h
section MUL
variable {E : CtlPost} {e : Env} {d : Bool} {acts : List Action} {s : State}
theorem arr_repl (cI : ClassId) (N : Nat) (x : Value) : ({ cls := cI, slots := Array.replicate N x } : Cell) = arrV cI N (fun _ => x) := arrV_new cI N x
theorem mk_row {cI ci : ClassId} {kI : Class} {k : Int32} {M : Nat} (hk : s.vm.classes[cI]? = some kI) (hkind : kI.kind = .array ci .int) (h0 : ¬ k < 0) (hM : k.toNatClampNeg = M) (hlim : ¬ M > e.platform.arrayLengthLimit) (hmem : ¬ M * componentBytes .int > e.platform.maxHeapBytes) (hc : s.heap.size < e.platform.maxCells) (hs : s.slotsUsed + M ≤ e.platform.maxSlots)
    {Q : Addr → Pre} (hq : ∀ acts', Q s.heap.size d acts' (s.pushCell (mR cI M))) : wp (multianewarray.make cI [k]) Q E e d acts s := by
  subst hM
  rw [multianewarray.make]
  simp only [wp_bind', W.ite, h0, if_false, wp_pure', W.theClass, hk, hkind, Option.some.injEq, exists_eq_left']
  refine W.newArray_of hk hkind hlim hmem hc hs rfl (fun a => ?_)
  rw [arr_repl]
  exact hq a
theorem mk_rows {cA cI ci : ClassId} {kA kI : Class} {k : Int32} {M : Nat} (hkA : s.vm.classes[cA]? = some kA) (hkindA : kA.kind = .array cI (.array .int)) (hk : s.vm.classes[cI]? = some kI) (hkind : kI.kind = .array ci .int) (h0 : ¬ k < 0) (hM : k.toNatClampNeg = M)
    (hlim4 : ¬ 4 > e.platform.arrayLengthLimit) (hmem4 : ¬ 4 * componentBytes (.array .int) > e.platform.maxHeapBytes) (hlim : ¬ M > e.platform.arrayLengthLimit) (hmem : ¬ M * componentBytes .int > e.platform.maxHeapBytes) (hc : s.heap.size + 5 ≤ e.platform.maxCells) (hs : s.slotsUsed + (4 + 4 * M) ≤ e.platform.maxSlots)
    {Q : Addr → Pre} (hq : ∀ d' acts', Q s.heap.size d' acts' (mqS s cA cI M 4)) : wp (multianewarray.make cA [4, k]) Q E e d acts s := by
  rw [multianewarray.make]
  have h4 : ¬ (4 : Int32) < 0 := by decide
  have h4n : (4 : Int32).toNatClampNeg = 4 := by decide
  have h4z : ((4 : Int32) == 0) = false := by decide
  simp only [wp_bind', W.ite, h4, if_false, wp_pure', W.theClass, hkA, hkindA, Option.some.injEq, exists_eq_left', h4n]
  refine W.newArray_of hkA hkindA hlim4 hmem4 (by omega) (by omega) rfl (fun a => ?_)
  have e0 : s.pushCell ({ cls := cA, slots := Array.replicate 4 .null } : Cell) = mqS s cA cI M 0 := by
    rw [arr_repl]
    rfl
  rw [e0]
  simp only [h4z, Bool.false_eq_true, if_false, wp_bind', wp_pure']
  rw [Std.Legacy.Range.forIn_eq_forIn_range']
  have hsz : ([:4] : Std.Legacy.Range).size = 4 := by simp [Std.Legacy.Range.size]
  rw [hsz]
  refine wp_forIn_inv (fun rest s' => ∃ i, rest = List.range' i (4 - i) ∧ i ≤ 4 ∧ s' = mqS s cA cI M i) _ _ ⟨0, rfl, by omega, rfl⟩ ?_ ?_
  · rintro x rest s' d' acts' Q' ⟨i, hl, hi, rfl⟩ hnext
    have hi4 : i < 4 := by
      rcases Nat.lt_or_ge i 4 with q | q
      · exact q
      · rw [show 4 - i = 0 by omega] at hl
        cases hl
    rw [show 4 - i = (4 - (i + 1)) + 1 by omega, List.range'_succ] at hl
    obtain ⟨rfl, hr⟩ := List.cons.inj hl
    obtain ⟨a1, a2, -, -⟩ := mqS_heap s cA cI M x
    obtain ⟨b1, b2⟩ := mqS_rest s cA cI M x
    have hxM : x * M ≤ 3 * M := Nat.mul_le_mul_right M (by omega)
    simp only [wp_bind']
    refine mk_row (by rw [b1]; exact hk) hkind h0 hM hlim hmem (by omega) (by omega) (fun a2' => ?_)
    simp only [wp_bind', W.writeLoc, wp_pure']
    refine ⟨mO cA s.heap.size x, by rw [State.heap_pushCell_of_lt _ _ (show s.heap.size < (mqS s cA cI M x).heap.size by omega)]; exact a2, (fun hv => by cases hv), by rw [show (mO cA s.heap.size x).slots.size = 4 from arrV_size _ _ _]; exact hi4, ?_, hnext _ _ _ ⟨x + 1, hr, hi4, ?_⟩⟩
    · show State.fitsSlot _ cA _ x _ = true
      simp [mO, arrV, State.fitsSlot, State.slotType?, b1, hkA, hkindA, fits]
    · rw [a1, mO_step]
      rfl
  · rintro s' d' acts' ⟨i, hl, hi, rfl⟩
    have hi4 : i = 4 := by
      rcases Nat.lt_or_ge i 4 with q | q
      · rw [show 4 - i = (4 - (i + 1)) + 1 by omega, List.range'_succ] at hl
        cases hl
      · omega
    subst hi4
    simp only [wp_pure']
    exact hq _ _
end MUL
theorem W_rows {p : Program} {l : Launch} {e : Env} {R : Room} {s : State} {m : MethodId} {args : Array Value} {below : List Frame} {meth : Method} {c : Code} {H : Heap} {locs : List Loc} {cells slots : Nat} {Q : State → Prop} {cc : ByteArray} {pc : Nat} {ls : Array Slot} {rest : List Value}
    (hexec : p.tables.exec = Jvm.exec) (hb : c.code = cc) {own : String} {index : Nat} (hown : s.vm.findClass own = some m.cls) (hclink : (Cond.classLink own index "[[I").before args s = true)
    {cA cI ci : ClassId} {kA kI : Class} (hA : s.vm.findClass "[[I" = some cA) (hkA : s.vm.classes[cA]? = some kA) (hkindA : kA.kind = .array cI (.array .int)) (hk : s.vm.classes[cI]? = some kI) (hkind : kI.kind = .array ci .int)
    {k : Int32} {M : Nat} (h0 : ¬ k < 0) (hM : k.toNatClampNeg = M) (hMb : M ≤ 1000) (hcells : cells + 5 ≤ R.cells) (hslots : slots + (4 + 4 * M) ≤ R.slots) (hdg : decode cc pc = .ok (.multianewarray index 2, 4))
    (kk : ∀ (H' : Heap) (L : List Loc), H'.size = H.size + 5 → H'[H.size]? = some (mO cA H.size 4) → (∀ q : Nat, q < H.size → H'[q]? = H[q]?) → (∀ j, j < 4 → H'[H.size + 1 + j]? = some (mR cI M)) → (∀ q ∈ L, q.base = H.size) →
      W p l e R s m args below meth c H' (locs ++ L) (cells + 5) (slots + (4 + 4 * M)) Q (F0 m (pc + 4) ls (.ref H.size :: rest))) : W p l e R s m args below meth c H locs cells slots Q (F0 m pc ls (.int k :: .int 4 :: rest)) := by
  intro T hT X
  subst hT
  have hpl : e.platform.magicAccessors = ({} : Platform).magicAccessors := by rw [X.admits.platform]
  obtain ⟨c0, hf0, hcl⟩ := Cond.classLink_spec hown hclink e.platform hpl
  cases hA.symm.trans hf0
  obtain ⟨hg1, hw1, -⟩ := State.classEntry (e := e) X.warmed hcl
  generalize T.vm.noted m.cls index (.cls cA) = vm1 at hg1 hw1
  have hal : s.vm.Alike vm1 := hw1.alike
  obtain ⟨kA1, hkA1, eA⟩ := hal.2.2 _ _ hkA
  obtain ⟨kI1, hkI1, eI⟩ := hal.2.2 _ _ hk
  have hkindA1 : kA1.kind = .array cI (.array .int) := by rw [eA]; exact hkindA
  have hkind1 : kI1.kind = .array ci .int := by rw [eI]; exact hkind
  have X1 := X.noted hw1
  obtain ⟨r1, r2⟩ := X.roomAbove hcells hslots
  obtain ⟨L, hL, XF⟩ := mqS_stand X1 cA cI M 4
  obtain ⟨a1, a2, a3, a4⟩ := mqS_heap (T.setVm vm1) cA cI M 4
  obtain ⟨t, st, ht⟩ := kk (mqS (T.setVm vm1) cA cI M 4).heap L a1 a2 a3 a4 hL _ rfl (by
    rw [show cells + 5 = cells + 1 + 4 by omega, ← Nat.add_assoc]
    exact XF)
  refine ⟨t, ?_, ht⟩
  have hl4 : ¬ 4 > e.platform.arrayLengthLimit := by rw [Launch.admits_arrayLengthLimit X.admits]; omega
  have hm4 : ¬ 4 * componentBytes (.array .int) > e.platform.maxHeapBytes := by
    rw [Launch.admits_maxHeapBytes X.admits]
    decide
  have hlM : ¬ M > e.platform.arrayLengthLimit := by rw [Launch.admits_arrayLengthLimit X.admits]; omega
  have hmM : ¬ M * componentBytes .int > e.platform.maxHeapBytes := by
    rw [Launch.admits_maxHeapBytes X.admits]
    show ¬ M * 4 > _
    omega
  jvm_step X.here [X.here.top, hexec, hb, hdg]
  simp only [multianewarray.sem, wp_bind', W.resolveClassAt_links (State.method?_setTop (F0 m pc ls (.int k :: .int 4 :: rest)) X.here.top) hg1]
  rw [W.popN, if_neg (by decide)]
  refine ⟨F0 m pc ls (.int k :: .int 4 :: rest), State.topJava?_setTop' (s := T.setVm vm1) _ X.here.top, [.int 4, .int k], rest, rfl, rfl, ?_⟩
  simp only [List.mapM_cons, List.mapM_nil, wp_bind', wp_pure']
  refine mk_rows (s := ((T.setTop (F0 m pc ls (.int k :: .int 4 :: rest))).setVm vm1).setTop (F0 m pc ls rest)) hkA1 hkindA1 hkI1 hkind1 h0 hM hl4 hm4 hlM hmM r1 r2 (fun d' acts' => ?_)
  have eS : ((T.setTop (F0 m pc ls (.int k :: .int 4 :: rest))).setVm vm1).setTop (F0 m pc ls rest) = (T.setVm vm1).setTop (F0 m pc ls rest) := by
    show ((T.setVm vm1).setTop _).setTop _ = _
    rw [State.setTop_setTop]
  rw [eS, mqS_top]
  simp only [wp_bind', W.mark, W.pushRef, State.topJava?_setTop' _ XF.here.top, Option.some.injEq, exists_eq_left', State.setTop_setTop, State.heap_setTop]
  intro acts
  simp [jvm, XF.here.top]
  exact st

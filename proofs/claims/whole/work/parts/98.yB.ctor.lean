/-! CONSTRUCTORS: the cells from an address on to the heap's end, one after another; the judgement NV: the machine inside a constructor, its context hidden -/
abbrev Nv : Type := Launch × va_G × (Nat → ClassId)
def neC : List (String × Nat × MethodName × String) := [(RX10, 11, yX1_init, "SentRound"), (RX10, 66, yX4_init, "SentRound"), (RX6, 23, yX5_init, "SentRound"), (RX8, 20, yX5_init, "SentRound"), (RX4, 17, yX5_init, "SentRound")]
def nK (D : va_G) (cA : Nat → ClassId) (U : State) : Prop := zK D cA U ∧ (∀ q ∈ neC, va_Nw (.methodLinkNest q.1 q.2.1 q.2.2.1 q.2.2.2) U) ∧ ∃ (kA kI : Class) (ci : ClassId), U.vm.classes[cA 3]? = some kA ∧ kA.kind = .array (cA 0) (.array .int) ∧ U.vm.classes[cA 0]? = some kI ∧ kI.kind = .array ci .int
theorem nK.same {D : va_G} {cA : Nat → ClassId} {u U : State} (h : nK D cA u) (hvm : u.vm = U.vm) : nK D cA U := ⟨h.1.same hvm, fun q hq => va_Nw.same rfl hvm (h.2.1 q hq), by rw [← hvm]; exact h.2.2⟩
theorem nK.warm {D : va_G} {cA : Nat → ClassId} {s U : State} (h : nK D cA s) (hW : s.WarmedH U.vm) : nK D cA U := by
  obtain ⟨h1, h2, kA, kI, ci, a1, a2, a3, a4⟩ := h
  obtain ⟨kA', b1, b2⟩ := hW.alike.2.2 _ _ a1
  obtain ⟨kI', d1, d2⟩ := hW.alike.2.2 _ _ a3
  exact ⟨h1.warm hW, fun q hq => va_Nw.warmM hW (h2 q hq), kA', kI', ci, b1, by rw [b2]; exact a2, d1, by rw [d2]; exact a4⟩
def nP (D : va_G) (b : Nat) (L : List va_E) (H : Heap) : Prop := H.size = b + L.length ∧ ∀ (k : Nat) (x : va_E), L[k]? = some x → va_at D vwCl (b + k, x) H
theorem nP_app {D : va_G} {b : Nat} {L L2 : List va_E} {H H1 : Heap} (h : ∀ (k : Nat) (x : va_E), L[k]? = some x → va_at D vwCl (b + k, x) H) (ho : ∀ q : Nat, q < b + L.length → H1[q]? = H[q]?) (h2 : nP D (b + L.length) L2 H1) : nP D b (L ++ L2) H1 := by
  refine ⟨by rw [h2.1, List.length_append]; omega, fun k x hk => ?_⟩
  by_cases hl : k < L.length
  · rw [List.getElem?_append_left hl] at hk
    exact (h k x hk).kept (ho _ (by show b + k < _; omega))
  · rw [List.getElem?_append_right (by omega)] at hk
    have := h2.2 _ x hk
    rw [show b + L.length + (k - L.length) = b + k by omega] at this
    exact this
theorem nP_one {D : va_G} {b : Nat} {x : va_E} {H : Heap} (hz : H.size = b + 1) (h : va_at D vwCl (b, x) H) : nP D b [x] H := by
  refine ⟨hz, fun k y hk => ?_⟩
  match k, hk with
  | 0, hk => cases hk; exact h
theorem nP_set {D : va_G} {b k0 : Nat} {L : List va_E} {y : va_E} {H H1 : Heap} (h : nP D b L H) (hz : H1.size = H.size) (ho : ∀ q : Nat, q ≠ b + k0 → H1[q]? = H[q]?) (hy : k0 < L.length → va_at D vwCl (b + k0, y) H1) : nP D b (L.set k0 y) H1 := by
  refine ⟨by rw [hz, List.length_set]; exact h.1, fun k x hk => ?_⟩
  have hkl : k < L.length := by
    have := (List.getElem?_eq_some_iff.mp hk).1
    rwa [List.length_set] at this
  by_cases e : k0 = k
  · subst e
    rw [List.getElem?_set_self hkl] at hk
    cases hk
    exact hy hkl
  · rw [List.getElem?_set_ne e] at hk
    exact (h.2 k x hk).kept (ho _ (by show b + k ≠ b + k0; omega))
theorem nP_sing {D : va_G} {b k : Nat} {L : List va_E} {x : va_E} {H : Heap} (h : nP D b L H) (hk : L[k]? = some x) : va_P D vwCl [(b + k, x)] H := by
  intro j y hj
  match j, hj with
  | 0, hj => cases hj; exact h.2 k x hk
def nS (b : Nat) (H0 H : Heap) (locs : List Loc) : Prop := (∀ q : Nat, q < b → H[q]? = H0[q]?) ∧ ∀ q ∈ locs, b ≤ q.base
def Nx (E : Nv) (M : Mt) (p : Program) (s : State) (m : MethodId) (args : Array Value) (meth : Method) (c : Code) : Prop :=
  p.tables.exec = Jvm.exec ∧ c.code = M.2.1 ∧ c.maxLocals = M.2.2.1 ∧ meth.sig.returnType = M.2.2.2 ∧ meth.locks = false ∧ s.vm.findClass M.1.cls = some m.cls ∧ (∀ w ∈ gt, w.before args s = true) ∧ nK E.2.1 E.2.2 s ∧ meth.name = M.1.name
def nQ (E : Nv) (b : Nat) (LF : List va_E) : Array Value → State → Outcome → State → Prop := fun _ st o t => o = .returned none ∧ nP E.2.1 b LF t.heap ∧ ∀ q : Nat, q < b → t.heap[q]? = st.heap[q]?
def nqR (d mc ms : Nat) : Room := { frames := d + 1, cells := mc, slots := ms, locals := 64 * (d + 1) }
/-- the end that is asked for: from which address, which cells, how many cells and slots came -/
abbrev Ng : Type := Nat × List va_E × Nat × Nat
def NV (E : Nv) (d : Nat) (M : Mt) (G : Ng) (pc : Nat) (lv : List (Nat × Value)) (st : List Value) (L : List va_E) (k z : Nat) : Prop :=
  ∀ (p : Program) (e : Env) (s : State) (m : MethodId) (args : Array Value) (below : List Frame) (meth : Method) (c : Code) (H : Heap) (locs : List Loc) (ls : Array Slot),
    Nx E M p s m args meth c → nP E.2.1 G.1 L H → nS G.1 s.heap H locs → lv_has ls M.2.2.1 lv →
    W p E.1 e (nqR d G.2.2.1 G.2.2.2) s m args below meth c H locs k z (MQ below (nQ E G.1 G.2.1) args s G.2.2.1 G.2.2.2 (fun q => G.1 ≤ q)) (F0 m pc ls st)
section NVR
variable {E : Nv} {d : Nat} {M : Mt} {G : Ng} {pc k z : Nat} {lv : List (Nat × Value)} {st : List Value} {L : List va_E}
theorem NV_iconst {n : Int} {v : Int32} (hd : decode M.2.1 pc = .ok (.iconst n, 1)) (hv : Int32.ofInt n = v) (kk : NV E d M G (pc + 1) lv (.int v :: st) L k z) : NV E d M G pc lv st L k z :=
  fun p e s m args below meth c H locs ls C hP hS hl => lv_iconst C.1 C.2.1 hd hv (kk p e s m args below meth c H locs ls C hP hS hl)
theorem NV_bipush {n : Int} {v : Int32} (hd : decode M.2.1 pc = .ok (.bipush n, 2)) (hv : (Int8.ofInt n).toInt32 = v) (kk : NV E d M G (pc + 2) lv (.int v :: st) L k z) : NV E d M G pc lv st L k z :=
  fun p e s m args below meth c H locs ls C hP hS hl => lv_bipush C.1 C.2.1 hd hv (kk p e s m args below meth c H locs ls C hP hS hl)
theorem NV_sipush {n : Int} {v : Int32} (hd : decode M.2.1 pc = .ok (.sipush n, 3)) (hv : (Int16.ofInt n).toInt32 = v) (kk : NV E d M G (pc + 3) lv (.int v :: st) L k z) : NV E d M G pc lv st L k z :=
  fun p e s m args below meth c H locs ls C hP hS hl => lv_sipush C.1 C.2.1 hd hv (kk p e s m args below meth c H locs ls C hP hS hl)
theorem NV_lconst {n : Fin 2} {v : Int64} (hd : decode M.2.1 pc = .ok (.lconst n, 1)) (hv : Int64.ofNat (n : Nat) = v) (kk : NV E d M G (pc + 1) lv (.long v :: st) L k z) : NV E d M G pc lv st L k z :=
  fun p e s m args below meth c H locs ls C hP hS hl => lv_lconst C.1 C.2.1 hd hv (kk p e s m args below meth c H locs ls C hP hS hl)
theorem NV_dup {a : Value} (hd : decode M.2.1 pc = .ok (.dup, 1)) (ha : a.category = 1) (kk : NV E d M G (pc + 1) lv (a :: a :: st) L k z) : NV E d M G pc lv (a :: st) L k z :=
  fun p e s m args below meth c H locs ls C hP hS hl => lv_dup C.1 C.2.1 hd ha (kk p e s m args below meth c H locs ls C hP hS hl)
theorem NV_aload_n {n : Fin 4} (j : Nat) {x : Nat} (hd : decode M.2.1 pc = .ok (.aload_n n, 1)) (h : lv[j]? = some ((n : Nat), .ref x)) (kk : NV E d M G (pc + 1) lv (.ref x :: st) L k z) : NV E d M G pc lv st L k z :=
  fun p e s m args below meth c H locs ls C hP hS hl => lv_aload_n C.1 C.2.1 hd rfl (lv_at hl j h) (kk p e s m args below meth c H locs ls C hP hS hl)
theorem NV_iload_n {n : Fin 4} (j : Nat) {x : Int32} (hd : decode M.2.1 pc = .ok (.iload_n n, 1)) (h : lv[j]? = some ((n : Nat), .int x)) (kk : NV E d M G (pc + 1) lv (.int x :: st) L k z) : NV E d M G pc lv st L k z :=
  fun p e s m args below meth c H locs ls C hP hS hl => lv_iload_n C.1 C.2.1 hd rfl (lv_at hl j h) (kk p e s m args below meth c H locs ls C hP hS hl)
theorem NV_istore_n {n : Fin 4} {x : Int32} {lv' : List (Nat × Value)} (hd : decode M.2.1 pc = .ok (.istore_n n, 1)) (hn : (n : Nat) < M.2.2.1) (hlv : st1 (n : Nat) (.int x) lv = lv') (kk : NV E d M G (pc + 1) lv' st L k z) : NV E d M G pc lv (.int x :: st) L k z :=
  fun p e s m args below meth c H locs ls C hP hS hl => lv_istore_n C.1 C.2.1 hd rfl hl hn hlv (fun ls hl => kk p e s m args below meth c H locs ls C hP hS hl)
theorem NV_iinc {i : Nat} (j : Nat) {n : Int} {x w : Int32} {lv' : List (Nat × Value)} (hd : decode M.2.1 pc = .ok (.iinc i n, 3)) (h : lv[j]? = some (i, .int x)) (hw : x + Int32.ofInt n = w) (hn : i < M.2.2.1) (hlv : st1 i (.int w) lv = lv') (kk : NV E d M G (pc + 3) lv' st L k z) : NV E d M G pc lv st L k z :=
  fun p e s m args below meth c H locs ls C hP hS hl => lv_iinc (k := j) (v := w) C.1 C.2.1 hd hl h hw hn hlv (fun ls hl => kk p e s m args below meth c H locs ls C hP hS hl)
theorem NV_goto {tgt : Nat} {off : Int} (hd : decode M.2.1 pc = .ok (.goto off, 3)) (ht : (pc : Int) + off = (tgt : Int)) (kk : NV E d M G tgt lv st L k z) : NV E d M G pc lv st L k z :=
  fun p e s m args below meth c H locs ls C hP hS hl => lv_goto C.1 C.2.1 hd ht (kk p e s m args below meth c H locs ls C hP hS hl)
theorem NV_icmp_ge {tgt : Nat} {off : Int} {x y : Int32} (hd : decode M.2.1 pc = .ok (.if_icmp .ge off, 3)) (ht : (pc : Int) + off = (tgt : Int)) (kt : y ≤ x → NV E d M G tgt lv st L k z) (kf : ¬ (y ≤ x) → NV E d M G (pc + 3) lv st L k z) : NV E d M G pc lv (.int y :: .int x :: st) L k z :=
  fun p e s m args below meth c H locs ls C hP hS hl => lv_icmp_ge C.1 C.2.1 hd ht (fun h => kt h p e s m args below meth c H locs ls C hP hS hl) (fun h => kf h p e s m args below meth c H locs ls C hP hS hl)
theorem NV_loc {lv' : List (Nat × Value)} (ks : List Nat) (h : lv_pick lv ks = lv') (kk : NV E d M G pc lv' st L k z) : NV E d M G pc lv st L k z :=
  fun p e s m args below meth c H locs ls C hP hS hl => kk p e s m args below meth c H locs ls C hP hS (lv_sub hl ks h)
set_option maxRecDepth 100000 in
theorem oi_in : Cond.instanceMethod objectInit ∈ gt := gt_1 23 rfl rfl
set_option maxRecDepth 100000 in
theorem oc_in : Cond.code objectInit ⟨#[0xb1]⟩ 1 none ∈ gt := gt_1 24 rfl rfl
theorem NV_obj {idx a : Nat} (hd : decode M.2.1 pc = .ok (.invokespecial idx, 3)) (hl1 : Cond.methodLink M.1.cls idx objectInit ∈ gt) (kk : NV E d M G (pc + 3) lv [] L k z) : NV E d M G pc lv [.ref a] L k z :=
  fun p e s m args below meth c H locs ls C hP hS hl => W.objInit C.1 C.2.1 C.2.2.2.2.2.1 (C.2.2.2.2.2.2.1 _ hl1) (C.2.2.2.2.2.2.1 _ oi_in) (C.2.2.2.2.2.2.1 _ oc_in) rfl (hl.1.trans C.2.2.1.symm) rfl hd (by show 1 ≤ d + 1; omega) (by show 2 * 0 + 0 + 12 ≤ 64 * (d + 1); omega) (kk p e s m args below meth c H locs ls C hP hS hl)
theorem NV_newa {t N : Nat} {n : Int32} {at_ : ArrayType} {a : Nat} {a0 : vp_A} {L' : List va_E} (hd : decode M.2.1 pc = .ok (.newarray at_, 2)) (hw : Cond.arrayClass (newarray.typeOf at_) ∈ gt) (ht : ∀ s, zK E.2.1 E.2.2 s → s.vm.findClass ("[" ++ (newarray.typeOf at_).toString) = some (E.2.2 t)) (ha : ∀ c, vp_cell c a0 = arrV c N (fun _ => defaultValue (newarray.typeOf at_))) (hn : ¬ n < 0) (hN : n.toNatClampNeg = N) (hby : N * componentBytes (newarray.typeOf at_) ≤ 536870912) (hk : k + 1 ≤ G.2.2.1) (hz : z + N ≤ G.2.2.2) (haL : G.1 + L.length = a) (hL : L ++ [.inl (E.2.2 t, a0)] = L')
    (kk : NV E d M G (pc + 2) lv (.ref a :: st) L' (k + 1) (z + N)) : NV E d M G pc lv (.int n :: st) L k z := by
  intro p e s m args below meth c H locs ls C hP hS hl
  refine va_newaK C.1 C.2.1 (C.2.2.2.2.2.2.1 _ hw) rfl hd rfl hn hN hby hk hz (h := a) (hP.1.trans haL) (fun H1 c1 e1 z1 o1 hAr hNm => ?_)
  have hc : c1 = E.2.2 t := Option.some.inj (hNm.symm.trans (ht s C.2.2.2.2.2.2.2.1.1))
  subst hc
  refine kk p e s m args below meth c H1 locs ls C ?_ ⟨fun q hq => (o1 q (by omega)).trans (hS.1 q hq), hS.2⟩ hl
  rw [← hL]
  refine nP_app hP.2 (fun q hq => o1 q (by omega)) (nP_one (by rw [z1]; omega) ?_)
  show H1[G.1 + L.length]? = some (vp_cell _ _)
  rw [haL, ha]
  exact e1
theorem NV_newI {N a : Nat} {n : Int32} {L' : List va_E} (hd : decode M.2.1 pc = .ok (.newarray .int, 2)) (hw : Cond.arrayClass .int ∈ gt) (hn : ¬ n < 0) (hN : n.toNatClampNeg = N) (hby : N ≤ 1000) (hk : k + 1 ≤ G.2.2.1) (hz : z + N ≤ G.2.2.2) (haL : G.1 + L.length = a) (hL : L ++ [.inl (E.2.2 0, (N, .inl fun _ => 0))] = L') (kk : NV E d M G (pc + 2) lv (.ref a :: st) L' (k + 1) (z + N)) : NV E d M G pc lv (.int n :: st) L k z :=
  NV_newa (t := 0) hd hw (fun s h => (h.1.2 0 _ rfl).2) (fun c => rfl) hn hN (by show N * 4 ≤ _; omega) hk hz haL hL kk
theorem NV_newJ {N a : Nat} {n : Int32} {L' : List va_E} (hd : decode M.2.1 pc = .ok (.newarray .long, 2)) (hw : Cond.arrayClass .long ∈ gt) (hn : ¬ n < 0) (hN : n.toNatClampNeg = N) (hby : N ≤ 1000) (hk : k + 1 ≤ G.2.2.1) (hz : z + N ≤ G.2.2.2) (haL : G.1 + L.length = a) (hL : L ++ [.inl (E.2.2 1, (N, .inr (.inl fun _ => 0)))] = L') (kk : NV E d M G (pc + 2) lv (.ref a :: st) L' (k + 1) (z + N)) : NV E d M G pc lv (.int n :: st) L k z :=
  NV_newa (t := 1) hd hw (fun s h => (h.1.2 1 _ rfl).2) (fun c => rfl) hn hN (by show N * 8 ≤ _; omega) hk hz haL hL kk
theorem NV_newZ {N a : Nat} {n : Int32} {L' : List va_E} (hd : decode M.2.1 pc = .ok (.newarray .boolean, 2)) (hw : Cond.arrayClass .boolean ∈ gt) (hn : ¬ n < 0) (hN : n.toNatClampNeg = N) (hby : N ≤ 1000) (hk : k + 1 ≤ G.2.2.1) (hz : z + N ≤ G.2.2.2) (haL : G.1 + L.length = a) (hL : L ++ [.inl (E.2.2 2, (N, .inl fun _ => 0))] = L') (kk : NV E d M G (pc + 2) lv (.ref a :: st) L' (k + 1) (z + N)) : NV E d M G pc lv (.int n :: st) L k z :=
  NV_newa (t := 2) hd hw (fun s h => (h.1.2 2 _ rfl).2) (fun c => rfl) hn hN (by show N * 1 ≤ _; omega) hk hz haL hL kk
/-- what is known of a made thing's kind: its row, its words, its first fields -/
def clOk (ci N : Nat) (Cn : String) (fs : List Value) : Prop := ∃ (T : u_T) (ty : Nat → FieldType), vwCl[ci]? = some (Cn, T, N) ∧ (∀ w ∈ u_ws Cn T N, w ∈ gt) ∧ (∀ j, j < N → parseFieldDescriptor (T j).2.2.1 = some (ty j)) ∧ (∀ j, j < N → defaultValue (ty j) = vp_V fs j) ∧ Cond.instantiable Cn N ∈ gt ∧ Cond.initialized Cn ∈ gt
theorem NV_new {idx ci N a : Nat} {Cn : String} {fs : List Value} {L' : List va_E} (hd : decode M.2.1 pc = .ok (.new idx, 3)) (hc1 : Cond.classLink M.1.cls idx Cn ∈ gt) (hO : clOk ci N Cn fs) (hk : k + 1 ≤ G.2.2.1) (hz : z + N ≤ G.2.2.2) (haL : G.1 + L.length = a) (hL : L ++ [.inr (ci, fs)] = L')
    (kk : NV E d M G (pc + 3) lv (.ref a :: st) L' (k + 1) (z + N)) : NV E d M G pc lv st L k z := by
  intro p e s m args below meth c H locs ls C hP hS hl
  obtain ⟨T, ty, hc, hin, hty, hfs, hi, hn⟩ := hO
  have hts := C.2.2.2.2.2.2.1
  have hKn := C.2.2.2.2.2.2.2.1.1.1.1 ci _ hc
  refine W.newcK C.1 C.2.1 C.2.2.2.2.2.1 (hts _ hc1) (hts _ hi) (hts _ hn) rfl hd hk hz hKn.2.1 (h := a) (hP.1.trans haL) (fun H1 kC hkC e1 z1 o1 => ?_)
  refine kk p e s m args below meth c H1 locs ls C ?_ ⟨fun q hq => (o1 q (by omega)).trans (hS.1 q hq), hS.2⟩ hl
  rw [← hL]
  refine nP_app hP.2 (fun q hq => o1 q (by omega)) (nP_one (by rw [z1]; omega) ?_)
  rw [← haL] at e1
  exact ⟨_, hc, (u_born ty hts hin hKn hkC e1 hty).to hfs⟩
/-- a final field may be written by its own constructor -/
def pfOk (own : String) (ci kf : Nat) (ty : FieldType) : Prop := ∃ (q : vw_C) (ty0 : Nat → FieldType), vwCl[ci]? = some q ∧ (∀ k, k < q.2.2 → parseFieldDescriptor (q.2.1 k).2.2.1 = some (ty0 k)) ∧ (∀ a, a < q.2.2 → ∀ b, b < q.2.2 → a ≠ b → (q.2.1 a).2.1 ≠ (q.2.1 b).2.1) ∧ (q.2.1 kf).2.2.2 = true ∧ (q.2.1 kf).1 = own ∧ parseFieldDescriptor (q.2.1 kf).2.2.1 = some ty
theorem NV_putF {idx ci kf q0 a : Nat} {ty : FieldType} {v : Value} {fs : List Value} {L' : List va_E} (hd : decode M.2.1 pc = .ok (.putfield idx, 3)) (F : fldOk M.1.cls idx ci kf) (P : pfOk M.1.cls ci kf ty) (hnm : M.1.name = "<init>") (he : L[q0]? = some (.inr (ci, fs))) (hlf : kf < fs.length) (hn : narrow ty v = v) (hfit : fits ty v = true) (ha : G.1 + q0 = a) (hL : L.set q0 (.inr (ci, fs.set kf v)) = L')
    (kk : NV E d M G (pc + 3) lv st L' k z) : NV E d M G pc lv (v :: .ref a :: st) L k z := by
  intro p e s m args below meth c H locs ls C hP hS hl
  subst ha
  obtain ⟨⟨Cn, T, N⟩, h1, h2, h3, h4⟩ := F
  obtain ⟨q, ty0, g1, g2, g3, g4, g6, g5⟩ := P
  have hq : q = (Cn, T, N) := Option.some.inj (g1.symm.trans h1)
  subst hq
  have hts := C.2.2.2.2.2.2.1
  have hK := C.2.2.2.2.2.2.2.1.1.1
  have hown := C.2.2.2.2.2.1
  have hap := va_apart (own := M.1.cls) hts h4 ty0 g2 g3 hK h1
  obtain ⟨r, hr, cell, q1, q2, q3, q4⟩ := hP.2 q0 _ he
  have hrr : r = (Cn, T, N) := Option.some.inj (hr.symm.trans h1)
  subst hrr
  obtain ⟨hSl, hfc, kC, hkC, hkind⟩ := hK.1 ci _ h1
  obtain ⟨cf, kF, fi, f, hi, hsl⟩ := hSl kf h2
  have hlay := hts _ (h4 _ (u_in_lay h2))
  unfold u_lay at hlay
  rw [if_pos g4] at hlay
  have hst := (u_facts hfc hkC (u_lays hts h4 h2) hi).1
  have hcf : m.cls = cf := by
    obtain ⟨_, _, c', _, _, _, -, -, hf', -, -, -, hown2, -⟩ := Cond.laysFinal_spec hlay
    have e1 : c' = cf := by have := hi.symm.trans hf'; simp at this; exact this.1.symm
    rw [g6] at hown2
    rw [← e1]
    exact Option.some.inj (hown.symm.trans hown2)
  have h6 := u_fits hfc hkC hkind (Or.inr hlay) hi g5 hn hfit
  refine W.putFinK C.1 C.2.1 hown (hts _ h3) hi hst hcf (C.2.2.2.2.2.2.2.2.trans hnm) (by rw [q2]; exact h6) q1 q3 (by rw [hsl]; exact k2_hasslot (q4 kf h2)) rfl rfl hd (fun H' e1 e2 e3 => ?_)
  rw [hsl] at e1 ⊢
  refine kk p e s m args below meth c H' _ ls C ?_ ⟨fun q hq => (e3 q (show q ≠ G.1 + q0 by omega)).trans (hS.1 q hq), fun q hq => ?_⟩ hl
  · rw [← hL]
    exact nP_set hP e2 e3 (fun _ => ⟨_, h1, t_OB.to (V := updV (vp_V fs) kf v) ⟨_, e1, q2, q3, t_set q4 hap h2 v⟩ (fun j _ => vp_updV_set hlf v j)⟩)
  · rcases List.mem_append.mp hq with h | h
    · exact hS.2 q h
    · rw [List.mem_singleton.mp h]
      exact Nat.le_add_right _ _
theorem NV_putN {idx ci kf q0 a : Nat} {ty : FieldType} {v : Value} {fs : List Value} {L' : List va_E} (hd : decode M.2.1 pc = .ok (.putfield idx, 3)) (F : fldOk M.1.cls idx ci kf) (P : putOk ci kf ty) (he : L[q0]? = some (.inr (ci, fs))) (hlf : kf < fs.length) (hn : narrow ty v = v) (hfit : fits ty v = true) (ha : G.1 + q0 = a) (hL : L.set q0 (.inr (ci, fs.set kf v)) = L')
    (kk : NV E d M G (pc + 3) lv st L' k z) : NV E d M G pc lv (v :: .ref a :: st) L k z := by
  intro p e s m args below meth c H locs ls C hP hS hl
  subst ha
  obtain ⟨⟨Cn, T, N⟩, h1, h2, h3, h4⟩ := F
  obtain ⟨q, ty0, g1, g2, g3, g4, g5⟩ := P
  have hq : q = (Cn, T, N) := Option.some.inj (g1.symm.trans h1)
  subst hq
  have hts := C.2.2.2.2.2.2.1
  have hK := C.2.2.2.2.2.2.2.1.1.1
  have hap := va_apart (own := M.1.cls) hts h4 ty0 g2 g3 hK h1
  obtain ⟨r, hr, cell, q1, q2, q3, q4⟩ := hP.2 q0 _ he
  have hrr : r = (Cn, T, N) := Option.some.inj (hr.symm.trans h1)
  subst hrr
  obtain ⟨hSl, hfc, kC, hkC, hkind⟩ := hK.1 ci _ h1
  obtain ⟨cf, kF, fi, f, hi, hsl⟩ := hSl kf h2
  have hlay := hts _ (h4 _ (u_in_lay h2))
  unfold u_lay at hlay
  rw [if_neg (by rw [g4]; decide)] at hlay
  have hst := (u_facts hfc hkC (u_lays hts h4 h2) hi).1
  have h6 := u_store hfc hkC hkind hlay hi g5 hn hfit
  refine W.putK C.1 C.2.1 (f := f) ⟨C.2.2.2.2.2.1, hts _ h3, ⟨_, _, _, hi⟩, hst⟩ (by rw [q2]; exact h6) q1 q3 (by rw [hsl]; exact k2_hasslot (q4 kf h2)) rfl rfl hd (fun H' e1 e2 e3 => ?_)
  rw [hsl] at e1 ⊢
  refine kk p e s m args below meth c H' _ ls C ?_ ⟨fun q hq => (e3 q (show q ≠ G.1 + q0 by omega)).trans (hS.1 q hq), fun q hq => ?_⟩ hl
  · rw [← hL]
    exact nP_set hP e2 e3 (fun _ => ⟨_, h1, t_OB.to (V := updV (vp_V fs) kf v) ⟨_, e1, q2, q3, t_set q4 hap h2 v⟩ (fun j _ => vp_updV_set hlf v j)⟩)
  · rcases List.mem_append.mp hq with h | h
    · exact hS.2 q h
    · rw [List.mem_singleton.mp h]
      exact Nat.le_add_right _ _
theorem NV_get {idx ci kf q0 a : Nat} {v : Value} {fs : List Value} (hd : decode M.2.1 pc = .ok (.getfield idx, 3)) (F : fldOk M.1.cls idx ci kf) (he : L[q0]? = some (.inr (ci, fs))) (hv : fs[kf]? = some v) (ha : G.1 + q0 = a) (kk : NV E d M G (pc + 3) lv (v :: st) L k z) : NV E d M G pc lv (.ref a :: st) L k z := by
  intro p e s m args below meth c H locs ls C hP hS hl
  subst ha
  obtain ⟨⟨Cn, T, N⟩, h1, h2, h3, h4⟩ := F
  exact va_get C.1 C.2.1 C.2.2.2.2.2.2.1 h4 C.2.2.2.2.2.1 C.2.2.2.2.2.2.2.1.1.1 (nP_sing hP he) 0 rfl h1 kf h2 (C.2.2.2.2.2.2.1 _ h3) (fun x h => h) hv hd (kk p e s m args below meth c H locs ls C hP hS hl)
theorem NV_alen {q0 a N : Nat} {v : Int32} {f : Nat → Int32} (hd : decode M.2.1 pc = .ok (.arraylength, 1)) (he : L[q0]? = some (.inl (E.2.2 0, (N, .inl f)))) (hv : Int32.ofNat N = v) (ha : G.1 + q0 = a) (kk : NV E d M G (pc + 1) lv (.int v :: st) L k z) : NV E d M G pc lv (.ref a :: st) L k z := by
  intro p e s m args below meth c H locs ls C hP hS hl
  subst ha
  exact va_alen C.1 C.2.1 C.2.2.2.2.2.2.2.1.1.1 (nP_sing hP he) 0 0 rfl rfl hv hd (kk p e s m args below meth c H locs ls C hP hS hl)
theorem NV_iast {q0 a N : Nat} {i x : Int32} {f : Nat → Int32} {L' : List va_E} (hd : decode M.2.1 pc = .ok (.iastore, 1)) (he : L[q0]? = some (.inl (E.2.2 0, (N, .inl f)))) (hi : vp_in i N) (ha : G.1 + q0 = a) (hL : L.set q0 (.inl (E.2.2 0, (N, .inl (upd f i.toNatClampNeg x)))) = L') (kk : NV E d M G (pc + 1) lv st L' k z) : NV E d M G pc lv (.int x :: .int i :: .ref a :: st) L k z := by
  intro p e s m args below meth c H locs ls C hP hS hl
  subst ha
  refine W.iast C.1 C.2.1 (hP.2 q0 _ he) ((C.2.2.2.2.2.2.2.1.1.1.2 0 _ rfl).1 N (fun j => .int (f j))) (fun q => by cases q) (by show ¬ (i < 0 ∨ (arrV _ _ _).slots.size ≤ _); rw [arrV_size]; exact hi) rfl rfl hd (fun H1 e1 z1 oq => ?_)
  refine kk p e s m args below meth c H1 _ ls C ?_ ⟨fun q hq => (oq q (show q ≠ G.1 + q0 by omega)).trans (hS.1 q hq), fun q hq => ?_⟩ hl
  · rw [← hL]
    refine nP_set hP z1 oq (fun _ => ?_)
    show H1[G.1 + q0]? = some (vp_cell _ _)
    rw [e1]
    rw [vp_cell_i, vp_cell_i, arrV_store]
    congr 2
    funext q
    by_cases hq : q = i.toNatClampNeg
    · subst hq
      simp [updV, upd]
    · simp [updV, upd, hq]
  · rcases List.mem_append.mp hq with h | h
    · exact hS.2 q h
    · rw [List.mem_singleton.mp h]
      exact Nat.le_add_right _ _
theorem arrV_ext {cI : ClassId} {N : Nat} {f g : Nat → Value} (h : ∀ j, j < N → f j = g j) : arrV cI N f = arrV cI N g := by
  unfold arrV
  congr 1
  apply Array.ext
  · simp
  · intro j h1 h2
    simp only [Array.getElem_ofFn]
    exact h j (by simpa using h1)
/-- another name of an array's cells -/
theorem NV_same {q0 N : Nat} {f g : Nat → Int32} {L' : List va_E} (he : L[q0]? = some (.inl (E.2.2 0, (N, .inl f)))) (hfg : ∀ j, j < N → f j = g j) (hL : L.set q0 (.inl (E.2.2 0, (N, .inl g))) = L') (kk : NV E d M G pc lv st L' k z) : NV E d M G pc lv st L k z := by
  intro p e s m args below meth c H locs ls C hP hS hl
  refine kk p e s m args below meth c H locs ls C ?_ hS hl
  rw [← hL]
  refine nP_set hP rfl (fun _ _ => rfl) (fun _ => ?_)
  have h1 := hP.2 q0 _ he
  show H[G.1 + q0]? = some (vp_cell _ _)
  rw [show H[G.1 + q0]? = some (vp_cell (E.2.2 0) (N, .inl f)) from h1, vp_cell_i, vp_cell_i, arrV_ext (fun j hj => by rw [hfg j hj])]
theorem nI3 : "[" ++ (FieldType.array .int).toString = "[[I" := by decide +kernel
theorem NV_rows {idx M' a : Nat} {kx : Int32} {L' : List va_E} (hd : decode M.2.1 pc = .ok (.multianewarray idx 2, 4)) (hc1 : Cond.classLink M.1.cls idx "[[I" ∈ gt) (h0 : ¬ kx < 0) (hM : kx.toNatClampNeg = M') (hMb : M' ≤ 1000) (hk : k + 5 ≤ G.2.2.1) (hz : z + (4 + 4 * M') ≤ G.2.2.2) (haL : G.1 + L.length = a)
    (hL : L ++ [.inl (E.2.2 3, (4, .inr (.inr (.inr (.inr fun i => some (a + 1 + i)))))), .inl (E.2.2 0, (M', .inl fun _ => 0)), .inl (E.2.2 0, (M', .inl fun _ => 0)), .inl (E.2.2 0, (M', .inl fun _ => 0)), .inl (E.2.2 0, (M', .inl fun _ => 0))] = L')
    (kk : NV E d M G (pc + 4) lv (.ref a :: st) L' (k + 5) (z + (4 + 4 * M'))) : NV E d M G pc lv (.int kx :: .int 4 :: st) L k z := by
  intro p e s m args below meth c H locs ls C hP hS hl
  have hts := C.2.2.2.2.2.2.1
  obtain ⟨hzK, -, kA, kI, ci, a1, a2, a3, a4⟩ := C.2.2.2.2.2.2.2.1
  have hA : s.vm.findClass "[[I" = some (E.2.2 3) := by
    rw [← nI3]
    exact (hzK.1.2 3 _ rfl).2
  have haH : H.size = a := hP.1.trans haL
  refine W_rows C.1 C.2.1 C.2.2.2.2.2.1 (hts _ hc1) hA a1 a2 a3 a4 h0 hM hMb hk hz hd (fun H1 Lc z1 e1 o1 r1 hb1 => ?_)
  rw [haH] at z1 e1 o1 r1 hb1 ⊢
  refine kk p e s m args below meth c H1 _ ls C ?_ ⟨fun q hq => (o1 q (by omega)).trans (hS.1 q hq), fun q hq => ?_⟩ hl
  · rw [← hL]
    refine nP_app hP.2 (fun q hq => o1 q (by omega)) ⟨by rw [z1]; show a + 5 = G.1 + L.length + 5; omega, fun j x hj => ?_⟩
    rw [haL]
    have hrow : ∀ i, i < 4 → va_at E.2.1 vwCl (a + (1 + i), .inl (E.2.2 0, (M', .inl fun _ => 0))) H1 := fun i hi => by
      show H1[a + (1 + i)]? = some (vp_cell _ _)
      rw [← Nat.add_assoc, r1 i hi]
      rfl
    match j, hj with
    | 0, hj =>
      cases hj
      show H1[a]? = some (vp_cell _ _)
      rw [e1, vp_cell_q]
      unfold mO
      rw [arrV_ext (fun j hj => by rw [if_pos hj])]
      rfl
    | 1, hj => cases hj; exact hrow 0 (by omega)
    | 2, hj => cases hj; exact hrow 1 (by omega)
    | 3, hj => cases hj; exact hrow 2 (by omega)
    | 4, hj => cases hj; exact hrow 3 (by omega)
  · rcases List.mem_append.mp hq with h | h
    · exact hS.2 q h
    · rw [hb1 q h]
      omega
theorem NV_ret (hd : decode M.2.1 pc = .ok (.return_, 1)) (hr : M.2.2.2 = none) (hk : k ≤ G.2.2.1) (hz : z ≤ G.2.2.2) (hL : L = G.2.1) : NV E d M G pc lv [] L k z :=
  fun p e s m args below meth c H locs ls C hP hS hl => W.widen (k := G.2.2.1) (n := G.2.2.2) hk hz (W.vret C.1 C.2.1 (C.2.2.2.1.trans hr) (fun t ht _ => ⟨rfl, by rw [ht, ← hL]; exact hP, fun q hq => by rw [ht]; exact hS.1 q hq⟩) (fun q hq => hS.2 q hq) hd C.2.2.2.2.1)
def nPre (E : Nv) (b : Nat) (As : List Value) (L0 : List va_E) : Array Value → State → Prop := fun v U => v = As.toArray ∧ nK E.2.1 E.2.2 U ∧ nP E.2.1 b L0 U.heap
theorem nPre_blind {b : Nat} {As : List Value} {L0 : List va_E} : FrameBlind (nPre E b As L0) := fun a U g mk q => ⟨q.1, q.2.1.same rfl, q.2.2⟩
theorem NV_met (As : List Value) {L0 : List va_E} (hy : plainFor M.1 = true) (hlen : (lg_sl As).length ≤ M.2.2.1) (h : NV E d M G 0 (lv_args 0 As) [] L0 0 0) : Met E.1 M.1 (wsM M) (nqR d G.2.2.1 G.2.2.2) (nPre E G.1 As L0) (nQ E G.1 G.2.1) G.2.2.1 G.2.2.2 (fun q => G.1 ≤ q) := by
  refine met_ofWF (cc := M.2.1) (maxL := M.2.2.1) (ret := M.2.2.2) hy rfl ?_
  intro p e s m args below meth c s₁ B hml hv
  obtain ⟨rfl, hK, hP⟩ := hv
  have hts := atoms_spec (ws := wsM M) B.pre
  have hl := lv_entry As (n := M.2.2.1) hlen
  rw [lg_entry_eq]
  exact h p e s m _ below meth c s.heap [] _ ⟨B.exec, B.bytes, hml, B.returns, B.notSynchronized, findClass_of_methodNamed B.named, fun w hw => hts w (List.mem_cons_of_mem _ hw), hK, (name_of_methodNamed B.named B.method).1⟩ hP ⟨fun _ _ => rfl, fun q hq => absurd hq List.not_mem_nil⟩ hl
theorem NV_run {L0 Lc LF L' : List va_E} {mc ms b' : Nat} {stk rest : List Value} {as : Array Value} (hb : G.1 + L0.length = b')
    (hr : ∀ (p : Program) (e : Env) (s : State) (m : MethodId) (args : Array Value) (below : List Frame) (meth : Method) (c : Code) (H : Heap) (locs : List Loc) (ls : Array Slot), Nx E M p s m args meth c → nP E.2.1 b' Lc H → lv_has ls M.2.2.1 lv → va_Run p E.1 e (nqR d G.2.2.1 G.2.2.2) s m args below meth c H locs k z mc ms (F0 m pc ls stk) rest (nQ E b' LF as) (fun q => b' ≤ q))
    (hL : L0 ++ LF = L') (kk : NV E d M G (pc + 3) lv rest L' (k + mc) (z + ms)) : NV E d M G pc lv stk (L0 ++ Lc) k z := by
  intro p e s m args below meth c H locs ls C hP hS hl T hT X
  have hPc : nP E.2.1 b' Lc H := by
    refine ⟨by rw [hP.1, List.length_append]; omega, fun j x hj => ?_⟩
    have := hP.2 (L0.length + j) x (by rw [List.getElem?_append_right (by omega), show L0.length + j - L0.length = j by omega]; exact hj)
    rw [show G.1 + (L0.length + j) = b' + j by omega] at this
    exact this
  obtain ⟨v, st₀, t, T', Lo, h0, X', hLo, e1, e2, ⟨hv, hP', hk⟩, hgo⟩ := hr p e s m args below meth c H locs ls C hPc hl T hT X
  cases hv
  rw [h0] at hk
  obtain ⟨t2, c1, c2⟩ := kk p e s m args below meth c T'.heap (locs ++ Lo) ls C (by
      rw [← hL, e1]
      subst hb
      refine nP_app (H := H) (fun j x hj => hP.2 j x (by rw [List.getElem?_append_left (List.getElem?_eq_some_iff.mp hj).1]; exact hj)) (fun q hq => hk q hq) hP')
    ⟨fun q hq => by rw [e1, hk q (by omega)]; exact hS.1 q hq, fun q hq => by
      rcases List.mem_append.mp hq with h | h
      · exact hS.2 q h
      · have := hLo q h
        omega⟩ hl T' rfl X'
  exact ⟨t2, hgo t2 c1, c2⟩
theorem nm_fit {d d' n mc ms mc' ms' : Nat} (h : d' < d) (hn : n ≤ 40) : (nqR d' mc' ms').frames + 1 ≤ (nqR d mc ms).frames ∧ 8 + (n + 11) + (nqR d' mc' ms').locals ≤ (nqR d mc ms).locals := ⟨by show d' + 1 + 1 ≤ d + 1; omega, by show 8 + (n + 11) + 64 * (d' + 1) ≤ 64 * (d + 1); omega⟩
theorem NV_callI {d' idx n b' mc ms : Nat} {y : MethodName} {cb : ByteArray} {mL : Nat} {As stk rest : List Value} {L0 Lc LF L' : List va_E} (hd : decode M.2.1 pc = .ok (.invokespecial idx, 3)) (hl1 : Cond.methodLink M.1.cls idx y ∈ gt) (hi : Cond.instanceMethod y ∈ gt) (K : kOk n (y, cb, mL, none)) (hnm : y.name = "<init>") (hdep : d' < d) (hn : As.length = n) (hstk : stk = As.reverse ++ .ref b' :: rest) (hlen : (lg_sl (.ref b' :: As)).length ≤ mL) (hroom : (rest.map fun v => v.category).sum ≤ 8) (hk : k + mc ≤ G.2.2.1) (hz : z + ms ≤ G.2.2.2)
    (hb : G.1 + L0.length = b') (hc : NV E d' (y, cb, mL, none) (b', LF, mc, ms) 0 (lv_args 0 (.ref b' :: As)) [] Lc 0 0) (hL0 : L = L0 ++ Lc) (hL : L0 ++ LF = L') (kk : NV E d M G (pc + 3) lv rest L' (k + mc) (z + ms)) : NV E d M G pc lv stk L k z := by
  subst hL0
  refine NV_run (LF := LF) (as := (Value.ref b' :: As).toArray) hb ?_ hL kk
  intro p e s m args below meth c H locs ls C hP hl
  have hts := C.2.2.2.2.2.2.1
  exact va_runI (As := As) (b := b') (rest := rest) ⟨C.1, C.2.1, C.2.2.1, C.2.2.2.2.2.1, hts⟩ (NV_met (G := (b', LF, mc, ms)) (.ref b' :: As) K.2.2.2.2 hlen hc) ⟨callB_of n hts (gt_good K.2.1) rfl rfl rfl (hts _ K.1) (hts _ hl1) K.2.2.1 (nm_fit hdep K.2.2.2.1), hnm, hts _ hi⟩ ⟨nPre_blind, fun U hU hW => ⟨rfl, C.2.2.2.2.2.2.2.1.warm hW, by rw [hU]; exact hP⟩⟩ rfl hn hl.1 hstk (lv_room hroom) hd ⟨hk, hz⟩
theorem NV_callN {d' idx n b' mc ms : Nat} {y : MethodName} {cb : ByteArray} {mL : Nat} {host : String} {As stk rest : List Value} {L0 Lc LF L' : List va_E} (hd : decode M.2.1 pc = .ok (.invokespecial idx, 3)) (hl1 : (M.1.cls, idx, y, host) ∈ neC) (hi : Cond.instanceMethod y ∈ gt) (K : kOk n (y, cb, mL, none)) (hnm : y.name = "<init>") (hdep : d' < d) (hn : As.length = n) (hstk : stk = As.reverse ++ .ref b' :: rest) (hlen : (lg_sl (.ref b' :: As)).length ≤ mL) (hroom : (rest.map fun v => v.category).sum ≤ 8) (hk : k + mc ≤ G.2.2.1) (hz : z + ms ≤ G.2.2.2)
    (hb : G.1 + L0.length = b') (hc : NV E d' (y, cb, mL, none) (b', LF, mc, ms) 0 (lv_args 0 (.ref b' :: As)) [] Lc 0 0) (hL0 : L = L0 ++ Lc) (hL : L0 ++ LF = L') (kk : NV E d M G (pc + 3) lv rest L' (k + mc) (z + ms)) : NV E d M G pc lv stk L k z := by
  subst hL0
  refine NV_run (LF := LF) (as := (Value.ref b' :: As).toArray) hb ?_ hL kk
  intro p e s m args below meth c H locs ls C hP hl
  have hts := C.2.2.2.2.2.2.1
  exact va_runIN (As := As) (b := b') (rest := rest) ⟨C.1, C.2.1, C.2.2.1, C.2.2.2.2.2.1, hts⟩ (NV_met (G := (b', LF, mc, ms)) (.ref b' :: As) K.2.2.2.2 hlen hc) ⟨va_cnB n hts (gt_good K.2.1) rfl rfl rfl (C.2.2.2.2.2.2.2.1.2.1 _ hl1) (hts _ K.1) K.2.2.1 (nm_fit hdep K.2.2.2.1), hnm, hts _ hi⟩ ⟨nPre_blind, fun U hU hW => ⟨rfl, C.2.2.2.2.2.2.2.1.warm hW, by rw [hU]; exact hP⟩⟩ rfl hn hl.1 hstk (lv_room hroom) hd ⟨hk, hz⟩
theorem NV_callS {d' idx n : Nat} {y : MethodName} {cb : ByteArray} {mL : Nat} {As stk rest : List Value} {LF : List va_E} (hd : decode M.2.1 pc = .ok (.invokestatic idx, 3)) (hl1 : Cond.methodLink M.1.cls idx y ∈ gt) (hi : Cond.static y ∈ gt) (K : kOk n (y, cb, mL, none)) (hdep : d' < d) (hn : As.length = n) (hstk : stk = As.reverse ++ rest) (hlen : (lg_sl As).length ≤ mL) (hroom : (rest.map fun v => v.category).sum ≤ 8) (hk : k ≤ G.2.2.1) (hz : z ≤ G.2.2.2)
    (hc : NV E d' (y, cb, mL, none) (G.1, LF, 0, 0) 0 (lv_args 0 As) [] L 0 0) (kk : NV E d M G (pc + 3) lv rest LF k z) : NV E d M G pc lv stk L k z := by
  refine NV_run (L0 := []) (Lc := L) (LF := LF) (L' := LF) (mc := 0) (ms := 0) (as := As.toArray) rfl ?_ rfl kk
  intro p e s m args below meth c H locs ls C hP hl
  have hts := C.2.2.2.2.2.2.1
  exact va_runS (As := As) (rest := rest) ⟨C.1, C.2.1, C.2.2.1, C.2.2.2.2.2.1, hts⟩ (NV_met (G := (G.1, LF, 0, 0)) As K.2.2.2.2 hlen hc) ⟨callB_of n hts (gt_good K.2.1) rfl rfl rfl (hts _ K.1) (hts _ hl1) K.2.2.1 (nm_fit hdep K.2.2.2.1), hts _ hi⟩ ⟨nPre_blind, fun U hU hW => ⟨rfl, C.2.2.2.2.2.2.2.1.warm hW, by rw [hU]; exact hP⟩⟩ rfl hn hl.1 hstk (lv_room hroom) hd ⟨hk, hz⟩
end NVR

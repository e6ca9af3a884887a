/-! THE STORE: ints and longs, by cell and place; the world of both objects by the store; the judgement V: the machine inside a method, its context hidden -/
abbrev Sto : Type := (Nat → Nat → Int32) × (Nat → Nat → Int64)
def wA (σ : Sto) (c : Nat) (f : Nat → Int32) : Sto := (fun c' => if c' = c then f else σ.1 c', σ.2)
def wJ (σ : Sto) (c : Nat) (f : Nat → Int64) : Sto := (σ.1, fun c' => if c' = c then f else σ.2 c')
def wI (σ : Sto) (c i : Nat) (v : Int32) : Sto := wA σ c (upd (σ.1 c) i v)
def wL (σ : Sto) (c i : Nat) (v : Int64) : Sto := wJ σ c (vp_updL (σ.2 c) i v)
def tr (ad : Nat → Nat) (v : Value) : Value := match v with
  | .ref a => .ref (ad a)
  | v => v
def trL (ad : Nat → Nat) (lv : List (Nat × Value)) : List (Nat × Value) := lv.map (fun q => (q.1, tr ad q.2))
theorem tr_cat (ad : Nat → Nat) (v : Value) : (tr ad v).category = v.category := by cases v <;> rfl
def zfv (ad : Nat → Nat) (σ : Sto) (c k : Nat) (f : Nat) : Value := match f with
  | 0 => .int (σ.1 c k)
  | 1 => .long (σ.2 c k)
  | r + 2 => .ref (ad r)
def zfs (ad : Nat → Nat) (σ : Sto) (c : Nat) : Nat → List Nat → List Value
  | _, [] => []
  | k, f :: t => zfv ad σ c k f :: zfs ad σ c (k + 1) t
def zar (ad : Nat → Nat) (σ : Sto) (c t N b : Nat) : vp_A := (N, match t with
  | 0 => .inl (σ.1 c)
  | 1 => .inr (.inl (σ.2 c))
  | 2 => .inl (σ.1 c)
  | _ => .inr (.inr (.inr (.inr (fun i => some (ad (b + i)))))))
def zce (ad : Nat → Nat) (cA : Nat → ClassId) (σ : Sto) (c : Nat) (s : Shp) : va_E := match s with
  | .inl (t, N, b) => .inl (cA t, zar ad σ c t N b)
  | .inr (ci, fs) => .inr (ci, zfs ad σ c 0 fs)
def zG (ad : Nat → Nat) (cA : Nat → ClassId) (σ : Sto) : va_W := (List.range gN).map (fun c => (ad c, zce ad cA σ c (gs c)))
theorem zG_get {ad : Nat → Nat} {cA : Nat → ClassId} {σ : Sto} {c : Nat} (h : c < gN) : (zG ad cA σ)[c]? = some (ad c, zce ad cA σ c (gs c)) := by
  unfold zG
  rw [List.getElem?_map, List.getElem?_range h]
  rfl
theorem zG_none {ad : Nat → Nat} {cA : Nat → ClassId} {σ : Sto} {c : Nat} (h : gN ≤ c) : (zG ad cA σ)[c]? = none := by
  refine List.getElem?_eq_none ?_
  unfold zG
  rw [List.length_map, List.length_range]
  exact h
theorem zfs_get (ad : Nat → Nat) (σ : Sto) (c : Nat) : ∀ (fs : List Nat) (k j : Nat), (zfs ad σ c k fs)[j]? = (fs[j]?).map (zfv ad σ c (k + j))
  | [], k, j => by simp [zfs]
  | f :: t, k, 0 => by simp [zfs]
  | f :: t, k, j + 1 => by
    simp only [zfs, List.getElem?_cons_succ]
    rw [zfs_get ad σ c t (k + 1) j, show k + 1 + j = k + (j + 1) by omega]
theorem zfs_congr {ad : Nat → Nat} {σ τ : Sto} {c : Nat} (h1 : σ.1 c = τ.1 c) (h2 : σ.2 c = τ.2 c) : ∀ (fs : List Nat) (k : Nat), zfs ad σ c k fs = zfs ad τ c k fs
  | [], k => rfl
  | f :: t, k => by
    simp only [zfs]
    rw [zfs_congr h1 h2 t (k + 1)]
    congr 1
    match f with
    | 0 => simp [zfv, h1]
    | 1 => simp [zfv, h2]
    | r + 2 => rfl
theorem zce_congr {ad : Nat → Nat} {cA : Nat → ClassId} {σ τ : Sto} {c : Nat} (h1 : σ.1 c = τ.1 c) (h2 : σ.2 c = τ.2 c) (s : Shp) : zce ad cA σ c s = zce ad cA τ c s := by
  rcases s with ⟨t, N, b⟩ | ⟨ci, fs⟩
  · simp only [zce, zar, h1, h2]
  · simp only [zce, zfs_congr h1 h2]
theorem zG_set {ad : Nat → Nat} {cA : Nat → ClassId} {σ τ : Sto} {c : Nat} {e : va_E} (hc : c < gN) (h : ∀ c', c' ≠ c → σ.1 c' = τ.1 c' ∧ σ.2 c' = τ.2 c') (he : e = zce ad cA τ c (gs c)) : (zG ad cA σ).set c (ad c, e) = zG ad cA τ := by
  apply List.ext_getElem?
  intro j
  have hlen : (zG ad cA σ).length = gN := by unfold zG; rw [List.length_map, List.length_range]
  by_cases hj : j < gN
  · by_cases e1 : c = j
    · subst e1
      rw [List.getElem?_set_self (by rw [hlen]; exact hc), zG_get hc, he]
    · rw [List.getElem?_set_ne e1, zG_get hj, zG_get hj, zce_congr (h j (Ne.symm e1)).1 (h j (Ne.symm e1)).2]
  · rw [List.getElem?_eq_none (by rw [List.length_set, hlen]; omega), zG_none (by omega)]
theorem wA_1 {σ : Sto} {c : Nat} {f : Nat → Int32} : (wA σ c f).1 c = f := by simp [wA]
theorem wA_o {σ : Sto} {c : Nat} {f : Nat → Int32} {c' : Nat} (h : c' ≠ c) : σ.1 c' = (wA σ c f).1 c' ∧ σ.2 c' = (wA σ c f).2 c' := by simp [wA, h]
theorem wJ_2 {σ : Sto} {c : Nat} {f : Nat → Int64} : (wJ σ c f).2 c = f := by simp [wJ]
theorem wJ_o {σ : Sto} {c : Nat} {f : Nat → Int64} {c' : Nat} (h : c' ≠ c) : σ.1 c' = (wJ σ c f).1 c' ∧ σ.2 c' = (wJ σ c f).2 c' := by simp [wJ, h]
theorem zfs_setI {ad : Nat → Nat} {σ : Sto} {c k : Nat} {v : Int32} {fs : List Nat} (h : fs[k]? = some 0) : (zfs ad σ c 0 fs).set k (.int v) = zfs ad (wI σ c k v) c 0 fs := by
  apply List.ext_getElem?
  intro j
  have hlen : ∀ (fs : List Nat) (n : Nat), (zfs ad σ c n fs).length = fs.length := by
    intro fs
    induction fs with
    | nil => intro n; rfl
    | cons a t ih => intro n; simp [zfs, ih]
  have hk : k < fs.length := (List.getElem?_eq_some_iff.mp h).1
  by_cases e1 : k = j
  · subst e1
    rw [List.getElem?_set_self (by rw [hlen]; exact hk), zfs_get, h]
    simp [zfv, wI, wA, upd]
  · rw [List.getElem?_set_ne e1, zfs_get, zfs_get]
    cases fs[j]? with
    | none => rfl
    | some f =>
      match f with
      | 0 => simp [zfv, wI, wA, upd, Ne.symm e1]
      | 1 => simp [zfv, wI, wA]
      | r + 2 => rfl
theorem zfs_setL {ad : Nat → Nat} {σ : Sto} {c k : Nat} {v : Int64} {fs : List Nat} (h : fs[k]? = some 1) : (zfs ad σ c 0 fs).set k (.long v) = zfs ad (wL σ c k v) c 0 fs := by
  apply List.ext_getElem?
  intro j
  have hlen : ∀ (fs : List Nat) (n : Nat), (zfs ad σ c n fs).length = fs.length := by
    intro fs
    induction fs with
    | nil => intro n; rfl
    | cons a t ih => intro n; simp [zfs, ih]
  have hk : k < fs.length := (List.getElem?_eq_some_iff.mp h).1
  by_cases e1 : k = j
  · subst e1
    rw [List.getElem?_set_self (by rw [hlen]; exact hk), zfs_get, h]
    simp [zfv, wL, wJ, vp_updL]
  · rw [List.getElem?_set_ne e1, zfs_get, zfs_get]
    cases fs[j]? with
    | none => rfl
    | some f =>
      match f with
      | 0 => simp [zfv, wL, wJ]
      | 1 => simp [zfv, wL, wJ, vp_updL, Ne.symm e1]
      | r + 2 => rfl
/-- the addresses of the world -/
def zA (ad : Nat → Nat) : Nat → Prop := fun q => ∃ c, c < gN ∧ q = ad c
def zinj (ad : Nat → Nat) : Prop := ∀ i j, i < gN → j < gN → ad i = ad j → i = j
theorem zD {ad : Nat → Nat} {cA : Nat → ClassId} {σ : Sto} (h : zinj ad) : va_D (zA ad) (zG ad cA σ) := by
  have key : ∀ (i : Nat) (p : Nat × va_E), (zG ad cA σ)[i]? = some p → i < gN ∧ p.1 = ad i := by
    intro i p hp
    by_cases hi : i < gN
    · rw [zG_get hi] at hp
      cases hp
      exact ⟨hi, rfl⟩
    · rw [zG_none (by omega)] at hp
      cases hp
  refine ⟨fun i j p q hp hq e => ?_, fun k q hq => ?_⟩
  · obtain ⟨h1, e1⟩ := key i p hp
    obtain ⟨h2, e2⟩ := key j q hq
    exact h i j h1 h2 (by rw [← e1, ← e2]; exact e)
  · obtain ⟨h1, e1⟩ := key k q hq
    exact ⟨k, h1, e1⟩
/-- classes, array classes, links of nest mates -/
def zT (cA : Nat → ClassId) : List (ClassId × FieldType) := [(cA 0, .int), (cA 1, .long), (cA 2, .boolean), (cA 3, .array .int)]
def zK (D : va_G) (cA : Nat → ClassId) (U : State) : Prop := va_K D vwCl (zT cA) U ∧ ∀ q ∈ neL, va_Nw (.methodLinkNest q.1 q.2.1 q.2.2.1 q.2.2.2) U
theorem zK.same {D : va_G} {cA : Nat → ClassId} {u U : State} (h : zK D cA u) (hvm : u.vm = U.vm) : zK D cA U := ⟨va_K.moved (by rw [hvm]; exact Vm.Alike.refl _) h.1, fun q hq => va_Nw.same rfl hvm (h.2 q hq)⟩
theorem zK.warm {D : va_G} {cA : Nat → ClassId} {s U : State} (h : zK D cA s) (hW : s.WarmedH U.vm) : zK D cA U := ⟨va_K.moved hW.alike h.1, fun q hq => va_Nw.warmM hW (h.2 q hq)⟩
/-- launch, classes' data, addresses, array classes -/
abbrev Ev : Type := Launch × va_G × (Nat → Nat) × (Nat → ClassId)
abbrev Po : Type := Option Value → Sto → Prop
def Cx (E : Ev) (M : Mt) (p : Program) (s : State) (m : MethodId) (args : Array Value) (meth : Method) (c : Code) : Prop :=
  p.tables.exec = Jvm.exec ∧ c.code = M.2.1 ∧ c.maxLocals = M.2.2.1 ∧ meth.sig.returnType = M.2.2.2 ∧ meth.locks = false ∧ s.vm.findClass M.1.cls = some m.cls ∧ (∀ w ∈ gt, w.before args s = true) ∧ zK E.2.1 E.2.2.2 s ∧ zinj E.2.2.1
def zQ (E : Ev) (post : Po) : Array Value → State → Outcome → State → Prop := fun _ st o t => ∃ (r : Option Value) (τ : Sto), o = .returned r ∧ post r τ ∧ va_P E.2.1 vwCl (zG E.2.2.1 E.2.2.2 τ) t.heap ∧ st.heap.size ≤ t.heap.size ∧ ∀ q : Nat, q < st.heap.size → ¬ zA E.2.2.1 q → t.heap[q]? = st.heap[q]?
def rmD (d : Nat) : Room := { frames := d + 1, cells := 0, slots := 0, locals := 64 * (d + 1) }
def V (E : Ev) (d : Nat) (M : Mt) (post : Po) (pc : Nat) (lv : List (Nat × Value)) (st : List Value) (σ : Sto) : Prop :=
  ∀ (p : Program) (e : Env) (s : State) (m : MethodId) (args : Array Value) (below : List Frame) (meth : Method) (c : Code) (H : Heap) (locs : List Loc) (ls : Array Slot),
    Cx E M p s m args meth c → va_P E.2.1 vwCl (zG E.2.2.1 E.2.2.2 σ) H → va_S (zA E.2.2.1) s.heap H locs → lv_has ls M.2.2.1 (trL E.2.2.1 lv) →
    W p E.1 e (rmD d) s m args below meth c H locs 0 0 (MQ below (zQ E post) args s 0 0 (zA E.2.2.1)) (F0 m pc ls (st.map (tr E.2.2.1)))

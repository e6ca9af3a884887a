section VF
variable {E : Ev} {d : Nat} {M : Mt} {post : Po} {lv : List (Nat × Value)} {st : List Value} {σ : Sto}
/-! FIELDS AND ARRAYS -/
theorem gs_obj {c ci k f : Nat} {fs : List Nat} (hs : gs c = .inr (ci, fs)) (hf : fs[k]? = some f) : c < gN := gs_lt (fun z hz => by
  rw [hs] at hz
  cases hz
  intro e
  rw [e] at hf
  cases hf)
theorem gs_arr {c t N b : Nat} (hs : gs c = .inl (t, N, b)) : c < gN := gs_lt (fun z hz => by rw [hs] at hz; cases hz)
theorem zG_obj {ad : Nat → Nat} {cA : Nat → ClassId} {c ci k f : Nat} {fs : List Nat} (hs : gs c = .inr (ci, fs)) (hf : fs[k]? = some f) : (zG ad cA σ)[c]? = some (ad c, .inr (ci, zfs ad σ c 0 fs)) := by
  rw [zG_get (gs_obj hs hf), hs]
  rfl
theorem zG_arr {ad : Nat → Nat} {cA : Nat → ClassId} {c t N b : Nat} (hs : gs c = .inl (t, N, b)) : (zG ad cA σ)[c]? = some (ad c, .inl (cA t, zar ad σ c t N b)) := by
  rw [zG_get (gs_arr hs), hs]
  rfl
theorem zfs_at {ad : Nat → Nat} {c k f : Nat} {fs : List Nat} (hf : fs[k]? = some f) : (zfs ad σ c 0 fs)[k]? = some (zfv ad σ c k f) := by
  rw [zfs_get, hf, Nat.zero_add]
  rfl
theorem V_get {pc idx c ci k f : Nat} {fs : List Nat} (hd : decode M.2.1 pc = .ok (.getfield idx, 3)) (L : fldOk M.1.cls idx ci k) (hs : gs c = .inr (ci, fs)) (hf : fs[k]? = some f)
    (kk : ∀ (p : Program) (e : Env) (s : State) (m : MethodId) (args : Array Value) (below : List Frame) (meth : Method) (c' : Code) (H : Heap) (locs : List Loc) (ls : Array Slot), Cx E M p s m args meth c' → va_P E.2.1 vwCl (zG E.2.2.1 E.2.2.2 σ) H → va_S (zA E.2.2.1) s.heap H locs → lv_has ls M.2.2.1 (trL E.2.2.1 lv) →
      W p E.1 e (rmD d) s m args below meth c' H locs 0 0 (MQ below (zQ E post) args s 0 0 (zA E.2.2.1)) (F0 m (pc + 3) ls (zfv E.2.2.1 σ c k f :: st.map (tr E.2.2.1)))) : V E d M post pc lv (.ref c :: st) σ := by
  intro p e s m args below meth c' H locs ls C hP hS hl
  obtain ⟨⟨Cn, T, N⟩, h1, h2, h3, h4⟩ := L
  exact va_get C.1 C.2.1 C.2.2.2.2.2.2.1 h4 C.2.2.2.2.2.1 C.2.2.2.2.2.2.2.1.1 hP c (zG_obj hs hf) h1 k h2 (C.2.2.2.2.2.2.1 _ h3) (fun x h => h) (zfs_at hf) hd (kk p e s m args below meth c' H locs ls C hP hS hl)
theorem V_getI {pc idx c ci k : Nat} {fs : List Nat} (hd : decode M.2.1 pc = .ok (.getfield idx, 3)) (L : fldOk M.1.cls idx ci k) (hs : gs c = .inr (ci, fs)) (hf : fs[k]? = some 0) (kk : V E d M post (pc + 3) lv (.int (σ.1 c k) :: st) σ) : V E d M post pc lv (.ref c :: st) σ := V_get hd L hs hf kk
theorem V_getL {pc idx c ci k : Nat} {fs : List Nat} (hd : decode M.2.1 pc = .ok (.getfield idx, 3)) (L : fldOk M.1.cls idx ci k) (hs : gs c = .inr (ci, fs)) (hf : fs[k]? = some 1) (kk : V E d M post (pc + 3) lv (.long (σ.2 c k) :: st) σ) : V E d M post pc lv (.ref c :: st) σ := V_get hd L hs hf kk
theorem V_getR {pc idx c ci k r : Nat} {fs : List Nat} (hd : decode M.2.1 pc = .ok (.getfield idx, 3)) (L : fldOk M.1.cls idx ci k) (hs : gs c = .inr (ci, fs)) (hf : fs[k]? = some (r + 2)) (kk : V E d M post (pc + 3) lv (.ref r :: st) σ) : V E d M post pc lv (.ref c :: st) σ := V_get hd L hs hf kk
theorem V_putI {pc idx c ci k : Nat} {fs : List Nat} {ty : FieldType} {v : Int32} (hd : decode M.2.1 pc = .ok (.putfield idx, 3)) (L : fldOk M.1.cls idx ci k) (P : putOk ci k ty) (hs : gs c = .inr (ci, fs)) (hf : fs[k]? = some 0) (hn : narrow ty (.int v) = .int v) (hfit : fits ty (.int v) = true)
    (kk : V E d M post (pc + 3) lv st (wI σ c k v)) : V E d M post pc lv (.int v :: .ref c :: st) σ := by
  intro p e s m args below meth c' H locs ls C hP hS hl
  obtain ⟨⟨Cn, T, N⟩, h1, h2, h3, h4⟩ := L
  obtain ⟨q, ty0, g1, g2, g3, g4, g5⟩ := P
  have hq : q = (Cn, T, N) := Option.some.inj (g1.symm.trans h1)
  subst hq
  refine va_put (v := .int v) C.1 C.2.1 C.2.2.2.2.2.2.1 h4 ty0 g2 g3 C.2.2.2.2.2.1 C.2.2.2.2.2.2.2.1.1 hP (zD C.2.2.2.2.2.2.2.2) hS c (zG_obj hs hf) h1 k h2 (C.2.2.2.2.2.2.1 _ h3) (fun x h => h) g4 g5 hn hfit ?_ hd (fun H1 locs1 hP1 _ hS1 => ?_)
  · have := zfs_at (ad := E.2.2.1) (σ := σ) (c := c) hf
    exact (List.getElem?_eq_some_iff.mp this).1
  · have e1 : (zG E.2.2.1 E.2.2.2 σ).set c (E.2.2.1 c, .inr (ci, (zfs E.2.2.1 σ c 0 fs).set k (.int v))) = zG E.2.2.1 E.2.2.2 (wI σ c k v) := zG_set (gs_obj hs hf) (fun c' h => wA_o h) (by rw [hs, zfs_setI hf]; rfl)
    rw [e1] at hP1
    exact kk p e s m args below meth c' H1 locs1 ls C hP1 hS1 hl
theorem V_putL {pc idx c ci k : Nat} {fs : List Nat} {ty : FieldType} {v : Int64} (hd : decode M.2.1 pc = .ok (.putfield idx, 3)) (L : fldOk M.1.cls idx ci k) (P : putOk ci k ty) (hs : gs c = .inr (ci, fs)) (hf : fs[k]? = some 1) (hn : narrow ty (.long v) = .long v) (hfit : fits ty (.long v) = true)
    (kk : V E d M post (pc + 3) lv st (wL σ c k v)) : V E d M post pc lv (.long v :: .ref c :: st) σ := by
  intro p e s m args below meth c' H locs ls C hP hS hl
  obtain ⟨⟨Cn, T, N⟩, h1, h2, h3, h4⟩ := L
  obtain ⟨q, ty0, g1, g2, g3, g4, g5⟩ := P
  have hq : q = (Cn, T, N) := Option.some.inj (g1.symm.trans h1)
  subst hq
  refine va_put (v := .long v) C.1 C.2.1 C.2.2.2.2.2.2.1 h4 ty0 g2 g3 C.2.2.2.2.2.1 C.2.2.2.2.2.2.2.1.1 hP (zD C.2.2.2.2.2.2.2.2) hS c (zG_obj hs hf) h1 k h2 (C.2.2.2.2.2.2.1 _ h3) (fun x h => h) g4 g5 hn hfit ?_ hd (fun H1 locs1 hP1 _ hS1 => ?_)
  · have := zfs_at (ad := E.2.2.1) (σ := σ) (c := c) hf
    exact (List.getElem?_eq_some_iff.mp this).1
  · have e1 : (zG E.2.2.1 E.2.2.2 σ).set c (E.2.2.1 c, .inr (ci, (zfs E.2.2.1 σ c 0 fs).set k (.long v))) = zG E.2.2.1 E.2.2.2 (wL σ c k v) := zG_set (gs_obj hs hf) (fun c' h => wJ_o h) (by rw [hs, zfs_setL hf]; rfl)
    rw [e1] at hP1
    exact kk p e s m args below meth c' H1 locs1 ls C hP1 hS1 hl
theorem V_iald {pc c N b : Nat} {i : Int32} (hd : decode M.2.1 pc = .ok (.iaload, 1)) (hs : gs c = .inl (0, N, b)) (hi : vp_in i N) (kk : V E d M post (pc + 1) lv (.int (σ.1 c i.toNatClampNeg) :: st) σ) : V E d M post pc lv (.int i :: .ref c :: st) σ :=
  fun p e s m args below meth c' H locs ls C hP hS hl => va_iald C.1 C.2.1 C.2.2.2.2.2.2.2.1.1 hP c 0 (zG_arr hs) rfl hi hd (kk p e s m args below meth c' H locs ls C hP hS hl)
theorem V_lald {pc c N b : Nat} {i : Int32} (hd : decode M.2.1 pc = .ok (.laload, 1)) (hs : gs c = .inl (1, N, b)) (hi : vp_in i N) (kk : V E d M post (pc + 1) lv (.long (σ.2 c i.toNatClampNeg) :: st) σ) : V E d M post pc lv (.int i :: .ref c :: st) σ :=
  fun p e s m args below meth c' H locs ls C hP hS hl => va_lald C.1 C.2.1 C.2.2.2.2.2.2.2.1.1 hP c 1 (zG_arr hs) rfl hi hd (kk p e s m args below meth c' H locs ls C hP hS hl)
theorem V_zald {pc c N b : Nat} {i : Int32} (hd : decode M.2.1 pc = .ok (.baload, 1)) (hs : gs c = .inl (2, N, b)) (hi : vp_in i N) (kk : V E d M post (pc + 1) lv (.int (σ.1 c i.toNatClampNeg) :: st) σ) : V E d M post pc lv (.int i :: .ref c :: st) σ :=
  fun p e s m args below meth c' H locs ls C hP hS hl => va_zald C.1 C.2.1 C.2.2.2.2.2.2.2.1.1 hP c 2 (zG_arr hs) rfl hi hd (kk p e s m args below meth c' H locs ls C hP hS hl)
theorem V_aald {pc c N b : Nat} {i : Int32} (hd : decode M.2.1 pc = .ok (.aaload, 1)) (hs : gs c = .inl (3, N, b)) (hi : vp_in i N) (kk : V E d M post (pc + 1) lv (.ref (b + i.toNatClampNeg) :: st) σ) : V E d M post pc lv (.int i :: .ref c :: st) σ := by
  intro p e s m args below meth c' H locs ls C hP hS hl
  have hlt : i.toNatClampNeg < N := Nat.not_le.mp fun q => hi (Or.inr q)
  have hK := C.2.2.2.2.2.2.2.1.1
  have hc := hP c _ (zG_arr hs)
  refine W.aald (ty := .array .int) C.1 C.2.1 hc ((hK.2 3 _ rfl).1 N (fun j => va_rf (some (E.2.2.1 (b + j))))) rfl (fun q => by cases q) (v := .ref (E.2.2.1 (b + i.toNatClampNeg))) ?_ ?_ rfl rfl hd (kk p e s m args below meth c' H locs ls C hP hS hl)
  · show ¬ (i < 0 ∨ (arrV _ _ _).slots.size ≤ _)
    rw [arrV_size]
    exact hi
  · show (arrV (E.2.2.2 3) N (fun j => va_rf (some (E.2.2.1 (b + j))))).slots[_]? = _
    rw [arrV_read _ _ hlt]
    rfl
theorem V_iast {pc c N b : Nat} {i x : Int32} (hd : decode M.2.1 pc = .ok (.iastore, 1)) (hs : gs c = .inl (0, N, b)) (hi : vp_in i N) (kk : V E d M post (pc + 1) lv st (wI σ c i.toNatClampNeg x)) : V E d M post pc lv (.int x :: .int i :: .ref c :: st) σ := by
  intro p e s m args below meth c' H locs ls C hP hS hl
  refine va_iast C.1 C.2.1 C.2.2.2.2.2.2.2.1.1 hP (zD C.2.2.2.2.2.2.2.2) hS c 0 (zG_arr hs) rfl hi hd (fun H1 locs1 hP1 _ hS1 => ?_)
  have e1 : (zG E.2.2.1 E.2.2.2 σ).set c (E.2.2.1 c, .inl (E.2.2.2 0, N, .inl (upd (σ.1 c) i.toNatClampNeg x))) = zG E.2.2.1 E.2.2.2 (wI σ c i.toNatClampNeg x) := zG_set (gs_arr hs) (fun c' h => wA_o h) (by rw [hs]; simp [zce, zar, wI, wA])
  rw [e1] at hP1
  exact kk p e s m args below meth c' H1 locs1 ls C hP1 hS1 hl
theorem V_zast {pc c N b : Nat} {i x : Int32} (hd : decode M.2.1 pc = .ok (.bastore, 1)) (hs : gs c = .inl (2, N, b)) (hi : vp_in i N) (hx : vp_nar .boolean x = x) (kk : V E d M post (pc + 1) lv st (wI σ c i.toNatClampNeg x)) : V E d M post pc lv (.int x :: .int i :: .ref c :: st) σ := by
  intro p e s m args below meth c' H locs ls C hP hS hl
  refine va_zast C.1 C.2.1 C.2.2.2.2.2.2.2.1.1 hP (zD C.2.2.2.2.2.2.2.2) hS c 2 (zG_arr hs) rfl hi hd (fun H1 locs1 hP1 _ hS1 => ?_)
  rw [hx] at hP1
  have e1 : (zG E.2.2.1 E.2.2.2 σ).set c (E.2.2.1 c, .inl (E.2.2.2 2, N, .inl (upd (σ.1 c) i.toNatClampNeg x))) = zG E.2.2.1 E.2.2.2 (wI σ c i.toNatClampNeg x) := zG_set (gs_arr hs) (fun c' h => wA_o h) (by rw [hs]; simp [zce, zar, wI, wA])
  rw [e1] at hP1
  exact kk p e s m args below meth c' H1 locs1 ls C hP1 hS1 hl
theorem V_last {pc c N b : Nat} {i : Int32} {x : Int64} (hd : decode M.2.1 pc = .ok (.lastore, 1)) (hs : gs c = .inl (1, N, b)) (hi : vp_in i N) (kk : V E d M post (pc + 1) lv st (wL σ c i.toNatClampNeg x)) : V E d M post pc lv (.long x :: .int i :: .ref c :: st) σ := by
  intro p e s m args below meth c' H locs ls C hP hS hl
  refine va_last C.1 C.2.1 C.2.2.2.2.2.2.2.1.1 hP (zD C.2.2.2.2.2.2.2.2) hS c 1 (zG_arr hs) rfl hi hd (fun H1 locs1 hP1 _ hS1 => ?_)
  have e1 : (zG E.2.2.1 E.2.2.2 σ).set c (E.2.2.1 c, .inl (E.2.2.2 1, N, .inr (.inl (vp_updL (σ.2 c) i.toNatClampNeg x)))) = zG E.2.2.1 E.2.2.2 (wL σ c i.toNatClampNeg x) := zG_set (gs_arr hs) (fun c' h => wJ_o h) (by rw [hs]; simp [zce, zar, wL, wJ])
  rw [e1] at hP1
  exact kk p e s m args below meth c' H1 locs1 ls C hP1 hS1 hl
theorem V_alen {pc c t N b : Nat} {v : Int32} (ht : t < 3) (hd : decode M.2.1 pc = .ok (.arraylength, 1)) (hs : gs c = .inl (t, N, b)) (hv : Int32.ofNat N = v) (kk : V E d M post (pc + 1) lv (.int v :: st) σ) : V E d M post pc lv (.ref c :: st) σ := by
  intro p e s m args below meth c' H locs ls C hP hS hl
  match t, ht with
  | 0, _ => exact va_alen C.1 C.2.1 C.2.2.2.2.2.2.2.1.1 hP c 0 (zG_arr hs) rfl hv hd (kk p e s m args below meth c' H locs ls C hP hS hl)
  | 1, _ => exact va_alen C.1 C.2.1 C.2.2.2.2.2.2.2.1.1 hP c 1 (zG_arr hs) rfl hv hd (kk p e s m args below meth c' H locs ls C hP hS hl)
  | 2, _ => exact va_alen C.1 C.2.1 C.2.2.2.2.2.2.2.1.1 hP c 2 (zG_arr hs) rfl hv hd (kk p e s m args below meth c' H locs ls C hP hS hl)
/-! ENDS -/
def pI (P : Int32 → Sto → Prop) : Po := fun r τ => ∃ x : Int32, r = some (.int x) ∧ P x τ
def pL (P : Int64 → Sto → Prop) : Po := fun r τ => ∃ x : Int64, r = some (.long x) ∧ P x τ
def pV (P : Sto → Prop) : Po := fun r τ => r = none ∧ P τ
def b2i (b : Bool) : Int32 := if b then 1 else 0
def pB (P : Bool → Sto → Prop) : Po := fun r τ => ∃ x : Bool, r = some (.int (b2i x)) ∧ P x τ
theorem V_iret {P : Int32 → Sto → Prop} {pc : Nat} {v : Int32} (hd : decode M.2.1 pc = .ok (.ireturn, 1)) (hr : M.2.2.2 = some .int) (h : P v σ) : V E d M (pI P) pc lv [.int v] σ :=
  fun p e s m args below meth c H locs ls C hP hS hl => W.iret C.1 C.2.1 (C.2.2.2.1.trans hr) (fun t ht _ => ⟨some (.int v), σ, rfl, ⟨v, rfl, h⟩, by rw [ht]; exact hP, by rw [ht]; exact hS.1, fun q h1 h2 => by rw [ht]; exact hS.2.1 q h1 h2⟩) (fun q hq => hS.2.2 q hq) hd C.2.2.2.2.1
theorem V_lret {P : Int64 → Sto → Prop} {pc : Nat} {v : Int64} (hd : decode M.2.1 pc = .ok (.lreturn, 1)) (hr : M.2.2.2 = some .long) (h : P v σ) : V E d M (pL P) pc lv [.long v] σ :=
  fun p e s m args below meth c H locs ls C hP hS hl => W.lret C.1 C.2.1 (C.2.2.2.1.trans hr) (fun t ht _ => ⟨some (.long v), σ, rfl, ⟨v, rfl, h⟩, by rw [ht]; exact hP, by rw [ht]; exact hS.1, fun q h1 h2 => by rw [ht]; exact hS.2.1 q h1 h2⟩) (fun q hq => hS.2.2 q hq) hd C.2.2.2.2.1
theorem V_vret {P : Sto → Prop} {pc : Nat} (hd : decode M.2.1 pc = .ok (.return_, 1)) (hr : M.2.2.2 = none) (h : P σ) : V E d M (pV P) pc lv [] σ :=
  fun p e s m args below meth c H locs ls C hP hS hl => W.vret C.1 C.2.1 (C.2.2.2.1.trans hr) (fun t ht _ => ⟨none, σ, rfl, ⟨rfl, h⟩, by rw [ht]; exact hP, by rw [ht]; exact hS.1, fun q h1 h2 => by rw [ht]; exact hS.2.1 q h1 h2⟩) (fun q hq => hS.2.2 q hq) hd C.2.2.2.2.1
theorem V_zret {P : Bool → Sto → Prop} {pc : Nat} {v : Int32} (b : Bool) (hv : v = b2i b) (hd : decode M.2.1 pc = .ok (.ireturn, 1)) (hr : M.2.2.2 = some .boolean) (h : P b σ) : V E d M (pB P) pc lv [.int v] σ := by
  subst hv
  exact fun p e s m args below meth c H locs ls C hP hS hl => W.zret C.1 C.2.1 (C.2.2.2.1.trans hr) (by cases b <;> rfl) (fun t ht _ => ⟨some (.int (b2i b)), σ, rfl, ⟨b, rfl, h⟩, by rw [ht]; exact hP, by rw [ht]; exact hS.1, fun q h1 h2 => by rw [ht]; exact hS.2.1 q h1 h2⟩) (fun q hq => hS.2.2 q hq) hd C.2.2.2.2.1
theorem b2i_0 {b : Bool} : b2i b = 0 ↔ b = false := by cases b <;> simp [b2i]
theorem V_ifz {pc tgt : Nat} {off : Int} {b : Bool} (hd : decode M.2.1 pc = .ok (.ifCond .eq off, 3)) (ht : (pc : Int) + off = (tgt : Int)) (kt : b = false → V E d M post tgt lv st σ) (kf : b = true → V E d M post (pc + 3) lv st σ) : V E d M post pc lv (.int (b2i b) :: st) σ :=
  V_if_eq hd ht (fun h => kt (b2i_0.mp h)) (fun h => kf (by cases b; exact absurd rfl h; rfl))
theorem V_ifnz {pc tgt : Nat} {off : Int} {b : Bool} (hd : decode M.2.1 pc = .ok (.ifCond .ne off, 3)) (ht : (pc : Int) + off = (tgt : Int)) (kt : b = true → V E d M post tgt lv st σ) (kf : b = false → V E d M post (pc + 3) lv st σ) : V E d M post pc lv (.int (b2i b) :: st) σ :=
  V_if_ne hd ht (fun h => kt (by cases b; exact absurd rfl h; rfl)) (fun h => kf (b2i_0.mp h))
/-! CALLS -/
def zP (E : Ev) (As : List Value) (σ : Sto) : Array Value → State → Prop := fun v U => v = (As.map (tr E.2.2.1)).toArray ∧ zK E.2.1 E.2.2.2 U ∧ zinj E.2.2.1 ∧ va_P E.2.1 vwCl (zG E.2.2.1 E.2.2.2 σ) U.heap
def wsM (M : Mt) : List Cond := .code M.1 M.2.1 M.2.2.1 M.2.2.2 :: gt
theorem lv_args_tr (ad : Nat → Nat) : ∀ (As : List Value) (i : Nat), lv_args i (As.map (tr ad)) = trL ad (lv_args i As)
  | [], i => rfl
  | a :: t, i => by
    show (i, tr ad a) :: lv_args (if (tr ad a).category = 2 then i + 2 else i + 1) (t.map (tr ad)) = (i, tr ad a) :: trL ad (lv_args (if a.category = 2 then i + 2 else i + 1) t)
    rw [tr_cat, lv_args_tr ad t]
theorem lg_sl_tr (ad : Nat → Nat) : ∀ (As : List Value), (lg_sl (As.map (tr ad))).length = (lg_sl As).length
  | [] => rfl
  | a :: t => by
    have ih := lg_sl_tr ad t
    unfold lg_sl at ih ⊢
    rw [List.map_cons, List.flatMap_cons, List.flatMap_cons, List.length_append, List.length_append, ih, tr_cat]
    by_cases h : a.category = 2 <;> simp [h]
theorem met_ofWF {l : Launch} {y : MethodName} {ws ws' : List Cond} {rm : Room} {Pc : Array Value → State → Prop} {Qc : Array Value → State → Outcome → State → Prop} {mc ms : Nat} {free : Addr → Prop} {cc : ByteArray} {maxL : Nat} {ret : Option FieldType}
    (hy : plainFor y = true) (hw : ws = Cond.code y cc maxL ret :: ws')
    (body : ∀ p e s m args below meth c s₁, BodyLoose p l y (headSpec ws rm) cc maxL ret e s m args below meth c s₁ → c.maxLocals = maxL → Pc args s →
      W p l e (headSpec ws rm).room s m args below meth c s.heap [] 0 0 (MQ below Qc args s mc ms free) (entryFrame m args maxL)) : Met l y ws rm Pc Qc mc ms free := by
  refine MetFree.of_bodySF (code := cc) (maxLocals := maxL) (ret := ret) hy ?_ ?_
  · intro args s m h hn
    obtain ⟨meth, c, h1, h2, h3, h4, h5, h6, -, -⟩ := Cond.code_spec hn (atoms_spec (ws := ws) h _ (by rw [hw]; exact List.mem_cons_self))
    exact ⟨meth, c, h1, h2, h3, h4, h5, h6⟩
  · intro p e s m args below meth c s₁ B hml hP _
    have hh0 : s₁.heap = s.heap := by rw [B.state]; rfl
    obtain ⟨t, a1, o, b1, b2, b3⟩ := body p e s m args below meth c s₁ B hml hP s₁ hh0 (Stand.of_body B)
    exact ⟨t, o, a1, b1, b2, ⟨b3.1, b3.2⟩⟩
theorem V_met (As : List Value) (hy : plainFor M.1 = true) (hlen : (lg_sl As).length ≤ M.2.2.1) (h : V E d M post 0 (lv_args 0 As) [] σ) : Met E.1 M.1 (wsM M) (rmD d) (zP E As σ) (zQ E post) 0 0 (zA E.2.2.1) := by
  refine met_ofWF (cc := M.2.1) (maxL := M.2.2.1) (ret := M.2.2.2) hy rfl ?_
  intro p e s m args below meth c s₁ B hml hv
  obtain ⟨rfl, hK, hinj, hP⟩ := hv
  have hts := atoms_spec (ws := wsM M) B.pre
  have hl := lv_entry (As.map (tr E.2.2.1)) (n := M.2.2.1) (by rw [lg_sl_tr]; exact hlen)
  rw [lg_entry_eq]
  rw [lv_args_tr] at hl
  exact h p e s m _ below meth c s.heap [] _ ⟨B.exec, B.bytes, hml, B.returns, B.notSynchronized, findClass_of_methodNamed B.named, fun w hw => hts w (List.mem_cons_of_mem _ hw), hK, hinj⟩ hP va_S.rf hl
theorem gt_good {M' : Mt} (hc : Cond.code M'.1 M'.2.1 M'.2.2.1 M'.2.2.2 ∈ gt) : GoodIn gt (wsM M') := by
  have h0 : ∀ w ∈ gt, w ∈ gt ∧ ((w.onTables && w.keeps) = true ∨ ∃ ty, w = .arrayClass ty) := fun w hw => ⟨hw, good_of_word (List.all_eq_true.mp gt_all w hw)⟩
  intro w hw
  rcases List.mem_cons.mp hw with rfl | hw
  · exact h0 _ hc
  · exact h0 _ hw
theorem zP_blind {As : List Value} : FrameBlind (zP E As σ) := fun a U g mk q => ⟨q.1, q.2.1.same rfl, q.2.2.1, q.2.2.2⟩
theorem V_run {d' : Nat} {M' : Mt} {post' : Po} {pc : Nat} {stk rest : List Value} {As : List Value}
    (hr : ∀ (p : Program) (e : Env) (s : State) (m : MethodId) (args : Array Value) (below : List Frame) (meth : Method) (c : Code) (H : Heap) (locs : List Loc) (ls : Array Slot), Cx E M p s m args meth c → va_P E.2.1 vwCl (zG E.2.2.1 E.2.2.2 σ) H → lv_has ls M.2.2.1 (trL E.2.2.1 lv) → va_Run p E.1 e (rmD d) s m args below meth c H locs 0 0 0 0 (F0 m pc ls (stk.map (tr E.2.2.1))) (rest.map (tr E.2.2.1)) (zQ E post' (As.map (tr E.2.2.1)).toArray) (zA E.2.2.1))
    (kk : ∀ (r : Option Value) (τ : Sto), post' r τ → (∀ a, r ≠ some (.ref a)) ∧ V E d M post (pc + 3) lv (r.toList ++ rest) τ) : V E d M post pc lv stk σ := by
  intro p e s m args below meth c H locs ls C hP hS hl T hT X
  obtain ⟨v, st₀, t, T', L, h0, X', hL, e1, e2, ⟨r, τ, hv, hpost, hP', hz, hk⟩, hgo⟩ := hr p e s m args below meth c H locs ls C hP hl T hT X
  cases hv
  rw [h0] at hz hk
  obtain ⟨hnr, hV⟩ := kk v τ hpost
  have hS1 : va_S (zA E.2.2.1) s.heap T'.heap (locs ++ L) := ⟨Nat.le_trans hS.1 (by rw [e1]; exact hz), fun q h1 h2 => by rw [e1, hk q (Nat.lt_of_lt_of_le h1 hS.1) h2]; exact hS.2.1 q h1 h2, fun q hq => by
      rcases List.mem_append.mp hq with h | h
      · exact hS.2.2 q h
      · exact hL q h⟩
  obtain ⟨t2, a1, b1⟩ := hV p e s m args below meth c T'.heap (locs ++ L) ls C (by rw [e1]; exact hP') hS1 hl T' rfl X'
  refine ⟨t2, hgo t2 ?_, b1⟩
  have e3 : (v.toList ++ rest).map (tr E.2.2.1) = v.toList ++ rest.map (tr E.2.2.1) := by
    cases v with
    | none => rfl
    | some x => cases x with
      | ref a => exact absurd rfl (hnr a)
      | _ => rfl
  rw [e3] at a1
  exact a1
theorem rm_fit {d d' n : Nat} (h : d' < d) (hn : n ≤ 40) : (rmD d').frames + 1 ≤ (rmD d).frames ∧ 8 + (n + 11) + (rmD d').locals ≤ (rmD d).locals := ⟨by show d' + 1 + 1 ≤ d + 1; omega, by show 8 + (n + 11) + 64 * (d' + 1) ≤ 64 * (d + 1); omega⟩
theorem map_cat {ad : Nat → Nat} (l : List Value) : (l.map (tr ad)).map (fun v => v.category) = l.map (fun v => v.category) := by
  rw [List.map_map]
  apply List.map_congr_left
  intro v _
  exact tr_cat ad v
theorem take_rev (stk : List Value) (n : Nat) (ad : Nat → Nat) : stk.map (tr ad) = (((stk.take n).reverse).map (tr ad)).reverse ++ (stk.drop n).map (tr ad) := by
  rw [← List.map_reverse, List.reverse_reverse, ← List.map_append, List.take_append_drop]
theorem V_callS {d' : Nat} {M' : Mt} {post' : Po} {pc idx n : Nat} {stk : List Value} (hd : decode M.2.1 pc = .ok (.invokestatic idx, 3)) (L : Cond.methodLink M.1.cls idx M'.1 ∈ gt) (S : Cond.static M'.1 ∈ gt) (K : kOk n M') (hdep : d' < d) (hn : ((stk.take n).reverse).length = n) (hlen : (lg_sl (stk.take n).reverse).length ≤ M'.2.2.1) (hroom : ((stk.drop n).map fun v => v.category).sum ≤ 8)
    (hb : V E d' M' post' 0 (lv_args 0 (stk.take n).reverse) [] σ) (kk : ∀ (r : Option Value) (τ : Sto), post' r τ → (∀ a, r ≠ some (.ref a)) ∧ V E d M post (pc + 3) lv (r.toList ++ stk.drop n) τ) : V E d M post pc lv stk σ := by
  refine V_run (d' := d') (M' := M') (As := (stk.take n).reverse) (rest := stk.drop n) ?_ kk
  intro p e s m args below meth c H locs ls C hP hl
  have hts := C.2.2.2.2.2.2.1
  exact va_runS (As := ((stk.take n).reverse).map (tr E.2.2.1)) ⟨C.1, C.2.1, C.2.2.1, C.2.2.2.2.2.1, hts⟩ (V_met _ K.2.2.2.2 hlen hb) ⟨callB_of n hts (gt_good K.2.1) rfl rfl rfl (hts _ K.1) (hts _ L) K.2.2.1 (rm_fit hdep K.2.2.2.1), hts _ S⟩ ⟨zP_blind, fun U hU hW => ⟨rfl, C.2.2.2.2.2.2.2.1.warm hW, C.2.2.2.2.2.2.2.2, by rw [hU]; exact hP⟩⟩ rfl (by rw [List.length_map]; exact hn) hl.1 (take_rev stk n _) (lv_room (by rw [map_cat]; exact hroom)) hd ⟨Nat.zero_le _, Nat.zero_le _⟩
theorem V_callN {d' : Nat} {M' : Mt} {post' : Po} {pc idx n : Nat} {host : String} {stk : List Value} (hd : decode M.2.1 pc = .ok (.invokestatic idx, 3)) (L : (M.1.cls, idx, M'.1, host) ∈ neL) (S : Cond.static M'.1 ∈ gt) (K : kOk n M') (hdep : d' < d) (hn : ((stk.take n).reverse).length = n) (hlen : (lg_sl (stk.take n).reverse).length ≤ M'.2.2.1) (hroom : ((stk.drop n).map fun v => v.category).sum ≤ 8)
    (hb : V E d' M' post' 0 (lv_args 0 (stk.take n).reverse) [] σ) (kk : ∀ (r : Option Value) (τ : Sto), post' r τ → (∀ a, r ≠ some (.ref a)) ∧ V E d M post (pc + 3) lv (r.toList ++ stk.drop n) τ) : V E d M post pc lv stk σ := by
  refine V_run (d' := d') (M' := M') (As := (stk.take n).reverse) (rest := stk.drop n) ?_ kk
  intro p e s m args below meth c H locs ls C hP hl
  have hts := C.2.2.2.2.2.2.1
  exact va_runSN (As := ((stk.take n).reverse).map (tr E.2.2.1)) ⟨C.1, C.2.1, C.2.2.1, C.2.2.2.2.2.1, hts⟩ (V_met _ K.2.2.2.2 hlen hb) ⟨va_cnB n hts (gt_good K.2.1) rfl rfl rfl (C.2.2.2.2.2.2.2.1.2 _ L) (hts _ K.1) K.2.2.1 (rm_fit hdep K.2.2.2.1), hts _ S, trivial⟩ ⟨zP_blind, fun U hU hW => ⟨rfl, C.2.2.2.2.2.2.2.1.warm hW, C.2.2.2.2.2.2.2.2, by rw [hU]; exact hP⟩⟩ rfl (by rw [List.length_map]; exact hn) hl.1 (take_rev stk n _) (lv_room (by rw [map_cat]; exact hroom)) hd ⟨Nat.zero_le _, Nat.zero_le _⟩
theorem V_callV {d' : Nat} {M' : Mt} {post' : Po} {pc idx n ci b : Nat} {fs : List Nat} {stk : List Value} (hd : decode M.2.1 pc = .ok (.invokevirtual idx, 3)) (L : Cond.methodLink M.1.cls idx M'.1 ∈ gt) (S : vOk ci M') (K : kOk n M') (hs : gs b = .inr (ci, fs)) (hbN : b < gN) (hdep : d' < d) (hn : ((stk.take n).reverse).length = n) (hb0 : stk[n]? = some (.ref b)) (hlen : (lg_sl (.ref b :: (stk.take n).reverse)).length ≤ M'.2.2.1) (hroom : ((stk.drop (n + 1)).map fun v => v.category).sum ≤ 8)
    (hb : V E d' M' post' 0 (lv_args 0 (.ref b :: (stk.take n).reverse)) [] σ) (kk : ∀ (r : Option Value) (τ : Sto), post' r τ → (∀ a, r ≠ some (.ref a)) ∧ V E d M post (pc + 3) lv (r.toList ++ stk.drop (n + 1)) τ) : V E d M post pc lv stk σ := by
  refine V_run (d' := d') (M' := M') (As := .ref b :: (stk.take n).reverse) (rest := stk.drop (n + 1)) ?_ kk
  intro p e s m args below meth c H locs ls C hP hl
  have hts := C.2.2.2.2.2.2.1
  obtain ⟨S1, S2, q, S3, S4⟩ := S
  have hcell := zG_get (ad := E.2.2.1) (cA := E.2.2.2) (σ := σ) hbN
  rw [hs] at hcell
  have hrec := va_recv C.2.2.2.2.2.2.2.1.1 hP S3 hcell
  rw [S4] at hrec
  have hstk : stk = stk.take n ++ .ref b :: stk.drop (n + 1) := by
    have h1 := List.drop_eq_getElem?_toList_append (l := stk) (i := n)
    rw [hb0] at h1
    conv => lhs; rw [← List.take_append_drop n stk, h1]
    rfl
  exact va_runV (C := M'.1.cls) (b := E.2.2.1 b) (As := ((stk.take n).reverse).map (tr E.2.2.1)) ⟨C.1, C.2.1, C.2.2.1, C.2.2.2.2.2.1, hts⟩ (V_met (.ref b :: (stk.take n).reverse) K.2.2.2.2 hlen hb) ⟨callB_of n hts (gt_good K.2.1) rfl rfl rfl (hts _ K.1) (hts _ L) K.2.2.1 (rm_fit hdep K.2.2.2.1), hts _ S1, hts _ S2⟩ ⟨zP_blind, hrec, fun U hU hW => ⟨rfl, C.2.2.2.2.2.2.2.1.warm hW, C.2.2.2.2.2.2.2.2, by rw [hU]; exact hP⟩⟩ rfl (by rw [List.length_map]; exact hn) hl.1 (by
    conv => lhs; rw [hstk]
    rw [List.map_append, ← List.map_reverse, List.reverse_reverse]
    rfl) (lv_room (by rw [map_cat]; exact hroom)) hd ⟨Nat.zero_le _, Nat.zero_le _⟩
theorem kI {P : Int32 → Sto → Prop} {R : Option Value → Sto → Prop} (h : ∀ x τ, P x τ → R (some (.int x)) τ) : ∀ r τ, pI P r τ → (∀ a, r ≠ some (.ref a)) ∧ R r τ := fun r τ hp => by
  obtain ⟨x, rfl, hx⟩ := hp
  exact ⟨fun a q => (by cases q), h x τ hx⟩
theorem kL {P : Int64 → Sto → Prop} {R : Option Value → Sto → Prop} (h : ∀ x τ, P x τ → R (some (.long x)) τ) : ∀ r τ, pL P r τ → (∀ a, r ≠ some (.ref a)) ∧ R r τ := fun r τ hp => by
  obtain ⟨x, rfl, hx⟩ := hp
  exact ⟨fun a q => (by cases q), h x τ hx⟩
theorem kB {P : Bool → Sto → Prop} {R : Option Value → Sto → Prop} (h : ∀ x τ, P x τ → R (some (.int (b2i x))) τ) : ∀ r τ, pB P r τ → (∀ a, r ≠ some (.ref a)) ∧ R r τ := fun r τ hp => by
  obtain ⟨x, rfl, hx⟩ := hp
  exact ⟨fun a q => (by cases q), h x τ hx⟩
theorem kV {P : Sto → Prop} {R : Option Value → Sto → Prop} (h : ∀ τ, P τ → R none τ) : ∀ r τ, pV P r τ → (∀ a, r ≠ some (.ref a)) ∧ R r τ := fun r τ hp => by
  obtain ⟨rfl, hx⟩ := hp
  exact ⟨fun a q => (by cases q), h τ hx⟩
theorem vp_lt {i : Int32} {n : Nat} (h : vp_in i n) : i.toNatClampNeg < n := Nat.not_le.mp fun q => h (Or.inr q)
theorem V_copy {pc idx c0 c1 N0 N1 b0 b1 : Nat} {sp dp n : Int32} (hd : decode M.2.1 pc = .ok (.invokestatic idx, 3)) (L : Cond.methodLink M.1.cls idx arraycopyName ∈ gt) (hnat : Cond.native arraycopyName ∈ gt) (hst : Cond.static arraycopyName ∈ gt) (hini : Cond.initialized "java/lang/System" ∈ gt) (hs0 : gs c0 = .inl (0, N0, b0)) (hs1 : gs c1 = .inl (0, N1, b1))
    (h : (¬ sp < 0 ∧ ¬ dp < 0 ∧ ¬ n < 0) ∧ sp.toNatClampNeg + n.toNatClampNeg ≤ N0 ∧ dp.toNatClampNeg + n.toNatClampNeg ≤ N1) (hroom : (st.map fun v => v.category).sum ≤ 8)
    (kk : V E d M post (pc + 3) lv st (wA σ c1 (va_cpy (σ.1 c0) (σ.1 c1) sp.toNatClampNeg dp.toNatClampNeg n.toNatClampNeg))) : V E d M post pc lv (.int n :: .int dp :: .ref c1 :: .int sp :: .ref c0 :: st) σ := by
  intro p e s m args below meth c' H locs ls C hP hS hl
  have hts := C.2.2.2.2.2.2.1
  refine va_copyi C.1 C.2.1 (C.2.2.1.trans hl.1.symm) C.2.2.2.2.2.1 (hts _ L) (hts _ hnat) (hts _ hst) (hts _ hini) C.2.2.2.2.2.2.2.1.1 hP (zD C.2.2.2.2.2.2.2.2) hS c0 c1 0 0 (ty := .int) (zG_arr hs0) (zG_arr hs1) rfl rfl rfl h.1.1 h.1.2.1 h.1.2.2 h.2.1 h.2.2 (fun i _ => rfl) (by show 1 ≤ d + 1; omega) ?_ hd (fun H1 locs1 hP1 _ hS1 => ?_)
  · rw [map_cat]
    have : nativeFrameWords "java/lang/System" "arraycopy" 5 ≤ 40 := by decide +kernel
    show _ ≤ 64 * (d + 1)
    omega
  · have e1 : (zG E.2.2.1 E.2.2.2 σ).set c1 (E.2.2.1 c1, .inl (E.2.2.2 0, N1, .inl (va_cpy (σ.1 c0) (σ.1 c1) sp.toNatClampNeg dp.toNatClampNeg n.toNatClampNeg))) = zG E.2.2.1 E.2.2.2 (wA σ c1 (va_cpy (σ.1 c0) (σ.1 c1) sp.toNatClampNeg dp.toNatClampNeg n.toNatClampNeg)) := zG_set (gs_arr hs1) (fun c' h => wA_o h) (by rw [hs1]; simp [zce, zar, wA])
    rw [e1] at hP1
    exact kk p e s m args below meth c' H1 locs1 ls C hP1 hS1 hl
end VF

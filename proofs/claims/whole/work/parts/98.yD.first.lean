/-! THE FIRST STORE, and the world that both constructors make -/
def zgI (c : Nat) : Nat → Int32 := match c with
  | 1 => fun k => if k = 1 then -1 else 0
  | 3 => fun k => if k = 3 then 2 else 0
  | 65 => fun _ => -1
  | 67 => fun k => if k = 11 then -1 else if k = 12 then 2 else 0
  | _ => fun _ => 0
def zgL (c : Nat) : Nat → Int64 := match c with
  | 10 => fun k => if k = 1 then 1 else 0
  | 11 => fun k => if k = 1 then 1 else 0
  | 12 => fun k => if k = 1 then 1 else 0
  | _ => fun _ => 0
def zg0 : Sto := (zgI, zgL)
def kz : Kp := fun c i => if c = 0 then (if i = 1 then -1 else if i = 4 then 2 else 0) else if c = 10 then (if i < 4 then -1 else 0) else 0
theorem vx_0 : vx zg0 = kz := by
  funext c i
  match c with
  | 0 =>
    match i with
    | 0 => rfl
    | 1 => rfl
    | 2 => rfl
    | 3 => rfl
    | 4 => rfl
    | 5 => rfl
    | 6 => rfl
    | n + 7 => simp [vx, sx, kz]
  | 1 => simp [vx, axc, kz, zg0, zgI]
  | 2 => simp [vx, axc, kz, zg0, zgI]
  | 3 => simp [vx, axc, kz, zg0, zgI]
  | 4 => simp [vx, axc, kz, zg0, zgI]
  | 5 => simp [vx, axc, kz, zg0, zgI]
  | 6 => simp [vx, axc, kz, zg0, zgI]
  | 7 => simp [vx, axc, kz, zg0, zgI]
  | 8 => simp [vx, axc, kz, zg0, zgI]
  | 9 => simp [vx, axc, kz, zg0, zgI]
  | 10 => simp [vx, axc, kz, zg0, zgI]
  | 11 => simp [vx, axc, kz, zg0, zgI]
  | 12 => simp [vx, axc, kz, zg0, zgI]
  | 13 => simp [vx, axc, kz, zg0, zgI]
  | 14 => simp [vx, axc, kz, zg0, zgI]
  | 15 => simp [vx, axc, kz, zg0, zgI]
  | c + 16 => simp [vx, axc, kz]
theorem vm_0 : vm zg0 = kz := by
  funext c i
  match c with
  | 0 =>
    match i with
    | 0 => rfl
    | 1 => rfl
    | 2 => rfl
    | 3 => rfl
    | 4 => rfl
    | 5 => rfl
    | 6 => rfl
    | n + 7 => simp [vm, sm, kz]
  | 1 => simp [vm, axm, kz, zg0, zgI]
  | 2 => simp [vm, axm, kz, zg0, zgI]
  | 3 => simp [vm, axm, kz, zg0, zgI]
  | 4 => simp [vm, axm, kz, zg0, zgI]
  | 5 => simp [vm, axm, kz, zg0, zgI]
  | 6 => simp [vm, axm, kz, zg0, zgI]
  | 7 => simp [vm, axm, kz, zg0, zgI]
  | 8 => simp [vm, axm, kz, zg0, zgI]
  | 9 => simp [vm, axm, kz, zg0, zgI]
  | 10 => simp [vm, axm, kz, zg0, zgI]
  | 11 => simp [vm, axm, kz, zg0, zgI]
  | 12 => simp [vm, axm, kz, zg0, zgI]
  | 13 => simp [vm, axm, kz, zg0, zgI]
  | 14 => simp [vm, axm, kz, zg0, zgI]
  | 15 => simp [vm, axm, kz, zg0, zgI]
  | c + 16 => simp [vm, axm, kz]
theorem nR_0 : nR kz = 0 := by decide
theorem nH_0 : nH kz = 0 := by decide
theorem Inv_0 : Inv kz := by
  refine ⟨by decide, by decide, by decide, by decide, by decide, by decide, fun h hh => ?_, fun r hr => ?_, fun h p => ?_, fun i hi => ?_, fun s hs => ?_⟩
  · rw [nH_0] at hh
    omega
  · rw [nR_0] at hr
    omega
  · rw [nR_0]
    exact Nat.zero_le _
  · have e : kz 9 i = 0 := by simp [kz]
    rw [e]
    decide
  · have e : kz 10 s = -1 := by simp [kz, hs]
    have e2 : kz 11 s = 0 := by simp [kz]
    rw [e, e2]
    decide
theorem DX_0 : DX kz zg0 := by
  intro p hp
  have hc : ∀ P, cnt P (nR kz) = 0 := fun P => by rw [nR_0]; rfl
  have hz : ∀ c, c ∈ [21, 23, 24, 25, 26, 28, 29, 30, 31, 33, 34, 35, 36, 40, 41, 42, 43, 45, 46, 47, 48] → ∀ i, (zg0.1 c i).toInt = 0 := by
    intro c hc i
    simp only [List.mem_cons, List.not_mem_nil, or_false] at hc
    rcases hc with rfl | rfl | rfl | rfl | rfl | rfl | rfl | rfl | rfl | rfl | rfl | rfl | rfl | rfl | rfl | rfl | rfl | rfl | rfl | rfl | rfl <;> rfl
  have hcN : ∀ h, cN kz h p = 0 := fun h => hc _
  refine ⟨⟨0, hz 21 (by decide) p, by omega, fun i j h1 h2 => by omega, fun i hi => by omega, fun d hd h => ?_⟩, fun h hh => ?_, fun r hr => ?_⟩
  · unfold pC at h
    rw [hc] at h
    omega
  · have e1 : (zg0.1 (40 + p) h).toInt = 0 := hz _ (by
      match p, hp with
      | 0, _ => decide
      | 1, _ => decide
      | 2, _ => decide
      | 3, _ => decide) h
    have e2 : (zg0.1 (45 + p) h).toInt = 0 := hz _ (by
      match p, hp with
      | 0, _ => decide
      | 1, _ => decide
      | 2, _ => decide
      | 3, _ => decide) h
    rw [e1, e2]
    unfold tL
    rw [hcN, if_pos rfl]
    exact ⟨rfl, rfl⟩
  · rw [nR_0] at hr
    omega
theorem Rel_0 : Rel zg0 := by
  refine ⟨by rw [vx_0, vm_0], ⟨by rw [vx_0]; exact Inv_0, by rw [vx_0]; exact DX_0⟩, by rw [vm_0]; exact Inv_0, Or.inl rfl, fun s hs => ⟨Or.inl rfl, ?_⟩⟩
  show 0 ≤ (0 : Int32).toInt
  decide
def posL : List Nat := [0, 1, 10, 39, 41, 44, 49, 53, 56, 59, 48, 52, 58, 2, 3, 4, 5, 6, 7, 8, 9, 11, 12, 13, 14, 15, 16, 17, 18, 19, 20, 21, 22, 23, 24, 25, 26, 27, 28, 29, 30, 31, 32, 33, 34, 35, 36, 37, 38, 40, 42, 43, 45, 46, 47, 50, 51, 54, 55, 57, 60, 61, 62, 63, 64, 65, 66, 67, 68, 69, 70, 71, 72, 73, 74, 75, 76, 77, 78, 79, 80, 81, 82, 83, 84, 85, 86, 87, 88, 89, 90]
def adN (b c : Nat) : Nat := b + posL.getD c 0
set_option maxRecDepth 100000 in
theorem pos_inj : ∀ i, i < 91 → ∀ j, j < 91 → posL.getD i 0 = posL.getD j 0 → i = j := by decide +kernel
theorem adN_inj (b : Nat) : zinj (adN b) := fun i j hi hj h => pos_inj i hi j hj (by unfold adN at h; omega)
theorem row_at {D : va_G} {b k : Nat} {L : List va_E} {H : Heap} {c3 : ClassId} {f g : Nat → Option Nat} (h : nP D b L H) (hk : L[k]? = some (.inl (c3, (4, .inr (.inr (.inr (.inr f))))))) (hfg : ∀ j, j < 4 → f j = g j) : va_at D vwCl (b + k, .inl (c3, (4, .inr (.inr (.inr (.inr g)))))) H := by
  have h1 := h.2 k _ hk
  show H[b + k]? = some (vp_cell _ _)
  rw [show H[b + k]? = some (vp_cell c3 (4, .inr (.inr (.inr (.inr f))))) from h1, vp_cell_q, vp_cell_q, arrV_ext (fun j hj => by rw [hfg j hj])]
def lAll (cA : Nat → ClassId) (b : Nat) : List va_E := lX10 cA b ++ lX11 cA (b + 67)
set_option maxRecDepth 100000 in
theorem zw_0 {D : va_G} {cA : Nat → ClassId} {b : Nat} {H : Heap} (h : nP D b (lAll cA b) H) : va_at D vwCl (adN b 0, zce (adN b) cA zg0 0 (gs 0)) H := h.2 0 _ rfl
set_option maxRecDepth 100000 in
theorem zw_1 {D : va_G} {cA : Nat → ClassId} {b : Nat} {H : Heap} (h : nP D b (lAll cA b) H) : va_at D vwCl (adN b 1, zce (adN b) cA zg0 1 (gs 1)) H := h.2 1 _ rfl
set_option maxRecDepth 100000 in
theorem zw_2 {D : va_G} {cA : Nat → ClassId} {b : Nat} {H : Heap} (h : nP D b (lAll cA b) H) : va_at D vwCl (adN b 2, zce (adN b) cA zg0 2 (gs 2)) H := h.2 10 _ rfl
set_option maxRecDepth 100000 in
theorem zw_3 {D : va_G} {cA : Nat → ClassId} {b : Nat} {H : Heap} (h : nP D b (lAll cA b) H) : va_at D vwCl (adN b 3, zce (adN b) cA zg0 3 (gs 3)) H := h.2 39 _ rfl
set_option maxRecDepth 100000 in
theorem zw_4 {D : va_G} {cA : Nat → ClassId} {b : Nat} {H : Heap} (h : nP D b (lAll cA b) H) : va_at D vwCl (adN b 4, zce (adN b) cA zg0 4 (gs 4)) H := h.2 41 _ rfl
set_option maxRecDepth 100000 in
theorem zw_5 {D : va_G} {cA : Nat → ClassId} {b : Nat} {H : Heap} (h : nP D b (lAll cA b) H) : va_at D vwCl (adN b 5, zce (adN b) cA zg0 5 (gs 5)) H := h.2 44 _ rfl
set_option maxRecDepth 100000 in
theorem zw_6 {D : va_G} {cA : Nat → ClassId} {b : Nat} {H : Heap} (h : nP D b (lAll cA b) H) : va_at D vwCl (adN b 6, zce (adN b) cA zg0 6 (gs 6)) H := h.2 49 _ rfl
set_option maxRecDepth 100000 in
theorem zw_7 {D : va_G} {cA : Nat → ClassId} {b : Nat} {H : Heap} (h : nP D b (lAll cA b) H) : va_at D vwCl (adN b 7, zce (adN b) cA zg0 7 (gs 7)) H := h.2 53 _ rfl
set_option maxRecDepth 100000 in
theorem zw_8 {D : va_G} {cA : Nat → ClassId} {b : Nat} {H : Heap} (h : nP D b (lAll cA b) H) : va_at D vwCl (adN b 8, zce (adN b) cA zg0 8 (gs 8)) H := h.2 56 _ rfl
set_option maxRecDepth 100000 in
theorem zw_9 {D : va_G} {cA : Nat → ClassId} {b : Nat} {H : Heap} (h : nP D b (lAll cA b) H) : va_at D vwCl (adN b 9, zce (adN b) cA zg0 9 (gs 9)) H := h.2 59 _ rfl
set_option maxRecDepth 100000 in
theorem zw_10 {D : va_G} {cA : Nat → ClassId} {b : Nat} {H : Heap} (h : nP D b (lAll cA b) H) : va_at D vwCl (adN b 10, zce (adN b) cA zg0 10 (gs 10)) H := h.2 48 _ rfl
set_option maxRecDepth 100000 in
theorem zw_11 {D : va_G} {cA : Nat → ClassId} {b : Nat} {H : Heap} (h : nP D b (lAll cA b) H) : va_at D vwCl (adN b 11, zce (adN b) cA zg0 11 (gs 11)) H := h.2 52 _ rfl
set_option maxRecDepth 100000 in
theorem zw_12 {D : va_G} {cA : Nat → ClassId} {b : Nat} {H : Heap} (h : nP D b (lAll cA b) H) : va_at D vwCl (adN b 12, zce (adN b) cA zg0 12 (gs 12)) H := h.2 58 _ rfl
set_option maxRecDepth 100000 in
theorem zw_13 {D : va_G} {cA : Nat → ClassId} {b : Nat} {H : Heap} (h : nP D b (lAll cA b) H) : va_at D vwCl (adN b 13, zce (adN b) cA zg0 13 (gs 13)) H := h.2 2 _ rfl
set_option maxRecDepth 100000 in
theorem zw_14 {D : va_G} {cA : Nat → ClassId} {b : Nat} {H : Heap} (h : nP D b (lAll cA b) H) : va_at D vwCl (adN b 14, zce (adN b) cA zg0 14 (gs 14)) H := h.2 3 _ rfl
set_option maxRecDepth 100000 in
theorem zw_15 {D : va_G} {cA : Nat → ClassId} {b : Nat} {H : Heap} (h : nP D b (lAll cA b) H) : va_at D vwCl (adN b 15, zce (adN b) cA zg0 15 (gs 15)) H := h.2 4 _ rfl
set_option maxRecDepth 100000 in
theorem zw_16 {D : va_G} {cA : Nat → ClassId} {b : Nat} {H : Heap} (h : nP D b (lAll cA b) H) : va_at D vwCl (adN b 16, zce (adN b) cA zg0 16 (gs 16)) H := h.2 5 _ rfl
set_option maxRecDepth 100000 in
theorem zw_17 {D : va_G} {cA : Nat → ClassId} {b : Nat} {H : Heap} (h : nP D b (lAll cA b) H) : va_at D vwCl (adN b 17, zce (adN b) cA zg0 17 (gs 17)) H := h.2 6 _ rfl
set_option maxRecDepth 100000 in
theorem zw_18 {D : va_G} {cA : Nat → ClassId} {b : Nat} {H : Heap} (h : nP D b (lAll cA b) H) : va_at D vwCl (adN b 18, zce (adN b) cA zg0 18 (gs 18)) H := h.2 7 _ rfl
set_option maxRecDepth 100000 in
theorem zw_19 {D : va_G} {cA : Nat → ClassId} {b : Nat} {H : Heap} (h : nP D b (lAll cA b) H) : va_at D vwCl (adN b 19, zce (adN b) cA zg0 19 (gs 19)) H := h.2 8 _ rfl
set_option maxRecDepth 100000 in
theorem zw_20 {D : va_G} {cA : Nat → ClassId} {b : Nat} {H : Heap} (h : nP D b (lAll cA b) H) : va_at D vwCl (adN b 20, zce (adN b) cA zg0 20 (gs 20)) H := h.2 9 _ rfl
set_option maxRecDepth 100000 in
theorem zw_21 {D : va_G} {cA : Nat → ClassId} {b : Nat} {H : Heap} (h : nP D b (lAll cA b) H) : va_at D vwCl (adN b 21, zce (adN b) cA zg0 21 (gs 21)) H := h.2 11 _ rfl
set_option maxRecDepth 100000 in
theorem zw_22 {D : va_G} {cA : Nat → ClassId} {b : Nat} {H : Heap} (h : nP D b (lAll cA b) H) : va_at D vwCl (adN b 22, zce (adN b) cA zg0 22 (gs 22)) H := row_at (k := 12) h rfl (fun j hj => by
  match j, hj with
  | 0, _ => rfl
  | 1, _ => rfl
  | 2, _ => rfl
  | 3, _ => rfl)
set_option maxRecDepth 100000 in
theorem zw_23 {D : va_G} {cA : Nat → ClassId} {b : Nat} {H : Heap} (h : nP D b (lAll cA b) H) : va_at D vwCl (adN b 23, zce (adN b) cA zg0 23 (gs 23)) H := h.2 13 _ rfl
set_option maxRecDepth 100000 in
theorem zw_24 {D : va_G} {cA : Nat → ClassId} {b : Nat} {H : Heap} (h : nP D b (lAll cA b) H) : va_at D vwCl (adN b 24, zce (adN b) cA zg0 24 (gs 24)) H := h.2 14 _ rfl
set_option maxRecDepth 100000 in
theorem zw_25 {D : va_G} {cA : Nat → ClassId} {b : Nat} {H : Heap} (h : nP D b (lAll cA b) H) : va_at D vwCl (adN b 25, zce (adN b) cA zg0 25 (gs 25)) H := h.2 15 _ rfl
set_option maxRecDepth 100000 in
theorem zw_26 {D : va_G} {cA : Nat → ClassId} {b : Nat} {H : Heap} (h : nP D b (lAll cA b) H) : va_at D vwCl (adN b 26, zce (adN b) cA zg0 26 (gs 26)) H := h.2 16 _ rfl
set_option maxRecDepth 100000 in
theorem zw_27 {D : va_G} {cA : Nat → ClassId} {b : Nat} {H : Heap} (h : nP D b (lAll cA b) H) : va_at D vwCl (adN b 27, zce (adN b) cA zg0 27 (gs 27)) H := row_at (k := 17) h rfl (fun j hj => by
  match j, hj with
  | 0, _ => rfl
  | 1, _ => rfl
  | 2, _ => rfl
  | 3, _ => rfl)
set_option maxRecDepth 100000 in
theorem zw_28 {D : va_G} {cA : Nat → ClassId} {b : Nat} {H : Heap} (h : nP D b (lAll cA b) H) : va_at D vwCl (adN b 28, zce (adN b) cA zg0 28 (gs 28)) H := h.2 18 _ rfl
set_option maxRecDepth 100000 in
theorem zw_29 {D : va_G} {cA : Nat → ClassId} {b : Nat} {H : Heap} (h : nP D b (lAll cA b) H) : va_at D vwCl (adN b 29, zce (adN b) cA zg0 29 (gs 29)) H := h.2 19 _ rfl
set_option maxRecDepth 100000 in
theorem zw_30 {D : va_G} {cA : Nat → ClassId} {b : Nat} {H : Heap} (h : nP D b (lAll cA b) H) : va_at D vwCl (adN b 30, zce (adN b) cA zg0 30 (gs 30)) H := h.2 20 _ rfl
set_option maxRecDepth 100000 in
theorem zw_31 {D : va_G} {cA : Nat → ClassId} {b : Nat} {H : Heap} (h : nP D b (lAll cA b) H) : va_at D vwCl (adN b 31, zce (adN b) cA zg0 31 (gs 31)) H := h.2 21 _ rfl
set_option maxRecDepth 100000 in
theorem zw_32 {D : va_G} {cA : Nat → ClassId} {b : Nat} {H : Heap} (h : nP D b (lAll cA b) H) : va_at D vwCl (adN b 32, zce (adN b) cA zg0 32 (gs 32)) H := row_at (k := 22) h rfl (fun j hj => by
  match j, hj with
  | 0, _ => rfl
  | 1, _ => rfl
  | 2, _ => rfl
  | 3, _ => rfl)
set_option maxRecDepth 100000 in
theorem zw_33 {D : va_G} {cA : Nat → ClassId} {b : Nat} {H : Heap} (h : nP D b (lAll cA b) H) : va_at D vwCl (adN b 33, zce (adN b) cA zg0 33 (gs 33)) H := h.2 23 _ rfl
set_option maxRecDepth 100000 in
theorem zw_34 {D : va_G} {cA : Nat → ClassId} {b : Nat} {H : Heap} (h : nP D b (lAll cA b) H) : va_at D vwCl (adN b 34, zce (adN b) cA zg0 34 (gs 34)) H := h.2 24 _ rfl
set_option maxRecDepth 100000 in
theorem zw_35 {D : va_G} {cA : Nat → ClassId} {b : Nat} {H : Heap} (h : nP D b (lAll cA b) H) : va_at D vwCl (adN b 35, zce (adN b) cA zg0 35 (gs 35)) H := h.2 25 _ rfl
set_option maxRecDepth 100000 in
theorem zw_36 {D : va_G} {cA : Nat → ClassId} {b : Nat} {H : Heap} (h : nP D b (lAll cA b) H) : va_at D vwCl (adN b 36, zce (adN b) cA zg0 36 (gs 36)) H := h.2 26 _ rfl
set_option maxRecDepth 100000 in
theorem zw_37 {D : va_G} {cA : Nat → ClassId} {b : Nat} {H : Heap} (h : nP D b (lAll cA b) H) : va_at D vwCl (adN b 37, zce (adN b) cA zg0 37 (gs 37)) H := h.2 27 _ rfl
set_option maxRecDepth 100000 in
theorem zw_38 {D : va_G} {cA : Nat → ClassId} {b : Nat} {H : Heap} (h : nP D b (lAll cA b) H) : va_at D vwCl (adN b 38, zce (adN b) cA zg0 38 (gs 38)) H := h.2 28 _ rfl
set_option maxRecDepth 100000 in
theorem zw_39 {D : va_G} {cA : Nat → ClassId} {b : Nat} {H : Heap} (h : nP D b (lAll cA b) H) : va_at D vwCl (adN b 39, zce (adN b) cA zg0 39 (gs 39)) H := row_at (k := 29) h rfl (fun j hj => by
  match j, hj with
  | 0, _ => rfl
  | 1, _ => rfl
  | 2, _ => rfl
  | 3, _ => rfl)
set_option maxRecDepth 100000 in
theorem zw_40 {D : va_G} {cA : Nat → ClassId} {b : Nat} {H : Heap} (h : nP D b (lAll cA b) H) : va_at D vwCl (adN b 40, zce (adN b) cA zg0 40 (gs 40)) H := h.2 30 _ rfl
set_option maxRecDepth 100000 in
theorem zw_41 {D : va_G} {cA : Nat → ClassId} {b : Nat} {H : Heap} (h : nP D b (lAll cA b) H) : va_at D vwCl (adN b 41, zce (adN b) cA zg0 41 (gs 41)) H := h.2 31 _ rfl
set_option maxRecDepth 100000 in
theorem zw_42 {D : va_G} {cA : Nat → ClassId} {b : Nat} {H : Heap} (h : nP D b (lAll cA b) H) : va_at D vwCl (adN b 42, zce (adN b) cA zg0 42 (gs 42)) H := h.2 32 _ rfl
set_option maxRecDepth 100000 in
theorem zw_43 {D : va_G} {cA : Nat → ClassId} {b : Nat} {H : Heap} (h : nP D b (lAll cA b) H) : va_at D vwCl (adN b 43, zce (adN b) cA zg0 43 (gs 43)) H := h.2 33 _ rfl
set_option maxRecDepth 100000 in
theorem zw_44 {D : va_G} {cA : Nat → ClassId} {b : Nat} {H : Heap} (h : nP D b (lAll cA b) H) : va_at D vwCl (adN b 44, zce (adN b) cA zg0 44 (gs 44)) H := row_at (k := 34) h rfl (fun j hj => by
  match j, hj with
  | 0, _ => rfl
  | 1, _ => rfl
  | 2, _ => rfl
  | 3, _ => rfl)
set_option maxRecDepth 100000 in
theorem zw_45 {D : va_G} {cA : Nat → ClassId} {b : Nat} {H : Heap} (h : nP D b (lAll cA b) H) : va_at D vwCl (adN b 45, zce (adN b) cA zg0 45 (gs 45)) H := h.2 35 _ rfl
set_option maxRecDepth 100000 in
theorem zw_46 {D : va_G} {cA : Nat → ClassId} {b : Nat} {H : Heap} (h : nP D b (lAll cA b) H) : va_at D vwCl (adN b 46, zce (adN b) cA zg0 46 (gs 46)) H := h.2 36 _ rfl
set_option maxRecDepth 100000 in
theorem zw_47 {D : va_G} {cA : Nat → ClassId} {b : Nat} {H : Heap} (h : nP D b (lAll cA b) H) : va_at D vwCl (adN b 47, zce (adN b) cA zg0 47 (gs 47)) H := h.2 37 _ rfl
set_option maxRecDepth 100000 in
theorem zw_48 {D : va_G} {cA : Nat → ClassId} {b : Nat} {H : Heap} (h : nP D b (lAll cA b) H) : va_at D vwCl (adN b 48, zce (adN b) cA zg0 48 (gs 48)) H := h.2 38 _ rfl
set_option maxRecDepth 100000 in
theorem zw_49 {D : va_G} {cA : Nat → ClassId} {b : Nat} {H : Heap} (h : nP D b (lAll cA b) H) : va_at D vwCl (adN b 49, zce (adN b) cA zg0 49 (gs 49)) H := h.2 40 _ rfl
set_option maxRecDepth 100000 in
theorem zw_50 {D : va_G} {cA : Nat → ClassId} {b : Nat} {H : Heap} (h : nP D b (lAll cA b) H) : va_at D vwCl (adN b 50, zce (adN b) cA zg0 50 (gs 50)) H := h.2 42 _ rfl
set_option maxRecDepth 100000 in
theorem zw_51 {D : va_G} {cA : Nat → ClassId} {b : Nat} {H : Heap} (h : nP D b (lAll cA b) H) : va_at D vwCl (adN b 51, zce (adN b) cA zg0 51 (gs 51)) H := h.2 43 _ rfl
set_option maxRecDepth 100000 in
theorem zw_52 {D : va_G} {cA : Nat → ClassId} {b : Nat} {H : Heap} (h : nP D b (lAll cA b) H) : va_at D vwCl (adN b 52, zce (adN b) cA zg0 52 (gs 52)) H := h.2 45 _ rfl
set_option maxRecDepth 100000 in
theorem zw_53 {D : va_G} {cA : Nat → ClassId} {b : Nat} {H : Heap} (h : nP D b (lAll cA b) H) : va_at D vwCl (adN b 53, zce (adN b) cA zg0 53 (gs 53)) H := h.2 46 _ rfl
set_option maxRecDepth 100000 in
theorem zw_54 {D : va_G} {cA : Nat → ClassId} {b : Nat} {H : Heap} (h : nP D b (lAll cA b) H) : va_at D vwCl (adN b 54, zce (adN b) cA zg0 54 (gs 54)) H := h.2 47 _ rfl
set_option maxRecDepth 100000 in
theorem zw_55 {D : va_G} {cA : Nat → ClassId} {b : Nat} {H : Heap} (h : nP D b (lAll cA b) H) : va_at D vwCl (adN b 55, zce (adN b) cA zg0 55 (gs 55)) H := h.2 50 _ rfl
set_option maxRecDepth 100000 in
theorem zw_56 {D : va_G} {cA : Nat → ClassId} {b : Nat} {H : Heap} (h : nP D b (lAll cA b) H) : va_at D vwCl (adN b 56, zce (adN b) cA zg0 56 (gs 56)) H := h.2 51 _ rfl
set_option maxRecDepth 100000 in
theorem zw_57 {D : va_G} {cA : Nat → ClassId} {b : Nat} {H : Heap} (h : nP D b (lAll cA b) H) : va_at D vwCl (adN b 57, zce (adN b) cA zg0 57 (gs 57)) H := h.2 54 _ rfl
set_option maxRecDepth 100000 in
theorem zw_58 {D : va_G} {cA : Nat → ClassId} {b : Nat} {H : Heap} (h : nP D b (lAll cA b) H) : va_at D vwCl (adN b 58, zce (adN b) cA zg0 58 (gs 58)) H := h.2 55 _ rfl
set_option maxRecDepth 100000 in
theorem zw_59 {D : va_G} {cA : Nat → ClassId} {b : Nat} {H : Heap} (h : nP D b (lAll cA b) H) : va_at D vwCl (adN b 59, zce (adN b) cA zg0 59 (gs 59)) H := h.2 57 _ rfl
set_option maxRecDepth 100000 in
theorem zw_60 {D : va_G} {cA : Nat → ClassId} {b : Nat} {H : Heap} (h : nP D b (lAll cA b) H) : va_at D vwCl (adN b 60, zce (adN b) cA zg0 60 (gs 60)) H := row_at (k := 60) h rfl (fun j hj => by
  match j, hj with
  | 0, _ => rfl
  | 1, _ => rfl
  | 2, _ => rfl
  | 3, _ => rfl)
set_option maxRecDepth 100000 in
theorem zw_61 {D : va_G} {cA : Nat → ClassId} {b : Nat} {H : Heap} (h : nP D b (lAll cA b) H) : va_at D vwCl (adN b 61, zce (adN b) cA zg0 61 (gs 61)) H := h.2 61 _ rfl
set_option maxRecDepth 100000 in
theorem zw_62 {D : va_G} {cA : Nat → ClassId} {b : Nat} {H : Heap} (h : nP D b (lAll cA b) H) : va_at D vwCl (adN b 62, zce (adN b) cA zg0 62 (gs 62)) H := h.2 62 _ rfl
set_option maxRecDepth 100000 in
theorem zw_63 {D : va_G} {cA : Nat → ClassId} {b : Nat} {H : Heap} (h : nP D b (lAll cA b) H) : va_at D vwCl (adN b 63, zce (adN b) cA zg0 63 (gs 63)) H := h.2 63 _ rfl
set_option maxRecDepth 100000 in
theorem zw_64 {D : va_G} {cA : Nat → ClassId} {b : Nat} {H : Heap} (h : nP D b (lAll cA b) H) : va_at D vwCl (adN b 64, zce (adN b) cA zg0 64 (gs 64)) H := h.2 64 _ rfl
set_option maxRecDepth 100000 in
theorem zw_65 {D : va_G} {cA : Nat → ClassId} {b : Nat} {H : Heap} (h : nP D b (lAll cA b) H) : va_at D vwCl (adN b 65, zce (adN b) cA zg0 65 (gs 65)) H := h.2 65 _ rfl
set_option maxRecDepth 100000 in
theorem zw_66 {D : va_G} {cA : Nat → ClassId} {b : Nat} {H : Heap} (h : nP D b (lAll cA b) H) : va_at D vwCl (adN b 66, zce (adN b) cA zg0 66 (gs 66)) H := h.2 66 _ rfl
set_option maxRecDepth 100000 in
theorem zw_67 {D : va_G} {cA : Nat → ClassId} {b : Nat} {H : Heap} (h : nP D b (lAll cA b) H) : va_at D vwCl (adN b 67, zce (adN b) cA zg0 67 (gs 67)) H := h.2 67 _ rfl
set_option maxRecDepth 100000 in
theorem zw_68 {D : va_G} {cA : Nat → ClassId} {b : Nat} {H : Heap} (h : nP D b (lAll cA b) H) : va_at D vwCl (adN b 68, zce (adN b) cA zg0 68 (gs 68)) H := h.2 68 _ rfl
set_option maxRecDepth 100000 in
theorem zw_69 {D : va_G} {cA : Nat → ClassId} {b : Nat} {H : Heap} (h : nP D b (lAll cA b) H) : va_at D vwCl (adN b 69, zce (adN b) cA zg0 69 (gs 69)) H := h.2 69 _ rfl
set_option maxRecDepth 100000 in
theorem zw_70 {D : va_G} {cA : Nat → ClassId} {b : Nat} {H : Heap} (h : nP D b (lAll cA b) H) : va_at D vwCl (adN b 70, zce (adN b) cA zg0 70 (gs 70)) H := h.2 70 _ rfl
set_option maxRecDepth 100000 in
theorem zw_71 {D : va_G} {cA : Nat → ClassId} {b : Nat} {H : Heap} (h : nP D b (lAll cA b) H) : va_at D vwCl (adN b 71, zce (adN b) cA zg0 71 (gs 71)) H := h.2 71 _ rfl
set_option maxRecDepth 100000 in
theorem zw_72 {D : va_G} {cA : Nat → ClassId} {b : Nat} {H : Heap} (h : nP D b (lAll cA b) H) : va_at D vwCl (adN b 72, zce (adN b) cA zg0 72 (gs 72)) H := h.2 72 _ rfl
set_option maxRecDepth 100000 in
theorem zw_73 {D : va_G} {cA : Nat → ClassId} {b : Nat} {H : Heap} (h : nP D b (lAll cA b) H) : va_at D vwCl (adN b 73, zce (adN b) cA zg0 73 (gs 73)) H := h.2 73 _ rfl
set_option maxRecDepth 100000 in
theorem zw_74 {D : va_G} {cA : Nat → ClassId} {b : Nat} {H : Heap} (h : nP D b (lAll cA b) H) : va_at D vwCl (adN b 74, zce (adN b) cA zg0 74 (gs 74)) H := h.2 74 _ rfl
set_option maxRecDepth 100000 in
theorem zw_75 {D : va_G} {cA : Nat → ClassId} {b : Nat} {H : Heap} (h : nP D b (lAll cA b) H) : va_at D vwCl (adN b 75, zce (adN b) cA zg0 75 (gs 75)) H := h.2 75 _ rfl
set_option maxRecDepth 100000 in
theorem zw_76 {D : va_G} {cA : Nat → ClassId} {b : Nat} {H : Heap} (h : nP D b (lAll cA b) H) : va_at D vwCl (adN b 76, zce (adN b) cA zg0 76 (gs 76)) H := h.2 76 _ rfl
set_option maxRecDepth 100000 in
theorem zw_77 {D : va_G} {cA : Nat → ClassId} {b : Nat} {H : Heap} (h : nP D b (lAll cA b) H) : va_at D vwCl (adN b 77, zce (adN b) cA zg0 77 (gs 77)) H := h.2 77 _ rfl
set_option maxRecDepth 100000 in
theorem zw_78 {D : va_G} {cA : Nat → ClassId} {b : Nat} {H : Heap} (h : nP D b (lAll cA b) H) : va_at D vwCl (adN b 78, zce (adN b) cA zg0 78 (gs 78)) H := h.2 78 _ rfl
set_option maxRecDepth 100000 in
theorem zw_79 {D : va_G} {cA : Nat → ClassId} {b : Nat} {H : Heap} (h : nP D b (lAll cA b) H) : va_at D vwCl (adN b 79, zce (adN b) cA zg0 79 (gs 79)) H := h.2 79 _ rfl
set_option maxRecDepth 100000 in
theorem zw_80 {D : va_G} {cA : Nat → ClassId} {b : Nat} {H : Heap} (h : nP D b (lAll cA b) H) : va_at D vwCl (adN b 80, zce (adN b) cA zg0 80 (gs 80)) H := h.2 80 _ rfl
set_option maxRecDepth 100000 in
theorem zw_81 {D : va_G} {cA : Nat → ClassId} {b : Nat} {H : Heap} (h : nP D b (lAll cA b) H) : va_at D vwCl (adN b 81, zce (adN b) cA zg0 81 (gs 81)) H := h.2 81 _ rfl
set_option maxRecDepth 100000 in
theorem zw_82 {D : va_G} {cA : Nat → ClassId} {b : Nat} {H : Heap} (h : nP D b (lAll cA b) H) : va_at D vwCl (adN b 82, zce (adN b) cA zg0 82 (gs 82)) H := h.2 82 _ rfl
set_option maxRecDepth 100000 in
theorem zw_83 {D : va_G} {cA : Nat → ClassId} {b : Nat} {H : Heap} (h : nP D b (lAll cA b) H) : va_at D vwCl (adN b 83, zce (adN b) cA zg0 83 (gs 83)) H := h.2 83 _ rfl
set_option maxRecDepth 100000 in
theorem zw_84 {D : va_G} {cA : Nat → ClassId} {b : Nat} {H : Heap} (h : nP D b (lAll cA b) H) : va_at D vwCl (adN b 84, zce (adN b) cA zg0 84 (gs 84)) H := h.2 84 _ rfl
set_option maxRecDepth 100000 in
theorem zw_85 {D : va_G} {cA : Nat → ClassId} {b : Nat} {H : Heap} (h : nP D b (lAll cA b) H) : va_at D vwCl (adN b 85, zce (adN b) cA zg0 85 (gs 85)) H := h.2 85 _ rfl
set_option maxRecDepth 100000 in
theorem zw_86 {D : va_G} {cA : Nat → ClassId} {b : Nat} {H : Heap} (h : nP D b (lAll cA b) H) : va_at D vwCl (adN b 86, zce (adN b) cA zg0 86 (gs 86)) H := h.2 86 _ rfl
set_option maxRecDepth 100000 in
theorem zw_87 {D : va_G} {cA : Nat → ClassId} {b : Nat} {H : Heap} (h : nP D b (lAll cA b) H) : va_at D vwCl (adN b 87, zce (adN b) cA zg0 87 (gs 87)) H := h.2 87 _ rfl
set_option maxRecDepth 100000 in
theorem zw_88 {D : va_G} {cA : Nat → ClassId} {b : Nat} {H : Heap} (h : nP D b (lAll cA b) H) : va_at D vwCl (adN b 88, zce (adN b) cA zg0 88 (gs 88)) H := h.2 88 _ rfl
set_option maxRecDepth 100000 in
theorem zw_89 {D : va_G} {cA : Nat → ClassId} {b : Nat} {H : Heap} (h : nP D b (lAll cA b) H) : va_at D vwCl (adN b 89, zce (adN b) cA zg0 89 (gs 89)) H := h.2 89 _ rfl
set_option maxRecDepth 100000 in
theorem zw_90 {D : va_G} {cA : Nat → ClassId} {b : Nat} {H : Heap} (h : nP D b (lAll cA b) H) : va_at D vwCl (adN b 90, zce (adN b) cA zg0 90 (gs 90)) H := h.2 90 _ rfl
theorem zw_all {D : va_G} {cA : Nat → ClassId} {b : Nat} {H : Heap} (h : nP D b (lAll cA b) H) : va_P D vwCl (zG (adN b) cA zg0) H := by
  intro k q hq
  by_cases hk : k < 91
  · rw [zG_get hk] at hq
    cases hq
    match k, hk with
    | 0, _ => exact zw_0 h
    | 1, _ => exact zw_1 h
    | 2, _ => exact zw_2 h
    | 3, _ => exact zw_3 h
    | 4, _ => exact zw_4 h
    | 5, _ => exact zw_5 h
    | 6, _ => exact zw_6 h
    | 7, _ => exact zw_7 h
    | 8, _ => exact zw_8 h
    | 9, _ => exact zw_9 h
    | 10, _ => exact zw_10 h
    | 11, _ => exact zw_11 h
    | 12, _ => exact zw_12 h
    | 13, _ => exact zw_13 h
    | 14, _ => exact zw_14 h
    | 15, _ => exact zw_15 h
    | 16, _ => exact zw_16 h
    | 17, _ => exact zw_17 h
    | 18, _ => exact zw_18 h
    | 19, _ => exact zw_19 h
    | 20, _ => exact zw_20 h
    | 21, _ => exact zw_21 h
    | 22, _ => exact zw_22 h
    | 23, _ => exact zw_23 h
    | 24, _ => exact zw_24 h
    | 25, _ => exact zw_25 h
    | 26, _ => exact zw_26 h
    | 27, _ => exact zw_27 h
    | 28, _ => exact zw_28 h
    | 29, _ => exact zw_29 h
    | 30, _ => exact zw_30 h
    | 31, _ => exact zw_31 h
    | 32, _ => exact zw_32 h
    | 33, _ => exact zw_33 h
    | 34, _ => exact zw_34 h
    | 35, _ => exact zw_35 h
    | 36, _ => exact zw_36 h
    | 37, _ => exact zw_37 h
    | 38, _ => exact zw_38 h
    | 39, _ => exact zw_39 h
    | 40, _ => exact zw_40 h
    | 41, _ => exact zw_41 h
    | 42, _ => exact zw_42 h
    | 43, _ => exact zw_43 h
    | 44, _ => exact zw_44 h
    | 45, _ => exact zw_45 h
    | 46, _ => exact zw_46 h
    | 47, _ => exact zw_47 h
    | 48, _ => exact zw_48 h
    | 49, _ => exact zw_49 h
    | 50, _ => exact zw_50 h
    | 51, _ => exact zw_51 h
    | 52, _ => exact zw_52 h
    | 53, _ => exact zw_53 h
    | 54, _ => exact zw_54 h
    | 55, _ => exact zw_55 h
    | 56, _ => exact zw_56 h
    | 57, _ => exact zw_57 h
    | 58, _ => exact zw_58 h
    | 59, _ => exact zw_59 h
    | 60, _ => exact zw_60 h
    | 61, _ => exact zw_61 h
    | 62, _ => exact zw_62 h
    | 63, _ => exact zw_63 h
    | 64, _ => exact zw_64 h
    | 65, _ => exact zw_65 h
    | 66, _ => exact zw_66 h
    | 67, _ => exact zw_67 h
    | 68, _ => exact zw_68 h
    | 69, _ => exact zw_69 h
    | 70, _ => exact zw_70 h
    | 71, _ => exact zw_71 h
    | 72, _ => exact zw_72 h
    | 73, _ => exact zw_73 h
    | 74, _ => exact zw_74 h
    | 75, _ => exact zw_75 h
    | 76, _ => exact zw_76 h
    | 77, _ => exact zw_77 h
    | 78, _ => exact zw_78 h
    | 79, _ => exact zw_79 h
    | 80, _ => exact zw_80 h
    | 81, _ => exact zw_81 h
    | 82, _ => exact zw_82 h
    | 83, _ => exact zw_83 h
    | 84, _ => exact zw_84 h
    | 85, _ => exact zw_85 h
    | 86, _ => exact zw_86 h
    | 87, _ => exact zw_87 h
    | 88, _ => exact zw_88 h
    | 89, _ => exact zw_89 h
    | 90, _ => exact zw_90 h
    | k + 91, hk => exact absurd hk (by omega)
  · rw [zG_none (Nat.not_lt.mp hk)] at hq
    cases hq

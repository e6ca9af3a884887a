theorem lst_some {P : Nat → Bool} : ∀ {d l : Nat}, lstD P d = some l → P l = true ∧ l ≤ d
  | 0, l, h => by
    unfold lstD at h
    by_cases q : P 0 = true
    · rw [if_pos q] at h; cases h; exact ⟨q, Nat.le_refl _⟩
    · rw [if_neg q] at h; cases h
  | d + 1, l, h => by
    unfold lstD at h
    by_cases q : P (d + 1) = true
    · rw [if_pos q] at h; cases h; exact ⟨q, Nat.le_refl _⟩
    · rw [if_neg q] at h
      have := lst_some h
      exact ⟨this.1, by omega⟩
theorem fst_some {P : Nat → Bool} : ∀ {k d f : Nat}, fstD P d k = some f → P f = true ∧ d ≤ f ∧ f < d + k
  | 0, d, f, h => by cases h
  | k + 1, d, f, h => by
    unfold fstD at h
    by_cases q : P d = true
    · rw [if_pos q] at h; cases h; exact ⟨q, Nat.le_refl _, by omega⟩
    · rw [if_neg q] at h
      have := fst_some h
      exact ⟨this.1, by omega, by omega⟩
theorem driftZ_b {κ : Kp} (hi : Inv κ) (p d : Nat) : -40000000 ≤ driftZ κ p d ∧ driftZ κ p d ≤ 40000000 := by
  have pos : ∀ x, isP κ p x = true → 1 ≤ (pC κ p x : Int) := fun x hx => by
    have := of_decide_eq_true hx
    omega
  unfold driftZ
  cases e1 : fstD (isP κ p) 0 400 with
  | none => cases lstD (isP κ p) d <;> exact (by decide : (-40000000 : Int) ≤ 0 ∧ (0 : Int) ≤ 40000000)
  | some f =>
    cases e2 : lstD (isP κ p) d with
    | none => exact (by decide : (-40000000 : Int) ≤ 0 ∧ (0 : Int) ≤ 40000000)
    | some l =>
      have hf := pos f (fst_some e1).1
      have hl := pos l (lst_some e2).1
      have ll := (lst_some e2).2
      have sf := pS_cl hi p f
      have sl := pS_cl hi p l
      dsimp only
      cases e3 : fstD (isP κ p) (d + 1) (399 - d) with
      | none =>
        dsimp only
        have p3 : 0 < (pC κ p l : Int) * pC κ p f := Int.mul_pos (by omega) (by omega)
        have u1 := mulL (y := (pC κ p f : Int)) sl (by omega)
        have u2 := mulL (y := (pC κ p l : Int)) sf (by omega)
        have i1 : 20000 * (pC κ p l : Int) * pC κ p f + 20000 * (pC κ p f : Int) * pC κ p l = 40000 * ((pC κ p l : Int) * pC κ p f) := by grind
        refine nearB p3 ?_
        omega
      | some n =>
        dsimp only
        have hn := pos n (fst_some e3).1
        have ln := (fst_some e3).2.1
        have sn := pS_cl hi p n
        exact drB sl sn sf hl hn hf (by omega) (by omega)
theorem rdZ_b {κ : Kp} (hi : Inv κ) {r : Nat} (hr : r < nR κ) : -60000000 ≤ rdZ κ r ∧ rdZ κ r ≤ 60000000 := by
  have g := (hi.2.2.2.2.2.2.2.1 r hr).2.2.2.1
  have b := driftZ_b hi (κ 4 r).toInt.toNat (κ 5 r).toInt.toNat
  unfold rdZ
  omega
theorem sM_b {κ : Kp} (hi : Inv κ) (a p : Nat) {m : Nat} (hm : m ≤ nR κ) : (-(60000000 * (cnt (kq κ a p) m : Int)) ≤ tot (kq κ a p) (rdZ κ) m ∧ tot (kq κ a p) (rdZ κ) m ≤ 60000000 * (cnt (kq κ a p) m : Int)) ∧ cnt (kq κ a p) m ≤ 8 := ⟨tot_bound (fun r hr _ => rdZ_b hi (by omega)), kq_le hi a p hm⟩
theorem tL_b {κ : Kp} (hi : Inv κ) (a p : Nat) : -60000000 ≤ tL κ a p ∧ tL κ a p ≤ 60000000 := by
  unfold tL
  by_cases q : cN κ a p = 0
  · rw [if_pos q]; exact ⟨by decide, by decide⟩
  · rw [if_neg q]
    have h := (sM_b hi a p (Nat.le_refl _)).1
    exact nearB (by omega) h
theorem fillL_ok {c n : Nat} {v : Int64} {σ : Sto} {post : Sto → Prop} (hn : n < 2 ^ 31) (h : post (wJ σ c (fun i => if i < n then v else σ.2 c i))) : wJ7_fill_d0a16 c n v σ post := by
  have w1 : ∀ (f : Nat → Int64) (i : Nat) (x : Int64), wL (wJ σ c f) c i x = wJ σ c (vp_updL f i x) := fun f i x => by
    unfold wL
    have : (wJ σ c f).2 c = f := by simp [wJ]
    rw [this]
    unfold wJ
    congr 1
    funext c'
    by_cases e : c' = c <;> simp [e]
  have w2 : wJ σ c (σ.2 c) = σ := by
    unfold wJ
    have : (fun c' => if c' = c then σ.2 c else σ.2 c') = σ.2 := by funext c'; by_cases e : c' = c <;> simp [e]
    rw [this]
  unfold wJ7_fill_d0a16
  refine pk_loop (fun k i s => wJ7_fill_d0a16_6 post c n (fun σ_1 => post σ_1) k v (nI i) (Int32.ofNat n) s) (fun i s => s = wJ σ c (fun j => if j < i then v else σ.2 c j)) n 0 σ (Nat.zero_le _) ?_ ?_ ?_
  · have : (fun j => if j < 0 then v else σ.2 c j) = σ.2 c := by funext j; simp
    rw [this, w2]
  · intro k s hs
    unfold wJ7_fill_d0a16_6
    exact ⟨fun _ => by rw [hs]; exact h, fun q => absurd (nI_le (Nat.le_refl n) hn) q⟩
  · intro k i s hi hs kk
    unfold wJ7_fill_d0a16_6
    refine ⟨fun q => absurd q (nI_ge hi hn), fun _ => ⟨vp_in_nI hi hn, ?_⟩⟩
    rw [nI_1]
    refine kk _ ?_
    rw [hs, nI_clamp (by omega), w1]
    congr 1
    funext j
    unfold vp_updL
    by_cases e1 : j = i
    · simp [e1]
    · by_cases e2 : j < i
      · simp [e1, e2, Nat.lt_succ_of_lt e2]
      · simp [e1, e2, show ¬ j < i + 1 by omega]

/-! one number: what it is -/
def prs : List Int → List Int
  | [] => []
  | a :: t => (a :: t).map (fun x => a + x) ++ prs t
theorem prs_snoc (v : Int) : ∀ l : List Int, (prs (l ++ [v])).Perm (prs l ++ (l ++ [v]).map (fun x => v + x))
  | [] => by
    show ([v + v] ++ []).Perm ([] ++ [v + v])
    exact List.Perm.refl _
  | a :: t => by
    have ih := prs_snoc v t
    show ((a :: (t ++ [v])).map (fun x => a + x) ++ prs (t ++ [v])).Perm ((a :: t).map (fun x => a + x) ++ prs t ++ (a :: (t ++ [v])).map (fun x => v + x))
    have e1 : (a :: (t ++ [v])).map (fun x => a + x) = (a :: t).map (fun x => a + x) ++ [a + v] := by rw [← List.cons_append, List.map_append]; rfl
    rw [e1, List.append_assoc, List.append_assoc]
    refine List.Perm.append_left _ ?_
    refine (List.Perm.append_left _ ih).trans ?_
    show ((a + v) :: (prs t ++ _)).Perm (prs t ++ ((v + a) :: _))
    rw [Int.add_comm v a]
    exact List.perm_middle.symm
theorem prs_perm {l m : List Int} (h : l.Perm m) : (prs l).Perm (prs m) := by
  induction h with
  | nil => exact List.Perm.refl _
  | cons x p ih => exact List.Perm.append (List.Perm.map _ (p.cons x)) ih
  | swap x y l =>
    show ((y :: x :: l).map (fun z => y + z) ++ ((x :: l).map (fun z => x + z) ++ prs l)).Perm ((x :: y :: l).map (fun z => x + z) ++ ((y :: l).map (fun z => y + z) ++ prs l))
    rw [← List.append_assoc, ← List.append_assoc]
    refine List.Perm.append_right _ ?_
    show ((y + y) :: (y + x) :: (l.map (fun z => y + z) ++ ((x + x) :: l.map (fun z => x + z)))).Perm ((x + x) :: (x + y) :: (l.map (fun z => x + z) ++ ((y + y) :: l.map (fun z => y + z))))
    rw [Int.add_comm y x]
    have p1 : (l.map (fun z => y + z) ++ ((x + x) :: l.map (fun z => x + z))).Perm ((x + x) :: (l.map (fun z => y + z) ++ l.map (fun z => x + z))) := List.perm_middle
    have p2 : (l.map (fun z => x + z) ++ ((y + y) :: l.map (fun z => y + z))).Perm ((y + y) :: (l.map (fun z => x + z) ++ l.map (fun z => y + z))) := List.perm_middle
    refine ((p1.cons _).cons _).trans (List.Perm.trans ?_ ((p2.cons _).cons _).symm)
    have p3 : (l.map (fun z => y + z) ++ l.map (fun z => x + z)).Perm (l.map (fun z => x + z) ++ l.map (fun z => y + z)) := List.perm_append_comm
    generalize (l.map (fun z => y + z) ++ l.map (fun z => x + z)) = A at p3
    generalize (l.map (fun z => x + z) ++ l.map (fun z => y + z)) = B at p3
    refine ((((p3.cons (x + x)).cons (x + y)).cons (y + y))).trans ?_
    refine ((List.Perm.swap (x + x) (x + y) B).cons (y + y)).trans ?_
    refine (List.Perm.swap (x + x) (y + y) _).trans ?_
    exact (List.Perm.swap (x + y) (y + y) B).cons (x + x)
  | trans _ _ ih1 ih2 => exact ih1.trans ih2
theorem prs_len : ∀ l : List Int, 2 * (prs l).length = l.length * (l.length + 1)
  | [] => rfl
  | a :: t => by
    have ih := prs_len t
    show 2 * ((a :: t).map (fun x => a + x) ++ prs t).length = (t.length + 1) * (t.length + 1 + 1)
    rw [List.length_append, List.length_map, List.length_cons]
    have e1 : (t.length + 1) * (t.length + 1 + 1) = (t.length + 1) * (t.length + 1) + (t.length + 1) := by rw [Nat.mul_add, Nat.mul_one]
    have e2 : (t.length + 1) * (t.length + 1) = t.length * (t.length + 1) + (t.length + 1) := by rw [Nat.add_mul, Nat.one_mul]
    omega
theorem prs_mem {B : Int} : ∀ l : List Int, (∀ v, v ∈ l → -B ≤ v ∧ v ≤ B) → ∀ v, v ∈ prs l → -(2 * B) ≤ v ∧ v ≤ 2 * B
  | [], _, v, hv => by cases hv
  | a :: t, h, v, hv => by
    have hv' : v ∈ (a :: t).map (fun x => a + x) ++ prs t := hv
    rcases List.mem_append.mp hv' with q | q
    · obtain ⟨y, hy, e⟩ := List.mem_map.mp q
      have h1 := h a List.mem_cons_self
      have h2 := h y hy
      omega
    · exact prs_mem t (fun w hw => h w (List.mem_cons_of_mem _ hw)) v q
theorem prs_105 {l : List Int} (h : l.length ≤ 14) : (prs l).length ≤ 105 := by
  have e := prs_len l
  have m := Nat.mul_le_mul h (show l.length + 1 ≤ 15 by omega)
  omega
def wtA (κ : Kp) (p : Nat) : Int := tot (pt κ p) (fun a => 100000000 / wZ κ a * tL κ a p) (nH κ)
def wtB (κ : Kp) (p : Nat) : Int := tot (pt κ p) (fun a => 100000000 / wZ κ a) (nH κ)
def clZ (x r v : Int) : Int := if v < x - r then x - r else if x + r < v then x + r else v
def wr64 (z : Int) : Int := z.bmod (2 ^ 64)
def sqZ (x r y v : Int) : Int := (clZ x r v - y) * (clZ x r v - y)
def spV (q : Int) (n : Nat) : Int := (wr64 (q / ((n : Int) - 1) * 1286)).tdiv 1000
noncomputable def stp (l : List Int) (y : Int × Int) : Int × Int :=
  (lsum (l.map (clZ y.1 (3 * y.2 / 2))) / l.length,
   if l.length = 1 then 0 else rtZ (spV (lsum (l.map (sqZ y.1 (3 * y.2 / 2) (lsum (l.map (clZ y.1 (3 * y.2 / 2))) / l.length)))) l.length))
theorem stp_perm {l m : List Int} (h : l.Perm m) (y : Int × Int) : stp l y = stp m y := by
  unfold stp
  rw [lsum_perm (h.map _), h.length_eq]
  rw [lsum_perm (h.map (sqZ _ _ _))]
def stx0 (l : List Int) : Int := twZ (srt l) / 2
def dvZ (x v : Int) : Int := if 0 ≤ v - x then v - x else -(v - x)
def sts0 (l : List Int) : Int := twZ (srt (l.map (dvZ (stx0 l)))) * 1483 / 2000
noncomputable def stN (l : List Int) : Nat → Int × Int
  | 0 => (stx0 l, sts0 l)
  | k + 1 => stp l (stN l k)
noncomputable def stX (l : List Int) : Int := (stN l 10).1
/-- a list of what is told: not empty, not too long, not too large -/
def okL (l : List Int) : Prop := (1 ≤ l.length ∧ l.length ≤ 14) ∧ ∀ v, v ∈ l → -60000000 ≤ v ∧ v ≤ 60000000
theorem okL_TL {κ : Kp} (h : Inv κ) {p : Nat} (hn : ptN κ p ≠ 0) : okL (TL κ p) := ⟨by have := ptN_le h p; rw [TL_len]; omega, TLn_mem h _⟩
theorem gD_b {l : List Int} {B : Int} (h : ∀ v, v ∈ l → -B ≤ v ∧ v ≤ B) {k : Nat} (hk : k < l.length) : -B ≤ l.getD k 0 ∧ l.getD k 0 ≤ B := h _ (gD_mem hk)
theorem twZ_b {l : List Int} {B : Int} (h : ∀ v, v ∈ l → -B ≤ v ∧ v ≤ B) (hl : 0 < l.length) : -(2 * B) ≤ twZ (srt l) ∧ twZ (srt l) ≤ 2 * B := by
  have h' : ∀ v, v ∈ srt l → -B ≤ v ∧ v ≤ B := fun v hv => h v ((srt_p l).mem_iff.mp hv)
  have ll := srt_len l
  unfold twZ
  have b1 := gD_b h' (k := ((srt l).length - 1) / 2) (by omega)
  have b2 := gD_b h' (k := (srt l).length / 2) (by omega)
  omega
theorem clZ_b {x r v : Int} (hx : -60000000 ≤ x ∧ x ≤ 60000000) (hr : 0 ≤ r) (hv : -60000000 ≤ v ∧ v ≤ 60000000) : -60000000 ≤ clZ x r v ∧ clZ x r v ≤ 60000000 := by
  unfold clZ
  split
  · omega
  · split <;> omega
theorem mean_b {l : List Int} {g : Int → Int} (hl : 1 ≤ l.length) (h : ∀ v, v ∈ l → -60000000 ≤ g v ∧ g v ≤ 60000000) : -60000000 ≤ lsum (l.map g) / l.length ∧ lsum (l.map g) / l.length ≤ 60000000 := by
  have b := lsum_b (B := 60000000) (by decide) (l.map g) (fun v hv => by
    obtain ⟨y, hy, e⟩ := List.mem_map.mp hv
    rw [← e]; exact h y hy)
  rw [List.length_map] at b
  have hp : (0 : Int) < l.length := by omega
  constructor
  · rw [Int.le_ediv_iff_mul_le hp]
    have : -60000000 * (l.length : Int) = -(60000000 * (l.length : Int)) := by rw [Int.neg_mul]
    omega
  · have : lsum (l.map g) / l.length < 60000001 := by
      rw [Int.ediv_lt_iff_lt_mul hp]
      have e : 60000001 * (l.length : Int) = 60000000 * l.length + l.length := by omega
      omega
    omega
theorem wr_b (z : Int) : -9223372036854775808 ≤ wr64 z ∧ wr64 z < 9223372036854775808 := by
  have h1 := Int.le_bmod (x := z) (m := 2 ^ 64) (by decide)
  have h2 := Int.bmod_lt (x := z) (m := 2 ^ 64) (by decide)
  unfold wr64
  have e : ((2 ^ 64 : Nat) : Int) = 18446744073709551616 := by decide
  rw [e] at h1 h2
  omega
theorem spV_b (q : Int) (n : Nat) : -10000000000000000 < spV q n ∧ spV q n < 10000000000000000 := by
  have w := wr_b (q / ((n : Int) - 1) * 1286)
  unfold spV
  generalize wr64 (q / ((n : Int) - 1) * 1286) = z at w
  rcases Int.lt_or_le z 0 with s | s
  · have h1 : z.tdiv 1000 = -((-z) / 1000) := by
      have h2 := Int.neg_tdiv z 1000
      rw [Int.tdiv_eq_ediv_of_nonneg (show 0 ≤ -z by omega)] at h2
      omega
    rw [h1]
    omega
  · rw [Int.tdiv_eq_ediv_of_nonneg s]
    omega
theorem isR_ex (v : Int) (h : v < 10000000000000000) : ∃ r, isR r v := by
  have key : ∀ k : Nat, (k : Int) * k ≤ v ∨ k = 0 → (∃ r, isR r v) ∨ ((k + 1 : Nat) : Int) * ((k + 1 : Nat) : Int) ≤ v := fun k hk => by
    rcases Int.lt_or_le v (((k + 1 : Nat) : Int) * ((k + 1 : Nat) : Int)) with s | s
    · exact Or.inl ⟨k, by omega, hk.symm.imp (fun z => by omega) id, by rw [show ((k : Int) + 1) = ((k + 1 : Nat) : Int) by omega]; exact s⟩
    · exact Or.inr s
  have all : ∀ k : Nat, (∃ r, isR r v) ∨ (k = 0 ∨ (k : Int) * k ≤ v) := fun k => by
    induction k with
    | zero => exact Or.inr (Or.inl rfl)
    | succ k ih =>
      rcases ih with q | q
      · exact Or.inl q
      · exact (key k q.symm).imp id Or.inr
  rcases all 100000000 with q | q | q
  · exact q
  · exact absurd q (by decide)
  · exfalso
    have e : ((100000000 : Nat) : Int) * ((100000000 : Nat) : Int) = 10000000000000000 := by decide
    omega
theorem rtZ_bb (v : Int) (h : v < 10000000000000000) : 0 ≤ rtZ v ∧ rtZ v < 100000000 := by
  obtain ⟨r, hr⟩ := isR_ex v h
  have := rtZ_b hr h
  omega
theorem stN_b {l : List Int} (h : okL l) : ∀ k, (-60000000 ≤ (stN l k).1 ∧ (stN l k).1 ≤ 60000000) ∧ 0 ≤ (stN l k).2 ∧ (stN l k).2 ≤ 200000000
  | 0 => by
    have b1 := twZ_b (B := 60000000) h.2 (by have := h.1; omega)
    have x0 : -60000000 ≤ stx0 l ∧ stx0 l ≤ 60000000 := by unfold stx0; omega
    have hd : ∀ v, v ∈ l.map (dvZ (stx0 l)) → 0 ≤ v ∧ v ≤ 120000000 := fun v hv => by
      obtain ⟨y, hy, e⟩ := List.mem_map.mp hv
      have := h.2 y hy
      rw [← e]
      unfold dvZ
      split <;> omega
    have ln : (l.map (dvZ (stx0 l))).length = l.length := List.length_map ..
    have b2 := twZ_b (B := 120000000) (fun v hv => by have := hd v hv; omega) (l := l.map (dvZ (stx0 l))) (by have := h.1; omega)
    have b3 : 0 ≤ twZ (srt (l.map (dvZ (stx0 l)))) := by
      have hd' : ∀ v, v ∈ srt (l.map (dvZ (stx0 l))) → 0 ≤ v ∧ v ≤ 120000000 := fun v hv => hd v ((srt_p _).mem_iff.mp hv)
      have ll := srt_len (l.map (dvZ (stx0 l)))
      have := h.1
      unfold twZ
      have c1 := hd' _ (gD_mem (L := srt (l.map (dvZ (stx0 l)))) (k := ((srt (l.map (dvZ (stx0 l)))).length - 1) / 2) (by omega))
      have c2 := hd' _ (gD_mem (L := srt (l.map (dvZ (stx0 l)))) (k := (srt (l.map (dvZ (stx0 l)))).length / 2) (by omega))
      omega
    show (-60000000 ≤ stx0 l ∧ stx0 l ≤ 60000000) ∧ 0 ≤ sts0 l ∧ sts0 l ≤ 200000000
    refine ⟨x0, ?_⟩
    unfold sts0
    omega
  | k + 1 => by
    have ih := stN_b h k
    show (-60000000 ≤ (stp l (stN l k)).1 ∧ (stp l (stN l k)).1 ≤ 60000000) ∧ 0 ≤ (stp l (stN l k)).2 ∧ (stp l (stN l k)).2 ≤ 200000000
    unfold stp
    refine ⟨mean_b h.1.1 (fun v hv => clZ_b ih.1 (by omega) (h.2 v hv)), ?_⟩
    dsimp only
    split
    · omega
    · have := rtZ_bb _ (spV_b (lsum (l.map (sqZ (stN l k).1 (3 * (stN l k).2 / 2) (lsum (l.map (clZ (stN l k).1 (3 * (stN l k).2 / 2))) / l.length)))) l.length).2
      omega
noncomputable def nmA (κ : Kp) (p : Nat) (r : Int32) : Int := if r = 0 then twZ (srt (TL κ p)) else if r = 1 then twZ (srt (prs (TL κ p))) else if r = 2 then wtA κ p else stX (TL κ p)
def nmB (κ : Kp) (p : Nat) (r : Int32) : Int := if r = 0 then 2 else if r = 1 then 4 else if r = 2 then wtB κ p else 1
theorem wt_b {κ : Kp} (h : Inv κ) (p : Nat) : ∀ n, n ≤ nH κ → (-(6000000000000000 * (n : Int)) ≤ tot (pt κ p) (fun a => 100000000 / wZ κ a * tL κ a p) n ∧ tot (pt κ p) (fun a => 100000000 / wZ κ a * tL κ a p) n ≤ 6000000000000000 * (n : Int)) ∧ (cnt (pt κ p) n : Int) ≤ tot (pt κ p) (fun a => 100000000 / wZ κ a) n ∧ tot (pt κ p) (fun a => 100000000 / wZ κ a) n ≤ 100000000 * (n : Int)
  | 0, _ => by
    show (-(6000000000000000 * ((0 : Nat) : Int)) ≤ (0 : Int) ∧ (0 : Int) ≤ 6000000000000000 * ((0 : Nat) : Int)) ∧ ((0 : Nat) : Int) ≤ (0 : Int) ∧ (0 : Int) ≤ 100000000 * ((0 : Nat) : Int)
    omega
  | n + 1, hn => by
    have ih := wt_b h p n (by omega)
    have wb := wZ_b h (show n < nH κ by omega)
    have tb := tL_b h n p
    have q1 : 1 ≤ 100000000 / wZ κ n := by rw [Int.le_ediv_iff_mul_le (by omega)]; omega
    have q2 : 100000000 / wZ κ n ≤ 100000000 := Int.ediv_le_self _ (by decide)
    have m := mulB (x := 100000000 / wZ κ n) (y := tL κ n p) (A := 100000000) (B := 60000000) (M := 6000000000000000) ⟨by omega, by omega⟩ ⟨by omega, by omega⟩ (by decide)
    cases q : pt κ p n with
    | false =>
      rw [tot_s0 q, tot_s0 q, cnt_s0 q]
      omega
    | true =>
      rw [tot_s1 q, tot_s1 q, cnt_s1 q]
      omega
theorem wtB_b {κ : Kp} (h : Inv κ) {p : Nat} (hn : ptN κ p ≠ 0) : 0 < wtB κ p ∧ wtB κ p ≤ 1400000000 ∧ -84000000000000000 ≤ wtA κ p ∧ wtA κ p ≤ 84000000000000000 := by
  have b := wt_b h p (nH κ) (Nat.le_refl _)
  have := nH_le h
  unfold ptN at hn
  unfold wtA wtB
  omega
theorem nm_b {κ : Kp} (h : Inv κ) {p : Nat} (hn : ptN κ p ≠ 0) (r : Int32) : (0 < nmB κ p r ∧ nmB κ p r ≤ 1400000000) ∧ -84000000000000000 ≤ nmA κ p r ∧ nmA κ p r ≤ 84000000000000000 := by
  have ok := okL_TL h hn
  have w := wtB_b h hn
  have t1 := twZ_b (B := 60000000) ok.2 (by have := ok.1; omega)
  have t2 := twZ_b (B := 120000000) (prs_mem _ ok.2) (l := prs (TL κ p)) (by have := prs_len (TL κ p); have := ok.1; have := Nat.mul_le_mul this.1 (show 2 ≤ (TL κ p).length + 1 by omega); omega)
  have t3 := (stN_b ok 10).1
  unfold nmA nmB stX
  split
  · omega
  · split
    · omega
    · split <;> omega

/-! repeats: what they are -/
def vW (κ : Kp) (r : Nat) : Int := nearZ (rdZ κ r) 1000
theorem vW_b {κ : Kp} (h : Inv κ) {r : Nat} (hr : r < nR κ) : -60000 ≤ vW κ r ∧ vW κ r ≤ 60000 := by
  have b := rdZ_b h hr
  unfold vW
  exact nearB (by decide) (by omega)
def vQ (κ : Kp) (r : Nat) : Int := vW κ r * vW κ r
theorem vQ_b {κ : Kp} (h : Inv κ) {r : Nat} (hr : r < nR κ) : 0 ≤ vQ κ r ∧ vQ κ r ≤ 3600000000 := by
  have b := vW_b h hr
  have m := mulB (x := vW κ r) (y := vW κ r) (A := 60000) (B := 60000) (M := 3600000000) b b (by decide)
  have p := sq_nn (vW κ r)
  unfold vQ
  omega
def rS (κ : Kp) (a p : Nat) : Int := tot (kq κ a p) (vW κ) (nR κ)
def rQ (κ : Kp) (a p : Nat) : Int := tot (kq κ a p) (vQ κ) (nR κ)
theorem tot_c {P : Nat → Bool} {f : Nat → Int} {A B : Int} : ∀ {n : Nat}, (∀ r, r < n → P r = true → A ≤ f r ∧ f r ≤ B) → A * (cnt P n : Int) ≤ tot P f n ∧ tot P f n ≤ B * (cnt P n : Int)
  | 0, _ => by show A * ((0 : Nat) : Int) ≤ (0 : Int) ∧ (0 : Int) ≤ B * ((0 : Nat) : Int); omega
  | n + 1, h => by
    have ih := tot_c (P := P) (f := f) (A := A) (B := B) (n := n) (fun r hr => h r (by omega))
    cases q : P n with
    | false => rw [tot_s0 q, cnt_s0 q]; exact ih
    | true =>
      have := h n (by omega) q
      rw [tot_s1 q, cnt_s1 q, Int.natCast_add, Int.mul_add, Int.mul_add]
      omega
theorem cs_step {c S Q v : Int} (hc : 0 ≤ c) (h : S * S ≤ c * Q) (h0 : c = 0 → S = 0) (hQ : 0 ≤ Q) : (S + v) * (S + v) ≤ (c + 1) * (Q + v * v) := by
  have e1 : (S + v) * (S + v) = S * S + 2 * (S * v) + v * v := by
    rw [Int.add_mul, Int.mul_add, Int.mul_add, Int.mul_comm v S]; omega
  have e2 : (c + 1) * (Q + v * v) = c * Q + c * (v * v) + Q + v * v := by
    rw [Int.add_mul, Int.mul_add, Int.one_mul]; omega
  rw [e1, e2]
  rcases Int.lt_or_le 0 c with q | q
  · have key : 2 * (S * v) ≤ c * (v * v) + Q := by
      rcases Int.lt_or_le (c * (v * v) + Q) (2 * (S * v)) with z | z
      case inr => exact z
      case inl =>
        exfalso
        have m := Int.mul_lt_mul_of_pos_left z q
        have s := sq_nn (c * v - S)
        have e3 : (c * v - S) * (c * v - S) = c * (c * (v * v)) - 2 * (c * (S * v)) + S * S := by
          rw [Int.sub_mul, Int.mul_sub, Int.mul_sub]
          have a1 : c * v * (c * v) = c * (c * (v * v)) := by rw [Int.mul_assoc, Int.mul_left_comm v c v]
          have a2 : c * v * S = c * (S * v) := by rw [Int.mul_assoc, Int.mul_comm v S]
          have a3 : S * (c * v) = c * (S * v) := by rw [Int.mul_left_comm]
          rw [a1, a2, a3]; omega
        have e4 : c * (2 * (S * v)) = 2 * (c * (S * v)) := Int.mul_left_comm _ _ _
        have e5 : c * (c * (v * v) + Q) = c * (c * (v * v)) + c * Q := Int.mul_add _ _ _
        rw [e4, e5] at m
        omega
    omega
  · have z : c = 0 := by omega
    have s0 := h0 z
    rw [s0, z]
    omega
theorem cs_tot {P : Nat → Bool} {f : Nat → Int} : ∀ n, tot P f n * tot P f n ≤ (cnt P n : Int) * tot P (fun r => f r * f r) n ∧ (cnt P n = 0 → tot P f n = 0) ∧ 0 ≤ tot P (fun r => f r * f r) n
  | 0 => by
    show (0 : Int) * 0 ≤ ((0 : Nat) : Int) * 0 ∧ (_ → (0 : Int) = 0) ∧ (0 : Int) ≤ 0
    exact ⟨by omega, fun _ => rfl, by omega⟩
  | n + 1 => by
    have ih := cs_tot (P := P) (f := f) n
    cases q : P n with
    | false => rw [tot_s0 q, tot_s0 q, cnt_s0 q]; exact ih
    | true =>
      rw [tot_s1 q, tot_s1 q, cnt_s1 q, Int.natCast_add]
      have s := sq_nn (f n)
      exact ⟨cs_step (by omega) ih.1 (fun z => ih.2.1 (by omega)) ih.2.2, fun z => by omega, by omega⟩
def spr (κ : Kp) (a p : Nat) : Int := (cN κ a p : Int) * rQ κ a p - rS κ a p * rS κ a p
theorem r_b {κ : Kp} (h : Inv κ) (a p : Nat) : (-60000 * (cN κ a p : Int) ≤ rS κ a p ∧ rS κ a p ≤ 60000 * (cN κ a p : Int)) ∧ 0 ≤ rQ κ a p ∧ rQ κ a p ≤ 3600000000 * (cN κ a p : Int) := by
  have b1 := tot_c (P := kq κ a p) (f := vW κ) (n := nR κ) (fun r hr _ => vW_b h hr)
  have b2 := tot_c (P := kq κ a p) (f := vQ κ) (n := nR κ) (fun r hr _ => vQ_b h hr)
  unfold rS rQ cN
  refine ⟨b1, ?_, b2.2⟩
  have := b2.1
  omega
theorem spr_b {κ : Kp} (h : Inv κ) (a p : Nat) : 0 ≤ spr κ a p ∧ spr κ a p ≤ 3600000000 * ((cN κ a p : Int) * (cN κ a p : Int)) := by
  have c := cs_tot (P := kq κ a p) (f := vW κ) (nR κ)
  have b := r_b h a p
  have m := Int.mul_le_mul_of_nonneg_left b.2.2 (show (0 : Int) ≤ (cN κ a p : Int) by omega)
  have s := sq_nn (rS κ a p)
  have e : (cN κ a p : Int) * (3600000000 * (cN κ a p : Int)) = 3600000000 * ((cN κ a p : Int) * (cN κ a p : Int)) := Int.mul_left_comm _ _ _
  have c1 : rS κ a p * rS κ a p ≤ (cN κ a p : Int) * rQ κ a p := c.1
  unfold spr
  omega
/-- how a number of readings scales -/
def btN (n : Nat) : Int := (n : Int) * ((n : Int) - 1)
theorem n28 {n : Nat} (h2 : 2 ≤ n) (h8 : n ≤ 8) : n = 2 ∨ n = 3 ∨ n = 4 ∨ n = 5 ∨ n = 6 ∨ n = 7 ∨ n = 8 := by omega
def kSc (n : Nat) : Int := 840 / btN n
theorem sc_tab {n : Nat} (h2 : 2 ≤ n) (h8 : n ≤ 8) : (0 < btN n ∧ btN n ≤ 56) ∧ (0 < kSc n ∧ kSc n ≤ 420) ∧ btN n * kSc n = 840 ∧ ((n : Int) * n) * kSc n ≤ 1680 := by
  rcases n28 h2 h8 with e | e | e | e | e | e | e <;> subst e <;> decide
def scW (κ : Kp) (a p : Nat) : Int := if cN κ a p < 2 then -1 else spr κ a p * kSc (cN κ a p)
theorem scW_b {κ : Kp} (h : Inv κ) {a p : Nat} (h2 : 2 ≤ cN κ a p) : scW κ a p = spr κ a p * kSc (cN κ a p) ∧ 0 ≤ scW κ a p ∧ scW κ a p ≤ 6048000000000 := by
  have s := spr_b h a p
  have h8 := cN_le h a p
  have t := sc_tab h2 h8
  have e : scW κ a p = spr κ a p * kSc (cN κ a p) := by unfold scW; rw [if_neg (by omega)]
  refine ⟨e, ?_⟩
  rw [e]
  have m := Int.mul_le_mul_of_nonneg_right s.2 (show 0 ≤ kSc (cN κ a p) by omega)
  rw [Int.mul_assoc] at m
  exact ⟨Int.mul_nonneg s.1 (by omega), by omega⟩
/-- two ways to compare -/
theorem sc_cmp {x y : Int} {n m : Nat} (h2 : 2 ≤ n) (h8 : n ≤ 8) (g2 : 2 ≤ m) (g8 : m ≤ 8) : (x * btN m ≤ y * btN n) ↔ (x * kSc n ≤ y * kSc m) := by
  rcases n28 h2 h8 with e | e | e | e | e | e | e <;> rcases n28 g2 g8 with f | f | f | f | f | f | f <;> subst e <;> subst f <;> simp only [btN, kSc] <;> omega
def wdF (κ : Kp) (p : Nat) : Nat → Int × Int
  | 0 => (-1, -1)
  | a + 1 => if (wdF κ p a).2 < scW κ a p then ((a : Int), scW κ a p) else wdF κ p a
theorem wdF_i {κ : Kp} (h : Inv κ) {p : Nat} : ∀ n, ((wdF κ p n).1 = -1 ∧ (wdF κ p n).2 = -1 ∧ ∀ a, a < n → cN κ a p < 2) ∨ ∃ k, k < n ∧ (wdF κ p n).1 = (k : Int) ∧ (wdF κ p n).2 = scW κ k p ∧ 2 ≤ cN κ k p
  | 0 => Or.inl ⟨rfl, rfl, fun a ha => absurd ha (Nat.not_lt_zero _)⟩
  | n + 1 => by
    have ih := wdF_i h (p := p) n
    have e : wdF κ p (n + 1) = if (wdF κ p n).2 < scW κ n p then ((n : Int), scW κ n p) else wdF κ p n := rfl
    rw [e]
    by_cases q : (wdF κ p n).2 < scW κ n p
    · rw [if_pos q]
      refine Or.inr ⟨n, by omega, rfl, rfl, ?_⟩
      rcases Nat.lt_or_ge (cN κ n p) 2 with z | z
      · exfalso
        have s : scW κ n p = -1 := by unfold scW; rw [if_pos z]
        rcases ih with g | ⟨k, g1, g2, g3, g4⟩
        · omega
        · have := scW_b h g4
          omega
      · exact z
    · rw [if_neg q]
      rcases ih with ⟨g1, g2, g3⟩ | ⟨k, g1, g2, g3, g4⟩
      · refine Or.inl ⟨g1, g2, fun a ha => ?_⟩
        by_cases z : a = n
        · rw [z]
          rcases Nat.lt_or_ge (cN κ n p) 2 with w | w
          · exact w
          · have := scW_b h w
            omega
        · exact g3 a (by omega)
      · exact Or.inr ⟨k, by omega, g2, g3, g4⟩
def rpB (κ : Kp) (p a : Nat) : Bool := decide (2 ≤ cN κ a p)
def shB (κ : Kp) (p n : Nat) : Int := tot (rpB κ p) (fun a => scW κ a p) n
theorem shB_b {κ : Kp} (h : Inv κ) (p n : Nat) (hn : n ≤ 14) : 0 ≤ shB κ p n ∧ shB κ p n ≤ 84672000000000 := by
  have b := tot_c (P := rpB κ p) (f := fun a => scW κ a p) (A := 0) (B := 6048000000000) (n := n) (fun r _ q => (scW_b h (of_decide_eq_true q)).2)
  have c := cnt_le (P := rpB κ p) (n := n)
  unfold shB
  omega
/-! parts -/
def mxN (κ : Kp) (p : Nat) : Nat → Nat
  | 0 => 0
  | a + 1 => max (mxN κ p a) (cN κ a p)
def eqM (κ : Kp) (p n : Nat) : Prop := ∀ a, a < n → pt κ p a = true → cN κ a p = mxN κ p n
theorem mxN_ge {κ : Kp} {p : Nat} : ∀ {n a : Nat}, a < n → cN κ a p ≤ mxN κ p n
  | 0, a, h => absurd h (Nat.not_lt_zero _)
  | n + 1, a, h => by
    show _ ≤ max _ _
    by_cases e : a = n
    · rw [e]; omega
    · have := mxN_ge (κ := κ) (p := p) (n := n) (a := a) (by omega)
      omega
theorem mxN_le {κ : Kp} (h : Inv κ) {p : Nat} : ∀ n, mxN κ p n ≤ 8
  | 0 => Nat.zero_le _
  | n + 1 => by
    have := mxN_le h (p := p) n
    have := cN_le h n p
    show max _ _ ≤ 8
    omega
theorem eqM_0 {κ : Kp} {p n : Nat} (h : mxN κ p n = 0) : eqM κ p n := fun a ha q => by
  have := mxN_ge (κ := κ) (p := p) ha
  omega
theorem eqM_s {κ : Kp} {p n : Nat} : eqM κ p (n + 1) ↔ eqM κ p n ∧ (cN κ n p = 0 ∨ mxN κ p n = 0 ∨ cN κ n p = mxN κ p n) := by
  have e : mxN κ p (n + 1) = max (mxN κ p n) (cN κ n p) := rfl
  constructor
  · intro h
    have h1 : cN κ n p = 0 ∨ mxN κ p n = 0 ∨ cN κ n p = mxN κ p n := by
      rcases Nat.eq_zero_or_pos (cN κ n p) with z | z
      · exact Or.inl z
      · rcases Nat.eq_zero_or_pos (mxN κ p n) with y | y
        · exact Or.inr (Or.inl y)
        · right; right
          have g := h n (by omega) (decide_eq_true z)
          rw [e] at g
          by_cases w : cN κ n p = mxN κ p n
          · exact w
          · exfalso
            have : ∃ a, a < n ∧ pt κ p a = true ∧ cN κ a p = mxN κ p n := by
              have key : ∀ m, 0 < mxN κ p m → ∃ a, a < m ∧ pt κ p a = true ∧ cN κ a p = mxN κ p m := fun m => by
                induction m with
                | zero => intro h; exact absurd h (Nat.lt_irrefl _)
                | succ m ih =>
                  intro hm
                  have em : mxN κ p (m + 1) = max (mxN κ p m) (cN κ m p) := rfl
                  rw [em] at hm ⊢
                  rcases Nat.lt_or_ge (mxN κ p m) (cN κ m p) with u | u
                  · exact ⟨m, by omega, decide_eq_true (by omega), by omega⟩
                  · obtain ⟨a, a1, a2, a3⟩ := ih (by omega)
                    exact ⟨a, by omega, a2, by omega⟩
              exact key n y
            obtain ⟨a, a1, a2, a3⟩ := this
            have g2 := h a (by omega) a2
            rw [e] at g2
            omega
    refine ⟨fun a ha q => ?_, h1⟩
    have g := h a (by omega) q
    rw [e] at g
    have ge := mxN_ge (κ := κ) (p := p) ha
    have qq : 0 < cN κ a p := of_decide_eq_true q
    omega
  · rintro ⟨h1, h2⟩ a ha q
    rw [e]
    have qq : 0 < cN κ a p := of_decide_eq_true q
    by_cases z : a = n
    · subst z; omega
    · have g := h1 a (by omega) q
      omega
def insd (κ : Kp) (p n : Nat) : Int := tot (pt κ p) (fun a => spr κ a p) n
def sumS (κ : Kp) (p n : Nat) : Int := tot (pt κ p) (fun a => rS κ a p) n
def sumQ (κ : Kp) (p n : Nat) : Int := tot (pt κ p) (fun a => rS κ a p * rS κ a p) n
theorem prt_b {κ : Kp} (h : Inv κ) (p n : Nat) (hn : n ≤ 14) : (0 ≤ insd κ p n ∧ insd κ p n ≤ 3225600000000) ∧ (-6720000 ≤ sumS κ p n ∧ sumS κ p n ≤ 6720000) ∧ 0 ≤ sumQ κ p n ∧ sumQ κ p n ≤ 3225600000000 := by
  have c := cnt_le (P := pt κ p) (n := n)
  have b1 := tot_c (P := pt κ p) (f := fun a => spr κ a p) (A := 0) (B := 230400000000) (n := n) (fun r _ _ => by
    have s := spr_b h r p
    have c8 := cN_le h r p
    have m := mulB (x := (cN κ r p : Int)) (y := (cN κ r p : Int)) (A := 8) (B := 8) (M := 64) ⟨by omega, by omega⟩ ⟨by omega, by omega⟩ (by decide)
    omega)
  have b2 := tot_c (P := pt κ p) (f := fun a => rS κ a p) (A := -480000) (B := 480000) (n := n) (fun r _ _ => by
    have s := (r_b h r p).1
    have c8 := cN_le h r p
    omega)
  have b3 := tot_c (P := pt κ p) (f := fun a => rS κ a p * rS κ a p) (A := 0) (B := 230400000000) (n := n) (fun r _ _ => by
    have s := (r_b h r p).1
    have c8 := cN_le h r p
    have m := mulB (x := rS κ r p) (y := rS κ r p) (A := 480000) (B := 480000) (M := 230400000000) ⟨by omega, by omega⟩ ⟨by omega, by omega⟩ (by decide)
    have := sq_nn (rS κ r p)
    omega)
  unfold insd sumS sumQ
  omega
/-- between houses -/
def aprt (κ : Kp) (p : Nat) : Int := ((ptN κ p : Int) * sumQ κ p (nH κ) - sumS κ p (nH κ) * sumS κ p (nH κ)) * ((mxN κ p (nH κ) : Int) - 1) - insd κ p (nH κ) * ((ptN κ p : Int) - 1)
def prA (κ : Kp) (p : Nat) (t : Int32) : Int := if t = 0 then insd κ p (nH κ) else aprt κ p
def prB (κ : Kp) (p : Nat) (t : Int32) : Int := if t = 0 then (ptN κ p : Int) * mxN κ p (nH κ) * ((mxN κ p (nH κ) : Int) - 1) else (mxN κ p (nH κ) : Int) * mxN κ p (nH κ) * ((mxN κ p (nH κ) : Int) - 1) * ptN κ p * ((ptN κ p : Int) - 1)
theorem h214 {n : Nat} (h2 : 2 ≤ n) (h8 : n ≤ 14) : n = 2 ∨ n = 3 ∨ n = 4 ∨ n = 5 ∨ n = 6 ∨ n = 7 ∨ n = 8 ∨ n = 9 ∨ n = 10 ∨ n = 11 ∨ n = 12 ∨ n = 13 ∨ n = 14 := by omega

/-! the least costs: what they are, and that two that are so are the same -/
def RP (n : Nat) (A : Nat → Nat → Bool) (w : Nat → Int) (to : Nat) : Nat → Nat → Int → Prop
  | 0, a, z => a = to ∧ z = w to
  | k + 1, a, z => ∃ b z', b < n ∧ b ≠ a ∧ A a b = true ∧ RP n A w to k b z' ∧ z = z' + w a
def gnd (n : Nat) (A : Nat → Nat → Bool) (w : Nat → Int) (to : Nat) (c : Nat → Int) : Prop := ∀ a, a < n → c a ≠ -1 → ∃ k, RP n A w to k a (c a)
def cls (n : Nat) (A : Nat → Nat → Bool) (w : Nat → Int) (to : Nat) (c : Nat → Int) : Prop := (c to ≠ -1 ∧ c to ≤ w to) ∧ ∀ a b, a < n → b < n → b ≠ a → A a b = true → c b ≠ -1 → c a ≠ -1 ∧ c a ≤ c b + w a
section CHN
variable {n : Nat} {A : Nat → Nat → Bool} {w : Nat → Int} {to : Nat}
theorem RP_le {c : Nat → Int} (h : cls n A w to c) : ∀ k a z, a < n → RP n A w to k a z → c a ≠ -1 ∧ c a ≤ z
  | 0, a, z, _, hr => by
    obtain ⟨rfl, rfl⟩ := hr
    exact h.1
  | k + 1, a, z, ha, hr => by
    obtain ⟨b, z', h1, h2, h3, h4, h5⟩ := hr
    have g := RP_le h k b z' h1 h4
    have g2 := h.2 a b ha h1 h2 h3 g.1
    exact ⟨g2.1, by omega⟩
theorem RP_pos (ht : to < n) (hw : ∀ a, a < n → 1 ≤ w a) : ∀ k a z, a < n → RP n A w to k a z → 1 ≤ z
  | 0, a, z, _, hr => by
    obtain ⟨rfl, rfl⟩ := hr
    exact hw _ ht
  | k + 1, a, z, ha, hr => by
    obtain ⟨b, z', h1, h2, h3, h4, h5⟩ := hr
    have g := RP_pos ht hw k b z' h1 h4
    have := hw a ha
    omega
theorem cost_uniq {c d : Nat → Int} (g1 : gnd n A w to c) (c1 : cls n A w to c) (g2 : gnd n A w to d) (c2 : cls n A w to d) : ∀ a, a < n → c a = d a := by
  intro a ha
  by_cases e : c a = -1
  · by_cases e2 : d a = -1
    · rw [e, e2]
    · obtain ⟨k, r⟩ := g2 a ha e2
      exact absurd e (RP_le c1 k a _ ha r).1
  · obtain ⟨k, r⟩ := g1 a ha e
    have l := RP_le c2 k a _ ha r
    obtain ⟨k2, r2⟩ := g2 a ha l.1
    have l2 := RP_le c1 k2 a _ ha r2
    omega
noncomputable def cstZ (n : Nat) (A : Nat → Nat → Bool) (w : Nat → Int) (to a : Nat) : Int := @dite _ (∃ c, gnd n A w to c ∧ cls n A w to c) (Classical.propDecidable _) (fun h => Classical.choose h a) (fun _ => -1)
theorem cstZ_eq {c : Nat → Int} (g1 : gnd n A w to c) (c1 : cls n A w to c) : ∀ a, a < n → c a = cstZ n A w to a := by
  intro a ha
  have h : ∃ c, gnd n A w to c ∧ cls n A w to c := ⟨c, g1, c1⟩
  unfold cstZ
  rw [dif_pos h]
  have g := Classical.choose_spec h
  exact cost_uniq g1 c1 g.1 g.2 a ha
/-- settled and open -/
def DJ (n : Nat) (A : Nat → Nat → Bool) (w : Nat → Int) (to : Nat) (c : Nat → Int) (S : Nat → Bool) (M : Int) : Prop :=
  gnd n A w to c ∧ (c to ≠ -1 ∧ c to ≤ w to) ∧ (∀ a, a < n → -1 ≤ c a ∧ c a ≤ M) ∧
  (∀ b, b < n → S b = true → c b ≠ -1 ∧ ∀ a, a < n → b ≠ a → A a b = true → c a ≠ -1 ∧ c a ≤ c b + w a) ∧
  ∀ b, b < n → S b = true → ∀ a, a < n → S a = false → c a ≠ -1 → c b ≤ c a
noncomputable def rlx (A : Nat → Nat → Bool) (w : Nat → Int) (c : Nat → Int) (s : Nat) (h : Nat) : Int := if (h ≠ s ∧ A s h = true) ∧ (c h = -1 ∨ c s + w h < c h) then c s + w h else c h
theorem rlx_s {c : Nat → Int} {s : Nat} : rlx A w c s s = c s := by
  unfold rlx
  rw [if_neg (fun q => q.1.1 rfl)]
theorem DJ.step (sy : ∀ a b, A a b = A b a) (hw : ∀ a, a < n → 1 ≤ w a ∧ w a ≤ 1000000) (ht : to < n) {c : Nat → Int} {S : Nat → Bool} {M : Int} (h : DJ n A w to c S M) {s : Nat} (hs : s < n) (h1 : S s = false) (h2 : c s ≠ -1) (h3 : ∀ a, a < n → S a = false → c a ≠ -1 → c s ≤ c a) {c' : Nat → Int} (hc : ∀ a, a < n → c' a = rlx A w c s a) {S' : Nat → Bool} (hS : ∀ a, a < n → S' a = (S a || decide (a = s))) : DJ n A w to c' S' (M + 1000000) := by
  obtain ⟨g, t, b, st, o⟩ := h
  have bs := b s hs
  have c0 : 0 ≤ c s := by omega
  have up : ∀ a, a < n → (h1 : a ≠ s ∧ A s a = true) → (c' a ≠ -1 ∧ c' a ≤ c s + w a) := fun a ha h1 => by
    have wa := hw a ha
    rw [hc a ha]
    unfold rlx
    by_cases q : c a = -1 ∨ c s + w a < c a
    · rw [if_pos ⟨h1, q⟩]; omega
    · rw [if_neg (fun z => q z.2)]; omega
  have dn : ∀ a, a < n → c a ≠ -1 → c' a ≠ -1 ∧ c' a ≤ c a := fun a ha h1 => by
    have wa := hw a ha
    rw [hc a ha]
    unfold rlx
    by_cases q : (a ≠ s ∧ A s a = true) ∧ (c a = -1 ∨ c s + w a < c a)
    · rw [if_pos q]; omega
    · rw [if_neg q]; omega
  have lo : ∀ a, a < n → S a = false → c' a ≠ -1 → c s ≤ c' a := fun a ha q1 q2 => by
    have wa := hw a ha
    rw [hc a ha] at q2 ⊢
    unfold rlx at q2 ⊢
    by_cases q : (a ≠ s ∧ A s a = true) ∧ (c a = -1 ∨ c s + w a < c a)
    · rw [if_pos q]; omega
    · rw [if_neg q] at q2 ⊢; exact h3 a ha q1 q2
  have sm : ∀ a, a < n → S a = true → c' a = c a := fun a ha q1 => by
    have wa := hw a ha
    have := o a ha q1 s hs h1 h2
    have n1 := (st a ha q1).1
    rw [hc a ha]
    unfold rlx
    rw [if_neg (by omega)]
  have ss : c' s = c s := by rw [hc s hs, rlx_s]
  refine ⟨fun a ha q => ?_, ?_, fun a ha => ?_, fun x hx q => ?_, fun x hx q a ha q2 q3 => ?_⟩
  · rw [hc a ha] at q ⊢
    unfold rlx at q ⊢
    by_cases q1 : (a ≠ s ∧ A s a = true) ∧ (c a = -1 ∨ c s + w a < c a)
    · rw [if_pos q1]
      obtain ⟨k, r⟩ := g s hs h2
      exact ⟨k + 1, s, c s, hs, fun e => q1.1.1 e.symm, by rw [sy]; exact q1.1.2, r, rfl⟩
    · rw [if_neg q1] at q ⊢; exact g a ha q
  · have := dn to ht t.1
    exact ⟨this.1, by omega⟩
  · have ba := b a ha
    have wa := hw a ha
    rw [hc a ha]
    unfold rlx
    split <;> omega
  · rw [hS x hx] at q
    by_cases e : x = s
    · rw [e, ss]
      refine ⟨h2, fun a ha q1 q2 => up a ha ⟨fun e => q1 e.symm, by rw [sy]; exact q2⟩⟩
    · rw [decide_eq_false e, Bool.or_false] at q
      have := st x hx q
      rw [sm x hx q]
      refine ⟨this.1, fun a ha q1 q2 => ?_⟩
      have t1 := this.2 a ha q1 q2
      have t2 := dn a ha t1.1
      exact ⟨t2.1, by omega⟩
  · rw [hS a ha] at q2
    rw [hS x hx] at q
    have sa : S a = false := by
      cases e : S a with
      | false => rfl
      | true => rw [e] at q2; cases q2
    have l := lo a ha sa q3
    by_cases e : x = s
    · rw [e, ss]; exact l
    · rw [decide_eq_false e, Bool.or_false] at q
      rw [sm x hx q]
      have := o x hx q s hs h1 h2
      omega
theorem DJ.fin {c : Nat → Int} {S : Nat → Bool} {M : Int} (h : DJ n A w to c S M) (ha : ∀ a, a < n → S a = false → c a = -1) : cls n A w to c := by
  obtain ⟨g, t, b, st, o⟩ := h
  refine ⟨t, fun a b ha' hb h1 h2 h3 => ?_⟩
  cases e : S b with
  | false => exact absurd (ha b hb e) h3
  | true => exact (st b hb e).2 a ha' h1 h2
theorem cnt_set {P Q : Nat → Bool} {s : Nat} (hP : P s = false) : ∀ {n : Nat}, (∀ i, i < n → Q i = (P i || decide (i = s))) → cnt Q n = cnt P n + (if s < n then 1 else 0)
  | 0, _ => rfl
  | n + 1, h => by
    have ih := cnt_set hP (Q := Q) (n := n) (fun i hi => h i (by omega))
    have hn := h n (by omega)
    show cnt Q n + _ = cnt P n + _ + _
    rw [ih, hn]
    by_cases e : n = s
    · subst e
      rw [hP, decide_eq_true rfl]
      simp
    · rw [decide_eq_false e, Bool.or_false]
      by_cases q : s < n
      · rw [if_pos q, if_pos (show s < n + 1 by omega)]; omega
      · rw [if_neg q, if_neg (show ¬ s < n + 1 by omega)]; omega
theorem cnt_full {P : Nat → Bool} : ∀ {n : Nat}, cnt P n = n → ∀ i, i < n → P i = true
  | 0, _, i, hi => absurd hi (Nat.not_lt_zero _)
  | n + 1, h, i, hi => by
    have l := cnt_le (P := P) (n := n)
    have e : cnt P n + (if P n = true then 1 else 0) = n + 1 := h
    have pn : P n = true := by
      cases q : P n with
      | true => rfl
      | false => rw [q, if_neg (by decide)] at e; omega
    rw [pn, if_pos rfl] at e
    by_cases z : i = n
    · rw [z]; exact pn
    · exact cnt_full (P := P) (n := n) (by omega) i (by omega)
/-! by sweeps -/
def nn1 (c : Nat → Int) (a : Nat) : Bool := decide (c a ≠ -1)
def msZ (c : Nat → Int) : Nat → Nat
  | 0 => 0
  | n + 1 => msZ c n + (if c n = -1 then 20000000 else (c n).toNat)
def BF (n : Nat) (A : Nat → Nat → Bool) (w : Nat → Int) (to : Nat) (c : Nat → Int) : Prop :=
  gnd n A w to c ∧ (c to ≠ -1 ∧ c to ≤ w to) ∧ ∀ a, a < n → -1 ≤ c a ∧ c a ≤ 1000000 * (cnt (nn1 c) n : Int)
theorem BF.congr (ht : to < n) {c d : Nat → Int} (h : BF n A w to c) (e : ∀ a, a < n → d a = c a) : BF n A w to d := by
  obtain ⟨g, t, b⟩ := h
  have en : cnt (nn1 d) n = cnt (nn1 c) n := cnt_congr (fun r hr => by unfold nn1; rw [e r hr])
  exact ⟨fun a ha q => by rw [e a ha] at q ⊢; exact g a ha q, by rw [e to ht]; exact t, fun a ha => by rw [e a ha, en]; exact b a ha⟩
theorem msZ_congr {c d : Nat → Int} : ∀ {n : Nat}, (∀ a, a < n → d a = c a) → msZ d n = msZ c n
  | 0, _ => rfl
  | n + 1, h => by
    show msZ d n + _ = msZ c n + _
    rw [msZ_congr (fun a ha => h a (by omega)), h n (by omega)]
theorem msZ_lt {c d : Nat → Int} {s : Nat} : ∀ {n : Nat}, (∀ a, a < n → a ≠ s → d a = c a) → (if d s = -1 then 20000000 else (d s).toNat) < (if c s = -1 then 20000000 else (c s).toNat) → s < n → msZ d n < msZ c n
  | 0, _, _, h => absurd h (Nat.not_lt_zero _)
  | n + 1, h, hl, hs => by
    show msZ d n + _ < msZ c n + _
    by_cases e : s = n
    · rw [msZ_congr (fun a ha => h a (by omega) (by omega)), ← e]
      omega
    · rw [h n (by omega) (fun q => e q.symm)]
      have := msZ_lt (n := n) (fun a ha q => h a (by omega) q) hl (by omega)
      omega
theorem BF.step (hw : ∀ a, a < n → 1 ≤ w a ∧ w a ≤ 1000000) (hn : n ≤ 14) (ht : to < n) {c : Nat → Int} (h : BF n A w to c) {a b : Nat} (ha : a < n) (hb : b < n) (hab : b ≠ a) (hA : A a b = true) (h1 : c b ≠ -1) (h2 : c a = -1 ∨ c b + w a < c a) {c' : Nat → Int} (e1 : c' a = c b + w a) (e2 : ∀ x, x < n → x ≠ a → c' x = c x) : BF n A w to c' ∧ msZ c' n < msZ c n := by
  obtain ⟨g, t, bd⟩ := h
  have wa := hw a ha
  have bb := bd b hb
  have ba := bd a ha
  have cl := cnt_le (P := nn1 c) (n := n)
  have cn : cnt (nn1 c') n = cnt (nn1 c) n + (if c a = -1 then 1 else 0) := by
    by_cases q : c a = -1
    · rw [if_pos q]
      have := cnt_set (P := nn1 c) (Q := nn1 c') (s := a) (by unfold nn1; rw [q]; rfl) (n := n) (fun i hi => by
        by_cases e : i = a
        · subst e
          unfold nn1
          rw [e1, decide_eq_true rfl, Bool.or_true]
          exact decide_eq_true (by omega)
        · unfold nn1
          rw [e2 i hi e, decide_eq_false e, Bool.or_false])
      rw [if_pos ha] at this
      exact this
    · rw [if_neg q]
      exact cnt_congr (fun i hi => by
        by_cases e : i = a
        · subst e
          unfold nn1
          rw [e1, decide_eq_true q]
          exact decide_eq_true (by omega)
        · unfold nn1
          rw [e2 i hi e])
  have cl2 := cnt_le (P := nn1 c') (n := n)
  refine ⟨⟨fun x hx q => ?_, ?_, fun x hx => ?_⟩, msZ_lt (s := a) e2 ?_ ha⟩
  · by_cases e : x = a
    · subst e
      rw [e1]
      obtain ⟨k, r⟩ := g b hb h1
      exact ⟨k + 1, b, c b, hb, hab, hA, r, rfl⟩
    · rw [e2 x hx e] at q ⊢; exact g x hx q
  · by_cases e : to = a
    · rw [← e] at h2 wa e1
      rw [e1]
      have := t.1
      have := t.2
      omega
    · rw [e2 to ht e]; exact t
  · have bx := bd x hx
    rw [cn]
    by_cases e : x = a
    · rw [e, e1]
      split at cn <;> split <;> omega
    · rw [e2 x hx e]
      split <;> omega
  · rw [e1, if_neg (by omega)]
    split <;> omega
end CHN

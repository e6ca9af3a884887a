/-! THE MATHEMATICS of the core table κ -/
def cnt (P : Nat → Bool) : Nat → Nat
  | 0 => 0
  | n + 1 => cnt P n + (if P n = true then 1 else 0)
def tot (P : Nat → Bool) (f : Nat → Int) : Nat → Int
  | 0 => 0
  | n + 1 => tot P f n + (if P n = true then f n else 0)
def nearZ (a b : Int) : Int := (2 * a + b) / (2 * b)
def nR (κ : Kp) : Nat := (κ 0 3).toInt.toNat
def nH (κ : Kp) : Nat := (κ 0 2).toInt.toNat
def kto (κ : Kp) : Int := if (κ 0 1).toInt = -1 then (κ 0 0).toInt else (κ 0 1).toInt
/-- the reading is known -/
def kn (κ : Kp) (r : Nat) : Bool := decide ((κ 7 r).toInt ≤ kto κ ∧ ((κ 8 r).toInt = -1 ∨ kto κ < (κ 8 r).toInt))
/-- known, of a house and a piece -/
def kq (κ : Kp) (h p r : Nat) : Bool := kn κ r && (decide ((κ 3 r).toInt = h) && decide ((κ 4 r).toInt = p))
/-- the pilot's, on a day -/
def kb (κ : Kp) (p d r : Nat) : Bool := kq κ 0 p r && decide ((κ 5 r).toInt = d)
def pC (κ : Kp) (p d : Nat) : Nat := cnt (kb κ p d) (nR κ)
def pS (κ : Kp) (p d : Nat) : Int := tot (kb κ p d) (fun r => (κ 6 r).toInt) (nR κ)
/-- the last day up to d with P -/
def lstD (P : Nat → Bool) : Nat → Option Nat
  | 0 => if P 0 = true then some 0 else none
  | d + 1 => if P (d + 1) = true then some (d + 1) else lstD P d
/-- the first of k days from d on with P -/
def fstD (P : Nat → Bool) : Nat → Nat → Option Nat
  | _, 0 => none
  | d, k + 1 => if P d = true then some d else fstD P (d + 1) k
def isP (κ : Kp) (p d : Nat) : Bool := decide (0 < pC κ p d)
def driftZ (κ : Kp) (p d : Nat) : Int := match fstD (isP κ p) 0 400, lstD (isP κ p) d with
  | some f, some l => match fstD (isP κ p) (d + 1) (399 - d) with
    | none => nearZ (1000 * (pS κ p l * pC κ p f - pS κ p f * pC κ p l)) (pC κ p l * pC κ p f)
    | some n => nearZ (1000 * ((pS κ p l * pC κ p n * ((n : Int) - l - ((d : Int) - l)) + pS κ p n * pC κ p l * ((d : Int) - l)) * pC κ p f - pS κ p f * (pC κ p l * pC κ p n * ((n : Int) - l)))) (pC κ p l * pC κ p n * ((n : Int) - l) * pC κ p f)
  | _, _ => 0
/-- a reading, reduced -/
def rdZ (κ : Kp) (r : Nat) : Int := 1000 * (κ 6 r).toInt - driftZ κ (κ 4 r).toInt.toNat (κ 5 r).toInt.toNat
def cN (κ : Kp) (h p : Nat) : Nat := cnt (kq κ h p) (nR κ)
def sM (κ : Kp) (h p : Nat) : Int := tot (kq κ h p) (rdZ κ) (nR κ)
def tL (κ : Kp) (h p : Nat) : Int := if cN κ h p = 0 then 0 else nearZ (sM κ h p) (cN κ h p)
/-- what is always so -/
def aq (κ : Kp) (h p r : Nat) : Bool := decide ((κ 3 r).toInt = h) && decide ((κ 4 r).toInt = p)
def Inv (κ : Kp) : Prop :=
  (0 ≤ (κ 0 0).toInt ∧ (κ 0 0).toInt ≤ 399) ∧ (-1 ≤ (κ 0 1).toInt ∧ (κ 0 1).toInt ≤ (κ 0 0).toInt) ∧ (0 ≤ (κ 0 2).toInt ∧ (κ 0 2).toInt ≤ 14) ∧ (0 ≤ (κ 0 3).toInt ∧ (κ 0 3).toInt ≤ 150) ∧ (1 ≤ (κ 0 4).toInt ∧ (κ 0 4).toInt ≤ 5) ∧ (0 ≤ (κ 0 5).toInt ∧ (κ 0 5).toInt ≤ 60) ∧
  (∀ h, h < nH κ → (0 ≤ (κ 1 h).toInt ∧ (κ 1 h).toInt ≤ 1) ∧ 1 ≤ (κ 2 h).toInt ∧ (κ 2 h).toInt ≤ 1000) ∧
  (∀ r, r < nR κ → (0 ≤ (κ 3 r).toInt ∧ (κ 3 r).toInt < (κ 0 2).toInt) ∧ (0 ≤ (κ 4 r).toInt ∧ (κ 4 r).toInt ≤ 3) ∧ (0 ≤ (κ 5 r).toInt ∧ (κ 5 r).toInt ≤ (κ 0 0).toInt) ∧ (-20000 ≤ (κ 6 r).toInt ∧ (κ 6 r).toInt ≤ 20000) ∧ (0 ≤ (κ 7 r).toInt ∧ (κ 7 r).toInt ≤ (κ 0 0).toInt) ∧ -1 ≤ (κ 8 r).toInt ∧ (κ 8 r).toInt ≤ (κ 0 0).toInt) ∧
  (∀ h p, cnt (aq κ h p) (nR κ) ≤ 8) ∧
  (∀ i, i < 60 → 0 ≤ (κ 9 i).toInt ∧ (κ 9 i).toInt ≤ 255) ∧
  (∀ s, s < 4 → (-1 ≤ (κ 10 s).toInt ∧ (κ 10 s).toInt ≤ 2) ∧ 0 ≤ (κ 11 s).toInt ∧ (κ 11 s).toInt ≤ 60)
/-- a table of points: n of them, days, sums, how many -/
def PT (κ : Kp) (p n : Nat) (D S C : Nat → Int) : Prop :=
  n ≤ 8 ∧ (∀ i j, i < j → j < n → D i < D j) ∧ (∀ i, i < n → 0 ≤ D i ∧ D i < 400 ∧ 0 < pC κ p (D i).toNat ∧ S i = pS κ p (D i).toNat ∧ C i = pC κ p (D i).toNat) ∧ ∀ d, d < 400 → 0 < pC κ p d → ∃ i, i < n ∧ D i = d
/-- the class's tables for a piece -/
def DXp (κ : Kp) (σ : Sto) (p : Nat) : Prop :=
  (∃ n : Nat, (σ.1 21 p).toInt = n ∧ PT κ p n (fun i => (σ.1 (23 + p) i).toInt) (fun i => (σ.1 (28 + p) i).toInt) (fun i => (σ.1 (33 + p) i).toInt)) ∧
  (∀ h, h < 14 → (σ.1 (40 + p) h).toInt = cN κ h p ∧ (σ.1 (45 + p) h).toInt = tL κ h p) ∧
  ∀ r, r < nR κ → kn κ r = true → (κ 4 r).toInt = p → (σ.1 38 r).toInt = rdZ κ r
def DX (κ : Kp) (σ : Sto) : Prop := ∀ p, p < 4 → DXp κ σ p
/-- the model's tables -/
def DM (κ : Kp) (σ : Sto) : Prop :=
  (∀ p, p < 4 → ∃ n : Nat, (σ.1 76 p).toInt = n ∧ PT κ p n (fun i => (σ.1 77 (150 * p + i)).toInt) (fun i => (σ.2 78 (150 * p + i)).toInt) (fun i => (σ.1 79 (150 * p + i)).toInt)) ∧
  ∀ h p, h < 14 → p < 4 → (σ.1 80 (4 * h + p)).toInt = cN κ h p ∧ (σ.2 81 (4 * h + p)).toInt = sM κ h p
def OX (σ : Sto) : Prop := Inv (vx σ) ∧ DX (vx σ) σ
/-- the model's flags: whether its tables are worked, whether a sheet is there -/
def WM (σ : Sto) : Prop := (σ.1 67 13 = 0 ∨ σ.1 67 13 = 1 ∧ DM (vm σ) σ) ∧ ∀ s, s < 4 → (σ.1 86 s = 0 ∨ σ.1 86 s = 1) ∧ 0 ≤ (σ.1 87 s).toInt
def OM (σ : Sto) : Prop := Inv (vm σ) ∧ WM σ
def Rel (σ : Sto) : Prop := vx σ = vm σ ∧ OX σ ∧ OM σ
theorem DXp.cells {κ : Kp} {σ τ : Sto} {p : Nat} (hp : p < 4) (h : DXp κ σ p) (e : ∀ c, 21 ≤ c → c < 49 → c ≠ 37 → τ.1 c = σ.1 c) : DXp κ τ p := by
  obtain ⟨⟨n, h1, h2⟩, h3, h4⟩ := h
  refine ⟨⟨n, by rw [e 21 (by omega) (by omega) (by omega)]; exact h1, ?_⟩, fun a ha => ?_, fun r a b c => ?_⟩
  · rw [e (23 + p) (by omega) (by omega) (by omega), e (28 + p) (by omega) (by omega) (by omega), e (33 + p) (by omega) (by omega) (by omega)]
    exact h2
  · rw [e (40 + p) (by omega) (by omega) (by omega), e (45 + p) (by omega) (by omega) (by omega)]
    exact h3 a ha
  · rw [e 38 (by omega) (by omega) (by omega)]
    exact h4 r a b c
theorem OX.fx {σ τ : Sto} (h : OX σ) (f : fx σ τ) : OX τ := by
  unfold OX
  rw [f.vx]
  exact ⟨h.1, fun p hp => (h.2 p hp).cells hp (fun c _ b _ => (f c (by omega)).1)⟩
theorem OX.qx {σ τ : Sto} (h : OX σ) (f : qx σ τ) : OX τ := by
  unfold OX
  rw [f.vx]
  exact ⟨h.1, fun p hp => (h.2 p hp).cells hp (fun c a b _ => (f.1 c (by unfold scr; simp; omega)).1)⟩
theorem DM.cells {κ : Kp} {σ τ : Sto} (h : DM κ σ) (e : ∀ c, 76 ≤ c → c ≤ 81 → τ.1 c = σ.1 c ∧ τ.2 c = σ.2 c) : DM κ τ := by
  refine ⟨fun p hp => ?_, fun a p ha hp => ?_⟩
  · obtain ⟨n, h1, h2⟩ := h.1 p hp
    exact ⟨n, by rw [(e 76 (by omega) (by omega)).1]; exact h1, by rw [(e 77 (by omega) (by omega)).1, (e 78 (by omega) (by omega)).2, (e 79 (by omega) (by omega)).1]; exact h2⟩
  · rw [(e 80 (by omega) (by omega)).1, (e 81 (by omega) (by omega)).2]
    exact h.2 a p ha hp
theorem OM.fm {σ τ : Sto} (h : OM σ) (f : fm σ τ) : OM τ := by
  unfold OM WM
  rw [f.vm, (f 67 (by omega)).1, (f 86 (by omega)).1, (f 87 (by omega)).1]
  exact ⟨h.1, h.2.1.imp id (fun g => ⟨g.1, g.2.cells (fun c a _ => f c (by omega))⟩), h.2.2⟩
theorem OM.qd {σ τ : Sto} (h : OM σ) (f : qd σ τ) : OM τ := by
  unfold OM WM
  rw [f.1.vm, f.2.2, (f.1.1 86 (by decide)).1, (f.1.1 87 (by decide)).1]
  exact ⟨h.1, h.2.1.imp id (fun g => ⟨g.1, g.2.cells (fun c a b => f.2.1 c a b)⟩), h.2.2⟩
/-- a method of the class meets S (its answer) and U (the new core) -/
def SpX {R : Type} (W : Sto → (R → Sto → Prop) → Prop) (S : Kp → R) (U : Kp → Kp) : Prop := ∀ (σ : Sto) (post : R → Sto → Prop), OX σ → (∀ τ, OX τ → vx τ = U (vx σ) → fm σ τ → post (S (vx σ)) τ) → W σ post
def SpM {R : Type} (W : Sto → (R → Sto → Prop) → Prop) (S : Kp → R) (U : Kp → Kp) : Prop := ∀ (σ : Sto) (post : R → Sto → Prop), OM σ → (∀ τ, OM τ → vm τ = U (vm σ) → fx σ τ → post (S (vm σ)) τ) → W σ post
theorem comb {R : Type} {Wx Wm : Sto → (R → Sto → Prop) → Prop} {S : Kp → R} {U : Kp → Kp} (hx : SpX Wx S U) (hm : SpM Wm S U) {σ : Sto} (h : Rel σ) : Wx σ (fun r τ => Wm τ (fun r2 τ2 => r = r2 ∧ Rel τ2)) := by
  refine hx σ _ h.2.1 (fun τ h1 h2 h3 => ?_)
  refine hm τ _ (h.2.2.fm h3) (fun τ2 g1 g2 g3 => ?_)
  rw [h3.vm] at g2 ⊢
  refine ⟨by rw [h.1], ?_, h1.fx g3, g1⟩
  rw [g3.vx, h2, g2, h.1]

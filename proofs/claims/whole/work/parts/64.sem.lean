/-! what running means: operations, blocks, runs; what code is that does the same -/
abbrev Wd : Type := Nat → Int32
abbrev Xs : Type := Wd × Wd × Nat × Wd
def mnI : Int32 := -2147483648
def rk (kd a b : Int32) : Int32 :=
  if kd = 2 then a + b else if kd = 3 then a - b else if kd = 4 then a * b
  else if kd = 5 then (if b = 0 then 0 else a / b) else if kd = 6 then (if b = 0 then 0 else a - a / b * b)
  else if kd = 7 then a &&& b else if kd = 8 then a ||| b else if kd = 9 then a ^^^ b
  else if kd = 10 then a <<< ((b &&& 31) &&& 31) else if kd = 11 then a >>> ((b &&& 31) &&& 31)
  else if kd = 12 then (a.toUInt32 >>> ((b &&& 31).toUInt32 &&& Int32.toUInt32 31)).toInt32
  else if kd = 13 then (if a = b then 1 else 0) else if kd = 14 then (if a < b then 1 else 0)
  else if kd = 15 then (if a + mnI < b + mnI then 1 else 0) else a
def dvE (kd a b : Int32) : Bool := (decide (kd = 5) || decide (kd = 6)) && (decide (b = 0) || (decide (a = mnI) && decide (b = -1)))
def adE (kd a b : Int32) : Bool := (decide (kd = 16) && !isword a) || (decide (kd = 17) && !isword b)
def opE (kd a b : Int32) : Nat := if dvE kd a b then 1 else if adE kd a b then 2 else 0
def opV (kd a b : Int32) (w : Wd) (c : Nat) : Int32 := if kd = 16 then w a.toNatClampNeg else if kd = 18 then a * 31 + b + (7 : Int32) * nI c else rk kd a b
def opW (kd a b : Int32) (w : Wd) : Wd := if kd = 17 then upd w b.toNatClampNeg a else w
def opC (kd : Int32) (c : Nat) : Nat := if kd = 18 then c + 1 else c
def opL (kd a b : Int32) (c : Nat) (lg : Wd) : Wd := if kd = 18 ∧ c < 200 then upd (upd (upd lg (3 * c) b) (3 * c + 1) a) (3 * c + 2) (a * 31 + b + (7 : Int32) * nI c) else lg
/-- one operation of kind kd on the values a, b, made into place d -/
def opX (kd a b : Int32) (d : Nat) (X : Xs) : Nat × Xs :=
  if opE kd a b = 0 then (0, (if kd = 17 then X.1 else upd X.1 d (opV kd a b X.2.1 X.2.2.1)), opW kd a b X.2.1, opC kd X.2.2.1, opL kd a b X.2.2.1 X.2.2.2) else (opE kd a b, X)
/-- the program -/
noncomputable def pA (σ : mz_St) (at' : Nat) (τ : Wd) : Int32 := if σ 12 at' = 0 then σ 14 at' else τ (σ 14 at').toNatClampNeg
noncomputable def pB (σ : mz_St) (at' : Nat) (τ : Wd) : Int32 := if tr (tkB (σ 12 at')) then τ (σ 15 at').toNatClampNeg else σ 15 at'
noncomputable def pst (σ : mz_St) (at' : Nat) (X : Xs) : Nat × Xs := opX (σ 12 at') (pA σ at' X.1) (pB σ at' X.1) (σ 13 at').toNatClampNeg X
noncomputable def pbl (σ : mz_St) : Nat → Nat → Xs → Nat × Xs
  | 0, _, X => (0, X)
  | r + 1, at', X => if (pst σ at' X).1 = 0 then pbl σ r (at' + 1) (pst σ at' X).2 else pst σ at' X
def pnx (σ : mz_St) (k : Nat) (v : Int32) : Nat := if σ 17 k = 2 ∧ v = 0 then 1 else 0
/-- a run: how it ended, the value, how many blocks were entered, what it left -/
abbrev Ro : Type := Nat × Int32 × Nat × Xs
noncomputable def prn (σ : mz_St) : Nat → Nat → Nat → Xs → Ro
  | 0, _, ent, X => (3, 0, ent, X)
  | f + 1, k, ent, X =>
    if (pbl σ (lenC σ k) (12 * k) X).1 = 0 then
      (if σ 17 k = 0 then (0, (pbl σ (lenC σ k) (12 * k) X).2.1 (σ 18 k).toNatClampNeg, ent + 1, (pbl σ (lenC σ k) (12 * k) X).2)
       else prn σ f (eT σ k (pnx σ k ((pbl σ (lenC σ k) (12 * k) X).2.1 (σ 18 k).toNatClampNeg))) (ent + 1) (pbl σ (lenC σ k) (12 * k) X).2)
    else ((pbl σ (lenC σ k) (12 * k) X).1, 0, ent + 1, (pbl σ (lenC σ k) (12 * k) X).2)
/-- code -/
def cA (σ : mz_St) (j : Nat) (z : Wd) : Int32 := if σ 51 j &&& 1 = 0 then z (σ 49 j).toNatClampNeg else σ 49 j
def cB (σ : mz_St) (j : Nat) (z : Wd) : Int32 := if σ 51 j &&& 2 = 0 then z (σ 50 j).toNatClampNeg else σ 50 j
def cst (σ : mz_St) (j : Nat) (X : Xs) : Nat × Xs := opX (σ 47 j) (cA σ j X.1) (cB σ j X.1) (σ 48 j).toNatClampNeg X
def csc (σ : mz_St) : Nat → Nat → Xs → Nat × Xs
  | 0, _, X => (0, X)
  | r + 1, j, X => if (cst σ j X).1 = 0 then csc σ r (j + 1) (cst σ j X).2 else cst σ j X
/-- an operation of code stays in its bounds -/
def cok (σ : mz_St) (j : Nat) : Prop := (σ 51 j &&& 1 = 0 → bdn (σ 49 j) 230) ∧ (σ 51 j &&& 2 = 0 → bdn (σ 50 j) 230) ∧ (σ 47 j ≠ 17 → bdn (σ 48 j) 230)
/-- a section: from lo, r operations -/
def sec (σ : mz_St) (s lo r : Nat) : Prop := σ 45 s = nI lo ∧ σ 46 s = nI (lo + r) ∧ lo + r ≤ 1090 ∧ ∀ j, j < r → cok σ (lo + j)
def shw (σ : mz_St) (k : Nat) (z : Wd) : Int32 := if σ 53 k = 0 then z (σ 52 k).toNatClampNeg else σ 52 k
/-- code that does what the program does: a relation J of cells and temporaries at each block -/
def SimB (σ : mz_St) (J : Nat → Wd → Wd → Prop) (k : Nat) : Prop :=
  (σ 53 k = 0 ∨ σ 53 k = 1) ∧ (σ 53 k = 0 → bdn (σ 52 k) 230) ∧ ∃ lo r, sec σ k lo r ∧ (∀ e, e < eC σ k → ∃ lo' r', sec σ (10 + 2 * k + e) lo' r') ∧
  ∀ z τ, J k z τ → ∀ w c lg,
    (csc σ r lo (z, w, c, lg)).1 = (pbl σ (lenC σ k) (12 * k) (τ, w, c, lg)).1 ∧ (csc σ r lo (z, w, c, lg)).2.2 = (pbl σ (lenC σ k) (12 * k) (τ, w, c, lg)).2.2 ∧
    ((pbl σ (lenC σ k) (12 * k) (τ, w, c, lg)).1 = 0 →
      (σ 17 k ≠ 1 → shw σ k (csc σ r lo (z, w, c, lg)).2.1 = (pbl σ (lenC σ k) (12 * k) (τ, w, c, lg)).2.1 (σ 18 k).toNatClampNeg) ∧
      ∀ e, e < eC σ k → ∀ lo' r', sec σ (10 + 2 * k + e) lo' r' → ∃ z', csc σ r' lo' (csc σ r lo (z, w, c, lg)).2 = (0, z', (csc σ r lo (z, w, c, lg)).2.2) ∧ J (eT σ k e) z' (pbl σ (lenC σ k) (12 * k) (τ, w, c, lg)).2.1)
def CO (σ : mz_St) : Prop := ∃ J : Nat → Wd → Wd → Prop, (∀ z, (∀ i, i < 230 → z i = 0) → J 0 z (fun _ => 0)) ∧ (∀ k z τ, J k z τ → SimB σ J k)
def cR : List Nat := [45, 46, 47, 48, 49, 50, 51, 52, 53]
theorem pbl_congr {σ u : mz_St} (h : Sm σ u) : ∀ r at' X, pbl u r at' X = pbl σ r at' X
  | 0, _, _ => rfl
  | r + 1, at', X => by
    have e : pst u at' X = pst σ at' X := by
      unfold pst pA pB
      rw [h 12 (by decide), h 13 (by decide), h 14 (by decide), h 15 (by decide)]
    unfold pbl
    rw [e, pbl_congr h r]
theorem prn_congr {σ u : mz_St} (h : Sm σ u) : ∀ f k ent X, prn u f k ent X = prn σ f k ent X
  | 0, _, _, _ => rfl
  | f + 1, k, ent, X => by
    unfold prn
    rw [pbl_congr h, Sm_lenC h, h 17 (by decide), h 18 (by decide)]
    have e : ∀ j, eT u k j = eT σ k j := fun j => by unfold eT; rw [h 19 (by decide), h 20 (by decide)]
    have e2 : ∀ v, pnx u k v = pnx σ k v := fun v => by unfold pnx; rw [h 17 (by decide)]
    rw [e, e2, prn_congr h f]
theorem csc_congr {σ u : mz_St} (h : ∀ a, a ∈ cR → u a = σ a) : ∀ r j X, csc u r j X = csc σ r j X
  | 0, _, _ => rfl
  | r + 1, j, X => by
    have e : cst u j X = cst σ j X := by
      unfold cst cA cB
      rw [h 47 (by decide), h 48 (by decide), h 49 (by decide), h 50 (by decide), h 51 (by decide)]
    unfold csc
    rw [e, csc_congr h r]
theorem CO_congr {σ u : mz_St} (hS : Sm σ u) (h : ∀ a, a ∈ cR → u a = σ a) (hC : CO σ) : CO u := by
  obtain ⟨J, h0, hJ⟩ := hC
  have e45 := h 45 (by decide)
  have e46 := h 46 (by decide)
  have e47 := h 47 (by decide)
  have e48 := h 48 (by decide)
  have e49 := h 49 (by decide)
  have e50 := h 50 (by decide)
  have e51 := h 51 (by decide)
  have e52 := h 52 (by decide)
  have e53 := h 53 (by decide)
  have hsec : ∀ s lo r, sec u s lo r = sec σ s lo r := fun s lo r => by unfold sec cok; rw [e45, e46, e47, e48, e49, e50, e51]
  have heC : ∀ k, eC u k = eC σ k := fun k => by unfold eC; rw [hS 17 (by decide)]
  have heT : ∀ k j, eT u k j = eT σ k j := fun k j => by unfold eT; rw [hS 19 (by decide), hS 20 (by decide)]
  refine ⟨J, h0, fun k z τ hz => ?_⟩
  have hk := hJ k z τ hz
  unfold SimB shw at hk ⊢
  simp only [hsec, heC, heT, csc_congr h, pbl_congr hS, Sm_lenC hS, e52, e53, hS 17 (by decide), hS 18 (by decide)]
  exact hk

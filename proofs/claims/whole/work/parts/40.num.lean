/-! numbers, bits, frames, loops: what the pure part stands on -/
def bt (x : Int32) (i : Nat) : Bool := x.toBitVec.getLsbD i
theorem b_ext {x y : Int32} (h : ∀ i, i < 32 → bt x i = bt y i) : x = y := Int32.toBitVec_inj.mp (BitVec.eq_of_getLsbD_eq (fun i hi => h i hi))
theorem b_or (x y : Int32) (i : Nat) : bt (x ||| y) i = (bt x i || bt y i) := by unfold bt; rw [Int32.toBitVec_or, BitVec.getLsbD_or]
theorem b_and (x y : Int32) (i : Nat) : bt (x &&& y) i = (bt x i && bt y i) := by unfold bt; rw [Int32.toBitVec_and, BitVec.getLsbD_and]
theorem b_xor (x y : Int32) (i : Nat) : bt (x ^^^ y) i = (bt x i ^^ bt y i) := by unfold bt; rw [Int32.toBitVec_xor, BitVec.getLsbD_xor]
theorem b_big {x : Int32} {i : Nat} (h : 32 ≤ i) : bt x i = false := BitVec.getLsbD_of_ge _ _ h
theorem b_m1 : ∀ i, i < 32 → bt (-1) i = true := by decide +kernel
theorem b_0 (i : Nat) : bt 0 i = false := BitVec.getLsbD_zero
theorem s_l : ∀ n, n < 32 → ((nI n &&& 31).toBitVec.smod 32).toNat = n := by decide +kernel
theorem b_shl (n : Nat) (hn : n < 32) (x : Int32) {i : Nat} (hi : i < 32) : bt (x <<< (nI n &&& 31)) i = (decide (n ≤ i) && bt x (i - n)) := by
  unfold bt
  rw [Int32.toBitVec_shiftLeft]
  show (x.toBitVec <<< ((nI n &&& 31).toBitVec.smod 32).toNat).getLsbD i = _
  rw [s_l n hn, BitVec.getLsbD_shiftLeft]
  rcases Nat.lt_or_ge i n with h | h
  · simp [h, Nat.not_le.mpr h]
  · simp [hi, h, Nat.not_lt.mpr h]
theorem b_sshr (n : Nat) (hn : n < 32) (x : Int32) {i : Nat} (hi : i < 32) : bt (x >>> (nI n &&& 31)) i = if n + i < 32 then bt x (n + i) else bt x 31 := by
  unfold bt
  rw [Int32.toBitVec_shiftRight]
  show (x.toBitVec.sshiftRight ((nI n &&& 31).toBitVec.smod 32).toNat).getLsbD i = _
  rw [s_l n hn, BitVec.getLsbD_sshiftRight, BitVec.msb_eq_getLsbD_last]
  simp [hi]
theorem b_1 : ∀ i, bt 1 i = decide (i = 0) := by
  intro i
  rcases Nat.lt_or_ge i 32 with h | h
  · exact (by decide +kernel : ∀ i, i < 32 → bt 1 i = decide (i = 0)) i h
  · rw [b_big h, decide_eq_false (by omega)]
/-- one bit -/
theorem b_one {n : Nat} (hn : n < 32) (i : Nat) : bt ((1 : Int32) <<< (nI n &&& 31)) i = decide (i = n) := by
  rcases Nat.lt_or_ge i 32 with h | h
  · rw [b_shl n hn _ h, b_1]
    by_cases h1 : i = n
    · subst h1; simp
    · by_cases h2 : n ≤ i
      · have : i - n ≠ 0 := by omega
        simp [h1, this]
      · simp [h1, h2]
  · rw [b_big h, decide_eq_false (by omega)]
theorem b_not (x : Int32) {i : Nat} (hi : i < 32) : bt (x ^^^ (-1)) i = !bt x i := by
  rw [b_xor, b_m1 i hi]; cases bt x i <;> rfl
/-- x without y -/
theorem b_wo (x y : Int32) (i : Nat) : bt (x &&& (y ^^^ (-1))) i = (bt x i && !bt y i) := by
  rcases Nat.lt_or_ge i 32 with h | h
  · rw [b_and, b_not y h]
  · rw [b_big h, b_big h]; rfl
/-- the question isIn -/
theorem b_is (x : Int32) {i : Nat} (hi : i < 32) : (x >>> (nI i &&& 31)) &&& 1 = if bt x i then 1 else 0 := by
  apply b_ext
  intro j hj
  rw [b_and, b_1]
  by_cases h0 : j = 0
  · subst h0
    rw [b_sshr i hi x hj, if_pos (by omega)]
    simp only [Nat.add_zero, decide_true, Bool.and_true]
    cases bt x i
    · rw [if_neg (by decide), b_0]
    · rw [if_pos rfl, b_1]; rfl
  · simp only [h0, decide_false, Bool.and_false]
    cases bt x i
    · rw [if_neg (by decide), b_0]
    · rw [if_pos rfl, b_1, decide_eq_false h0]
theorem b_is0 (x : Int32) {i : Nat} (hi : i < 32) : (x >>> (nI i &&& 31)) &&& 1 = 0 ↔ bt x i = false := by
  rw [b_is x hi]
  cases bt x i
  · simp
  · simp
theorem b_is1 (x : Int32) {i : Nat} (hi : i < 32) : (x >>> (nI i &&& 31)) &&& 1 = 1 ↔ bt x i = true := by
  rw [b_is x hi]
  cases bt x i
  · simp
  · simp
theorem b_zero {x : Int32} : x = 0 ↔ ∀ i, i < 32 → bt x i = false := by
  constructor
  · rintro rfl i _; exact b_0 i
  · intro h; exact b_ext fun i hi => by rw [h i hi, b_0]
/-- a truth as the machine has it -/
def bz (b : Bool) : Int32 := if b then 1 else 0
theorem bz_01 (b : Bool) : bz b = 0 ∨ bz b = 1 := by cases b <;> simp [bz]
theorem bz_0 {b : Bool} : bz b = 0 ↔ b = false := by cases b <;> simp [bz]
theorem bz_1 {b : Bool} : bz b = 1 ↔ b = true := by cases b <;> simp [bz]
theorem bz_inj {a b : Bool} : bz a = bz b ↔ a = b := by cases a <;> cases b <;> simp [bz]
/-- rows outside of W are as they were -/
def mf (W : List Nat) (σ u : mz_St) : Prop := ∀ a, a ∉ W → u a = σ a
theorem mf_rf {W : List Nat} {σ : mz_St} : mf W σ σ := fun _ _ => rfl
theorem mf_tr {W : List Nat} {σ u v : mz_St} (h1 : mf W σ u) (h2 : mf W u v) : mf W σ v := fun a h => (h2 a h).trans (h1 a h)
theorem mf_mono {W W' : List Nat} {σ u : mz_St} (h : mf W σ u) (hw : ∀ a ∈ W, a ∈ W') : mf W' σ u := fun a ha => h a (fun h2 => ha (hw a h2))
theorem mf_up {W : List Nat} {σ : mz_St} {a i : Nat} {v : Int32} (h : a ∈ W) : mf W σ (mz_up σ a i v) := fun b hb => mz_up_ne (fun e => hb (e ▸ h))
theorem mf_wr {W : List Nat} {σ : mz_St} {a : Nat} {i v : Int32} (h : a ∈ W) : mf W σ (mz_wr σ a i v) := mf_up h
theorem mf_fl {W : List Nat} {σ : mz_St} {a n : Nat} {v : Int32} (h : a ∈ W) : mf W σ (mz_fl σ a n v) := fun b hb => by
  have : b ≠ a := fun e => hb (e ▸ h)
  simp [mz_fl, this]
theorem mz_rdn {σ : mz_St} {a n : Nat} (h : n < 2 ^ 31) : mz_rd σ a (nI n) = σ a n := by unfold mz_rd; rw [nI_clamp h]
theorem mz_wrn {σ : mz_St} {a n : Nat} {v : Int32} (h : n < 2 ^ 31) : mz_wr σ a (nI n) v = mz_up σ a n v := by unfold mz_wr; rw [nI_clamp h]
theorem up_at {σ : mz_St} {a i : Nat} {v : Int32} : mz_up σ a i v a i = v := by simp [mz_up, upd]
theorem up_ot {σ : mz_St} {a i j : Nat} {v : Int32} (h : j ≠ i) : mz_up σ a i v a j = σ a j := by simp [mz_up, upd, h]
theorem up_row {σ : mz_St} {a i b : Nat} {v : Int32} (h : b ≠ a) : mz_up σ a i v b = σ b := mz_up_ne h
theorem up_any {σ : mz_St} {a i b j : Nat} {v : Int32} : mz_up σ a i v b j = if b = a ∧ j = i then v else σ b j := by
  unfold mz_up upd
  by_cases h : b = a
  · subst h
    by_cases h2 : j = i <;> simp [h2]
  · simp [h]
theorem fl_at {σ : mz_St} {a n j : Nat} {v : Int32} (h : j < n) : mz_fl σ a n v a j = v := by simp [mz_fl, h]
theorem fl_row {σ : mz_St} {a n b : Nat} {v : Int32} (h : b ≠ a) : mz_fl σ a n v b = σ b := by simp [mz_fl, h]
/-- loops: a measure that falls -/
theorem lf1 {A : Type} {B : (A → mz_St → Prop) → A → mz_St → Prop} (I : Nat → A → mz_St → Prop) (hs : ∀ (n : Nat) (P : A → mz_St → Prop) (a : A) (s : mz_St), I n a s → (∀ m b t, m < n → I m b t → P b t) → B P a s) (n : Nat) (a : A) (s : mz_St) (h : I n a s) : ∀ P : A → mz_St → Prop, (∀ a s, B P a s → P a s) → P a s := by
  intro P hP
  induction n using Nat.strongRecOn generalizing a s with
  | ind n ih => exact hP a s (hs n P a s h (fun m b t hm hb => ih m hm b t hb))
theorem lf2 {A1 A2 : Type} {B : (A1 → A2 → mz_St → Prop) → A1 → A2 → mz_St → Prop} (I : Nat → A1 → A2 → mz_St → Prop) (hs : ∀ (n : Nat) (P : A1 → A2 → mz_St → Prop) (a1 : A1) (a2 : A2) (s : mz_St), I n a1 a2 s → (∀ m b1 b2 t, m < n → I m b1 b2 t → P b1 b2 t) → B P a1 a2 s) (n : Nat) (a1 : A1) (a2 : A2) (s : mz_St) (h : I n a1 a2 s) : ∀ P : A1 → A2 → mz_St → Prop, (∀ a1 a2 s, B P a1 a2 s → P a1 a2 s) → P a1 a2 s := by
  intro P hP
  induction n using Nat.strongRecOn generalizing a1 a2 s with
  | ind n ih => exact hP a1 a2 s (hs n P a1 a2 s h (fun m b1 b2 t hm hb => ih m hm b1 b2 t hb))
theorem lf3 {A1 A2 A3 : Type} {B : (A1 → A2 → A3 → mz_St → Prop) → A1 → A2 → A3 → mz_St → Prop} (I : Nat → A1 → A2 → A3 → mz_St → Prop) (hs : ∀ (n : Nat) (P : A1 → A2 → A3 → mz_St → Prop) (a1 : A1) (a2 : A2) (a3 : A3) (s : mz_St), I n a1 a2 a3 s → (∀ m b1 b2 b3 t, m < n → I m b1 b2 b3 t → P b1 b2 b3 t) → B P a1 a2 a3 s) (n : Nat) (a1 : A1) (a2 : A2) (a3 : A3) (s : mz_St) (h : I n a1 a2 a3 s) : ∀ P : A1 → A2 → A3 → mz_St → Prop, (∀ a1 a2 a3 s, B P a1 a2 a3 s → P a1 a2 a3 s) → P a1 a2 a3 s := by
  intro P hP
  induction n using Nat.strongRecOn generalizing a1 a2 a3 s with
  | ind n ih => exact hP a1 a2 a3 s (hs n P a1 a2 a3 s h (fun m b1 b2 b3 t hm hb => ih m hm b1 b2 b3 t hb))

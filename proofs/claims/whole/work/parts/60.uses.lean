/-! what operations and ends take and make; reads and writes of a block -/
def tkB (kd : Int32) : Prop := kd = 17 ∨ (¬ kd ≤ 1 ∧ ¬ 16 ≤ kd)
def uOp (σ : mz_St) (k i t : Nat) : Prop := (σ 12 (12 * k + i) ≠ 0 ∧ σ 14 (12 * k + i) = nI t) ∨ (tkB (σ 12 (12 * k + i)) ∧ σ 15 (12 * k + i) = nI t)
def mOp (σ : mz_St) (k i t : Nat) : Prop := σ 12 (12 * k + i) ≠ 17 ∧ σ 13 (12 * k + i) = nI t
def uEnd (σ : mz_St) (k t : Nat) : Prop := σ 17 k ≠ 1 ∧ σ 18 k = nI t
def lenC (σ : mz_St) (k : Nat) : Nat := (σ 16 k).toNatClampNeg
theorem PN_len {σ : mz_St} {n k : Nat} (hP : PN σ n) (hk : k < 10) : σ 16 k = nI (lenC σ k) ∧ σ 60 k = nI (lenC σ k) ∧ lenC σ k ≤ 12 ∧ ∀ i, i < lenC σ k → PO σ k i := by
  obtain ⟨len, e, h1, h2, h3, h4, h5, h6⟩ := hP.2.2.2 k hk
  have : lenC σ k = len := by unfold lenC; rw [h2, nI_clamp (by omega)]
  rw [this]
  exact ⟨h2, h3, h1, h6⟩
/-- what a told operation is -/
theorem such_d {kd d a b : Int32} (h : such kd d a b = true) (hk : kd ≠ 17) : ∃ t, t < 10 ∧ d = nI t := by
  unfold such at h
  split at h
  · simp only [Bool.and_eq_true] at h; exact istemp_of h.1
  split at h
  · simp only [Bool.and_eq_true] at h; exact istemp_of h.1.1
  split at h
  · simp only [Bool.and_eq_true] at h; exact istemp_of h.1.1.1
  · simp only [Bool.and_eq_true] at h; exact istemp_of h.1.1.2
theorem such_a {kd d a b : Int32} (h : such kd d a b = true) (hk : kd ≠ 0) : ∃ t, t < 10 ∧ a = nI t := by
  unfold such at h
  split at h
  · exact absurd (by assumption) hk
  split at h
  · simp only [Bool.and_eq_true] at h; exact istemp_of h.1.2
  split at h
  · simp only [Bool.and_eq_true] at h; exact istemp_of h.1.2
  split at h
  · simp only [Bool.and_eq_true] at h; exact istemp_of h.1.1.2
  · simp only [Bool.and_eq_true] at h; exact istemp_of h.1.2
theorem such_b {kd d a b : Int32} (h : such kd d a b = true) (hk : tkB kd) : ∃ t, t < 10 ∧ b = nI t := by
  unfold such at h
  unfold tkB at hk
  split at h
  · rename_i h0; subst h0; exact absurd hk (by decide)
  split at h
  · rename_i h1; rcases h1 with rfl | rfl <;> exact absurd hk (by decide)
  split at h
  · simp only [Bool.and_eq_true] at h; exact istemp_of h.2
  split at h
  · rename_i h1; subst h1; exact absurd hk (by decide)
  · simp only [Bool.and_eq_true] at h; exact istemp_of h.2
section OP
variable {K : Int32 → mz_St → Prop} {σ : mz_St} {n k i : Nat}
theorem in120 (hk : k < 10) (hi : i < 12) : vp_in (nI (12 * k + i)) 120 := vp_in_nI (by omega) (by decide)
theorem mm_takesA (hk : k < 10) (hi : i < 12) (h : K (bz (decide (σ 12 (12 * k + i) ≠ 0))) σ) : mw_Program_takesA K (nI (12 * k + i)) σ := by
  unfold mw_Program_takesA
  rw [mz_rdn (by omega)]
  refine ⟨in120 hk hi, fun e => ?_, fun e => ?_⟩
  · simpa [e, bz] using h
  · simpa [e, bz] using h
theorem mm_takesB (hk : k < 10) (hi : i < 12) (h : K (bz (tr (tkB (σ 12 (12 * k + i))))) σ) : mw_Program_takesB K (nI (12 * k + i)) σ := by
  unfold mw_Program_takesB
  rw [mz_rdn (by omega)]
  have hin := in120 hk hi
  refine ⟨hin, fun P32 hP32 => ?_⟩
  have yes : tkB (σ 12 (12 * k + i)) → P32 σ := fun z => hP32 _ (by unfold mw_Program_takesB_32; rw [tr_t.mpr z] at h; exact h)
  have no : ¬ tkB (σ 12 (12 * k + i)) → K 0 σ := fun z => by rw [tr_f.mpr z] at h; exact h
  refine ⟨fun e => yes (Or.inl e), fun e => ⟨hin, fun e1 => no (fun z => z.elim e (fun z => z.1 e1)), fun e1 => ⟨hin, fun e2 => no (fun z => z.elim e (fun z => z.2 e2)), fun e2 => yes (Or.inr ⟨e1, e2⟩)⟩⟩⟩
theorem mm_makesValue (hk : k < 10) (hi : i < 12) (h : K (bz (decide (σ 12 (12 * k + i) ≠ 17))) σ) : mw_Program_makesValue K (nI (12 * k + i)) σ := by
  unfold mw_Program_makesValue
  rw [mz_rdn (by omega)]
  refine ⟨in120 hk hi, fun e => ?_, fun e => ?_⟩
  · simpa [e, bz] using h
  · simpa [e, bz] using h
theorem mm_endTakesTemp (hk : k < 10) (h : K (bz (decide (σ 17 k ≠ 1))) σ) : mw_Program_endTakesTemp K (nI k) σ := by
  unfold mw_Program_endTakesTemp
  rw [mz_rdn (by omega)]
  refine ⟨vp_in_nI (by omega) (by decide), fun e => ?_, fun e => ?_⟩
  · simpa [e, bz] using h
  · simpa [e, bz] using h
theorem mm_usedSet (hP : PN σ n) (hk : k < 10) (hi : i < lenC σ k) (h : ∀ r, (∀ t, bt r t = true ↔ t < 10 ∧ uOp σ k i t) → K r σ) : mw_Program_usedSet K (nI (12 * k + i)) σ := by
  obtain ⟨-, -, hl, hop⟩ := PN_len hP hk
  have hs := (hop i hi).1
  unfold mw_Program_usedSet
  refine mm_takesA hk (by omega) (fun P20 hP20 => ?_)
  have fin : ∀ y0, (∀ t, bt y0 t = true ↔ t < 10 ∧ σ 12 (12 * k + i) ≠ 0 ∧ σ 14 (12 * k + i) = nI t) → P20 y0 σ := by
    intro y0 hy
    apply hP20
    unfold mw_Program_usedSet_20
    refine mm_takesB hk (by omega) (bz_go (fun e => h _ (fun t => ?_)) (fun e => ⟨in120 hk (by omega), h _ (fun t => ?_)⟩))
    · rw [tr_f] at e
      rw [b_or, b_0, Bool.or_false, hy t]
      unfold uOp
      exact ⟨fun z => ⟨z.1, Or.inl z.2⟩, fun z => ⟨z.1, z.2.elim id (fun q => absurd q.1 e)⟩⟩
    · rw [tr_t] at e
      obtain ⟨tb, htb, etb⟩ := such_b hs e
      rw [mz_rdn (by omega), etb, b_or, b_one (by omega), Bool.or_eq_true, decide_eq_true_eq, hy t]
      unfold uOp
      rw [etb]
      constructor
      · rintro (z | rfl)
        · exact ⟨z.1, Or.inl z.2⟩
        · exact ⟨htb, Or.inr ⟨e, rfl⟩⟩
      · rintro ⟨z1, z2 | z2⟩
        · exact Or.inl ⟨z1, z2⟩
        · right
          have := z2.2
          rw [nI_eq (by omega) (by omega)] at this
          exact this.symm
  refine bz_go (fun e => fin 0 (fun t => ?_)) (fun e => ⟨in120 hk (by omega), fin _ (fun t => ?_)⟩)
  · rw [decide_eq_false_iff_not] at e
    rw [b_0]
    exact ⟨fun z => (by cases z), fun z => absurd z.2.1 e⟩
  · rw [decide_eq_true_eq] at e
    obtain ⟨ta, hta, eta⟩ := such_a hs e
    rw [mz_rdn (by omega), eta, b_one (by omega), decide_eq_true_eq]
    constructor
    · rintro rfl; exact ⟨hta, e, rfl⟩
    · rintro ⟨z1, -, z2⟩
      rw [nI_eq (by omega) (by omega)] at z2
      exact z2.symm
theorem mm_madeSet (hP : PN σ n) (hk : k < 10) (hi : i < lenC σ k) (h : ∀ r, (∀ t, bt r t = true ↔ t < 10 ∧ mOp σ k i t) → K r σ) : mw_Program_madeSet K (nI (12 * k + i)) σ := by
  obtain ⟨-, -, hl, hop⟩ := PN_len hP hk
  have hs := (hop i hi).1
  unfold mw_Program_madeSet
  refine mm_makesValue hk (by omega) (bz_go (fun e => h _ (fun t => ?_)) (fun e => ⟨in120 hk (by omega), h _ (fun t => ?_)⟩))
  · rw [decide_eq_false_iff_not] at e
    rw [b_0]
    exact ⟨fun z => (by cases z), fun z => absurd z.2.1 e⟩
  · rw [decide_eq_true_eq] at e
    obtain ⟨td, htd, etd⟩ := such_d hs e
    rw [mz_rdn (by omega), etd, b_one (by omega), decide_eq_true_eq]
    unfold mOp
    rw [etd]
    constructor
    · rintro rfl; exact ⟨htd, e, rfl⟩
    · rintro ⟨z1, -, z2⟩
      rw [nI_eq (by omega) (by omega)] at z2
      exact z2.symm
theorem mm_usedAtEnd (hP : PN σ n) (hk : k < 10) (h : ∀ r, (∀ t, bt r t = true ↔ t < 10 ∧ uEnd σ k t) → K r σ) : mw_Program_usedAtEndSet K (nI k) σ := by
  obtain ⟨len, e0, -, -, -, ⟨-, -, -, ⟨te, hte, ete⟩, -⟩, -⟩ := hP.2.2.2 k hk
  unfold mw_Program_usedAtEndSet
  refine mm_endTakesTemp hk (bz_go (fun e => h _ (fun t => ?_)) (fun e => ⟨vp_in_nI (by omega) (by decide), h _ (fun t => ?_)⟩))
  · rw [decide_eq_false_iff_not] at e
    rw [b_0]
    exact ⟨fun z => (by cases z), fun z => absurd z.2.1 e⟩
  · rw [decide_eq_true_eq] at e
    rw [mz_rdn (by omega), ete, b_one (by omega), decide_eq_true_eq]
    unfold uEnd
    rw [ete]
    constructor
    · rintro rfl; exact ⟨hte, e, rfl⟩
    · rintro ⟨z1, -, z2⟩
      rw [nI_eq (by omega) (by omega)] at z2
      exact z2.symm
end OP
/-- from place i on: t is read before it is made anew; t is made -/
def RdF (σ : mz_St) (k i t : Nat) : Prop := (∃ j, i ≤ j ∧ j < lenC σ k ∧ uOp σ k j t ∧ ∀ q, i ≤ q → q < j → ¬ mOp σ k q t) ∨ (uEnd σ k t ∧ ∀ q, i ≤ q → q < lenC σ k → ¬ mOp σ k q t)
def WrF (σ : mz_St) (k i t : Nat) : Prop := ∃ q, i ≤ q ∧ q < lenC σ k ∧ mOp σ k q t
theorem Sm_RdF {σ u : mz_St} (h : Sm σ u) : RdF u = RdF σ := by
  funext k i t; unfold RdF lenC uOp mOp uEnd
  rw [h 12 (by decide), h 13 (by decide), h 14 (by decide), h 15 (by decide), h 16 (by decide), h 17 (by decide), h 18 (by decide)]
theorem Sm_WrF {σ u : mz_St} (h : Sm σ u) : WrF u = WrF σ := by
  funext k i t; unfold WrF lenC mOp
  rw [h 12 (by decide), h 13 (by decide), h 16 (by decide)]
theorem Sm_lenC {σ u : mz_St} (h : Sm σ u) : lenC u = lenC σ := by
  funext k; unfold lenC; rw [h 16 (by decide)]
theorem mm_findRW {K : mz_St → Prop} {σ : mz_St} {n k : Nat} (hP : PN σ n) (hk : k < n) (h : ∀ u, mf [29, 30] σ u → (∀ j, j ≠ k → u 29 j = σ 29 j ∧ u 30 j = σ 30 j) → (∀ t, bt (u 29 k) t = true ↔ t < 10 ∧ RdF σ k 0 t) → (∀ t, bt (u 30 k) t = true ↔ t < 10 ∧ WrF σ k 0 t) → K u) : mw_Lives_findReadsAndWrites K (nI k) σ := by
  have hn := hP.1
  obtain ⟨hl, -, hl2, -⟩ := PN_len hP (show k < 10 by omega)
  have hin : vp_in (nI k) 10 := vp_in_nI (by omega) (by decide)
  unfold mw_Lives_findReadsAndWrites
  have e0 : nI k * 12 = nI (12 * k + 0) := by rw [show (12 : Int32) = nI 12 from rfl, pk_mul, Nat.mul_comm]; rfl
  rw [e0]
  refine lf3 (fun m rd wr x u => ∃ i, x = nI (12 * k + i) ∧ i ≤ lenC σ k ∧ m = lenC σ k - i ∧ u = σ ∧ (∀ t, bt rd t = true ↔ t < 10 ∧ ∃ j, j < i ∧ uOp σ k j t ∧ ∀ q, q < j → ¬ mOp σ k q t) ∧ (∀ t, bt wr t = true ↔ t < 10 ∧ ∃ q, q < i ∧ mOp σ k q t)) ?_ (lenC σ k) 0 0 _ σ ⟨0, rfl, by omega, rfl, rfl, fun t => ⟨fun z => (by rw [b_0] at z; cases z), fun ⟨_, j, hj, _⟩ => absurd hj (by omega)⟩, fun t => ⟨fun z => (by rw [b_0] at z; cases z), fun ⟨_, j, hj, _⟩ => absurd hj (by omega)⟩⟩
  rintro m P10 rd wr x u ⟨i, rfl, hi, rfl, rfl, hrd, hwr⟩ hrec
  unfold mw_Lives_findReadsAndWrites_10
  rw [mz_rdn (by omega), hl, ix12]
  refine ⟨hin, pk_le (12 * k + lenC u k) (12 * k + i) (fun hle => ?_) (fun hlt => ?_)⟩
  · have ei : i = lenC u k := by omega
    subst ei
    refine mm_usedAtEnd hP (by omega) (fun r hr => ⟨hin, hin, ?_⟩)
    simp only [mz_wrn (show k < 2 ^ 31 by omega)]
    refine h _ (mf_tr (mf_up (by decide)) (mf_up (by decide))) (fun j hj => ?_) (fun t => ?_) (fun t => ?_)
    · rw [up_row (by decide), up_ot hj, up_ot hj, up_row (by decide)]
      exact ⟨rfl, rfl⟩
    · rw [up_row (by decide), up_at, b_or, b_wo, Bool.or_eq_true, Bool.and_eq_true, hrd t, hr t]
      unfold RdF
      constructor
      · rintro (⟨z1, j, z2, z3, z4⟩ | ⟨⟨z1, z2⟩, z3⟩)
        · exact ⟨z1, Or.inl ⟨j, by omega, z2, z3, fun q _ => z4 q⟩⟩
        · refine ⟨z1, Or.inr ⟨z2, fun q _ hq hm => ?_⟩⟩
          rw [(hwr t).mpr ⟨z1, q, hq, hm⟩] at z3
          cases z3
      · rintro ⟨z1, ⟨j, -, z2, z3, z4⟩ | ⟨z2, z3⟩⟩
        · exact Or.inl ⟨z1, j, z2, z3, fun q => z4 q (by omega)⟩
        · refine Or.inr ⟨⟨z1, z2⟩, ?_⟩
          cases e : bt wr t
          · rfl
          · obtain ⟨-, q, hq, hm⟩ := (hwr t).mp e
            exact absurd hm (z3 q (by omega) hq)
    · rw [up_at, hwr t]
      unfold WrF
      exact ⟨fun ⟨z1, q, z2, z3⟩ => ⟨z1, q, by omega, z2, z3⟩, fun ⟨z1, q, _, z2, z3⟩ => ⟨z1, q, z2, z3⟩⟩
  · refine mm_usedSet hP (by omega) (by omega) (fun r2 hr2 => mm_madeSet hP (by omega) (by omega) (fun r3 hr3 => ?_))
    rw [nI_k1]
    refine hrec (lenC u k - (i + 1)) _ _ _ u (by omega) ⟨i + 1, by rw [Nat.add_assoc], by omega, rfl, rfl, fun t => ?_, fun t => ?_⟩
    · rw [b_or, b_wo, Bool.or_eq_true, Bool.and_eq_true, hrd t, hr2 t]
      constructor
      · rintro (⟨z1, j, z2, z3⟩ | ⟨⟨z1, z2⟩, z3⟩)
        · exact ⟨z1, j, by omega, z3⟩
        · refine ⟨z1, i, by omega, z2, fun q hq hm => ?_⟩
          rw [(hwr t).mpr ⟨z1, q, hq, hm⟩] at z3
          cases z3
      · rintro ⟨z1, j, z2, z3, z4⟩
        by_cases hji : j = i
        · subst hji
          refine Or.inr ⟨⟨z1, z3⟩, ?_⟩
          cases e : bt wr t
          · rfl
          · obtain ⟨-, q, hq, hm⟩ := (hwr t).mp e
            exact absurd hm (z4 q hq)
        · exact Or.inl ⟨z1, j, by omega, z3, z4⟩
    · rw [b_or, Bool.or_eq_true, hwr t, hr3 t]
      constructor
      · rintro (⟨z1, q, z2, z3⟩ | ⟨z1, z2⟩)
        · exact ⟨z1, q, by omega, z3⟩
        · exact ⟨z1, i, by omega, z2⟩
      · rintro ⟨z1, q, z2, z3⟩
        by_cases hqi : q = i
        · subst hqi; exact Or.inr ⟨z1, z3⟩
        · exact Or.inl ⟨z1, q, by omega, z3⟩

/-! the simple calls, class and reference apart: what they do to the picture -/
def istemp (x : Int32) : Bool := !decide (x < 0) && !decide (10 ≤ x)
def isword (x : Int32) : Bool := !decide (x < 0) && !decide (32 ≤ x)
def isblk (n : Nat) (x : Int32) : Bool := !decide (x < 0) && !decide (nI n ≤ x)
/-- an operation as it may be told -/
def such (kd d a b : Int32) : Bool :=
  if kd = 0 then istemp d && decide (b = 0)
  else if kd = 1 ∨ kd = 16 then istemp d && istemp a && decide (b = 0)
  else if kd = 17 then decide (d = 0) && istemp a && istemp b
  else if kd = 18 then istemp d && istemp a && !decide (b < 0) && !decide (10 ≤ b)
  else !decide (kd ≤ 1) && !decide (16 ≤ kd) && istemp d && istemp a && istemp b
theorem istemp_of {x : Int32} (h : istemp x = true) : ∃ t, t < 10 ∧ x = nI t := by
  simp only [istemp, Bool.and_eq_true, Bool.not_eq_true', decide_eq_false_iff_not] at h
  rcases pk_ix x (n := 10) (by decide) with h1 | h1 | ⟨j, hj, e⟩
  · exact absurd h1 h.1
  · exact absurd h1 h.2
  · exact ⟨j, hj, e⟩
theorem istemp_nI {t : Nat} (h : t < 10) : istemp (nI t) = true := by
  simp only [istemp, Bool.and_eq_true, Bool.not_eq_true', decide_eq_false_iff_not]
  exact ⟨nI_pos (by omega), nI_ge (b := 10) h (by decide)⟩
theorem isword_of {x : Int32} (h : isword x = true) : ∃ t, t < 32 ∧ x = nI t := by
  simp only [isword, Bool.and_eq_true, Bool.not_eq_true', decide_eq_false_iff_not] at h
  rcases pk_ix x (n := 32) (by decide) with h1 | h1 | ⟨j, hj, e⟩
  · exact absurd h1 h.1
  · exact absurd h1 h.2
  · exact ⟨j, hj, e⟩
theorem isword_nI {t : Nat} (h : t < 32) : isword (nI t) = true := by
  simp only [isword, Bool.and_eq_true, Bool.not_eq_true', decide_eq_false_iff_not]
  exact ⟨nI_pos (by omega), nI_ge (b := 32) h (by decide)⟩
theorem isblk_of {n : Nat} {x : Int32} (hn : n ≤ 10) (h : isblk n x = true) : ∃ k, k < n ∧ x = nI k := by
  simp only [isblk, Bool.and_eq_true, Bool.not_eq_true', decide_eq_false_iff_not] at h
  rcases pk_ix x (n := n) (by omega) with h1 | h1 | ⟨j, hj, e⟩
  · exact absurd h1 h.1
  · exact absurd h1 h.2
  · exact ⟨j, hj, e⟩
theorem isblk_nI {n k : Nat} (hn : n ≤ 10) (h : k < n) : isblk n (nI k) = true := by
  simp only [isblk, Bool.and_eq_true, Bool.not_eq_true', decide_eq_false_iff_not]
  exact ⟨nI_pos (by omega), nI_ge h (by omega)⟩
theorem isblk_no {n k : Nat} (hn : n ≤ 10) (hk : k < 2 ^ 31) (h : n ≤ k) : isblk n (nI k) = false := by
  cases e : isblk n (nI k)
  · rfl
  · obtain ⟨j, hj, e2⟩ := isblk_of hn e
    rw [nI_eq hk (by omega)] at e2
    omega
theorem bz_two {c1 c2 : Prop} [Decidable c1] [Decidable c2] {K : Int32 → Prop} (h : K (bz (!decide c1 && !decide c2))) : (c1 → K 0) ∧ (¬ c1 → (c2 → K 0) ∧ (¬ c2 → K 1)) := by
  by_cases h1 : c1 <;> by_cases h2 : c2 <;> simp_all [bz]
section S0
variable {K : Int32 → mz_St → Prop} {Kv : mz_St → Prop} {a0 a1 a2 a3 a4 : Int32} {σ : mz_St} {n : Nat}
theorem mm_isTemp (h : K (bz (istemp a0)) σ) : mw_Mill_isTemp K a0 σ := by
  unfold mw_Mill_isTemp
  exact bz_two (K := fun r => K r σ) h
theorem mm_isWord (h : K (bz (isword a0)) σ) : mw_Mill_isWord K a0 σ := by
  unfold mw_Mill_isWord
  exact bz_two (K := fun r => K r σ) h
theorem mm_rTemp (h : K (bz (istemp a0)) σ) : mw_Ref_isTemp K a0 σ := by
  unfold mw_Ref_isTemp
  exact bz_two (K := fun r => K r σ) h
theorem mm_rWord (h : K (bz (isword a0)) σ) : mw_Ref_isWord K a0 σ := by
  unfold mw_Ref_isWord
  exact bz_two (K := fun r => K r σ) h
theorem mm_hasBlock (hn : σ 1003 0 = nI n) (h : K (bz (isblk n a0)) σ) : mw_Program_hasBlock K a0 σ := by
  unfold mw_Program_hasBlock
  rw [hn]
  exact bz_two (K := fun r => K r σ) h
theorem mm_isBlock (hn : σ 1016 0 = nI n) (h : K (bz (isblk n a0)) σ) : mw_Ref_isBlock K a0 σ := by
  unfold mw_Ref_isBlock
  rw [hn]
  exact bz_two (K := fun r => K r σ) h
theorem mm_isIn {i : Nat} (hi : i < 32) (h : K (bz (bt a0 i)) σ) : mw_Mill_isIn K a0 (nI i) σ := by
  unfold mw_Mill_isIn
  rw [b_is0 a0 hi]
  cases e : bt a0 i <;> simp_all [bz]
/-- going on by a truth: '= 0' and '¬ = 0' -/
theorem bz_go {b : Bool} {A B : Prop} (hf : b = false → A) (ht : b = true → B) : (bz b = 0 → A) ∧ (¬ bz b = 0 → B) := by
  rw [bz_0]
  exact ⟨hf, fun h => ht (by cases b <;> simp_all)⟩
theorem bz_og {b : Bool} {A B : Prop} (ht : b = true → A) (hf : b = false → B) : (¬ bz b = 0 → A) ∧ (bz b = 0 → B) := ⟨(bz_go hf ht).2, (bz_go hf ht).1⟩
set_option maxHeartbeats 1000000 in
theorem mm_isSuch (h : K (bz (such a0 a1 a2 a3)) σ) : mw_Mill_isSuch K a0 a1 a2 a3 σ := by
  unfold mw_Mill_isSuch
  intro P hP
  by_cases c0 : a0 = 0
  · subst c0
    refine ⟨fun _ => mm_isTemp (bz_go (fun e => ?_) (fun e => ?_)), fun hc => absurd rfl hc⟩
    · simpa [such, e, bz] using h
    · by_cases e3 : a3 = 0
      · exact ⟨fun z => absurd e3 z, fun _ => by simpa [such, e, e3, bz] using h⟩
      · exact ⟨fun _ => by simpa [such, e, e3, bz] using h, fun z => absurd z e3⟩
  refine ⟨fun z => absurd z c0, fun _ => ?_⟩
  have h69 : a0 = 1 ∨ a0 = 16 → P σ := by
    intro hc
    apply hP
    unfold mw_Mill_isSuch_69
    have h : K (bz (istemp a1 && istemp a2 && decide (a3 = 0))) σ := by
      have : such a0 a1 a2 a3 = (istemp a1 && istemp a2 && decide (a3 = 0)) := by simp only [such, if_neg c0, if_pos hc]
      rwa [this] at h
    refine mm_isTemp (bz_go (fun e => by simpa [e, bz] using h) (fun e => mm_isTemp (bz_go (fun e2 => by simpa [e, e2, bz] using h) (fun e2 => ?_))))
    by_cases e3 : a3 = 0
    · exact ⟨fun z => absurd e3 z, fun _ => by simpa [e, e2, e3, bz] using h⟩
    · exact ⟨fun _ => by simpa [e, e2, e3, bz] using h, fun z => absurd z e3⟩
  by_cases c1 : a0 = 1
  · exact ⟨fun _ => h69 (Or.inl c1), fun z => absurd c1 z⟩
  refine ⟨fun z => absurd z c1, fun _ => ?_⟩
  by_cases c16 : a0 = 16
  · exact ⟨fun _ => h69 (Or.inr c16), fun z => absurd c16 z⟩
  refine ⟨fun z => absurd z c16, fun _ => ?_⟩
  have cc : ¬ (a0 = 1 ∨ a0 = 16) := fun z => z.elim c1 c16
  by_cases c17 : a0 = 17
  · refine ⟨fun _ => ?_, fun z => absurd c17 z⟩
    have h : K (bz (decide (a1 = 0) && istemp a2 && istemp a3)) σ := by
      have : such a0 a1 a2 a3 = (decide (a1 = 0) && istemp a2 && istemp a3) := by simp only [such, if_neg c0, if_neg cc, if_pos c17]
      rwa [this] at h
    by_cases e1 : a1 = 0
    · exact ⟨fun z => absurd e1 z, fun _ => mm_isTemp (bz_go (fun e => by simpa [e, e1, bz] using h) (fun e => mm_isTemp (bz_go (fun e2 => by simpa [e, e1, e2, bz] using h) (fun e2 => by simpa [e, e1, e2, bz] using h))))⟩
    · exact ⟨fun _ => by simpa [e1, bz] using h, fun z => absurd z e1⟩
  refine ⟨fun z => absurd z c17, fun _ => ?_⟩
  by_cases c18 : a0 = 18
  · refine ⟨fun _ => ?_, fun z => absurd c18 z⟩
    have h : K (bz (istemp a1 && istemp a2 && !decide (a3 < 0) && !decide (10 ≤ a3))) σ := by
      have : such a0 a1 a2 a3 = (istemp a1 && istemp a2 && !decide (a3 < 0) && !decide (10 ≤ a3)) := by simp only [such, if_neg c0, if_neg cc, if_neg c17, if_pos c18]
      rwa [this] at h
    refine mm_isTemp (bz_go (fun e => by simpa [e, bz] using h) (fun e => mm_isTemp (bz_go (fun e2 => by simpa [e, e2, bz] using h) (fun e2 => ?_))))
    have h : K (bz (!decide (a3 < 0) && !decide (10 ≤ a3))) σ := by simpa only [e, e2, Bool.true_and] using h
    exact bz_two (K := fun r => K r σ) h
  refine ⟨fun z => absurd z c18, fun _ => ?_⟩
  have h : K (bz (!decide (a0 ≤ 1) && !decide (16 ≤ a0) && istemp a1 && istemp a2 && istemp a3)) σ := by
    have : such a0 a1 a2 a3 = (!decide (a0 ≤ 1) && !decide (16 ≤ a0) && istemp a1 && istemp a2 && istemp a3) := by simp only [such, if_neg c0, if_neg cc, if_neg c17, if_neg c18]
    rwa [this] at h
  by_cases x1 : a0 ≤ 1
  · exact ⟨fun _ => by simpa [x1, bz] using h, fun z => absurd x1 z⟩
  refine ⟨fun z => absurd z x1, fun _ => ?_⟩
  by_cases x2 : 16 ≤ a0
  · exact ⟨fun _ => by simpa [x1, x2, bz] using h, fun z => absurd x2 z⟩
  refine ⟨fun z => absurd z x2, fun _ => ?_⟩
  exact mm_isTemp (bz_go (fun e => by simpa [x1, x2, e, bz] using h) (fun e => mm_isTemp (bz_go (fun e2 => by simpa [x1, x2, e, e2, bz] using h) (fun e2 => mm_isTemp (bz_go (fun e3 => by simpa [x1, x2, e, e2, e3, bz] using h) (fun e3 => by simpa [x1, x2, e, e2, e3, bz] using h))))))
theorem le9 (a : Int32) : 9 < a ↔ 10 ≤ a := by
  rw [Int32.lt_iff_toInt_lt, Int32.le_iff_toInt_le]
  have h1 : (9 : Int32).toInt = 9 := by decide
  have h2 : (10 : Int32).toInt = 10 := by decide
  omega
/-- the reference's question is the same one -/
theorem rf_isOp (h : mw_Mill_isSuch K a0 a1 a2 a3 σ) : mw_Ref_isOp K a0 a1 a2 a3 σ := by
  have e : (9 < a3) = (10 ≤ a3) := propext (le9 a3)
  unfold mw_Ref_isOp
  rw [e]
  exact h
theorem mm_isOp (h : K (bz (such a0 a1 a2 a3)) σ) : mw_Ref_isOp K a0 a1 a2 a3 σ := rf_isOp (mm_isSuch h)
end S0

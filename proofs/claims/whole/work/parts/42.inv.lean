/-! the program as told: class and reference hold the same one; the calls that tell it -/
def bdn (x : Int32) (n : Nat) : Prop := ∃ m, m < n ∧ x = nI m
theorem bdn_mono {x : Int32} {n m : Nat} (h : bdn x n) (hm : n ≤ m) : bdn x m := by
  obtain ⟨j, h1, h2⟩ := h
  exact ⟨j, by omega, h2⟩
def PO (σ : mz_St) (k i : Nat) : Prop := such (σ 12 (12 * k + i)) (σ 13 (12 * k + i)) (σ 14 (12 * k + i)) (σ 15 (12 * k + i)) = true ∧ σ 61 (48 * k + 4 * i) = σ 12 (12 * k + i) ∧ σ 61 (48 * k + 4 * i + 1) = σ 13 (12 * k + i) ∧ σ 61 (48 * k + 4 * i + 2) = σ 14 (12 * k + i) ∧ σ 61 (48 * k + 4 * i + 3) = σ 15 (12 * k + i)
def PE (σ : mz_St) (n k e : Nat) : Prop := σ 17 k = nI e ∧ σ 62 k = nI e ∧ e ≤ 2 ∧ bdn (σ 18 k) 10 ∧ bdn (σ 19 k) (max n 1) ∧ bdn (σ 20 k) (max n 1) ∧ (e ≠ 1 → σ 63 k = σ 18 k) ∧ (1 ≤ e → σ 64 k = σ 19 k) ∧ (e = 2 → σ 65 k = σ 20 k)
def PB (σ : mz_St) (n k : Nat) : Prop :=
  ∃ len e : Nat, len ≤ 12 ∧ σ 16 k = nI len ∧ σ 60 k = nI len ∧ PE σ n k e ∧ (n ≤ k → len = 0 ∧ e = 0) ∧ ∀ i, i < len → PO σ k i
def PN (σ : mz_St) (n : Nat) : Prop := n ≤ 10 ∧ σ 1003 0 = nI n ∧ σ 1016 0 = nI n ∧ ∀ k, k < 10 → PB σ n k
def PI (σ : mz_St) : Prop := ∃ n, PN σ n
/-- the rows that the telling calls change -/
def PW : List Nat := [12, 13, 14, 15, 16, 17, 18, 19, 20, 1003, 1000, 1001, 60, 61, 62, 63, 64, 65, 1016]
def Ch (σ u : mz_St) : Prop := PI u ∧ mf PW σ u ∧ (u = σ ∨ (u 1000 0 = 0 ∧ u 1001 0 = -1))
theorem Ch_same {σ : mz_St} (h : PI σ) : Ch σ σ := ⟨h, mf_rf, Or.inl rfl⟩
theorem PE_congr {σ u : mz_St} {n k e : Nat} (h : ∀ a, a ∈ [17, 18, 19, 20, 62, 63, 64, 65] → u a k = σ a k) (hP : PE σ n k e) : PE u n k e := by
  unfold PE at *
  rw [h 17 (by decide), h 18 (by decide), h 19 (by decide), h 20 (by decide), h 62 (by decide), h 63 (by decide), h 64 (by decide), h 65 (by decide)]
  exact hP
theorem PE_mono {σ : mz_St} {n m k e : Nat} (hP : PE σ n k e) (h : n ≤ m) : PE σ m k e := by
  obtain ⟨h1, h2, h3, h4, h5, h6, h7⟩ := hP
  exact ⟨h1, h2, h3, h4, bdn_mono h5 (by omega), bdn_mono h6 (by omega), h7⟩
theorem PO_congr {σ u : mz_St} {k i : Nat} (h : ∀ a, a ∈ [12, 13, 14, 15] → u a (12 * k + i) = σ a (12 * k + i)) (h2 : ∀ j, j < 4 → u 61 (48 * k + 4 * i + j) = σ 61 (48 * k + 4 * i + j)) (hP : PO σ k i) : PO u k i := by
  unfold PO at *
  have e0 := h2 0 (by omega)
  rw [Nat.add_zero] at e0
  rw [h 12 (by decide), h 13 (by decide), h 14 (by decide), h 15 (by decide), e0, h2 1 (by omega), h2 2 (by omega), h2 3 (by omega)]
  exact hP
section S1
variable {K : Int32 → mz_St → Prop} {K2 : Int32 → Int32 → mz_St → Prop} {R : Int32 → mz_St → Prop} {Kv : mz_St → Prop} {a0 a1 a2 a3 a4 : Int32} {σ : mz_St} {n : Nat}
theorem mm_forget (h : Kv (mz_up (mz_up σ 1000 0 0) 1001 0 (-1))) : mw_Mill_forgetWhatWasMade Kv σ := h
theorem ap_block (hP : PI σ) (hR : ∀ r u, mw_Ref_block (K2 r) u → R r u) (hK : ∀ r u, Ch σ u → K2 r r u) : mw_Mill_block R σ := by
  obtain ⟨n, hn, hc, hr, hb⟩ := id hP
  unfold mw_Mill_block
  rw [hc]
  refine ⟨fun h => ?_, fun h => ?_⟩
  · have hlt : n < 10 := by
      rcases Nat.lt_or_ge n 10 with h1 | h1
      · exact h1
      · exact absurd (by rw [show n = 10 by omega]; rfl) h
    refine mm_forget (hR _ _ ?_)
    unfold mw_Ref_block
    simp only [up_any]
    simp only [show (1016 : Nat) ≠ 1003 by decide, show (1016 : Nat) ≠ 1001 by decide, show (1016 : Nat) ≠ 1000 by decide, show (1003 : Nat) ≠ 1001 by decide, show (1003 : Nat) ≠ 1000 by decide, false_and, if_false, true_and, if_true, hc, hr]
    refine ⟨fun _ => ?_, fun h => absurd h (by intro h2; rw [show (10 : Int32) = nI 10 from rfl, nI_eq (by omega) (by omega)] at h2; omega)⟩
    refine hK _ _ ⟨⟨n + 1, by omega, ?_, ?_, fun k hk => ?_⟩, ?_, Or.inr ⟨?_, ?_⟩⟩
    · simp [up_any, nI_1]
    · simp [up_any, nI_1]
    · obtain ⟨len, e, h1, h2, h3, h4, h5, h6⟩ := hb k hk
      refine ⟨len, e, h1, by simpa [up_any] using h2, by simpa [up_any] using h3, PE_mono (PE_congr (fun a ha => ?_) h4) (by omega), fun h => h5 (by omega), fun i hi => PO_congr (fun a ha => ?_) (fun j hj => ?_) (h6 i hi)⟩
      · simp only [List.mem_cons, List.not_mem_nil, or_false] at ha
        rcases ha with rfl | rfl | rfl | rfl | rfl | rfl | rfl | rfl <;> simp [up_any]
      · simp only [List.mem_cons, List.not_mem_nil, or_false] at ha
        rcases ha with rfl | rfl | rfl | rfl <;> simp [up_any]
      · simp [up_any]
    · exact mf_tr (mf_tr (mf_tr (mf_up (by decide)) (mf_up (by decide))) (mf_up (by decide))) (mf_up (by decide))
    · simp [up_any]
    · simp [up_any]
  · refine hR _ _ ?_
    unfold mw_Ref_block
    rw [hr]
    exact ⟨fun h2 => absurd h h2, fun _ => hK _ _ (Ch_same hP)⟩
end S1

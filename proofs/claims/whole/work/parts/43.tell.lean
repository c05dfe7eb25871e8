/-! op, jump, branch, ret, memory: class and reference side by side -/
theorem PN_end {σ u : mz_St} {n k0 e : Nat} (hP : PN σ n) (hk0 : k0 < n) (hrows : ∀ a, a ∉ [17, 18, 19, 20, 62, 63, 64, 65, 1000, 1001] → u a = σ a) (hot : ∀ a k, a ∈ [17, 18, 19, 20, 62, 63, 64, 65] → k ≠ k0 → u a k = σ a k) (hE : PE u n k0 e) : PN u n := by
  obtain ⟨hn, hc, hr, hb⟩ := hP
  refine ⟨hn, by rw [hrows 1003 (by decide)]; exact hc, by rw [hrows 1016 (by decide)]; exact hr, fun k hk => ?_⟩
  obtain ⟨len, e', h1, h2, h3, h4, h5, h6⟩ := hb k hk
  by_cases hkk : k = k0
  · subst hkk
    exact ⟨len, e, h1, by rw [hrows 16 (by decide)]; exact h2, by rw [hrows 60 (by decide)]; exact h3, hE, fun h => absurd hk0 (by omega), fun i hi => PO_congr (fun a ha => by rw [hrows a (by revert ha; revert a; decide)]) (fun j hj => by rw [hrows 61 (by decide)]) (h6 i hi)⟩
  · exact ⟨len, e', h1, by rw [hrows 16 (by decide)]; exact h2, by rw [hrows 60 (by decide)]; exact h3, PE_congr (fun a ha => hot a k ha hkk) h4, h5, fun i hi => PO_congr (fun a ha => by rw [hrows a (by revert ha; revert a; decide)]) (fun j hj => by rw [hrows 61 (by decide)]) (h6 i hi)⟩
section S2
variable {K : Int32 → mz_St → Prop} {K2 : Int32 → Int32 → mz_St → Prop} {R : Int32 → mz_St → Prop} {Kv : mz_St → Prop} {a0 a1 a2 a3 a4 : Int32} {σ : mz_St} {n : Nat}
theorem ap_ret (hP : PI σ) (hR : ∀ r u, mw_Ref_ret (K2 r) a0 a1 u → R r u) (hK : ∀ r u, Ch σ u → K2 r r u) : mw_Mill_ret R a0 a1 σ := by
  obtain ⟨n, hPN⟩ := id hP
  obtain ⟨hn, hc, hr, hb⟩ := id hPN
  have no : (isblk n a0 && istemp a1) = false → R 0 σ := by
    intro h
    refine hR _ _ (mm_isBlock hr (bz_go (fun _ => hK _ _ (Ch_same hP)) (fun h1 => mm_rTemp (bz_og (fun h2 => ?_) (fun _ => hK _ _ (Ch_same hP))))))
    rw [h1, h2] at h
    cases h
  unfold mw_Mill_ret
  refine mm_hasBlock hc (bz_go (fun h => no (by rw [h]; rfl)) (fun h1 => mm_isTemp (bz_og (fun h2 => ?_) (fun h => no (by rw [h, Bool.and_false])))))
  obtain ⟨k, hk, rfl⟩ := isblk_of hn h1
  obtain ⟨t, ht, rfl⟩ := istemp_of h2
  refine mm_forget ⟨vp_in_nI (by omega) (by decide), vp_in_nI (by omega) (by decide), hR _ _ ?_⟩
  refine mm_isBlock (n := n) (by simpa [mz_wr, up_any] using hr) (bz_go (fun h => by rw [h1] at h; cases h) (fun _ => mm_rTemp (bz_og (fun _ => ?_) (fun h => by rw [h2] at h; cases h))))
  refine ⟨vp_in_nI (by omega) (by decide), vp_in_nI (by omega) (by decide), ?_⟩
  simp only [mz_wrn (show k < 2 ^ 31 by omega)]
  refine hK _ _ ⟨⟨n, PN_end (e := 0) hPN hk (fun a ha => ?_) (fun a j ha hj => ?_) ?_⟩, ?_, Or.inr ⟨?_, ?_⟩⟩
  · simp only [List.mem_cons, List.not_mem_nil, or_false, not_or] at ha
    funext j
    simp [up_any, ha]
  · have h8 : a ≠ 1001 ∧ a ≠ 1000 := by simp at ha; omega
    simp [up_any, hj, h8]
  · obtain ⟨len, e, -, -, -, ⟨-, -, -, p4, p5, p6, -, -, -⟩, -, -⟩ := hb k (by omega)
    refine ⟨by simp [up_any]; rfl, by simp [up_any]; rfl, by omega, ⟨t, ht, by simp [up_any]⟩, by simpa [up_any] using p5, by simpa [up_any] using p6, fun _ => by simp [up_any], fun h => by omega, fun h => by omega⟩
  · refine mf_tr (mf_tr (mf_tr (mf_tr (mf_tr (mf_up (by decide)) (mf_up (by decide))) (mf_up (by decide))) (mf_up (by decide))) (mf_up (by decide))) (mf_up (by decide))
  · simp [up_any]
  · simp [up_any]
theorem ap_jump (hP : PI σ) (hR : ∀ r u, mw_Ref_jump (K2 r) a0 a1 u → R r u) (hK : ∀ r u, Ch σ u → K2 r r u) : mw_Mill_jump R a0 a1 σ := by
  obtain ⟨n, hPN⟩ := id hP
  obtain ⟨hn, hc, hr, hb⟩ := id hPN
  have no : (isblk n a0 && isblk n a1) = false → R 0 σ := by
    intro h
    refine hR _ _ (mm_isBlock hr (bz_go (fun _ => hK _ _ (Ch_same hP)) (fun h1 => mm_isBlock hr (bz_og (fun h2 => ?_) (fun _ => hK _ _ (Ch_same hP))))))
    rw [h1, h2] at h
    cases h
  unfold mw_Mill_jump
  refine mm_hasBlock hc (bz_go (fun h => no (by rw [h]; rfl)) (fun h1 => mm_hasBlock hc (bz_og (fun h2 => ?_) (fun h => no (by rw [h, Bool.and_false])))))
  obtain ⟨k, hk, rfl⟩ := isblk_of hn h1
  obtain ⟨t, ht, rfl⟩ := isblk_of hn h2
  refine mm_forget ⟨vp_in_nI (by omega) (by decide), vp_in_nI (by omega) (by decide), vp_in_nI (by omega) (by decide), vp_in_nI (by omega) (by decide), hR _ _ ?_⟩
  refine mm_isBlock (n := n) (by simpa [mz_wr, up_any] using hr) (bz_go (fun h => by rw [h1] at h; cases h) (fun _ => mm_isBlock (n := n) (by simpa [mz_wr, up_any] using hr) (bz_og (fun _ => ?_) (fun h => by rw [h2] at h; cases h))))
  refine ⟨vp_in_nI (by omega) (by decide), vp_in_nI (by omega) (by decide), ?_⟩
  simp only [mz_wrn (show k < 2 ^ 31 by omega)]
  refine hK _ _ ⟨⟨n, PN_end (e := 1) hPN hk (fun a ha => ?_) (fun a j ha hj => ?_) ?_⟩, ?_, Or.inr ⟨?_, ?_⟩⟩
  · simp only [List.mem_cons, List.not_mem_nil, or_false, not_or] at ha
    funext j
    simp [up_any, ha]
  · have h8 : a ≠ 1001 ∧ a ≠ 1000 := by simp at ha; omega
    simp [up_any, hj, h8]
  · refine ⟨by simp [up_any]; rfl, by simp [up_any]; rfl, by omega, ⟨0, by omega, by simp [up_any]; rfl⟩, ⟨t, by omega, by simp [up_any]⟩, ⟨t, by omega, by simp [up_any]⟩, fun h => absurd rfl h, fun _ => by simp [up_any], fun h => by omega⟩
  · refine mf_tr (mf_tr (mf_tr (mf_tr (mf_tr (mf_tr (mf_tr (mf_up (by decide)) (mf_up (by decide))) (mf_up (by decide))) (mf_up (by decide))) (mf_up (by decide))) (mf_up (by decide))) (mf_up (by decide))) (mf_up (by decide))
  · simp [up_any]
  · simp [up_any]
theorem ap_branch (hP : PI σ) (hR : ∀ r u, mw_Ref_branch (K2 r) a0 a1 a2 a3 u → R r u) (hK : ∀ r u, Ch σ u → K2 r r u) : mw_Mill_branch R a0 a1 a2 a3 σ := by
  obtain ⟨n, hPN⟩ := id hP
  obtain ⟨hn, hc, hr, hb⟩ := id hPN
  have no : (isblk n a0 && istemp a1 && isblk n a2 && isblk n a3) = false → R 0 σ := by
    intro h
    refine hR _ _ (mm_isBlock hr (bz_go (fun _ => hK _ _ (Ch_same hP)) (fun h1 => mm_rTemp (bz_go (fun _ => hK _ _ (Ch_same hP)) (fun h2 => mm_isBlock hr (bz_go (fun _ => hK _ _ (Ch_same hP)) (fun h3 => mm_isBlock hr (bz_og (fun h4 => ?_) (fun _ => hK _ _ (Ch_same hP))))))))))
    rw [h1, h2, h3, h4] at h
    cases h
  unfold mw_Mill_branch
  refine mm_hasBlock hc (bz_go (fun h => no (by rw [h]; rfl)) (fun h1 => mm_isTemp (bz_go (fun h => no (by rw [h, Bool.and_false]; rfl)) (fun h2 => mm_hasBlock hc (bz_go (fun h => no (by rw [h, Bool.and_false]; rfl)) (fun h3 => mm_hasBlock hc (bz_og (fun h4 => ?_) (fun h => no (by rw [h, Bool.and_false])))))))))
  obtain ⟨k, hk, rfl⟩ := isblk_of hn h1
  obtain ⟨t, ht, rfl⟩ := istemp_of h2
  obtain ⟨y, hy, rfl⟩ := isblk_of hn h3
  obtain ⟨z, hz, rfl⟩ := isblk_of hn h4
  refine mm_forget ⟨vp_in_nI (by omega) (by decide), vp_in_nI (by omega) (by decide), vp_in_nI (by omega) (by decide), vp_in_nI (by omega) (by decide), hR _ _ ?_⟩
  refine mm_isBlock (n := n) (by simpa [mz_wr, up_any] using hr) (bz_go (fun h => by rw [h1] at h; cases h) (fun _ => mm_rTemp (bz_go (fun h => by rw [h2] at h; cases h) (fun _ => mm_isBlock (n := n) (by simpa [mz_wr, up_any] using hr) (bz_go (fun h => by rw [h3] at h; cases h) (fun _ => mm_isBlock (n := n) (by simpa [mz_wr, up_any] using hr) (bz_og (fun _ => ?_) (fun h => by rw [h4] at h; cases h))))))))
  refine ⟨vp_in_nI (by omega) (by decide), vp_in_nI (by omega) (by decide), vp_in_nI (by omega) (by decide), vp_in_nI (by omega) (by decide), ?_⟩
  simp only [mz_wrn (show k < 2 ^ 31 by omega)]
  refine hK _ _ ⟨⟨n, PN_end (e := 2) hPN hk (fun a ha => ?_) (fun a j ha hj => ?_) ?_⟩, ?_, Or.inr ⟨?_, ?_⟩⟩
  · simp only [List.mem_cons, List.not_mem_nil, or_false, not_or] at ha
    funext j
    simp [up_any, ha]
  · have h8 : a ≠ 1001 ∧ a ≠ 1000 := by simp at ha; omega
    simp [up_any, hj, h8]
  · refine ⟨by simp [up_any]; rfl, by simp [up_any]; rfl, by omega, ⟨t, by omega, by simp [up_any]⟩, ⟨y, by omega, by simp [up_any]⟩, ⟨z, by omega, by simp [up_any]⟩, fun _ => by simp [up_any], fun _ => by simp [up_any], fun _ => by simp [up_any]⟩
  · refine mf_tr (mf_tr (mf_tr (mf_tr (mf_tr (mf_tr (mf_tr (mf_tr (mf_tr (mf_up (by decide)) (mf_up (by decide))) (mf_up (by decide))) (mf_up (by decide))) (mf_up (by decide))) (mf_up (by decide))) (mf_up (by decide))) (mf_up (by decide))) (mf_up (by decide))) (mf_up (by decide))
  · simp [up_any]
  · simp [up_any]
def memW : List Nat := [21, 66]
theorem PN_congr {σ u : mz_St} {n : Nat} (h : ∀ a, a ∈ [12, 13, 14, 15, 16, 17, 18, 19, 20, 1003, 60, 61, 62, 63, 64, 65, 1016] → u a = σ a) (hP : PN σ n) : PN u n := by
  obtain ⟨hn, hc, hr, hb⟩ := hP
  refine ⟨hn, by rw [h 1003 (by decide)]; exact hc, by rw [h 1016 (by decide)]; exact hr, fun k hk => ?_⟩
  obtain ⟨len, e', h1, h2, h3, h4, h5, h6⟩ := hb k hk
  exact ⟨len, e', h1, by rw [h 16 (by decide)]; exact h2, by rw [h 60 (by decide)]; exact h3, PE_congr (fun a ha => by rw [h a (by revert ha; revert a; decide)]) h4, h5, fun i hi => PO_congr (fun a ha => by rw [h a (by revert ha; revert a; decide)]) (fun j hj => by rw [h 61 (by decide)]) (h6 i hi)⟩
/-- the memory as told is the same -/
def TI (σ : mz_St) : Prop := ∀ i, i < 32 → σ 66 i = σ 21 i
theorem ap_memory (hP : PI σ) (hT : TI σ) (hR : ∀ r u, mw_Ref_memory (K2 r) a0 a1 u → R r u) (hK : ∀ r u, PI u → TI u → mf [21, 66] σ u → K2 r r u) : mw_Mill_memory R a0 a1 σ := by
  have e32 : ∀ a : Int32, ¬ a < 32 ↔ 32 ≤ a := by
    intro a
    rw [Int32.lt_iff_toInt_lt, Int32.le_iff_toInt_le]
    omega
  unfold mw_Mill_memory
  refine mm_isWord (bz_og (fun h => ?_) (fun h => ?_))
  · obtain ⟨i, hi, rfl⟩ := isword_of h
    refine ⟨vp_in_nI hi (by decide), hR _ _ ⟨fun h => absurd h (nI_pos (by omega)), fun _ => ⟨fun _ => ⟨vp_in_nI hi (by decide), ?_⟩, fun h => absurd (nI_lt (b := 32) hi (by decide)) h⟩⟩⟩
    simp only [mz_wrn (show i < 2 ^ 31 by omega)]
    refine hK _ _ ?_ ?_ (mf_tr (mf_up (by decide)) (mf_up (by decide)))
    · obtain ⟨n, hn⟩ := hP
      refine ⟨n, PN_congr (fun a ha => ?_) hn⟩
      rw [mz_up_ne (by rintro rfl; revert ha; decide), mz_up_ne (by rintro rfl; revert ha; decide)]
    · intro j hj
      by_cases hji : j = i
      · subst hji
        simp [up_any]
      · simp [up_any, hji, hT j hj]
  · refine hR _ _ ?_
    unfold mw_Ref_memory
    simp only [isword, Bool.and_eq_false_iff, Bool.not_eq_false', decide_eq_true_eq] at h
    refine ⟨fun _ => hK _ _ hP hT mf_rf, fun h1 => ⟨fun h2 => ?_, fun _ => hK _ _ hP hT mf_rf⟩⟩
    rcases h with h | h
    · exact absurd h h1
    · exact absurd h2 ((e32 a0).mpr h)
end S2

/-! op: class and reference side by side -/
theorem PN_op {σ u : mz_St} {n k0 len0 : Nat} {kd d a b : Int32} (hP : PN σ n) (hk0 : k0 < n) (hl : σ 16 k0 = nI len0) (hl2 : len0 < 12) (hs : such kd d a b = true)
    (hrows : ∀ r, r ∉ [12, 13, 14, 15, 16, 60, 61, 1000, 1001] → u r = σ r)
    (h12 : ∀ j, u 12 j = if j = 12 * k0 + len0 then kd else σ 12 j) (h13 : ∀ j, u 13 j = if j = 12 * k0 + len0 then d else σ 13 j) (h14 : ∀ j, u 14 j = if j = 12 * k0 + len0 then a else σ 14 j) (h15 : ∀ j, u 15 j = if j = 12 * k0 + len0 then b else σ 15 j)
    (h16 : ∀ j, u 16 j = if j = k0 then nI (len0 + 1) else σ 16 j) (h60 : ∀ j, u 60 j = if j = k0 then nI (len0 + 1) else σ 60 j)
    (h61 : ∀ j, u 61 j = if j = 48 * k0 + 4 * len0 + 3 then b else if j = 48 * k0 + 4 * len0 + 2 then a else if j = 48 * k0 + 4 * len0 + 1 then d else if j = 48 * k0 + 4 * len0 then kd else σ 61 j) : PN u n := by
  obtain ⟨hn, hc, hr, hb⟩ := hP
  refine ⟨hn, by rw [hrows 1003 (by decide)]; exact hc, by rw [hrows 1016 (by decide)]; exact hr, fun k hk => ?_⟩
  obtain ⟨len, e, g1, g2, g3, g4, g5, g6⟩ := hb k hk
  have hE : PE u n k e := PE_congr (fun r hr => by rw [hrows r (by revert hr; revert r; decide)]) g4
  have old : ∀ i, i < 12 → (k ≠ k0 ∨ i ≠ len0) → PO σ k i → PO u k i := by
    intro i hi hne hPO
    have hx : 12 * k + i ≠ 12 * k0 + len0 := by omega
    refine PO_congr (fun r hr => ?_) (fun j hj => ?_) hPO
    · simp only [List.mem_cons, List.not_mem_nil, or_false] at hr
      rcases hr with rfl | rfl | rfl | rfl
      · rw [h12, if_neg hx]
      · rw [h13, if_neg hx]
      · rw [h14, if_neg hx]
      · rw [h15, if_neg hx]
    · rw [h61, if_neg (by omega), if_neg (by omega), if_neg (by omega), if_neg (by omega)]
  by_cases hkk : k = k0
  · subst hkk
    have hll : len = len0 := by
      rw [g2, nI_eq (by omega) (by omega)] at hl
      exact hl
    subst hll
    refine ⟨len + 1, e, by omega, by rw [h16, if_pos rfl], by rw [h60, if_pos rfl], hE, fun h => by omega, fun i hi => ?_⟩
    by_cases hil : i = len
    · subst hil
      unfold PO
      rw [h12, h13, h14, h15, if_pos rfl, if_pos rfl, if_pos rfl, if_pos rfl, h61, h61, h61, h61]
      refine ⟨hs, ?_, ?_, ?_, ?_⟩
      · rw [if_neg (by omega), if_neg (by omega), if_neg (by omega), if_pos rfl]
      · rw [if_neg (by omega), if_neg (by omega), if_pos rfl]
      · rw [if_neg (by omega), if_pos rfl]
      · rw [if_pos rfl]
    · exact old i (by omega) (Or.inr hil) (g6 i (by omega))
  · exact ⟨len, e, g1, by rw [h16, if_neg hkk]; exact g2, by rw [h60, if_neg hkk]; exact g3, hE, g5, fun i hi => old i (by omega) (Or.inl hkk) (g6 i hi)⟩
theorem ix12 {k len : Nat} : nI k * 12 + nI len = nI (12 * k + len) := by
  rw [show (12 : Int32) = nI 12 from rfl, pk_mul, nI_add, Nat.mul_comm]
theorem ix48 {k len : Nat} : (48 : Int32) * nI k + (4 : Int32) * nI len = nI (48 * k + 4 * len) := by
  rw [show (48 : Int32) = nI 48 from rfl, show (4 : Int32) = nI 4 from rfl, pk_mul, pk_mul, nI_add]
theorem nI_2 (a : Nat) : nI a + 2 = nI (a + 2) := by rw [show (2 : Int32) = nI 2 from rfl, nI_add]
theorem nI_3 (a : Nat) : nI a + 3 = nI (a + 3) := by rw [show (3 : Int32) = nI 3 from rfl, nI_add]
section S3
variable {K : Int32 → mz_St → Prop} {K2 : Int32 → Int32 → mz_St → Prop} {R : Int32 → mz_St → Prop} {Kv : mz_St → Prop} {a0 a1 a2 a3 a4 : Int32} {σ : mz_St} {n : Nat}
theorem ap_op (hP : PI σ) (hR : ∀ r u, mw_Ref_op (K2 r) a0 a1 a2 a3 a4 u → R r u) (hK : ∀ r u, Ch σ u → K2 r r u) : mw_Mill_op R a0 a1 a2 a3 a4 σ := by
  obtain ⟨n, hPN⟩ := id hP
  obtain ⟨hn, hc, hr, hb⟩ := id hPN
  have same := hK 0 σ (Ch_same hP)
  unfold mw_Mill_op
  refine mm_hasBlock hc (bz_go (fun h => ?_) (fun h1 => ?_))
  · exact hR _ _ (mm_isBlock hr (bz_go (fun _ => same) (fun h1 => by rw [h] at h1; cases h1)))
  obtain ⟨k, hk, rfl⟩ := isblk_of hn h1
  obtain ⟨len, e, g1, g2, g3, g4, g5, g6⟩ := hb k (by omega)
  have hk31 : k < 2 ^ 31 := by omega
  refine ⟨vp_in_nI (by omega) (by decide), ?_⟩
  rw [mz_rdn hk31, g2]
  have hin : vp_in (nI k) 10 := vp_in_nI (by omega) (by decide)
  refine ⟨fun h12 => ?_, fun h12 => mm_isSuch (bz_og (fun hs => ?_) (fun hs => ?_))⟩
  · refine hR _ _ (mm_isBlock hr (bz_go (fun h => by rw [h1] at h; cases h) (fun _ => ⟨hin, ?_⟩)))
    rw [mz_rdn hk31, g3]
    exact ⟨fun _ => same, fun h => absurd h12 h⟩
  · have hl12 : len < 12 := by
      rcases Nat.lt_or_ge len 12 with h | h
      · exact h
      · exact absurd (by rw [show len = 12 by omega]; rfl) h12
    refine mm_forget ?_
    unfold mw_Program_addOperation
    have e16 : mz_rd (mz_up (mz_up σ 1000 0 0) 1001 0 (-1)) 16 (nI k) = nI len := by
      rw [mz_rdn hk31]
      simpa [up_any] using g2
    rw [e16, ix12]
    have hin2 : vp_in (nI (12 * k + len)) 120 := vp_in_nI (by omega) (by decide)
    refine ⟨hin, hin2, hin2, hin2, hin2, hin, hin, hR _ _ ?_⟩
    simp only [mz_wrn (show 12 * k + len < 2 ^ 31 by omega), mz_wrn hk31, mz_rdn hk31]
    refine mm_isBlock (n := n) (by simpa [up_any] using hr) (bz_go (fun h => by rw [h1] at h; cases h) (fun _ => ⟨hin, ?_⟩))
    have e60 : mz_rd (mz_up (mz_up (mz_up (mz_up (mz_up (mz_up (mz_up σ 1000 0 0) 1001 0 (-1)) 12 (12 * k + len) a1) 13 (12 * k + len) a2) 14 (12 * k + len) a3) 15 (12 * k + len) a4) 16 k (mz_up (mz_up (mz_up (mz_up (mz_up (mz_up σ 1000 0 0) 1001 0 (-1)) 12 (12 * k + len) a1) 13 (12 * k + len) a2) 14 (12 * k + len) a3) 15 (12 * k + len) a4 16 k + 1)) 60 (nI k) = nI len := by
      rw [mz_rdn hk31]
      simpa [up_any] using g3
    rw [e60]
    refine ⟨fun h => absurd h h12, fun _ => mm_isOp (bz_og (fun _ => ?_) (fun h => by rw [hs] at h; cases h))⟩
    rw [e60, ix48, nI_1, nI_2, nI_3]
    refine ⟨hin, vp_in_nI (by omega) (by decide), vp_in_nI (by omega) (by decide), vp_in_nI (by omega) (by decide), vp_in_nI (by omega) (by decide), hin, hin, ?_⟩
    simp only [mz_wrn (show 48 * k + 4 * len < 2 ^ 31 by omega), mz_wrn (show 48 * k + 4 * len + 1 < 2 ^ 31 by omega), mz_wrn (show 48 * k + 4 * len + 2 < 2 ^ 31 by omega), mz_wrn (show 48 * k + 4 * len + 3 < 2 ^ 31 by omega), mz_wrn hk31, mz_rdn hk31]
    refine hK _ _ ⟨⟨n, PN_op (kd := a1) (d := a2) (a := a3) (b := a4) hPN hk g2 hl12 hs (fun r hr => ?_) (fun j => ?_) (fun j => ?_) (fun j => ?_) (fun j => ?_) (fun j => ?_) (fun j => ?_) (fun j => ?_)⟩, ?_, Or.inr ⟨?_, ?_⟩⟩
    · simp only [List.mem_cons, List.not_mem_nil, or_false, not_or] at hr
      funext j
      simp [up_any, hr]
    · simp [up_any]
    · simp [up_any]
    · simp [up_any]
    · simp [up_any]
    · simp [up_any, g2, nI_1]
    · simp [up_any, g3, nI_1]
    · simp [up_any]
    · intro r hr
      have hr : r ∉ PW := hr
      simp only [PW, List.mem_cons, List.not_mem_nil, or_false, not_or] at hr
      funext j
      simp [up_any, hr]
    · simp [up_any]
    · simp [up_any]
  · refine hR _ _ (mm_isBlock hr (bz_go (fun h => by rw [h1] at h; cases h) (fun _ => ⟨hin, ?_⟩)))
    rw [mz_rdn hk31, g3]
    exact ⟨fun h => absurd h h12, fun _ => mm_isOp (bz_og (fun h => by rw [hs] at h; cases h) (fun _ => same))⟩
end S3

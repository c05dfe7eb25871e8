/-! what a run told; the law's loop over the calls' own rows -/
def RI (σ : mz_St) : Prop := σ 1018 0 = σ 1013 0 ∧ σ 1019 0 = σ 1014 0 ∧ σ 1020 0 = σ 1015 0 ∧ (σ 1017 0 = 0 ∨ σ 1017 0 = 1) ∧ (σ 1017 0 = 0 → ∀ i, i < 32 → σ 58 i = 0) ∧ (σ 1017 0 = 1 → ∀ i, i < 32 → σ 67 i = σ 58 i) ∧ ∃ c, c ≤ 6000 ∧ σ 1015 0 = nI c ∧ ∀ j, j < 600 → j < 3 * c → σ 69 j = σ 59 j
def RW : List Nat := [1013, 1014, 1015, 1017, 1018, 1019, 1020, 58, 59, 67, 69]
theorem RI_congr {σ u : mz_St} (h : ∀ a, a ∈ RW → u a = σ a) (hR : RI σ) : RI u := by
  unfold RI at *
  rw [h 1013 (by decide), h 1014 (by decide), h 1015 (by decide), h 1017 (by decide), h 1018 (by decide), h 1019 (by decide), h 1020 (by decide), h 58 (by decide), h 59 (by decide), h 67 (by decide), h 69 (by decide)]
  exact hR
theorem RI_mf {W : List Nat} {σ u : mz_St} (h : mf W σ u) (hW : ∀ a, a ∈ RW → a ∉ W) (hR : RI σ) : RI u := RI_congr (fun a ha => h a (hW a ha)) hR
theorem TI_mf {W : List Nat} {σ u : mz_St} (h : mf W σ u) (h1 : 21 ∉ W) (h2 : 66 ∉ W) (hT : TI σ) : TI u := by
  unfold TI at *
  rw [h 21 h1, h 66 h2]
  exact hT
section S4
variable {K : Int32 → mz_St → Prop} {K2 : Int32 → Int32 → mz_St → Prop} {R : Int32 → mz_St → Prop} {Kv : mz_St → Prop} {a0 a1 a2 a3 a4 : Int32} {σ : mz_St} {n : Nat}
theorem ap_value (hI : RI σ) (hR : ∀ r u, mw_Ref_value (K2 r) u → R r u) (hK : ∀ r, K2 r r σ) : mw_Mill_value R σ := by
  refine hR _ _ ?_
  unfold mw_Ref_value
  rw [hI.1]
  exact hK _
theorem ap_entered (hI : RI σ) (hR : ∀ r u, mw_Ref_entered (K2 r) u → R r u) (hK : ∀ r, K2 r r σ) : mw_Mill_entered R σ := by
  refine hR _ _ ?_
  unfold mw_Ref_entered
  rw [hI.2.1]
  exact hK _
theorem ap_calls (hI : RI σ) (hR : ∀ r u, mw_Ref_calls (K2 r) u → R r u) (hK : ∀ r, K2 r r σ) : mw_Mill_calls R σ := by
  refine hR _ _ ?_
  unfold mw_Ref_calls
  rw [hI.2.2.1]
  exact hK _
theorem ap_word (hI : RI σ) (hR : ∀ r u, mw_Ref_word (K2 r) a0 u → R r u) (hK : ∀ r, K2 r r σ) : mw_Mill_word R a0 σ := by
  obtain ⟨-, -, -, h4, h5, h6, -⟩ := hI
  unfold mw_Mill_word
  refine mm_isWord (bz_go (fun h => ?_) (fun h => ?_))
  · refine hR _ _ ⟨fun _ => hK _, fun _ => mm_rWord (bz_go (fun _ => hK _) (fun h2 => by rw [h] at h2; cases h2))⟩
  · obtain ⟨i, hi, rfl⟩ := isword_of h
    refine ⟨vp_in_nI hi (by decide), hR _ _ ?_⟩
    rw [mz_rdn (by omega)]
    refine ⟨fun h0 => ?_, fun h0 => mm_rWord (bz_go (fun h2 => by rw [h] at h2; cases h2) (fun _ => ⟨vp_in_nI hi (by decide), ?_⟩))⟩
    · rw [h5 h0 i hi]
      exact hK _
    · rw [mz_rdn (by omega), h6 (h4.resolve_left h0) i hi]
      exact hK _
theorem ap_call (hI : RI σ) (hR : ∀ r u, mw_Ref_call2 (K2 r) a0 a1 u → R r u) (hK : ∀ r, K2 r r σ) : mw_Mill_call R a0 a1 σ := by
  obtain ⟨-, -, h3, -, -, -, c, hc, h7, h8⟩ := hI
  unfold mw_Mill_call mw_Machine_told
  intro P24 hP24 P23 hP23
  have h23 : R 0 σ → P23 σ := fun h => hP23 _ (hP24 _ _ ⟨fun _ => h, fun h => absurd rfl h⟩)
  rw [h7]
  refine ⟨fun h => h23 (hR _ _ ⟨fun _ => hK _, fun h2 => absurd h h2⟩), fun g1 => ⟨fun h => h23 (hR _ _ ⟨fun h2 => absurd h2 g1, fun _ => ⟨fun _ => hK _, fun _ => ⟨fun _ => hK _, fun h2 => absurd h h2⟩⟩⟩), fun g2 => ⟨fun h => h23 (hR _ _ ⟨fun h2 => absurd h2 g1, fun _ => ⟨fun _ => hK _, fun h2 => absurd (by rw [h3, h7]; exact h) h2⟩⟩), fun g3 => ?_⟩⟩⟩
  refine hP24 _ _ ⟨fun h => absurd h (by decide), fun _ => ⟨fun h => ?_, fun g4 => ⟨fun h => ?_, fun g5 => ?_⟩⟩⟩
  · refine hR _ _ ⟨fun h2 => absurd h2 g1, fun _ => ⟨fun h2 => absurd (by rw [h3, h7] at h2; exact h2) g3, fun _ => ⟨fun h2 => absurd h2 g2, fun _ => ⟨fun _ => hK _, fun h2 => absurd h h2⟩⟩⟩⟩
  · refine hR _ _ ⟨fun h2 => absurd h2 g1, fun _ => ⟨fun h2 => absurd (by rw [h3, h7] at h2; exact h2) g3, fun _ => ⟨fun h2 => absurd h2 g2, fun _ => ⟨fun _ => hK _, fun _ => ⟨fun _ => hK _, fun h2 => absurd h h2⟩⟩⟩⟩⟩
  · rcases pk_ix a0 (n := 200) (by decide) with h | h | ⟨k, hk, rfl⟩
    · exact absurd h g1
    · exact absurd h g2
    rcases pk_ix a1 (n := 3) (by decide) with h | h | ⟨j, hj, rfl⟩
    · exact absurd h g4
    · exact absurd h g5
    have hkc : k < c := by
      rcases Nat.lt_or_ge k c with h | h
      · exact h
      · exact absurd (nI_le h (by omega)) g3
    have e1 : nI k * 3 + nI j = nI (3 * k + j) := by rw [show (3 : Int32) = nI 3 from rfl, pk_mul, nI_add, Nat.mul_comm]
    have e2 : (3 : Int32) * nI k + nI j = nI (3 * k + j) := by rw [show (3 : Int32) = nI 3 from rfl, pk_mul, nI_add]
    rw [e1, mz_rdn (by omega)]
    refine ⟨vp_in_nI (by omega) (by decide), hR _ _ ⟨fun h2 => absurd h2 g1, fun _ => ⟨fun h2 => absurd (by rw [h3, h7] at h2; exact h2) g3, fun _ => ⟨fun h2 => absurd h2 g2, fun _ => ⟨fun h2 => absurd h2 g4, fun _ => ⟨fun h2 => absurd h2 g5, fun _ => ?_⟩⟩⟩⟩⟩⟩
    rw [e2, mz_rdn (by omega), h8 (3 * k + j) (by omega) (by omega)]
    exact ⟨vp_in_nI (by omega) (by decide), hK _⟩
end S4
/-- the whole invariant; LM says what was looked at and made -/
def Inv (LM : mz_St → Prop) (σ : mz_St) : Prop := PI σ ∧ TI σ ∧ RI σ ∧ LM σ
/-- a look: an answer of the class is the reference's, and what holds stays -/
def Lk1 (LM : mz_St → Prop) (f g : (Int32 → mz_St → Prop) → Int32 → mz_St → Prop) : Prop := ∀ (σ : mz_St) (a0 : Int32) (K2 : Int32 → Int32 → mz_St → Prop) (R : Int32 → mz_St → Prop), Inv LM σ → (∀ r u, g (K2 r) a0 u → R r u) → (∀ r u, Inv LM u → K2 r r u) → f R a0 σ
def Lk2 (LM : mz_St → Prop) (f g : (Int32 → mz_St → Prop) → Int32 → Int32 → mz_St → Prop) : Prop := ∀ (σ : mz_St) (a0 a1 : Int32) (K2 : Int32 → Int32 → mz_St → Prop) (R : Int32 → mz_St → Prop), Inv LM σ → (∀ r u, g (K2 r) a0 a1 u → R r u) → (∀ r u, Inv LM u → K2 r r u) → f R a0 a1 σ
def Lk3 (LM : mz_St → Prop) (f g : (Int32 → mz_St → Prop) → Int32 → Int32 → Int32 → mz_St → Prop) : Prop := ∀ (σ : mz_St) (a0 a1 a2 : Int32) (K2 : Int32 → Int32 → mz_St → Prop) (R : Int32 → mz_St → Prop), Inv LM σ → (∀ r u, g (K2 r) a0 a1 a2 u → R r u) → (∀ r u, Inv LM u → K2 r r u) → f R a0 a1 a2 σ
theorem Ch_inv {LM : mz_St → Prop} (h2 : ∀ σ u, LM σ → mf PW σ u → PI u → u 1000 0 = 0 → u 1001 0 = -1 → LM u) {σ u : mz_St} (hI : Inv LM σ) (h : Ch σ u) : Inv LM u := by
  obtain ⟨hp, hm, hc⟩ := h
  refine ⟨hp, TI_mf hm (by decide) (by decide) hI.2.1, RI_mf hm (by decide) hI.2.2.1, ?_⟩
  rcases hc with rfl | ⟨c1, c2⟩
  · exact hI.2.2.2
  · exact h2 _ u hI.2.2.2 hm hp c1 c2
set_option maxHeartbeats 4000000 in
theorem law_true (LM : mz_St → Prop) (h1 : ∀ σ u, LM σ → mf [21, 66] σ u → LM u) (h2 : ∀ σ u, LM σ → mf PW σ u → PI u → u 1000 0 = 0 → u 1001 0 = -1 → LM u) (hrun : Lk3 LM mw_Mill_run mw_Ref_run) (horder : Lk1 LM mw_Mill_order mw_Ref_order) (hnearest : Lk1 LM mw_Mill_nearest mw_Ref_nearest) (hfrontier : Lk2 LM mw_Mill_frontier mw_Ref_frontier) (hlive : Lk2 LM mw_Mill_live mw_Ref_live) (hphi : Lk2 LM mw_Mill_phi mw_Ref_phi) (hdepth : Lk1 LM mw_Mill_depth mw_Ref_depth)
    (xs : Nat → Int32) (L : Nat) (hL : L ≤ 3072) (h0 : Inv LM mz_s0) : mw_Law_law xs L mz_s0 := by
  unfold mw_Law_law
  refine lf1 (fun m x u => ∃ i, x = nI i ∧ i ≤ L + 6 ∧ m = L + 6 - i ∧ Inv LM u) ?_ (L + 6) 0 mz_s0 ⟨0, rfl, by omega, by omega, h0⟩
  rintro m P x u ⟨i, rfl, hi, rfl, hI⟩ hrec
  unfold mw_Law_law_18
  have eL : ∀ j, j < 2 ^ 31 → (Int32.ofNat L - 6 < nI j ↔ L < j + 6) := by
    intro j hj
    rw [Int32.lt_iff_toInt_lt, nI_toInt hj, show Int32.ofNat L - 6 = nI L - nI 6 from rfl, pk_sub_toInt (by omega) (by omega)]
    omega
  refine ⟨fun _ => rfl, fun hc => ?_⟩
  have hiL : i + 6 ≤ L := by
    rcases Nat.lt_or_ge L (i + 6) with h | h
    · exact absurd ((eL i (by omega)).mpr h) hc
    · exact h
  refine ⟨vp_in_nI (by omega) (by omega), fun P654 hP654 => ?_⟩
  have fin : ∀ t, Inv LM t → P654 t := by
    intro t ht
    apply hP654
    unfold mw_Law_law_654
    rw [show nI i + 6 = nI (i + 6) by rw [show (6 : Int32) = nI 6 from rfl, nI_add]]
    exact hrec (L + 6 - (i + 6)) _ t (by omega) ⟨i + 6, rfl, by omega, rfl, ht⟩
  have ok : ∀ (r : Int32) (t : mz_St), Inv LM t → ((r = r → P654 t) ∧ (¬ r = r → (0 : Int32) = 1)) := fun r t ht => ⟨fun _ => fin t ht, fun h => absurd rfl h⟩
  have v : ∀ j, j < 6 → vp_in (nI i + nI j) L := fun j hj => by rw [nI_add]; exact vp_in_nI (by omega) (by omega)
  have v1 : vp_in (nI i + 1) L := v 1 (by omega)
  have v2 : vp_in (nI i + 2) L := v 2 (by omega)
  have v3 : vp_in (nI i + 3) L := v 3 (by omega)
  have v4 : vp_in (nI i + 4) L := v 4 (by omega)
  have v5 : vp_in (nI i + 5) L := v 5 (by omega)
  refine ⟨fun _ => ap_block (K2 := fun r1 r2 u2 => (r1 = r2 → P654 u2) ∧ (¬ r1 = r2 → (0 : Int32) = 1)) hI.1 (fun r u h => h) (fun r u h => ok r u (Ch_inv h2 hI h)), fun _ => ?_⟩
  refine ⟨fun _ => ⟨v1, v2, v3, v4, v5, ap_op (K2 := fun r1 r2 u2 => (r1 = r2 → P654 u2) ∧ (¬ r1 = r2 → (0 : Int32) = 1)) hI.1 (fun r u h => ⟨v1, v2, v3, v4, v5, h⟩) (fun r u h => ok r u (Ch_inv h2 hI h))⟩, fun _ => ?_⟩
  refine ⟨fun _ => ⟨v1, v2, ap_jump (K2 := fun r1 r2 u2 => (r1 = r2 → P654 u2) ∧ (¬ r1 = r2 → (0 : Int32) = 1)) hI.1 (fun r u h => ⟨v1, v2, h⟩) (fun r u h => ok r u (Ch_inv h2 hI h))⟩, fun _ => ?_⟩
  refine ⟨fun _ => ⟨v1, v2, v3, v4, ap_branch (K2 := fun r1 r2 u2 => (r1 = r2 → P654 u2) ∧ (¬ r1 = r2 → (0 : Int32) = 1)) hI.1 (fun r u h => ⟨v1, v2, v3, v4, h⟩) (fun r u h => ok r u (Ch_inv h2 hI h))⟩, fun _ => ?_⟩
  refine ⟨fun _ => ⟨v1, v2, ap_ret (K2 := fun r1 r2 u2 => (r1 = r2 → P654 u2) ∧ (¬ r1 = r2 → (0 : Int32) = 1)) hI.1 (fun r u h => ⟨v1, v2, h⟩) (fun r u h => ok r u (Ch_inv h2 hI h))⟩, fun _ => ?_⟩
  refine ⟨fun _ => ⟨v1, v2, ap_memory (K2 := fun r1 r2 u2 => (r1 = r2 → P654 u2) ∧ (¬ r1 = r2 → (0 : Int32) = 1)) hI.1 hI.2.1 (fun r u h => ⟨v1, v2, h⟩) (fun r u hp ht hm => ok r u ⟨hp, ht, RI_mf hm (by decide) hI.2.2.1, h1 _ _ hI.2.2.2 hm⟩)⟩, fun _ => ?_⟩
  refine ⟨fun _ => ⟨v1, v2, v3, hrun _ _ _ _ (fun r1 r2 u2 => (r1 = r2 → P654 u2) ∧ (¬ r1 = r2 → (0 : Int32) = 1)) _ hI (fun r u h => ⟨v1, v2, v3, h⟩) ok⟩, fun _ => ?_⟩
  refine ⟨fun _ => ap_value (K2 := fun r1 r2 u2 => (r1 = r2 → P654 u2) ∧ (¬ r1 = r2 → (0 : Int32) = 1)) hI.2.2.1 (fun r u h => h) (fun r => ok r _ hI), fun _ => ?_⟩
  refine ⟨fun _ => ap_entered (K2 := fun r1 r2 u2 => (r1 = r2 → P654 u2) ∧ (¬ r1 = r2 → (0 : Int32) = 1)) hI.2.2.1 (fun r u h => h) (fun r => ok r _ hI), fun _ => ?_⟩
  refine ⟨fun _ => ⟨v1, ap_word (K2 := fun r1 r2 u2 => (r1 = r2 → P654 u2) ∧ (¬ r1 = r2 → (0 : Int32) = 1)) hI.2.2.1 (fun r u h => ⟨v1, h⟩) (fun r => ok r _ hI)⟩, fun _ => ?_⟩
  refine ⟨fun _ => ap_calls (K2 := fun r1 r2 u2 => (r1 = r2 → P654 u2) ∧ (¬ r1 = r2 → (0 : Int32) = 1)) hI.2.2.1 (fun r u h => h) (fun r => ok r _ hI), fun _ => ?_⟩
  refine ⟨fun _ => ⟨v1, v2, ap_call (K2 := fun r1 r2 u2 => (r1 = r2 → P654 u2) ∧ (¬ r1 = r2 → (0 : Int32) = 1)) hI.2.2.1 (fun r u h => ⟨v1, v2, h⟩) (fun r => ok r _ hI)⟩, fun _ => ?_⟩
  refine ⟨fun _ => ⟨v1, horder _ _ (fun r1 r2 u2 => (r1 = r2 → P654 u2) ∧ (¬ r1 = r2 → (0 : Int32) = 1)) _ hI (fun r u h => ⟨v1, h⟩) ok⟩, fun _ => ?_⟩
  refine ⟨fun _ => ⟨v1, hnearest _ _ (fun r1 r2 u2 => (r1 = r2 → P654 u2) ∧ (¬ r1 = r2 → (0 : Int32) = 1)) _ hI (fun r u h => ⟨v1, h⟩) ok⟩, fun _ => ?_⟩
  refine ⟨fun _ => ⟨v1, v2, hfrontier _ _ _ (fun r1 r2 u2 => (r1 = r2 → P654 u2) ∧ (¬ r1 = r2 → (0 : Int32) = 1)) _ hI (fun r u h => ⟨v1, v2, h⟩) ok⟩, fun _ => ?_⟩
  refine ⟨fun _ => ⟨v1, v2, hlive _ _ _ (fun r1 r2 u2 => (r1 = r2 → P654 u2) ∧ (¬ r1 = r2 → (0 : Int32) = 1)) _ hI (fun r u h => ⟨v1, v2, h⟩) ok⟩, fun _ => ?_⟩
  refine ⟨fun _ => ⟨v1, v2, hphi _ _ _ (fun r1 r2 u2 => (r1 = r2 → P654 u2) ∧ (¬ r1 = r2 → (0 : Int32) = 1)) _ hI (fun r u h => ⟨v1, v2, h⟩) ok⟩, fun _ => ?_⟩
  exact ⟨fun _ => ⟨v1, hdepth _ _ (fun r1 r2 u2 => (r1 = r2 → P654 u2) ∧ (¬ r1 = r2 → (0 : Int32) = 1)) _ hI (fun r u h => ⟨v1, h⟩) ok⟩, fun _ => fin _ hI⟩

/-! what is live and where phis stand: the reference -/
theorem such_pos {kd d a b : Int32} (h : such kd d a b = true) (hk : kd ≠ 0) : ¬ kd ≤ 0 := by
  intro hle
  have key : ∀ x : Int32, x ≤ 0 → x ≠ 0 → x ≠ 1 ∧ x ≠ 16 ∧ x ≠ 17 ∧ x ≠ 18 ∧ x ≤ 1 := by
    intro x h1 h2
    have q1 : x.toInt ≤ 0 := by rw [Int32.le_iff_toInt_le] at h1; exact h1
    refine ⟨?_, ?_, ?_, ?_, ?_⟩
    · rintro rfl; revert q1; decide
    · rintro rfl; revert q1; decide
    · rintro rfl; revert q1; decide
    · rintro rfl; revert q1; decide
    · rw [Int32.le_iff_toInt_le]
      have : (1 : Int32).toInt = 1 := by decide
      omega
  obtain ⟨k1, k2, k3, k4, k5⟩ := key kd hle hk
  unfold such at h
  rw [if_neg hk, if_neg (fun z => z.elim k1 k2), if_neg k3, if_neg k4] at h
  simp [k5] at h
theorem lt16 (a : Int32) : a < 16 ↔ ¬ 16 ≤ a := by
  rw [Int32.lt_iff_toInt_lt, Int32.le_iff_toInt_le]
  omega
theorem mm_uses {K : Int32 → mz_St → Prop} {σ : mz_St} {kd a b t : Int32} (h : K (bz (tr ((¬ kd ≤ 0 ∧ a = t) ∨ (tkB kd ∧ b = t)))) σ) : mw_Ref_uses K kd a b t σ := by
  unfold mw_Ref_uses
  intro P14 hP14 P13 hP13
  have second : ∀ f : Bool, (f = true ↔ (¬ kd ≤ 0 ∧ a = t)) → P14 (bz f) σ := by
    intro f hf
    apply hP14
    unfold mw_Ref_uses_14
    intro P43 hP43 P42 hP42 P33 hP33 P27 hP27
    have fin : ∀ g : Bool, (g = true ↔ (tkB kd ∧ b = t)) → P43 (bz g) σ := by
      intro g hg
      apply hP43
      unfold mw_Ref_uses_43
      intro P55 hP55
      have yes : (f = true ∨ g = true) → P55 σ := fun z => hP55 _ (by
        unfold mw_Ref_uses_55
        rw [tr_t.mpr (z.imp hf.mp hg.mp)] at h
        exact h)
      refine bz_og (fun e => yes (Or.inl e)) (fun e => bz_go (fun e2 => ?_) (fun e2 => yes (Or.inr e2)))
      rw [tr_f.mpr (fun z => z.elim (fun z => by rw [hf.mpr z] at e; cases e) (fun z => by rw [hg.mpr z] at e2; cases e2))] at h
      exact h
    have h42 : ¬ (tkB kd ∧ b = t) → P42 σ := fun z => hP42 _ (fin false (by simp [z]))
    have h33 : tkB kd → P33 σ := by
      intro z
      apply hP33
      unfold mw_Ref_uses_33
      exact ⟨fun e => h42 (fun q => e q.2), fun e => fin true (by simp [z, e])⟩
    have h27 : ¬ (¬ kd ≤ 1 ∧ ¬ 16 ≤ kd) → P27 σ := by
      intro z
      apply hP27
      unfold mw_Ref_uses_27
      exact ⟨fun e => h42 (fun q => q.1.elim e z), fun e => h33 (Or.inl e)⟩
    refine ⟨fun e => h27 (fun z => z.1 e), fun e => ⟨fun e2 => h33 (Or.inr ⟨e, (lt16 kd).mp e2⟩), fun e2 => h27 (fun z => e2 ((lt16 kd).mpr z.2))⟩⟩
  have h13 : ¬ (¬ kd ≤ 0 ∧ a = t) → P13 σ := fun z => hP13 _ (second false (by simp only [Bool.false_eq_true, false_iff]; exact z))
  exact ⟨fun e => h13 (fun z => z.1 e), fun e => ⟨fun e2 => h13 (fun z => e2 z.2), fun e2 => second true (by simp only [true_iff]; exact ⟨e, e2⟩)⟩⟩
noncomputable def fateV (σ : mz_St) (k t : Nat) : Nat := if tr (RdF σ k 0 t) then 1 else if tr (WrF σ k 0 t) then 2 else 0
theorem mm_fate {K : Int32 → mz_St → Prop} {σ : mz_St} {n k t : Nat} (hP : PN σ n) (hk : k < n) (ht : t < 10) (h : K (nI (fateV σ k t)) σ) : mw_Ref_fate K (nI k) (nI t) σ := by
  have hn := hP.1
  obtain ⟨hl, hl2, hl3, hop⟩ := PN_len hP (show k < 10 by omega)
  obtain ⟨len, e0, -, -, -, ⟨q1, q2, q3, -, -, -, q7, -, -⟩, -⟩ := hP.2.2.2 k (by omega)
  have hin : vp_in (nI k) 10 := vp_in_nI (by omega) (by decide)
  unfold mw_Ref_fate
  refine lf1 (fun m x u => ∃ i, x = nI i ∧ i ≤ lenC σ k ∧ m = lenC σ k - i ∧ u = σ ∧ ∀ j, j < i → ¬ uOp σ k j t ∧ ¬ mOp σ k j t) ?_ (lenC σ k) 0 σ ⟨0, rfl, by omega, rfl, rfl, fun j hj => absurd hj (by omega)⟩
  rintro m P2 x u ⟨i, rfl, hi, rfl, rfl, hno⟩ hrec
  unfold mw_Ref_fate_2
  rw [mz_rdn (show k < 2 ^ 31 by omega), mz_rdn (show k < 2 ^ 31 by omega), mz_rdn (show k < 2 ^ 31 by omega), hl2, q2]
  refine ⟨hin, pk_le (lenC u k) i (fun hle => ⟨hin, ?_⟩) (fun hlt => ?_)⟩
  · have hnw : ¬ WrF u k 0 t := fun ⟨q, _, hq, hm⟩ => (hno q (by omega)).2 hm
    have hrd : RdF u k 0 t ↔ uEnd u k t := by
      constructor
      · rintro (⟨j, _, hj, hu, _⟩ | z)
        · exact absurd hu (hno j (by omega)).1
        · exact z.1
      · intro z
        exact Or.inr ⟨z, fun q _ hq hm => (hno q (by omega)).2 hm⟩
    have no : ¬ uEnd u k t → K 0 u := by
      intro z
      unfold fateV at h
      rw [tr_f.mpr (fun q => z (hrd.mp q)), tr_f.mpr hnw] at h
      exact h
    rw [n1 q3]
    refine ⟨fun e1 => no (fun z => z.1 (by rw [q1, e1]; rfl)), fun e1 => ⟨hin, fun e2 => no (fun z => e2 (by rw [q7 e1]; exact z.2)), fun e2 => ?_⟩⟩
    unfold fateV at h
    rw [tr_t.mpr (hrd.mpr ⟨by rw [q1]; exact fun z => e1 ((n1 q3).mp z), by rw [← q7 e1]; exact e2⟩)] at h
    exact h
  · obtain ⟨hs, p1, p2, p3, p4⟩ := hop i (by omega)
    rw [ix48, nI_1, nI_2, nI_3]
    rw [mz_rdn (show 48 * k + 4 * i < 2 ^ 31 by omega), mz_rdn (show 48 * k + 4 * i + 2 < 2 ^ 31 by omega), mz_rdn (show 48 * k + 4 * i + 3 < 2 ^ 31 by omega), p1, p3, p4]
    refine ⟨vp_in_nI (by omega) (by decide), vp_in_nI (by omega) (by decide), vp_in_nI (by omega) (by decide), mm_uses ?_⟩
    have hU : ((¬ u 12 (12 * k + i) ≤ 0 ∧ u 14 (12 * k + i) = nI t) ∨ (tkB (u 12 (12 * k + i)) ∧ u 15 (12 * k + i) = nI t)) ↔ uOp u k i t := by
      unfold uOp
      refine or_congr_left ?_
      refine and_congr_left fun _ => ⟨fun z e => z (by rw [e]; decide), fun z => such_pos hs z⟩
    have go : ¬ uOp u k i t → ¬ mOp u k i t → ∀ P83 : mz_St → Prop, (∀ s, mw_Ref_fate_83 P2 (nI i) s → P83 s) → P83 u := by
      intro z1 z2 P83 hP83
      apply hP83
      unfold mw_Ref_fate_83
      rw [nI_k1]
      refine hrec (lenC u k - (i + 1)) _ u (by omega) ⟨i + 1, rfl, by omega, rfl, rfl, fun j hj => ?_⟩
      by_cases hji : j = i
      · subst hji; exact ⟨z1, z2⟩
      · exact hno j (by omega)
    refine bz_go (fun e => ⟨vp_in_nI (by omega) (by decide), fun P83 hP83 => ?_⟩) (fun e => ?_)
    · rw [tr_f, hU] at e
      rw [mz_rdn (show 48 * k + 4 * i < 2 ^ 31 by omega), mz_rdn (show 48 * k + 4 * i + 1 < 2 ^ 31 by omega), p1, p2]
      refine ⟨fun e1 => go e (fun z => z.1 e1) P83 hP83, fun e1 => ⟨vp_in_nI (by omega) (by decide), fun e2 => go e (fun z => e2 z.2) P83 hP83, fun e2 => ?_⟩⟩
      have hm : mOp u k i t := ⟨e1, e2⟩
      unfold fateV at h
      rw [tr_f.mpr ?_, tr_t.mpr ⟨i, by omega, by omega, hm⟩] at h
      · exact h
      · rintro (⟨j, _, hj, hu, hq⟩ | z)
        · rcases Nat.lt_trichotomy j i with hji | hji | hji
          · exact (hno j hji).1 hu
          · subst hji; exact e hu
          · exact hq i (by omega) hji hm
        · exact z.2 i (by omega) (by omega) hm
    · rw [tr_t, hU] at e
      unfold fateV at h
      have hR : RdF u k 0 t := Or.inl ⟨i, by omega, by omega, e, fun q _ hq => (hno q hq).2⟩
      rw [tr_t.mpr hR] at h
      exact h
theorem mm_isSet {K : Int32 → mz_St → Prop} {σ : mz_St} {n k t : Nat} (hP : PN σ n) (hk : k < n) (h : K (bz (tr (WrF σ k 0 t))) σ) : mw_Ref_isSet K (nI k) (nI t) σ := by
  have hn := hP.1
  obtain ⟨hl, hl2, hl3, hop⟩ := PN_len hP (show k < 10 by omega)
  have hin : vp_in (nI k) 10 := vp_in_nI (by omega) (by decide)
  unfold mw_Ref_isSet
  refine lf2 (fun m f x u => ∃ i, x = nI i ∧ i ≤ lenC σ k ∧ m = lenC σ k - i ∧ u = σ ∧ f = bz (tr (∃ q, q < i ∧ mOp σ k q t))) ?_ (lenC σ k) 0 0 σ ⟨0, rfl, by omega, rfl, rfl, by rw [tr_f.mpr (fun ⟨q, hq, _⟩ => absurd hq (by omega))]; rfl⟩
  rintro m P5 f x u ⟨i, rfl, hi, rfl, rfl, rfl⟩ hrec
  unfold mw_Ref_isSet_5
  rw [mz_rdn (show k < 2 ^ 31 by omega), hl2]
  refine ⟨hin, pk_le (lenC u k) i (fun hle => ⟨bz_01 _, ?_⟩) (fun hlt => fun P64 hP64 P59 hP59 => ?_)⟩
  · have : (∃ q, q < i ∧ mOp u k q t) = WrF u k 0 t := propext ⟨fun ⟨q, hq, hm⟩ => ⟨q, by omega, by omega, hm⟩, fun ⟨q, _, hq, hm⟩ => ⟨q, by omega, hm⟩⟩
    rw [this]
    exact h
  · obtain ⟨hs, p1, p2, p3, p4⟩ := hop i (by omega)
    have go : ∀ g : Bool, g = tr (∃ q, q < i + 1 ∧ mOp u k q t) → P64 (bz g) u := by
      intro g hg
      apply hP64
      unfold mw_Ref_isSet_64
      rw [nI_k1]
      exact hrec (lenC u k - (i + 1)) _ _ u (by omega) ⟨i + 1, rfl, by omega, rfl, rfl, by rw [hg]⟩
    have yes : (∃ q, q < i + 1 ∧ mOp u k q t) → P59 u := fun z => hP59 _ (go true (tr_t.mpr z).symm)
    refine bz_og (fun e => yes (by obtain ⟨q, hq, hm⟩ := tr_t.mp e; exact ⟨q, by omega, hm⟩)) (fun e => ⟨by rw [ix48]; exact vp_in_nI (by omega) (by decide), fun P63 hP63 => ?_⟩)
    rw [tr_f] at e
    have no : ¬ mOp u k i t → P63 u := by
      intro z
      refine hP63 _ (go false (tr_f.mpr ?_).symm)
      rintro ⟨q, hq, hm⟩
      by_cases hqi : q = i
      · subst hqi; exact z hm
      · exact e ⟨q, by omega, hm⟩
    rw [ix48, nI_1, mz_rdn (show 48 * k + 4 * i < 2 ^ 31 by omega), mz_rdn (show 48 * k + 4 * i + 1 < 2 ^ 31 by omega), p1, p2]
    exact ⟨fun e1 => no (fun z => z.1 e1), fun e1 => ⟨vp_in_nI (by omega) (by decide), fun e2 => no (fun z => e2 z.2), fun e2 => yes ⟨i, by omega, e1, e2⟩⟩⟩
def LvI (σ : mz_St) (n : Nat) (x y : Int32) : Prop := ∃ k t, k < n ∧ t < 10 ∧ x = nI k ∧ y = nI t ∧ Lv σ n t k
theorem lt10 {k : Nat} (hk : k < 2 ^ 31) : (10 : Int32) < nI k ↔ 10 < k := by
  rw [show (10 : Int32) = nI 10 from rfl, nI_ltI (by omega) hk]
theorem fateV_1 {σ : mz_St} {k t : Nat} : nI (fateV σ k t) = 1 ↔ RdF σ k 0 t := by
  unfold fateV
  by_cases h1 : RdF σ k 0 t
  · rw [tr_t.mpr h1]; simp only [h1, iff_true]; rfl
  · rw [tr_f.mpr h1]
    by_cases h2 : WrF σ k 0 t
    · rw [tr_t.mpr h2]; simp only [h1, iff_false]; decide
    · rw [tr_f.mpr h2]; simp only [h1, iff_false]; decide
theorem fateV_0 {σ : mz_St} {k t : Nat} : nI (fateV σ k t) = 0 ↔ ¬ RdF σ k 0 t ∧ ¬ WrF σ k 0 t := by
  unfold fateV
  by_cases h1 : RdF σ k 0 t
  · rw [tr_t.mpr h1, if_pos rfl]; simp only [h1, not_true, false_and, iff_false]; decide
  · rw [tr_f.mpr h1]
    by_cases h2 : WrF σ k 0 t
    · rw [tr_t.mpr h2]; simp only [h1, h2, not_true, and_false, iff_false]; decide
    · rw [tr_f.mpr h2]; simp only [h1, h2, not_false_iff, and_self, iff_true]; rfl
theorem mm_rLive {K : Int32 → mz_St → Prop} {σ : mz_St} {n : Nat} {x y : Int32} (hP : PN σ n) (h : K (bz (tr (LvI σ n x y))) σ) : mw_Ref_live K x y σ := by
  have hn := hP.1
  unfold mw_Ref_live
  refine mm_isBlock hP.2.2.1 (bz_go (fun e => ?_) (fun e => mm_rTemp (bz_og (fun e2 => ?_) (fun e2 => ?_))))
  · rw [tr_f.mpr (fun ⟨k, t, hk, ht, e1, _⟩ => by rw [e1, isblk_nI hn hk] at e; cases e)] at h; exact h
  · obtain ⟨b0, hb0, rfl⟩ := isblk_of hn e
    obtain ⟨t, ht, rfl⟩ := istemp_of e2
    have hfin : tr (LvI σ n (nI b0) (nI t)) = tr (Lv σ n t b0) := by
      have : LvI σ n (nI b0) (nI t) ↔ Lv σ n t b0 := by
        constructor
        · rintro ⟨k, t', hk, ht', e1, e3, z⟩
          rw [nI_eq (by omega) (by omega)] at e1 e3
          subst e1; subst e3; exact z
        · intro z; exact ⟨b0, t, hb0, ht, rfl, rfl, z⟩
      rw [propext this]
    rw [hfin] at h
    refine lf2 (fun m al x u => ∃ k, x = nI k ∧ k ≤ 11 ∧ m = 11 - k ∧ u = σ ∧ (∀ b, bt al b = true → Lv σ n t b) ∧ ((∀ b, Lv σ n t b → bt al b = true) ∨ k ≤ cn (fun i => bt al i) 10)) ?_ 11 0 0 σ ⟨0, rfl, by omega, rfl, rfl, fun b z => (by rw [b_0] at z; cases z), Or.inr (Nat.zero_le _)⟩
    rintro m P22 al x u ⟨k, rfl, hk, rfl, rfl, hsd, hg⟩ hrec
    unfold mw_Ref_live_22
    rw [lt10 (by omega)]
    refine ⟨fun h11 => ?_, fun h11 => ?_⟩
    · have hal : bt al b0 = true ↔ Lv u n t b0 := by
        refine ⟨hsd b0, fun z => ?_⟩
        rcases hg with hg | hg
        · exact hg b0 z
        · have := cn_le (fun i => bt al i) 10
          omega
      rw [b_is1 al (show b0 < 32 by omega), hal]
      refine ⟨fun z => ?_, fun z => ?_⟩
      · rw [tr_f.mpr z] at h; exact h
      · rw [tr_t.mpr z] at h; exact h
    · -- a turn
      refine lf2 (fun m a2 x v => ∃ j, x = nI j ∧ j ≤ n ∧ m = n - j ∧ v = u ∧ (∀ b, bt a2 b = true → Lv u n t b) ∧ (∀ b, bt al b = true → bt a2 b = true) ∧ (∀ b, b < j → RdF u b 0 t → bt a2 b = true) ∧ ∀ b, b < j → ¬ WrF u b 0 t → ∀ y, gX u n b y → bt al y = true → bt a2 b = true) ?_ n al 0 u ⟨0, rfl, by omega, rfl, rfl, hsd, fun b z => z, fun b hb => absurd hb (by omega), fun b hb => absurd hb (by omega)⟩
      rintro m P32 a2 x v ⟨j, rfl, hj, rfl, rfl, s2, m2, r2, c2⟩ hrec2
      unfold mw_Ref_live_32
      rw [hP.2.2.1]
      refine pk_le n j (fun hjn => ?_) (fun hjn => mm_fate hP (by omega) ht (fun P57 hP57 => ?_))
      · have ej : j = n := by omega
        subst ej
        rw [nI_k1]
        refine hrec (11 - (k + 1)) a2 _ v (by omega) ⟨k + 1, rfl, by omega, rfl, rfl, s2, ?_⟩
        rcases hg with hg | hg
        · exact Or.inl fun b hb => m2 b (hg b hb)
        · by_cases hlt : k + 1 ≤ cn (fun i => bt a2 i) 10
          · exact Or.inr hlt
          · left
            have heq := cn_eq (p := fun i => bt al i) (q := fun i => bt a2 i) m2 (m := 10) (by omega)
            intro b hb
            refine hb (fun b => bt a2 b = true) (fun q hq hr => r2 q hq hr) (fun q y hq hw he hy => c2 q hq hw y he (heq y (by have := he.1; omega) hy))
      · -- one block
        have blk : ∀ f : Bool, (f = true ↔ RdF v j 0 t) → P57 (bz f) v := by
          intro f hf
          apply hP57
          unfold mw_Ref_live_57
          refine lf2 (fun m g x w => ∃ i, x = nI i ∧ i ≤ n ∧ m = n - i ∧ w = v ∧ g = bz (tr (RdF v j 0 t ∨ (¬ WrF v j 0 t ∧ ∃ y, y < i ∧ gX v n j y ∧ bt a2 y = true)))) ?_ n (bz f) 0 v ⟨0, rfl, by omega, rfl, rfl, ?_⟩
          · rintro m P62 g x w ⟨i, rfl, hi, rfl, rfl, rfl⟩ hrec3
            unfold mw_Ref_live_62
            rw [hP.2.2.1]
            refine pk_le n i (fun hin => fun P134 hP134 => ?_) (fun hin => fun P112 hP112 P107 hP107 => ?_)
            · have go : ∀ y0, (∀ b, bt (a2 ||| y0) b = true ↔ bt a2 b = true ∨ (b = j ∧ (RdF w j 0 t ∨ (¬ WrF w j 0 t ∧ ∃ y, y < i ∧ gX w n j y ∧ bt a2 y = true)))) → P134 y0 a2 w := by
                intro y0 hy
                apply hP134
                unfold mw_Ref_live_134
                rw [nI_k1]
                refine hrec2 (n - (j + 1)) _ _ w (by omega) ⟨j + 1, rfl, by omega, rfl, rfl, fun b hb => ?_, fun b hb => (hy b).mpr (Or.inl (m2 b hb)), fun b hb hr => ?_, fun b hb hw y he hyy => ?_⟩
                · rcases (hy b).mp hb with z | ⟨rfl, z | ⟨z, y, _, z2, z3⟩⟩
                  · exact s2 b z
                  · exact Lv_r (by omega) z
                  · exact Lv_e (by omega) z z2 (s2 y z3)
                · by_cases hbj : b = j
                  · subst hbj; exact (hy b).mpr (Or.inr ⟨rfl, Or.inl hr⟩)
                  · exact (hy b).mpr (Or.inl (r2 b (by omega) hr))
                · by_cases hbj : b = j
                  · subst hbj; exact (hy b).mpr (Or.inr ⟨rfl, Or.inr ⟨hw, y, by have := he.1; omega, he, m2 y hyy⟩⟩)
                  · exact (hy b).mpr (Or.inl (c2 b (by omega) hw y he hyy))
              refine bz_go (fun e3 => go 0 (fun b => ?_)) (fun e3 => go _ (fun b => ?_))
              · rw [tr_f] at e3
                rw [b_or, b_0, Bool.or_false]
                exact ⟨fun z => Or.inl z, fun z => z.elim id (fun z => absurd z.2 e3)⟩
              · rw [tr_t] at e3
                rw [b_or, b_one (by omega), Bool.or_eq_true, decide_eq_true_eq]
                exact ⟨fun z => z.imp id (fun z => ⟨z, e3⟩), fun z => z.imp id (fun z => z.1)⟩
            · have go : ∀ g : Bool, g = tr (RdF w j 0 t ∨ (¬ WrF w j 0 t ∧ ∃ y, y < i + 1 ∧ gX w n j y ∧ bt a2 y = true)) → P112 (bz g) w := by
                intro g hg2
                apply hP112
                unfold mw_Ref_live_112
                rw [nI_k1]
                exact hrec3 (n - (i + 1)) _ _ w (by omega) ⟨i + 1, rfl, by omega, rfl, rfl, by rw [hg2]⟩
              have yes : (RdF w j 0 t ∨ (¬ WrF w j 0 t ∧ ∃ y, y < i + 1 ∧ gX w n j y ∧ bt a2 y = true)) → P107 w := fun z => hP107 _ (go true (tr_t.mpr z).symm)
              refine bz_og (fun e3 => yes ?_) (fun e3 => mm_fate hP (by omega) ht (fun P111 hP111 => ?_))
              · rcases tr_t.mp e3 with z | ⟨z, y, z2, z3⟩
                · exact Or.inl z
                · exact Or.inr ⟨z, y, by omega, z3⟩
              rw [tr_f] at e3
              have no : ¬ (¬ WrF w j 0 t ∧ gX w n j i ∧ bt a2 i = true) → P111 w := by
                intro z
                refine hP111 _ (go false (tr_f.mpr ?_).symm)
                rintro (q | ⟨q, y, q2, q3⟩)
                · exact e3 (Or.inl q)
                · by_cases hyi : y = i
                  · subst hyi; exact z ⟨q, q3⟩
                  · exact e3 (Or.inr ⟨q, y, by omega, q3⟩)
              rw [fateV_0]
              refine ⟨fun e4 => no (fun z => e4 ⟨fun q => e3 (Or.inl q), z.1⟩), fun e4 => mm_hasEdge hP (by omega) ⟨fun ge => ⟨fun q => absurd q (by decide), fun _ => ?_⟩, fun ge => ⟨fun _ => no (fun z => ge z.2.1.2), fun q => absurd rfl q⟩⟩⟩
              rw [b_is1 a2 (show i < 32 by omega)]
              exact ⟨fun e5 => no (fun z => e5 z.2.2), fun e5 => yes (Or.inr ⟨e4.2, i, by omega, ⟨by omega, ge⟩, e5⟩)⟩
          · have : f = tr (RdF v j 0 t ∨ (¬ WrF v j 0 t ∧ ∃ y, y < 0 ∧ gX v n j y ∧ bt a2 y = true)) := by
              have e9 : (RdF v j 0 t ∨ (¬ WrF v j 0 t ∧ ∃ y, y < 0 ∧ gX v n j y ∧ bt a2 y = true)) ↔ RdF v j 0 t := ⟨fun z => z.elim id (fun ⟨_, y, hy, _⟩ => absurd hy (by omega)), Or.inl⟩
              rw [propext e9]
              cases f
              · exact (tr_f.mpr (fun z => by have := hf.mpr z; cases this)).symm
              · exact (tr_t.mpr (hf.mp rfl)).symm
            rw [← this]
        rw [fateV_1]
        exact ⟨fun z => blk false (by simp [z]), fun z => blk true (by simp [z])⟩
  · rw [tr_f.mpr (fun ⟨k, t, hk, ht, e1, e3, _⟩ => by rw [e3, istemp_nI ht] at e2; cases e2)] at h; exact h
def PhI (σ : mz_St) (n : Nat) (x y : Int32) : Prop := ∃ k t, k < n ∧ t < 10 ∧ x = nI k ∧ y = nI t ∧ Mt σ n t k ∧ Lv σ n t k
theorem mm_rPhi {K : Int32 → mz_St → Prop} {σ : mz_St} {n : Nat} {x y : Int32} (hP : PN σ n) (h : K (bz (tr (PhI σ n x y))) σ) : mw_Ref_phi K x y σ := by
  have hn := hP.1
  unfold mw_Ref_phi
  refine mm_rAlive hP (bz_go (fun e => ?_) (fun e => mm_rTemp (bz_go (fun e2 => ?_) (fun e2 => mm_rLive hP (bz_og (fun e3 => ?_) (fun e3 => ?_))))))
  · rw [tr_f] at e
    rw [tr_f.mpr (fun ⟨k, t, hk, _, e1, _, z, _⟩ => e ⟨k, hk, e1, Mt_al z⟩)] at h; exact h
  · rw [tr_f.mpr (fun ⟨k, t, _, ht, _, e1, _⟩ => by rw [e1, istemp_nI ht] at e2; cases e2)] at h; exact h
  · rw [tr_t] at e
    obtain ⟨b0, hb0, rfl, hab⟩ := e
    obtain ⟨t, ht, rfl⟩ := istemp_of e2
    have hlv : Lv σ n t b0 := by
      obtain ⟨k, t', hk, ht', e1, e4, z⟩ := tr_t.mp e3
      rw [nI_eq (by omega) (by omega)] at e1 e4
      subst e1; subst e4; exact z
    have hfin : tr (PhI σ n (nI b0) (nI t)) = tr (Mt σ n t b0) := by
      have : PhI σ n (nI b0) (nI t) ↔ Mt σ n t b0 := by
        constructor
        · rintro ⟨k, t', hk, ht', e1, e4, z, _⟩
          rw [nI_eq (by omega) (by omega)] at e1 e4
          subst e1; subst e4; exact z
        · intro z; exact ⟨b0, t, hb0, ht, rfl, rfl, z, hlv⟩
      rw [propext this]
    rw [hfin] at h
    refine lf2 (fun m og x u => ∃ j, x = nI j ∧ j ≤ n ∧ m = n - j ∧ u = σ ∧ ∀ a, bt og a = true ↔ a = 0 ∨ (a < j ∧ Al σ n a ∧ WrF σ a 0 t)) ?_ n 1 0 σ ⟨0, rfl, by omega, rfl, rfl, fun a => ?_⟩
    · rintro m P31 og x u ⟨j, rfl, hj, rfl, rfl, ho⟩ hrec
      unfold mw_Ref_phi_31
      rw [hP.2.2.1]
      refine pk_le n j (fun hjn => ?_) (fun hjn => mm_rAlive hP (fun P68 hP68 P67 hP67 => ?_))
      · have hs : ∀ a, a < n → (bt og a = true ↔ Src u n t a) := by
          intro a ha
          rw [ho a]
          unfold Src
          constructor
          · rintro (rfl | z)
            · exact ⟨Al_0 ha, Or.inl rfl⟩
            · exact ⟨z.2.1, Or.inr z.2.2⟩
          · rintro ⟨z1, z2 | z2⟩
            · exact Or.inl z2
            · exact Or.inr ⟨by omega, z1, z2⟩
        refine lf2 (fun m st x v => ∃ k, x = nI k ∧ k ≤ 10 ∧ m = 10 - k ∧ v = u ∧ (∀ b, bt st b = true → Mt u n t b) ∧ ((∀ b, Mt u n t b → bt st b = true) ∨ k ≤ cn (fun i => bt st i) 10)) ?_ 10 0 0 u ⟨0, rfl, by omega, rfl, rfl, fun b z => (by rw [b_0] at z; cases z), Or.inr (Nat.zero_le _)⟩
        rintro m P82 st x v ⟨k, rfl, hk, rfl, rfl, hsd, hg⟩ hrec2
        unfold mw_Ref_phi_82
        rw [ge10 (by omega)]
        refine ⟨fun h10 => ?_, fun h10 => ?_⟩
        · have hal : bt st b0 = true ↔ Mt v n t b0 := by
            refine ⟨hsd b0, fun z => ?_⟩
            rcases hg with hg | hg
            · exact hg b0 z
            · exact cn_full (p := fun i => bt st i) 10 (by omega) b0 (by omega)
          rw [b_is1 st (show b0 < 32 by omega), hal]
          refine ⟨fun z => ?_, fun z => ?_⟩
          · rw [tr_f.mpr z] at h; exact h
          · rw [tr_t.mpr z] at h; exact h
        · refine lf2 (fun m s2 x w => ∃ b, x = nI b ∧ b ≤ n ∧ m = n - b ∧ w = v ∧ (∀ q, bt s2 q = true → Mt v n t q) ∧ (∀ q, bt st q = true → bt s2 q = true) ∧ ∀ a c, a < b → (Src v n t a ∨ bt st a = true) → Fr v n a c → bt s2 c = true) ?_ n st 0 v ⟨0, rfl, by omega, rfl, rfl, hsd, fun q z => z, fun a c ha => absurd ha (by omega)⟩
          rintro m P92 s2 x w ⟨b, rfl, hb, rfl, rfl, d2, m2, c2⟩ hrec3
          unfold mw_Ref_phi_92
          rw [hP.2.2.1]
          refine pk_le n b (fun hbn => ?_) (fun hbn => ?_)
          · have eb : b = n := by omega
            subst eb
            rw [nI_k1]
            refine hrec2 (10 - (k + 1)) s2 _ w (by omega) ⟨k + 1, rfl, by omega, rfl, rfl, d2, ?_⟩
            rcases hg with hg | hg
            · exact Or.inl fun q hq => m2 q (hg q hq)
            · by_cases hlt : k + 1 ≤ cn (fun i => bt s2 i) 10
              · exact Or.inr hlt
              · left
                have heq := cn_eq (p := fun i => bt st i) (q := fun i => bt s2 i) m2 (m := 10) (by omega)
                intro q hq
                exact hq (fun q => bt s2 q = true) (fun a c hac hF => c2 a c (Fr_lt hF).1 (hac.imp id (fun z => heq a (by have := (Fr_lt hF).1; omega) z)) hF)
          · refine lf2 (fun m s3 x y => ∃ c, x = nI c ∧ c ≤ n ∧ m = n - c ∧ y = w ∧ (∀ q, bt s3 q = true → Mt w n t q) ∧ (∀ q, bt s2 q = true → bt s3 q = true) ∧ ((Src w n t b ∨ bt s2 b = true) → ∀ q, q < c → Fr w n b q → bt s3 q = true)) ?_ n s2 0 w ⟨0, rfl, by omega, rfl, rfl, d2, fun q z => z, fun _ q hq => absurd hq (by omega)⟩
            rintro m P104 s3 x y ⟨c, rfl, hc, rfl, rfl, d3, m3, c3⟩ hrec4
            unfold mw_Ref_phi_104
            intro P156 hP156
            have out : ((Src y n t b ∨ bt st b = true) → ∀ q, Fr y n b q → bt s3 q = true) → P156 y := by
              intro hx
              apply hP156
              unfold mw_Ref_phi_156
              rw [nI_k1]
              refine hrec3 (n - (b + 1)) s3 _ y (by omega) ⟨b + 1, rfl, by omega, rfl, rfl, d3, fun q z => m3 q (m2 q z), fun a q ha hac hF => ?_⟩
              by_cases hab2 : a = b
              · subst hab2; exact hx hac q hF
              · exact m3 q (c2 a q (by omega) hac hF)
            rw [hP.2.2.1]
            refine pk_le n c (fun hnc => out (fun z q hF => c3 (z.imp id (m2 b)) q (by have := (Fr_lt hF).2.1; omega) hF)) (fun hnc => ?_)
            rw [b_is1 (og ||| s3) (show b < 32 by omega), b_or, Bool.or_eq_true, hs b (by omega)]
            refine ⟨fun z => out (fun q => absurd (q.imp id (fun q => m3 b (m2 b q))) z), fun z => mm_rFr hP (fun P147 hP147 => ?_)⟩
            have hMb : Src y n t b ∨ Mt y n t b := z.imp id (d3 b)
            have go : ∀ y0, (∀ q, bt (s3 ||| y0) q = true ↔ bt s3 q = true ∨ (q = c ∧ Fr y n b c)) → P147 y0 s3 y := by
              intro y0 hy
              apply hP147
              unfold mw_Ref_phi_147
              rw [nI_k1]
              refine hrec4 (n - (c + 1)) _ _ y (by omega) ⟨c + 1, rfl, by omega, rfl, rfl, fun q hq => ?_, fun q hq => (hy q).mpr (Or.inl (m3 q hq)), fun hx q hq hF => ?_⟩
              · rcases (hy q).mp hq with z2 | ⟨rfl, z2⟩
                · exact d3 q z2
                · exact Mt_s hMb z2
              · by_cases hqc : q = c
                · subst hqc; exact (hy q).mpr (Or.inr ⟨rfl, hF⟩)
                · exact (hy q).mpr (Or.inl (c3 hx q (by omega) hF))
            have hFI : FrI y n (nI b) (nI c) ↔ Fr y n b c := by
              constructor
              · rintro ⟨a', c', ha', hc', e5, e6, z2⟩
                rw [nI_eq (by omega) (by omega)] at e5 e6
                subst e5; subst e6; exact z2
              · intro z2; exact ⟨b, c, by omega, by omega, rfl, rfl, z2⟩
            refine bz_go (fun e5 => go 0 (fun q => ?_)) (fun e5 => go _ (fun q => ?_))
            · rw [tr_f, hFI] at e5
              rw [b_or, b_0, Bool.or_false]
              exact ⟨fun z2 => Or.inl z2, fun z2 => z2.elim id (fun z2 => absurd z2.2 e5)⟩
            · rw [tr_t, hFI] at e5
              rw [b_or, b_one (by omega), Bool.or_eq_true, decide_eq_true_eq]
              exact ⟨fun z2 => z2.imp id (fun z2 => ⟨z2, e5⟩), fun z2 => z2.imp id (fun z2 => z2.1)⟩
      · have go : ∀ y0, (∀ a, bt (og ||| y0) a = true ↔ a = 0 ∨ (a < j + 1 ∧ Al u n a ∧ WrF u a 0 t)) → P68 y0 og u := by
          intro y0 hy
          apply hP68
          unfold mw_Ref_phi_68
          rw [nI_k1]
          exact hrec (n - (j + 1)) _ _ u (by omega) ⟨j + 1, rfl, by omega, rfl, rfl, hy⟩
        have no : ¬ (Al u n j ∧ WrF u j 0 t) → P67 og u := by
          intro z
          apply hP67
          unfold mw_Ref_phi_67
          refine go 0 (fun a => ?_)
          rw [b_or, b_0, Bool.or_false, ho a]
          refine ⟨fun q => q.imp id (fun q => ⟨by omega, q.2⟩), fun q => q.imp id (fun q => ⟨?_, q.2⟩)⟩
          by_cases haj : a = j
          · subst haj; exact absurd q.2 z
          · omega
        refine bz_go (fun e4 => no (fun z => ?_)) (fun e4 => mm_isSet hP (by omega) (bz_go (fun e5 => no (fun z => (tr_f.mp e5) z.2)) (fun e5 => go _ (fun a => ?_))))
        · rw [tr_f, AlI_nI hn (by omega)] at e4; exact e4 z.1
        · rw [tr_t, AlI_nI hn (by omega)] at e4
          rw [tr_t] at e5
          rw [b_or, b_one (by omega), Bool.or_eq_true, decide_eq_true_eq, ho a]
          constructor
          · rintro ((z | z) | rfl)
            · exact Or.inl z
            · exact Or.inr ⟨by omega, z.2⟩
            · exact Or.inr ⟨by omega, e4, e5⟩
          · rintro (z | z)
            · exact Or.inl (Or.inl z)
            · by_cases haj : a = j
              · exact Or.inr haj
              · exact Or.inl (Or.inr ⟨by omega, z.2⟩)
    · rw [b_1, decide_eq_true_eq]
      exact ⟨fun z => Or.inl z, fun z => z.elim id (fun z => absurd z.1 (by omega))⟩
  · rw [tr_f] at e3
    rw [tr_f.mpr (fun ⟨k, t, hk, ht, e1, e4, _, z⟩ => e3 ⟨k, t, hk, ht, e1, e4, z⟩)] at h; exact h

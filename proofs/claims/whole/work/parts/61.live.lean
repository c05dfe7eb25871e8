/-! what is live: class and reference -/
def Lv (σ : mz_St) (n t b : Nat) : Prop := ∀ C : Nat → Prop, (∀ k, k < n → RdF σ k 0 t → C k) → (∀ k y, k < n → ¬ WrF σ k 0 t → gX σ n k y → C y → C k) → C b
theorem Lv_r {σ : mz_St} {n t k : Nat} (hk : k < n) (h : RdF σ k 0 t) : Lv σ n t k := fun _ h1 _ => h1 k hk h
theorem Lv_e {σ : mz_St} {n t k y : Nat} (hk : k < n) (hw : ¬ WrF σ k 0 t) (he : gX σ n k y) (h : Lv σ n t y) : Lv σ n t k := fun C h1 h2 => h2 k y hk hw he (h C h1 h2)
theorem Lv_lt {σ : mz_St} {n t b : Nat} (h : Lv σ n t b) : b < n := h (fun k => k < n) (fun k hk _ => hk) (fun k y hk _ _ _ => hk)
theorem Lv_inv {σ : mz_St} {n t b : Nat} (h : Lv σ n t b) : RdF σ b 0 t ∨ (¬ WrF σ b 0 t ∧ ∃ y, gX σ n b y ∧ Lv σ n t y) :=
  (h (fun k => Lv σ n t k ∧ (RdF σ k 0 t ∨ (¬ WrF σ k 0 t ∧ ∃ y, gX σ n k y ∧ Lv σ n t y))) (fun k hk hr => ⟨Lv_r hk hr, Or.inl hr⟩) (fun k y hk hw he hy => ⟨Lv_e hk hw he hy.1, Or.inr ⟨hw, y, he, hy.1⟩⟩)).2
theorem Sm_Lv {σ u : mz_St} (h : Sm σ u) (n : Nat) : Lv u n = Lv σ n := by
  funext t b; unfold Lv; rw [Sm_RdF h, Sm_WrF h, Sm_gX h n]
def readOK (σ : mz_St) (n : Nat) : Prop := ∀ k, k < n → ∀ t, bt (σ 29 k) t = true ↔ t < 10 ∧ RdF σ k 0 t
def writeOK (σ : mz_St) (n : Nat) : Prop := ∀ k, k < n → ∀ t, bt (σ 30 k) t = true ↔ t < 10 ∧ WrF σ k 0 t
def liveOK (σ : mz_St) (n : Nat) : Prop := ∀ k, k < n → ∀ t, bt (σ 31 k) t = true ↔ t < 10 ∧ Lv σ n t k
theorem mm_liveBehind {K : Int32 → mz_St → Prop} {σ : mz_St} {n k : Nat} (hP : PN σ n) (hk : k < n) (h : ∀ r, (∀ t, bt r t = true ↔ ∃ y, gX σ n k y ∧ bt (σ 31 y) t = true) → K r σ) : mw_Lives_liveBehind K (nI k) σ := by
  have hn := hP.1
  have hE := PN_eC hP hk
  unfold mw_Lives_liveBehind
  refine lf2 (fun m b x u => ∃ d, x = nI d ∧ d ≤ eC σ k ∧ m = eC σ k - d ∧ u = σ ∧ ∀ t, bt b t = true ↔ ∃ y, y < n ∧ fst σ d k y ∧ bt (σ 31 y) t = true) ?_ (eC σ k) 0 0 σ ⟨0, rfl, by omega, rfl, rfl, fun t => ⟨fun z => (by rw [b_0] at z; cases z), fun ⟨y, _, z, _⟩ => (by unfold fst at z; rcases z with ⟨z, -⟩ | ⟨z, -⟩ <;> omega)⟩⟩
  rintro m P4 b x u ⟨d, rfl, hd, rfl, rfl, hb⟩ hrec
  unfold mw_Lives_liveBehind_4
  refine mm_edges hP hk ?_
  rw [hE.1]
  refine pk_le (eC u k) d (fun hle => h b (fun t => ?_)) (fun hlt => mm_target (by omega) (by omega) ?_)
  · have : d = eC u k := by omega
    subst this
    rw [hb t]
    constructor
    · rintro ⟨y, z1, z2, z3⟩
      exact ⟨y, (fst_all hE.1 hE.2).mpr ⟨z1, z2⟩, z3⟩
    · rintro ⟨y, z1, z2⟩
      have := (fst_all hE.1 hE.2).mp z1
      exact ⟨y, this.1, this.2, z2⟩
  · have hT := PN_eT hP hk d
    rw [hT.1, nI_k1, mz_rdn (by omega)]
    refine ⟨vp_in_nI (by omega) (by decide), hrec (eC u k - (d + 1)) _ _ u (by omega) ⟨d + 1, rfl, by omega, rfl, rfl, fun t => ?_⟩⟩
    rw [b_or, Bool.or_eq_true, hb t]
    constructor
    · rintro (⟨y, z1, z2, z3⟩ | z)
      · exact ⟨y, z1, (fst_s (by omega)).mpr (Or.inl z2), z3⟩
      · exact ⟨eT u k d, hT.2, (fst_s (by omega)).mpr (Or.inr hT.1), z⟩
    · rintro ⟨y, z1, z2, z3⟩
      rcases (fst_s (by omega)).mp z2 with z4 | z4
      · exact Or.inl ⟨y, z1, z4, z3⟩
      · rw [hT.1, nI_eq (by omega) (by omega)] at z4
        rw [z4]
        exact Or.inr z3
/-- the set of blocks where t is live by a row -/
def lvS (u : mz_St) (n t : Nat) (b : Nat) : Bool := decide (b < n) && bt (u 31 b) t
theorem mm_livesLook {K : mz_St → Prop} {σ : mz_St} {n : Nat} (hP : PN σ n) (h : ∀ u, mf [29, 30, 31, 32] σ u → readOK u n → writeOK u n → liveOK u n → (∀ k, k < n → u 32 k = 0) → ∀ P101 : Int32 → mz_St → Prop, (∀ x s, mw_Lives_lookAt_101 K P101 x s → P101 x s) → P101 0 u) : mw_Lives_lookAt K σ := by
  have hn := hP.1
  unfold mw_Lives_lookAt
  refine lf1 (fun m x u => ∃ i, x = nI i ∧ i ≤ n ∧ m = n - i ∧ mf [29, 30, 31, 32] σ u ∧ ∀ k, k < i → (∀ t, bt (u 29 k) t = true ↔ t < 10 ∧ RdF σ k 0 t) ∧ (∀ t, bt (u 30 k) t = true ↔ t < 10 ∧ WrF σ k 0 t) ∧ u 31 k = u 29 k ∧ u 32 k = 0) ?_ n 0 σ ⟨0, rfl, by omega, rfl, mf_rf, fun k hk => absurd hk (by omega)⟩
  rintro m P2 x u ⟨i, rfl, hi, rfl, hm, hrw⟩ hrec
  have hSu : Sm σ u := Sm_mf hm (by decide)
  have hPu := hSu.pn hP
  unfold mw_Lives_lookAt_2
  rw [hPu.2.1]
  refine pk_le n i (fun hin => ?_) (fun hin => ?_)
  · have ei : i = n := by omega
    subst ei
    refine lf1 (fun m x v => ∃ k, x = nI k ∧ k ≤ 10 ∧ m = 10 - k ∧ mf [31] u v ∧ (∀ b, b < i → ∀ t, bt (v 31 b) t = true → t < 10 ∧ Lv σ i t b) ∧ (∀ b, b < i → ∀ t, bt (u 29 b) t = true → bt (v 31 b) t = true) ∧ ∀ t, t < 10 → (∀ b, Lv σ i t b → bt (v 31 b) t = true) ∨ k ≤ cn (lvS v i t) 10) ?_ 10 0 u ⟨0, rfl, by omega, rfl, mf_rf, fun b hb t ht => ?_, fun b hb t ht => by rw [(hrw b hb).2.2.1]; exact ht, fun t _ => Or.inr (Nat.zero_le _)⟩
    · rintro m P45 x v ⟨k, rfl, hk, rfl, hv, hs, hst, hg⟩ hrec2
      unfold mw_Lives_lookAt_45
      rw [ge10 (by omega)]
      refine ⟨fun h10 => ?_, fun h10 => ?_⟩
      · have hmv : mf [29, 30, 31, 32] σ v := mf_tr hm (mf_mono hv (by decide))
        have hSv : Sm σ v := Sm_mf hmv (by decide)
        refine h v hmv (fun b hb t => ?_) (fun b hb t => ?_) (fun b hb t => ⟨fun z => ?_, fun ⟨z1, z2⟩ => ?_⟩) (fun b hb => ?_)
        · rw [hv 29 (by decide), Sm_RdF hSv]; exact (hrw b hb).1 t
        · rw [hv 30 (by decide), Sm_WrF hSv]; exact (hrw b hb).2.1 t
        · rw [Sm_Lv hSv]; exact hs b hb t z
        · rw [Sm_Lv hSv] at z2
          rcases hg t z1 with hg | hg
          · exact hg b z2
          · have := cn_full (p := lvS v i t) 10 (by omega) b (by omega)
            unfold lvS at this
            rw [Bool.and_eq_true] at this
            exact this.2
        · rw [hv 32 (by decide)]; exact (hrw b hb).2.2.2
      · -- a round
        refine lf1 (fun m x w => ∃ j, x = nI j ∧ j ≤ i ∧ m = i - j ∧ mf [31] u w ∧ (∀ b, b < i → ∀ t, bt (w 31 b) t = true → t < 10 ∧ Lv σ i t b) ∧ (∀ b, b < i → ∀ t, bt (v 31 b) t = true → bt (w 31 b) t = true) ∧ ∀ b t, b < j → t < 10 → ¬ WrF σ b 0 t → ∀ y, gX σ i b y → bt (v 31 y) t = true → bt (w 31 b) t = true) ?_ i 0 v ⟨0, rfl, by omega, rfl, hv, hs, fun b _ t ht => ht, fun b t hb => absurd hb (by omega)⟩
        rintro m P53 x w ⟨j, rfl, hj, rfl, hw, ws, wm, wc⟩ hrec3
        have hmw : mf [29, 30, 31, 32] σ w := mf_tr hm (mf_mono hw (by decide))
        have hSw : Sm σ w := Sm_mf hmw (by decide)
        have hPw := hSw.pn hP
        unfold mw_Lives_lookAt_53
        rw [hPw.2.1]
        refine pk_le i j (fun hij => ?_) (fun hij => ⟨vp_in_nI (by omega) (by decide), mm_liveBehind hPw (by omega) (fun r hr => ⟨vp_in_nI (by omega) (by decide), vp_in_nI (by omega) (by decide), ?_⟩)⟩)
        · have ej : j = i := by omega
          subst ej
          rw [nI_k1]
          refine hrec2 (10 - (k + 1)) _ w (by omega) ⟨k + 1, rfl, by omega, rfl, hw, ws, fun b hb t ht => wm b hb t (hst b hb t ht), fun t ht => ?_⟩
          rcases hg t ht with hg | hg
          · left
            intro b hb
            exact wm b (Lv_lt hb) t (hg b hb)
          · by_cases hlt : k + 1 ≤ cn (lvS w j t) 10
            · exact Or.inr hlt
            · left
              have hsub : ∀ b, lvS v j t b = true → lvS w j t b = true := by
                intro b hb
                unfold lvS at hb ⊢
                rw [Bool.and_eq_true, decide_eq_true_eq] at hb ⊢
                exact ⟨hb.1, wm b hb.1 t hb.2⟩
              have heq := cn_eq (p := lvS v j t) (q := lvS w j t) hsub (m := 10) (by omega)
              have back : ∀ b, b < j → bt (w 31 b) t = true → bt (v 31 b) t = true := by
                intro b hb hbt
                have := heq b (by omega) (by unfold lvS; rw [hbt]; simp [hb])
                unfold lvS at this
                rw [Bool.and_eq_true] at this
                exact this.2
              intro b hb
              refine hb (fun b => bt (w 31 b) t = true) (fun q hq hr => ?_) (fun q y hq hw2 he hy => ?_)
              · exact wm q hq t (hst q hq t (((hrw q hq).1 t).mpr ⟨ht, hr⟩))
              · exact wc q t hq ht hw2 y he (back y he.1 hy)
        · rw [nI_k1, mz_wrn (by omega), mz_rdn (by omega), mz_rdn (by omega)]
          have hbit : ∀ t, bt (w 31 j ||| (r &&& (w 30 j ^^^ (-1)))) t = true ↔ bt (w 31 j) t = true ∨ ((∃ y, gX σ i j y ∧ bt (w 31 y) t = true) ∧ ¬ (t < 10 ∧ WrF σ j 0 t)) := by
            intro t
            rw [b_or, b_wo, Bool.or_eq_true, Bool.and_eq_true, hr t, Sm_gX hSw, hw 30 (by decide), ← (hrw j (by omega)).2.1 t]
            simp
          refine hrec3 (i - (j + 1)) _ _ (by omega) ⟨j + 1, rfl, by omega, rfl, mf_tr hw (mf_up (by decide)), fun b hb t ht => ?_, fun b hb t ht => ?_, fun b t hb ht hnw y he hy => ?_⟩
          · by_cases hbj : b = j
            · subst hbj
              rw [up_at, hbit t] at ht
              rcases ht with ht | ⟨⟨y, z1, z2⟩, z3⟩
              · exact ws b hb t ht
              · have := ws y z1.1 t z2
                exact ⟨this.1, Lv_e hb (fun z => z3 ⟨this.1, z⟩) z1 this.2⟩
            · rw [up_ot hbj] at ht
              exact ws b hb t ht
          · by_cases hbj : b = j
            · subst hbj
              rw [up_at, hbit t]
              exact Or.inl (wm b hb t ht)
            · rw [up_ot hbj]
              exact wm b hb t ht
          · by_cases hbj : b = j
            · subst hbj
              rw [up_at, hbit t]
              exact Or.inr ⟨⟨y, he, wm y he.1 t hy⟩, fun z => hnw z.2⟩
            · rw [up_ot hbj]
              exact wc b t (by omega) ht hnw y he hy
    · rw [(hrw b hb).2.2.1, (hrw b hb).1 t] at ht
      exact ⟨ht.1, Lv_r hb ht.2⟩
  · refine mm_findRW hPu (by omega) (fun v hv ho h29 h30 => ?_)
    have hin2 : vp_in (nI i) 10 := vp_in_nI (by omega) (by decide)
    refine ⟨hin2, hin2, hin2, ?_⟩
    rw [nI_k1]
    simp only [mz_wrn (show i < 2 ^ 31 by omega), mz_rdn (show i < 2 ^ 31 by omega)]
    refine hrec (n - (i + 1)) _ _ (by omega) ⟨i + 1, rfl, by omega, rfl, mf_tr (mf_tr (mf_tr hm (mf_mono hv (by decide))) (mf_up (by decide))) (mf_up (by decide)), fun k hk => ?_⟩
    rw [Sm_RdF hSu] at h29
    rw [Sm_WrF hSu] at h30
    by_cases hki : k = i
    · subst hki
      refine ⟨fun t => ?_, fun t => ?_, ?_, ?_⟩
      · rw [up_row (by decide), up_row (by decide)]; exact h29 t
      · rw [up_row (by decide), up_row (by decide)]; exact h30 t
      · rw [up_row (by decide), up_at, up_row (by decide), up_row (by decide)]
      · rw [up_at]
    · obtain ⟨g1, g2, g3, g4⟩ := hrw k (by omega)
      refine ⟨fun t => ?_, fun t => ?_, ?_, ?_⟩
      · rw [up_row (by decide), up_row (by decide), (ho k hki).1]; exact g1 t
      · rw [up_row (by decide), up_row (by decide), (ho k hki).2]; exact g2 t
      · rw [up_row (by decide), up_ot hki, up_row (by decide), up_row (by decide), (ho k hki).1, hv 31 (by decide)]; exact g3
      · rw [up_ot hki, up_row (by decide), hv 32 (by decide)]; exact g4

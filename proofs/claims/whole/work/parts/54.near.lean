/-! nearest dominators and frontiers -/
def Idm (σ : mz_St) (n a b : Nat) : Prop := a ≠ b ∧ Dom σ n a b ∧ ∀ c, c ≠ b → Dom σ n c b → Dom σ n c a
def Fr (σ : mz_St) (n a c : Nat) : Prop := (∃ f, Dom σ n a f ∧ gX σ n f c) ∧ ¬ (c ≠ a ∧ Dom σ n a c)
theorem Idm_u {σ : mz_St} {n a a' b : Nat} (h : Idm σ n a b) (h' : Idm σ n a' b) : a = a' := Dom_as (h'.2.2 a h.1 h.2.1) (h.2.2 a' h'.1 h'.2.1)
theorem Idm_lt {σ : mz_St} {n a b : Nat} (h : Idm σ n a b) : a < n := (Dom_al h.2.1).1
theorem Sm_Idm {σ u : mz_St} (h : Sm σ u) (n : Nat) : Idm u n = Idm σ n := by
  funext a b; unfold Idm; rw [Sm_Dom h n]
theorem Sm_Fr {σ u : mz_St} (h : Sm σ u) (n : Nat) : Fr u n = Fr σ n := by
  funext a b; unfold Fr; rw [Sm_Dom h n, Sm_gX h n]
def nearV (σ : mz_St) (n b : Nat) (r : Int32) : Prop := (∃ a, Idm σ n a b ∧ r = nI a) ∨ ((∀ a, ¬ Idm σ n a b) ∧ r = -1)
def nearOK (σ : mz_St) (n : Nat) : Prop := ∀ b, b < n → nearV σ n b (σ 26 b)
def frOK (σ : mz_St) (n : Nat) : Prop := ∀ a, a < n → ∀ c, bt (σ 27 a) c = true ↔ c < n ∧ Fr σ n a c
theorem mm_findNearest {K : mz_St → Prop} {σ : mz_St} {n i : Nat} (hP : PN σ n) (hi : i < n) (hD : domOK σ n) (h : ∀ u, mf [26] σ u → (∀ j, j ≠ i → u 26 j = σ 26 j) → nearV σ n i (u 26 i) → K u) : mw_Flow_findNearest K (nI i) σ := by
  have hn := hP.1
  have hin : vp_in (nI i) 10 := vp_in_nI (by omega) (by decide)
  unfold mw_Flow_findNearest
  refine ⟨hin, hin, ?_⟩
  have e25 : mz_rd (mz_wr σ 26 (nI i) (-1)) 25 (nI i) = σ 25 i := by rw [mz_rdn (by omega), mz_wrn (by omega), up_row (by decide)]
  have hst : ∀ x, bt (σ 25 i &&& (((1 : Int32) <<< (nI i &&& 31)) ^^^ (-1))) x = true ↔ x ≠ i ∧ Dom σ n x i := by
    intro x
    rw [b_wo, b_one (by omega), Bool.and_eq_true, hD i hi x]
    constructor
    · rintro ⟨⟨-, z⟩, z2⟩
      exact ⟨by simpa using z2, z⟩
    · rintro ⟨z, z2⟩
      exact ⟨⟨(Dom_al z2).1, z2⟩, by simpa using z⟩
  refine lf1 (fun m x u => ∃ j, x = nI j ∧ j ≤ n ∧ m = n - j ∧ mf [26] σ u ∧ (∀ q, q ≠ i → u 26 q = σ 26 q) ∧ ((∃ a, a < j ∧ Idm σ n a i ∧ u 26 i = nI a) ∨ ((∀ a, a < j → ¬ Idm σ n a i) ∧ u 26 i = -1))) ?_ n 0 _ ⟨0, rfl, by omega, rfl, mf_wr (by decide), fun q hq => ?_, Or.inr ⟨fun a ha => absurd ha (by omega), ?_⟩⟩
  · rintro m P22 x u ⟨j, rfl, hj, rfl, hm, ho, hr⟩ hrec
    have hSu : Sm σ u := Sm_mf hm (by decide)
    unfold mw_Flow_findNearest_22
    rw [(hSu.pn hP).2.1, e25]
    refine pk_le n j (fun hjn => h u hm ho ?_) (fun hjn => mm_isIn (by omega) (fun P58 hP58 => ?_))
    · rcases hr with ⟨a, ha, h1, h2⟩ | ⟨h1, h2⟩
      · exact Or.inl ⟨a, h1, h2⟩
      · exact Or.inr ⟨fun a h3 => h1 a (by have := Idm_lt h3; omega) h3, h2⟩
    have go : ∀ t, mf [26] σ t → (∀ q, q ≠ i → t 26 q = σ 26 q) → ((∃ a, a < j + 1 ∧ Idm σ n a i ∧ t 26 i = nI a) ∨ ((∀ a, a < j + 1 → ¬ Idm σ n a i) ∧ t 26 i = -1)) → P58 t := by
      intro t h1 h2 h3
      apply hP58
      unfold mw_Flow_findNearest_58
      rw [nI_k1]
      exact hrec (n - (j + 1)) _ t (by omega) ⟨j + 1, rfl, by omega, rfl, h1, h2, h3⟩
    have skip : ¬ Idm σ n j i → P58 u := by
      intro hno
      refine go u hm ho ?_
      rcases hr with ⟨a, ha, h1, h2⟩ | ⟨h1, h2⟩
      · exact Or.inl ⟨a, by omega, h1, h2⟩
      · refine Or.inr ⟨fun a ha => ?_, h2⟩
        by_cases haj : a = j
        · subst haj; exact hno
        · exact h1 a (by omega)
    refine bz_go (fun e => skip (fun z => ?_)) (fun e => ⟨vp_in_nI (by omega) (by decide), ?_⟩)
    · rw [(hst j).mpr ⟨z.1, z.2.1⟩] at e; cases e
    · obtain ⟨hji, hdj⟩ := (hst j).mp e
      rw [mz_rdn (by omega), hm 25 (by decide)]
      have heq : σ 25 j = (σ 25 i &&& (((1 : Int32) <<< (nI i &&& 31)) ^^^ (-1))) ↔ Idm σ n j i := by
        constructor
        · intro e2
          refine ⟨hji, hdj, fun c hc hd => ?_⟩
          have := (hst c).mpr ⟨hc, hd⟩
          rw [← e2] at this
          exact ((hD j (by omega) c).mp this).2
        · intro hI
          apply b_ext
          intro x _
          have : bt (σ 25 j) x = true ↔ bt (σ 25 i &&& (((1 : Int32) <<< (nI i &&& 31)) ^^^ (-1))) x = true := by
            rw [hst x, hD j (by omega) x]
            constructor
            · rintro ⟨-, z⟩
              exact ⟨fun z2 => hji (Dom_as hdj (by rw [← z2]; exact z)), Dom_tr z hdj⟩
            · rintro ⟨z1, z2⟩
              exact ⟨(Dom_al z2).1, hI.2.2 x z1 z2⟩
          exact Bool.eq_iff_iff.mpr this
      rw [heq]
      refine ⟨skip, fun hI => ⟨hin, ?_⟩⟩
      rw [mz_wrn (by omega)]
      exact go _ (mf_tr hm (mf_up (by decide))) (fun q hq => by rw [up_ot hq]; exact ho q hq) (Or.inl ⟨j, by omega, hI, up_at⟩)
  · rw [mz_wrn (by omega)]; exact up_ot hq
  · rw [mz_wrn (by omega)]; exact up_at
theorem mm_cDom {K : Int32 → mz_St → Prop} {σ : mz_St} {n a b : Nat} (hP : PN σ n) (hD : domOK σ n) (ha : a < n) (hb : b < n) (h : K (bz (tr (Dom σ n a b))) σ) : mw_Flow_dominates K (nI a) (nI b) σ := by
  have hn := hP.1
  unfold mw_Flow_dominates
  refine ⟨vp_in_nI (by omega) (by decide), ?_⟩
  rw [mz_rdn (by omega)]
  refine mm_isIn (by omega) ⟨bz_01 _, ?_⟩
  have : bt (σ 25 b) a = tr (Dom σ n a b) := by
    cases e : bt (σ 25 b) a
    · exact (tr_f.mpr (fun z => by rw [(hD b hb a).mpr ⟨ha, z⟩] at e; cases e)).symm
    · exact (tr_t.mpr ((hD b hb a).mp e).2).symm
  rw [this]
  exact h
theorem mm_cAlive {K : Int32 → mz_St → Prop} {σ : mz_St} {n : Nat} {x : Int32} (hP : PN σ n) (hA : aliveOK σ n) (h : K (bz (tr (AlI σ n x))) σ) : mw_Flow_isAlive K x σ := by
  have hn := hP.1
  unfold mw_Flow_isAlive
  refine mm_hasBlock hP.2.1 (bz_go (fun e => ?_) (fun e => ?_))
  · have : tr (AlI σ n x) = false := tr_f.mpr (fun ⟨k, hk, ex, _⟩ => by rw [ex, isblk_nI hn hk] at e; cases e)
    rw [this] at h; exact h
  · obtain ⟨k, hk, rfl⟩ := isblk_of hn e
    refine mm_isIn (by omega) (bz_go (fun e2 => ?_) (fun e2 => ?_))
    · rw [tr_f.mpr (fun q => by rw [(hA k).mpr ((AlI_nI hn (by omega)).mp q)] at e2; cases e2)] at h; exact h
    · rw [tr_t.mpr ((AlI_nI hn (by omega)).mpr ((hA k).mp e2))] at h; exact h
theorem mm_findFrontier {K : mz_St → Prop} {σ : mz_St} {n i : Nat} (hP : PN σ n) (hi : i < n) (hN : nextOK σ n) (hD : domOK σ n) (h : ∀ u, mf [27] σ u → (∀ j, j ≠ i → u 27 j = σ 27 j) → (∀ c, bt (u 27 i) c = true ↔ c < n ∧ Fr σ n i c) → K u) : mw_Flow_findFrontier K (nI i) σ := by
  have hn := hP.1
  have hin : vp_in (nI i) 10 := vp_in_nI (by omega) (by decide)
  unfold mw_Flow_findFrontier
  refine lf2 (fun m left x u => ∃ j, x = nI j ∧ j ≤ n ∧ m = n - j ∧ u = σ ∧ ∀ c, bt left c = true ↔ ∃ f, f < j ∧ Dom σ n i f ∧ gX σ n f c) ?_ n 0 0 σ ⟨0, rfl, by omega, rfl, rfl, fun c => ⟨fun e => (by rw [b_0] at e; cases e), fun ⟨f, hf, _⟩ => absurd hf (by omega)⟩⟩
  rintro m P4 left x u ⟨j, rfl, hj, rfl, rfl, hl⟩ hrec
  unfold mw_Flow_findFrontier_4
  rw [hP.2.1]
  refine pk_le n j (fun hjn => ⟨hin, ?_⟩) (fun hjn => mm_cDom hP hD hi (by omega) (fun P33 hP33 => ?_))
  · have ej : j = n := by omega
    subst ej
    rw [mz_wrn (by omega)]
    refine lf1 (fun m x v => ∃ c, x = nI c ∧ c ≤ j ∧ m = j - c ∧ mf [27] u v ∧ (∀ q, q ≠ i → v 27 q = u 27 q) ∧ ∀ y, bt (v 27 i) y = true ↔ y < c ∧ Fr u j i y) ?_ j 0 _ ⟨0, rfl, by omega, rfl, mf_up (by decide), fun q hq => up_ot hq, fun y => ⟨fun e => (by rw [up_at, b_0] at e; cases e), fun e => absurd e.1 (by omega)⟩⟩
    rintro m P48 x v ⟨c, rfl, hc, rfl, hv, vo, vf⟩ hrec2
    have hSv : Sm u v := Sm_mf hv (by decide)
    have hPv := hSv.pn hP
    unfold mw_Flow_findFrontier_48
    rw [hPv.2.1]
    refine pk_le j c (fun hjc => h v hv vo (fun y => ?_)) (fun hjc => fun P78 hP78 P77 hP77 => ?_)
    · rw [vf y]; exact ⟨fun e => ⟨by omega, e.2⟩, fun e => ⟨by omega, e.2⟩⟩
    have hlc : bt left c = true ↔ ∃ f, Dom u j i f ∧ gX u j f c := by
      rw [hl c]; exact ⟨fun ⟨f, _, e⟩ => ⟨f, e⟩, fun ⟨f, e⟩ => ⟨f, e.1.1.1, e⟩⟩
    have go : ∀ t, mf [27] u t → (∀ q, q ≠ i → t 27 q = u 27 q) → (∀ y, bt (t 27 i) y = true ↔ y < c + 1 ∧ Fr u j i y) → ∀ P105 : mz_St → Prop, (∀ s, mw_Flow_findFrontier_105 P48 (nI c) s → P105 s) → P105 t := by
      intro t h1 h2 h3 P105 hP105
      apply hP105
      unfold mw_Flow_findFrontier_105
      rw [nI_k1]
      exact hrec2 (j - (c + 1)) _ t (by omega) ⟨c + 1, rfl, by omega, rfl, h1, h2, h3⟩
    have skip : ¬ Fr u j i c → ∀ y, bt (v 27 i) y = true ↔ y < c + 1 ∧ Fr u j i y := by
      intro hno y
      rw [vf y]
      refine ⟨fun e => ⟨by omega, e.2⟩, fun e => ⟨?_, e.2⟩⟩
      by_cases hyc : y = c
      · subst hyc; exact absurd e.2 hno
      · omega
    have body : ∀ b : Bool, (b = true ↔ c ≠ i ∧ Dom u j i c) → P78 (bz b) v := by
      intro b hb
      apply hP78
      unfold mw_Flow_findFrontier_78
      refine mm_isIn (by omega) (fun P105 hP105 => bz_go (fun e => go v hv vo (skip (fun z => ?_)) P105 hP105) (fun e => bz_og (fun e2 => go v hv vo (skip (fun z => z.2 (hb.mp e2))) P105 hP105) (fun e2 => ⟨hin, hin, ?_⟩)))
      · rw [hlc.mpr z.1] at e; cases e
      · rw [mz_wrn (by omega), mz_rdn (by omega)]
        refine go _ (mf_tr hv (mf_up (by decide))) (fun q hq => by rw [up_ot hq]; exact vo q hq) (fun y => ?_) P105 hP105
        rw [up_at, b_or, b_one (by omega), Bool.or_eq_true, decide_eq_true_eq, vf y]
        constructor
        · rintro (z | rfl)
          · exact ⟨by omega, z.2⟩
          · exact ⟨by omega, hlc.mp e, fun z => by rw [hb.mpr z] at e2; cases e2⟩
        · rintro ⟨z1, z2⟩
          by_cases hyc : y = c
          · exact Or.inr hyc
          · exact Or.inl ⟨by omega, z2⟩
    have h77 : ¬ (c ≠ i ∧ Dom u j i c) → P77 v := fun hno => hP77 _ (body false (by simp [hno]))
    rw [nI_eq (by omega) (by omega)]
    refine ⟨fun e => h77 (fun z => z.1 e), fun e => mm_cDom hPv (dom_mf hv (by decide) (by decide) hD) hi (by omega) ?_⟩
    rw [Sm_Dom hSv]
    refine bz_go (fun e2 => h77 (fun z => (tr_f.mp e2) z.2)) (fun e2 => body true ?_)
    simp [e, tr_t.mp e2]
  · have go : ∀ x2, (∀ c, bt x2 c = true ↔ ∃ f, f < j + 1 ∧ Dom u n i f ∧ gX u n f c) → P33 x2 u := by
      intro x2 hx
      apply hP33
      unfold mw_Flow_findFrontier_33
      rw [nI_k1]
      exact hrec (n - (j + 1)) x2 _ u (by omega) ⟨j + 1, rfl, by omega, rfl, rfl, hx⟩
    refine bz_go (fun e => go _ (fun c => ?_)) (fun e => ⟨vp_in_nI (by omega) (by decide), go _ (fun c => ?_)⟩)
    · rw [tr_f] at e
      rw [hl c]
      constructor
      · rintro ⟨f, hf, z⟩; exact ⟨f, by omega, z⟩
      · rintro ⟨f, hf, z⟩
        by_cases hfj : f = j
        · subst hfj; exact absurd z.1 e
        · exact ⟨f, by omega, z⟩
    · rw [tr_t] at e
      rw [b_or, Bool.or_eq_true, hl c, mz_rdn (by omega), hN j (by omega) c]
      constructor
      · rintro (⟨f, hf, z⟩ | z)
        · exact ⟨f, by omega, z⟩
        · exact ⟨j, by omega, e, z⟩
      · rintro ⟨f, hf, z⟩
        by_cases hfj : f = j
        · subst hfj; exact Or.inr z.2
        · exact Or.inl ⟨f, by omega, z⟩

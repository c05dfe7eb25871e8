/-! where phis stand: the class -/
def Src (σ : mz_St) (n t a : Nat) : Prop := Al σ n a ∧ (a = 0 ∨ WrF σ a 0 t)
def Mt (σ : mz_St) (n t b : Nat) : Prop := ∀ C : Nat → Prop, (∀ a c, (Src σ n t a ∨ C a) → Fr σ n a c → C c) → C b
theorem Mt_s {σ : mz_St} {n t a c : Nat} (h : Src σ n t a ∨ Mt σ n t a) (hF : Fr σ n a c) : Mt σ n t c := fun C hC => hC a c (h.imp id (fun z => z C hC)) hF
theorem Fr_lt {σ : mz_St} {n a c : Nat} (h : Fr σ n a c) : a < n ∧ Al σ n c := by
  obtain ⟨⟨f, h1, h2⟩, -⟩ := h
  exact ⟨(Dom_al h1).1, Al_e h1.1 h2⟩
theorem Mt_al {σ : mz_St} {n t b : Nat} (h : Mt σ n t b) : Al σ n b := h (fun b => Al σ n b) (fun a c _ hF => (Fr_lt hF).2)
theorem Sm_Src {σ u : mz_St} (h : Sm σ u) (n : Nat) : Src u n = Src σ n := by
  funext t a; unfold Src; rw [Sm_Al h n, Sm_WrF h]
theorem Sm_Mt {σ u : mz_St} (h : Sm σ u) (n : Nat) : Mt u n = Mt σ n := by
  funext t b; unfold Mt; rw [Sm_Src h n, Sm_Fr h n]
def phiOK (σ : mz_St) (n : Nat) : Prop := ∀ k, k < n → ∀ t, bt (σ 32 k) t = true ↔ t < 10 ∧ Mt σ n t k ∧ Lv σ n t k
theorem fr_mf {W : List Nat} {σ u : mz_St} {n : Nat} (h : mf W σ u) (hW : ∀ a, a ∈ pR → a ∉ W) (h2 : 27 ∉ W) (hA : frOK σ n) : frOK u n := fun b hb a => by
  rw [h 27 h2, Sm_Fr (Sm_mf h hW)]; exact hA b hb a
theorem mm_frontiersOf {K : Int32 → mz_St → Prop} {σ : mz_St} {n : Nat} {M : Int32} (hP : PN σ n) (hF : frOK σ n) (h : ∀ r, (∀ c, bt r c = true ↔ ∃ a, bt M a = true ∧ Fr σ n a c) → K r σ) : mw_Lives_frontiersOf K M σ := by
  have hn := hP.1
  unfold mw_Lives_frontiersOf
  refine lf2 (fun m r x u => ∃ j, x = nI j ∧ j ≤ n ∧ m = n - j ∧ u = σ ∧ ∀ c, bt r c = true ↔ ∃ a, a < j ∧ bt M a = true ∧ Fr σ n a c) ?_ n 0 0 σ ⟨0, rfl, by omega, rfl, rfl, fun c => ⟨fun z => (by rw [b_0] at z; cases z), fun ⟨a, ha, _⟩ => absurd ha (by omega)⟩⟩
  rintro m P4 r x u ⟨j, rfl, hj, rfl, rfl, hr⟩ hrec
  unfold mw_Lives_frontiersOf_4
  rw [hP.2.1]
  refine pk_le n j (fun hjn => h r (fun c => ?_)) (fun hjn => mm_isIn (by omega) (fun P35 hP35 => ?_))
  · rw [hr c]
    exact ⟨fun ⟨a, _, z⟩ => ⟨a, z⟩, fun ⟨a, z⟩ => ⟨a, by have := (Fr_lt z.2).1; omega, z⟩⟩
  have go : ∀ x2, (∀ c, bt x2 c = true ↔ ∃ a, a < j + 1 ∧ bt M a = true ∧ Fr u n a c) → P35 x2 u := by
    intro x2 hx
    apply hP35
    unfold mw_Lives_frontiersOf_35
    rw [nI_k1]
    exact hrec (n - (j + 1)) x2 _ u (by omega) ⟨j + 1, rfl, by omega, rfl, rfl, hx⟩
  refine bz_go (fun e => go _ (fun c => ?_)) (fun e => ⟨vp_in_nI (by omega) (by decide), go _ (fun c => ?_)⟩)
  · rw [hr c]
    constructor
    · rintro ⟨a, ha, z⟩; exact ⟨a, by omega, z⟩
    · rintro ⟨a, ha, z⟩
      by_cases haj : a = j
      · subst haj; rw [e] at z; cases z.1
      · exact ⟨a, by omega, z⟩
  · rw [b_or, Bool.or_eq_true, hr c, mz_rdn (by omega), hF j (by omega) c]
    constructor
    · rintro (⟨a, ha, z⟩ | z)
      · exact ⟨a, by omega, z⟩
      · exact ⟨j, by omega, e, z.2⟩
    · rintro ⟨a, ha, z⟩
      by_cases haj : a = j
      · subst haj; exact Or.inr ⟨(Fr_lt z.2).2.1, z.2⟩
      · exact Or.inl ⟨a, by omega, z⟩
theorem mm_placePhis {K : mz_St → Prop} {σ : mz_St} {n t : Nat} (hP : PN σ n) (ht : t < 10) (hA : aliveOK σ n) (hF : frOK σ n) (hW : writeOK σ n) (hL : liveOK σ n) (h : ∀ u, mf [32] σ u → (∀ k, k < n → ∀ q, bt (u 32 k) q = true ↔ bt (σ 32 k) q = true ∨ (q = t ∧ Mt σ n t k ∧ Lv σ n t k)) → K u) : mw_Lives_placePhis K (nI t) σ := by
  have hn := hP.1
  unfold mw_Lives_placePhis
  refine lf2 (fun m src x u => ∃ j, x = nI j ∧ j ≤ n ∧ m = n - j ∧ u = σ ∧ ∀ a, bt src a = true ↔ Al σ n a ∧ (a = 0 ∨ (a < j ∧ WrF σ a 0 t))) ?_ n _ 0 σ ⟨0, rfl, by omega, rfl, rfl, fun a => ?_⟩
  · rintro m P12 src x u ⟨j, rfl, hj, rfl, rfl, hs⟩ hrec
    unfold mw_Lives_placePhis_12
    rw [hP.2.1]
    refine pk_le n j (fun hjn => ?_) (fun hjn => mm_isIn (by omega) (fun P56 hP56 => ?_))
    · have hs2 : ∀ a, bt src a = true ↔ Src u n t a := by
        intro a
        rw [hs a]
        unfold Src
        refine and_congr_right fun ha => ?_
        have := ha.1
        exact ⟨fun z => z.imp id (fun z => z.2), fun z => z.imp id (fun z => ⟨by omega, z⟩)⟩
      refine lf2 (fun m meets x v => ∃ k, x = nI k ∧ k ≤ 10 ∧ m = 10 - k ∧ v = u ∧ (∀ b, bt meets b = true → Mt u n t b) ∧ ((∀ b, Mt u n t b → bt meets b = true) ∨ k ≤ cn (fun i => bt meets i) 10)) ?_ 10 0 0 u ⟨0, rfl, by omega, rfl, rfl, fun b z => (by rw [b_0] at z; cases z), Or.inr (Nat.zero_le _)⟩
      rintro m P67 meets x v ⟨k, rfl, hk, rfl, rfl, hsd, hg⟩ hrec2
      unfold mw_Lives_placePhis_67
      rw [ge10 (by omega)]
      refine ⟨fun h10 => ?_, fun h10 => mm_frontiersOf hP hF (fun r hr => ?_)⟩
      · have hmm : ∀ b, bt meets b = true ↔ Mt v n t b := by
          intro b
          refine ⟨hsd b, fun hb => ?_⟩
          rcases hg with hg | hg
          · exact hg b hb
          · have := (Mt_al hb).1
            exact cn_full (p := fun i => bt meets i) 10 (by omega) b (by omega)
        refine lf1 (fun m x w => ∃ i, x = nI i ∧ i ≤ n ∧ m = n - i ∧ mf [32] v w ∧ ∀ k, k < n → ∀ q, bt (w 32 k) q = true ↔ bt (v 32 k) q = true ∨ (k < i ∧ q = t ∧ Mt v n t k ∧ Lv v n t k)) ?_ n 0 v ⟨0, rfl, by omega, rfl, mf_rf, fun k hk q => ⟨fun z => Or.inl z, fun z => z.elim id (fun z => absurd z.1 (by omega))⟩⟩
        rintro m P93 x w ⟨i, rfl, hi, rfl, hw, hp⟩ hrec3
        have hSw : Sm v w := Sm_mf hw (by decide)
        unfold mw_Lives_placePhis_93
        rw [(hSw.pn hP).2.1]
        refine pk_le n i (fun hin => h w hw (fun k hk q => ?_)) (fun hin => mm_isIn (by omega) (fun P141 hP141 => ?_))
        · rw [hp k hk q]
          exact ⟨fun z => z.imp id (fun z => z.2), fun z => z.imp id (fun z => ⟨by omega, z⟩)⟩
        have go : ∀ y, mf [32] v y → (∀ k, k < n → ∀ q, bt (y 32 k) q = true ↔ bt (v 32 k) q = true ∨ (k < i + 1 ∧ q = t ∧ Mt v n t k ∧ Lv v n t k)) → P141 y := by
          intro y h1 h2
          apply hP141
          unfold mw_Lives_placePhis_141
          rw [nI_k1]
          exact hrec3 (n - (i + 1)) _ y (by omega) ⟨i + 1, rfl, by omega, rfl, h1, h2⟩
        have skip : ¬ (Mt v n t i ∧ Lv v n t i) → P141 w := by
          intro hno
          refine go w hw (fun k hk q => ?_)
          rw [hp k hk q]
          refine ⟨fun z => z.imp id (fun z => ⟨by omega, z.2⟩), fun z => z.imp id (fun z => ⟨?_, z.2⟩)⟩
          by_cases hki : k = i
          · subst hki; exact absurd z.2.2 hno
          · omega
        refine bz_go (fun e => skip (fun z => ?_)) (fun e => ⟨vp_in_nI (by omega) (by decide), ?_⟩)
        · rw [(hmm i).mpr z.1] at e; cases e
        rw [mz_rdn (by omega), hw 31 (by decide)]
        refine mm_isIn (by omega) (bz_go (fun e2 => skip (fun z => ?_)) (fun e2 => ⟨vp_in_nI (by omega) (by decide), vp_in_nI (by omega) (by decide), ?_⟩))
        · rw [(hL i (by omega) t).mpr ⟨ht, z.2⟩] at e2; cases e2
        · rw [mz_wrn (by omega), mz_rdn (by omega)]
          refine go _ (mf_tr hw (mf_up (by decide))) (fun k hk q => ?_)
          by_cases hki : k = i
          · subst hki
            rw [up_at, b_or, b_one (by omega), Bool.or_eq_true, decide_eq_true_eq, hp k hk q]
            constructor
            · rintro ((z | z) | z)
              · exact Or.inl z
              · exact Or.inr ⟨by omega, z.2⟩
              · exact Or.inr ⟨by omega, z, (hmm k).mp e, ((hL k hk t).mp e2).2⟩
            · rintro (z | z)
              · exact Or.inl (Or.inl z)
              · exact Or.inr z.2.1
          · rw [up_ot hki, hp k hk q]
            exact ⟨fun z => z.imp id (fun z => ⟨by omega, z.2⟩), fun z => z.imp id (fun z => ⟨by omega, z.2⟩)⟩
      · have hr2 : ∀ c, bt r c = true ↔ ∃ a, (Src v n t a ∨ bt meets a = true) ∧ Fr v n a c := by
          intro c
          rw [hr c]
          refine exists_congr fun a => ?_
          rw [b_or, Bool.or_eq_true, hs2 a]
        rw [nI_k1]
        refine hrec2 (10 - (k + 1)) _ _ v (by omega) ⟨k + 1, rfl, by omega, rfl, rfl, fun b hb => ?_, ?_⟩
        · rw [b_or, Bool.or_eq_true] at hb
          rcases hb with hb | hb
          · exact hsd b hb
          · obtain ⟨a, z1, z2⟩ := (hr2 b).mp hb
            exact Mt_s (z1.imp id (hsd a)) z2
        · rcases hg with hg | hg
          · left
            intro b hb
            rw [b_or, hg b hb]; rfl
          · by_cases hlt : k + 1 ≤ cn (fun i => bt (meets ||| r) i) 10
            · exact Or.inr hlt
            · left
              have hsub : ∀ i, bt meets i = true → bt (meets ||| r) i = true := fun i hi => by rw [b_or, hi]; rfl
              have heq := cn_eq (p := fun i => bt meets i) (q := fun i => bt (meets ||| r) i) hsub (m := 10) (by omega)
              intro b hb
              refine hb (fun b => bt (meets ||| r) b = true) (fun a c hac hFr => ?_)
              rw [b_or, Bool.or_eq_true]
              refine Or.inr ((hr2 c).mpr ⟨a, hac.imp id (fun z => heq a (by have := (Fr_lt hFr).1; omega) z), hFr⟩)
    · have go : ∀ x2, (∀ a, bt x2 a = true ↔ Al u n a ∧ (a = 0 ∨ (a < j + 1 ∧ WrF u a 0 t))) → P56 x2 u := by
        intro x2 hx
        apply hP56
        unfold mw_Lives_placePhis_56
        rw [nI_k1]
        exact hrec (n - (j + 1)) x2 _ u (by omega) ⟨j + 1, rfl, by omega, rfl, rfl, hx⟩
      have skip : ¬ (Al u n j ∧ WrF u j 0 t) → P56 src u := by
        intro hno
        refine go _ (fun a => ?_)
        rw [hs a]
        refine and_congr_right fun ha => ?_
        refine ⟨fun z => z.imp id (fun z => ⟨by omega, z.2⟩), fun z => z.imp id (fun z => ⟨?_, z.2⟩)⟩
        by_cases haj : a = j
        · subst haj; exact absurd ⟨ha, z.2⟩ hno
        · omega
      refine bz_go (fun e => skip (fun z => ?_)) (fun e => ⟨vp_in_nI (by omega) (by decide), ?_⟩)
      · rw [(hA j).mpr z.1] at e; cases e
      rw [mz_rdn (by omega)]
      refine mm_isIn (by omega) (bz_go (fun e2 => skip (fun z => ?_)) (fun e2 => go _ (fun a => ?_)))
      · rw [(hW j (by omega) t).mpr ⟨ht, z.2⟩] at e2; cases e2
      · rw [b_or, b_one (by omega), Bool.or_eq_true, decide_eq_true_eq, hs a]
        constructor
        · rintro (⟨z1, z2⟩ | rfl)
          · exact ⟨z1, z2.imp id (fun z => ⟨by omega, z.2⟩)⟩
          · exact ⟨(hA a).mp e, Or.inr ⟨by omega, ((hW a (by omega) t).mp e2).2⟩⟩
        · rintro ⟨z1, z2⟩
          by_cases haj : a = j
          · exact Or.inr haj
          · exact Or.inl ⟨z1, z2.imp id (fun z => ⟨by omega, z.2⟩)⟩
  · rw [b_and, b_1, Bool.and_eq_true, decide_eq_true_eq, hA a]
    exact ⟨fun z => ⟨z.1, Or.inl z.2⟩, fun z => ⟨z.1, z.2.elim id (fun z => absurd z.1 (by omega))⟩⟩
theorem live_mf {W : List Nat} {σ u : mz_St} {n : Nat} (h : mf W σ u) (hW : ∀ a, a ∈ pR → a ∉ W) (h2 : 31 ∉ W) (hA : liveOK σ n) : liveOK u n := fun b hb a => by
  rw [h 31 h2, Sm_Lv (Sm_mf h hW)]; exact hA b hb a
theorem write_mf {W : List Nat} {σ u : mz_St} {n : Nat} (h : mf W σ u) (hW : ∀ a, a ∈ pR → a ∉ W) (h2 : 30 ∉ W) (hA : writeOK σ n) : writeOK u n := fun b hb a => by
  rw [h 30 h2, Sm_WrF (Sm_mf h hW)]; exact hA b hb a
theorem mm_livesLookAt {K : mz_St → Prop} {σ : mz_St} {n : Nat} (hP : PN σ n) (hA : aliveOK σ n) (hF : frOK σ n) (h : ∀ u, mf [29, 30, 31, 32] σ u → readOK u n → writeOK u n → liveOK u n → phiOK u n → K u) : mw_Lives_lookAt K σ := by
  have hn := hP.1
  refine mm_livesLook hP (fun u hm hr hw hl h0 => ?_)
  have hSu : Sm σ u := Sm_mf hm (by decide)
  have hPu := hSu.pn hP
  have hAu := alive_mf hm (by decide) (by decide) hA
  have hFu := fr_mf hm (by decide) (by decide) hF
  refine lf1 (fun m x v => ∃ t, x = nI t ∧ t ≤ 10 ∧ m = 10 - t ∧ mf [32] u v ∧ ∀ k, k < n → ∀ q, bt (v 32 k) q = true ↔ q < t ∧ Mt u n q k ∧ Lv u n q k) ?_ 10 0 u ⟨0, rfl, by omega, rfl, mf_rf, fun k hk q => ?_⟩
  · rintro m P101 x v ⟨t, rfl, ht, rfl, hv, hp⟩ hrec
    have hSv : Sm u v := Sm_mf hv (by decide)
    unfold mw_Lives_lookAt_101
    rw [ge10 (by omega)]
    refine ⟨fun h10 => h v (mf_tr hm (mf_mono hv (by decide))) (fun b hb a => ?_) (write_mf hv (by decide) (by decide) hw) (live_mf hv (by decide) (by decide) hl) (fun k hk q => ?_), fun h10 => ?_⟩
    · rw [hv 29 (by decide), Sm_RdF hSv]; exact hr b hb a
    · rw [Sm_Mt hSv, Sm_Lv hSv, hp k hk q, show t = 10 by omega]
    · refine mm_placePhis (hSv.pn hPu) (by omega) (alive_mf hv (by decide) (by decide) hAu) (fr_mf hv (by decide) (by decide) hFu) (write_mf hv (by decide) (by decide) hw) (live_mf hv (by decide) (by decide) hl) (fun w hw2 hb => ?_)
      rw [nI_k1]
      refine hrec (10 - (t + 1)) _ w (by omega) ⟨t + 1, rfl, by omega, rfl, mf_tr hv hw2, fun k hk q => ?_⟩
      rw [hb k hk q, hp k hk q, Sm_Mt hSv, Sm_Lv hSv]
      constructor
      · rintro (⟨z1, z2⟩ | ⟨rfl, z2⟩)
        · exact ⟨by omega, z2⟩
        · exact ⟨by omega, z2⟩
      · rintro ⟨z1, z2⟩
        by_cases hqt : q = t
        · subst hqt; exact Or.inr ⟨rfl, z2⟩
        · exact Or.inl ⟨by omega, z2⟩
  · rw [h0 k hk, b_0]
    exact ⟨fun z => (by cases z), fun z => absurd z.1 (by omega)⟩

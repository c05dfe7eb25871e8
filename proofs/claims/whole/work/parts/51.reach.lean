/-! what a block reaches: the class's way and the reference's way find the same set -/
def gX (σ : mz_St) (n a b : Nat) : Prop := b < n ∧ gE σ a b
def nextOK (σ : mz_St) (n : Nat) : Prop := ∀ a, a < n → ∀ y, bt (σ 22 a) y = true ↔ gX σ n a y
theorem nI_k1 (k : Nat) : nI k + 1 = nI (k + 1) := nI_1 k
theorem ge10 {k : Nat} (hk : k < 2 ^ 31) : (10 : Int32) ≤ nI k ↔ 10 ≤ k := by
  rw [show (10 : Int32) = nI 10 from rfl, nI_leI (by omega) hk]
theorem mm_reachedFrom {K : Int32 → mz_St → Prop} {σ : mz_St} {n s : Nat} {B : Int32} (hP : PN σ n) (hN : nextOK σ n) (hs : s < n) (h : ∀ r, (∀ x, bt r x = true ↔ Rch n (gX σ n) (fun y => y = s) (fun y => bt B y = true) x) → K r σ) : mw_Flow_reachedFrom K (nI s) B σ := by
  have hn := hP.1
  have hc := hP.2.1
  have lt : ∀ x, Rch n (gX σ n) (fun y => y = s) (fun y => bt B y = true) x → x < n := fun x hx => Rch_lt (fun y e => by subst e; exact hs) (fun y z _ e => e.1) hx
  unfold mw_Flow_reachedFrom
  refine lf2 (fun m found round u => ∃ k, round = nI k ∧ k ≤ 10 ∧ m = 10 - k ∧ u = σ ∧ (∀ x, bt found x = true → Rch n (gX σ n) (fun y => y = s) (fun y => bt B y = true) x) ∧ (∀ x, x = s → ¬ bt B x = true → bt found x = true) ∧ ((∀ x, Rch n (gX σ n) (fun y => y = s) (fun y => bt B y = true) x → bt found x = true) ∨ k ≤ cn (fun i => bt found i) 10)) ?_ 10 _ 0 σ ⟨0, rfl, by omega, rfl, rfl, ?_, ?_, Or.inr (Nat.zero_le _)⟩
  · rintro m P11 found round u ⟨k, rfl, hk, rfl, rfl, hsound, hstart, hgood⟩ hrec
    unfold mw_Flow_reachedFrom_11
    rw [ge10 (by omega)]
    refine ⟨fun h10 => h found (fun x => ⟨hsound x, fun hx => ?_⟩), fun h10 => ?_⟩
    · rcases hgood with hg | hg
      · exact hg x hx
      · have := lt x hx
        exact cn_full (p := fun i => bt found i) 10 (by omega) x (by omega)
    refine lf2 (fun m more fr t => ∃ j, fr = nI j ∧ j ≤ n ∧ m = n - j ∧ t = u ∧ ∀ y, bt more y = true ↔ bt found y = true ∨ ∃ a, a < j ∧ bt found a = true ∧ gX u n a y ∧ ¬ bt B y = true) ?_ n found 0 u ⟨0, rfl, by omega, rfl, rfl, fun y => ⟨fun e => Or.inl e, fun e => e.elim id (fun ⟨a, ha, _⟩ => absurd ha (by omega))⟩⟩
    rintro m P24 more fr t ⟨j, rfl, hj, rfl, rfl, hmore⟩ hrec2
    unfold mw_Flow_reachedFrom_24
    rw [hc]
    refine pk_le n j (fun hjn => ?_) (fun hjn => ?_)
    · have ej : j = n := by omega
      subst ej
      have hsub : ∀ y, bt found y = true → bt more y = true := fun y e => (hmore y).mpr (Or.inl e)
      have hsm : ∀ x, bt more x = true → Rch j (gX t j) (fun y => y = s) (fun y => bt B y = true) x := by
        intro x hx
        rcases (hmore x).mp hx with e | ⟨a, ha, e1, e2, e3⟩
        · exact hsound x e
        · exact Rch_e ha (hsound a e1) e2 e3
      refine ⟨fun hne => ?_, fun he => ?_⟩
      · rw [nI_k1]
        refine hrec (10 - (k + 1)) more _ t (by omega) ⟨k + 1, rfl, by omega, rfl, rfl, hsm, fun x e1 e2 => hsub x (hstart x e1 e2), ?_⟩
        rcases hgood with hg | hg
        · exact Or.inl fun x hx => hsub x (hg x hx)
        · right
          have : ∃ i, bt more i = true ∧ bt found i = false := by
            apply Classical.byContradiction
            intro hno
            apply hne
            apply b_ext
            intro i _
            cases e1 : bt more i
            · cases e2 : bt found i
              · rfl
              · rw [hsub i e2] at e1; cases e1
            · cases e2 : bt found i
              · exact absurd ⟨i, e1, e2⟩ hno
              · rfl
          obtain ⟨i, e1, e2⟩ := this
          have hi := lt i (hsm i e1)
          have := cn_lt (p := fun i => bt found i) (q := fun i => bt more i) hsub e1 e2 10 (by omega)
          omega
      · refine h found (fun x => ⟨hsound x, fun hx => hx (fun y => bt found y = true) (fun y e1 e2 => hstart y e1 e2) (fun y z hy e1 e2 e3 => ?_)⟩)
        rw [← he]
        exact (hmore z).mpr (Or.inr ⟨y, hy, e1, e2, e3⟩)
    · refine mm_isIn (by omega) (fun P61 hP61 => ?_)
      have go : ∀ x5, (∀ y, bt x5 y = true ↔ bt found y = true ∨ ∃ a, a < j + 1 ∧ bt found a = true ∧ gX t n a y ∧ ¬ bt B y = true) → P61 x5 t := by
        intro x5 hx5
        apply hP61
        unfold mw_Flow_reachedFrom_61
        rw [nI_k1]
        exact hrec2 (n - (j + 1)) _ _ t (by omega) ⟨j + 1, rfl, by omega, rfl, rfl, hx5⟩
      refine bz_go (fun e => go _ (fun y => ?_)) (fun e => ⟨vp_in_nI (by omega) (by decide), go _ (fun y => ?_)⟩)
      · rw [hmore y]
        constructor
        · rintro (e1 | ⟨a, ha, e1⟩)
          · exact Or.inl e1
          · exact Or.inr ⟨a, by omega, e1⟩
        · rintro (e1 | ⟨a, ha, e1, e2⟩)
          · exact Or.inl e1
          · by_cases haj : a = j
            · subst haj; rw [e] at e1; cases e1
            · exact Or.inr ⟨a, by omega, e1, e2⟩
      · rw [b_or, b_wo, Bool.or_eq_true, Bool.and_eq_true, hmore y, mz_rdn (by omega), hN j (by omega) y]
        constructor
        · rintro ((e1 | ⟨a, ha, e1⟩) | ⟨e1, e2⟩)
          · exact Or.inl e1
          · exact Or.inr ⟨a, by omega, e1⟩
          · exact Or.inr ⟨j, by omega, e, e1, by simpa using e2⟩
        · rintro (e1 | ⟨a, ha, e1, e2, e3⟩)
          · exact Or.inl (Or.inl e1)
          · by_cases haj : a = j
            · subst haj; exact Or.inr ⟨e2, by simpa using e3⟩
            · exact Or.inl (Or.inr ⟨a, by omega, e1, e2, e3⟩)
  · intro x hx
    rw [b_wo, b_one (by omega), Bool.and_eq_true, decide_eq_true_eq] at hx
    exact Rch_s hx.1 (by simpa using hx.2)
  · intro x hx hb
    rw [b_wo, b_one (by omega), Bool.and_eq_true, decide_eq_true_eq]
    exact ⟨hx, by simpa using hb⟩
/-- the reference's way: from a set, without one block (or without none) -/
theorem mm_reach {K : Int32 → mz_St → Prop} {σ : mz_St} {n : Nat} {S w : Int32} {wb : Nat → Prop} (hP : PN σ n) (hw : (w < 0 ∧ ∀ y, ¬ wb y) ∨ ∃ j, j < 32 ∧ w = nI j ∧ ∀ y, wb y ↔ y = j) (hS : ∀ y, bt S y = true → y < n) (h : ∀ r, (∀ x, bt r x = true ↔ Rch n (gX σ n) (fun y => bt S y = true) wb x) → K r σ) : mw_Ref_reach K S w σ := by
  have hn := hP.1
  have hc := hP.2.2.1
  have lt : ∀ x, Rch n (gX σ n) (fun y => bt S y = true) wb x → x < n := fun x hx => Rch_lt hS (fun y z _ e => e.1) hx
  have hwy : ∀ y, y < n → (nI y = w ↔ wb y) := by
    intro y hy
    rcases hw with ⟨h1, h2⟩ | ⟨j, hj, rfl, h2⟩
    · exact ⟨fun e => absurd h1 (by rw [← e]; exact nI_pos (by omega)), fun e => absurd e (h2 y)⟩
    · rw [h2, nI_eq (by omega) (by omega)]
  unfold mw_Ref_reach
  intro P15 hP15
  have key : ∀ S', (∀ x, bt S' x = true ↔ bt S x = true ∧ ¬ wb x) → P15 S' σ := by
    intro S' hS'
    apply hP15
    unfold mw_Ref_reach_15
    refine lf2 (fun m all turn u => ∃ k, turn = nI k ∧ k ≤ 10 ∧ m = 10 - k ∧ u = σ ∧ (∀ x, bt all x = true → Rch n (gX σ n) (fun y => bt S y = true) wb x) ∧ (∀ x, bt S' x = true → bt all x = true) ∧ ((∀ x, Rch n (gX σ n) (fun y => bt S y = true) wb x → bt all x = true) ∨ k ≤ cn (fun i => bt all i) 10)) ?_ 10 S' 0 σ ⟨0, rfl, by omega, rfl, rfl, fun x hx => Rch_s ((hS' x).mp hx).1 ((hS' x).mp hx).2, fun x hx => hx, Or.inr (Nat.zero_le _)⟩
    rintro m P19 all turn u ⟨k, rfl, hk, rfl, rfl, hsound, hstart, hgood⟩ hrec
    unfold mw_Ref_reach_19
    rw [ge10 (by omega)]
    refine ⟨fun h10 => h all (fun x => ⟨hsound x, fun hx => ?_⟩), fun h10 => ?_⟩
    · rcases hgood with hg | hg
      · exact hg x hx
      · have := lt x hx
        exact cn_full (p := fun i => bt all i) 10 (by omega) x (by omega)
    -- a turn
    refine lf2 (fun m al fr t => ∃ j, fr = nI j ∧ j ≤ n ∧ m = n - j ∧ t = u ∧ (∀ x, bt al x = true → Rch n (gX u n) (fun y => bt S y = true) wb x) ∧ (∀ x, bt all x = true → bt al x = true) ∧ ∀ a y, a < j → bt all a = true → gX u n a y → ¬ wb y → bt al y = true) ?_ n all 0 u ⟨0, rfl, by omega, rfl, rfl, hsound, fun x hx => hx, fun a y ha => absurd ha (by omega)⟩
    rintro m P29 al fr t ⟨j, rfl, hj, rfl, rfl, hs2, hsub, hcl⟩ hrec2
    unfold mw_Ref_reach_29
    rw [hc]
    refine pk_le n j (fun hjn => ?_) (fun hjn => ?_)
    · have ej : j = n := by omega
      subst ej
      rw [nI_k1]
      refine hrec (10 - (k + 1)) al _ t (by omega) ⟨k + 1, rfl, by omega, rfl, rfl, hs2, fun x hx => hsub x (hstart x hx), ?_⟩
      rcases hgood with hg | hg
      · exact Or.inl fun x hx => hsub x (hg x hx)
      · by_cases hlt : k + 1 ≤ cn (fun i => bt al i) 10
        · exact Or.inr hlt
        · left
          have heq := cn_eq (p := fun i => bt all i) (q := fun i => bt al i) hsub (m := 10) (by omega)
          intro x hx
          refine hx (fun y => bt al y = true) (fun y e1 e2 => hsub y (hstart y ((hS' y).mpr ⟨e1, e2⟩))) (fun y z hy e1 e2 e3 => ?_)
          exact hcl y z hy (heq y (by omega) e1) e2 e3
    · -- one block's edges
      refine lf2 (fun m a2 to t2 => ∃ i, to = nI i ∧ i ≤ n ∧ m = n - i ∧ t2 = t ∧ (∀ x, bt a2 x = true → Rch n (gX t n) (fun y => bt S y = true) wb x) ∧ (∀ x, bt al x = true → bt a2 x = true) ∧ ∀ y, y < i → bt all j = true → gX t n j y → ¬ wb y → bt a2 y = true) ?_ n al 0 t ⟨0, rfl, by omega, rfl, rfl, hs2, fun x hx => hx, fun y hy => absurd hy (by omega)⟩
      rintro m P41 a2 to t2 ⟨i, rfl, hi, rfl, rfl, hs3, hsub3, hcl3⟩ hrec3
      unfold mw_Ref_reach_41
      intro P94 hP94
      have out : (bt all j = true → ∀ y, gX t2 n j y → ¬ wb y → bt a2 y = true) → P94 t2 := by
        intro hx
        apply hP94
        unfold mw_Ref_reach_94
        rw [nI_k1]
        refine hrec2 (n - (j + 1)) a2 _ t2 (by omega) ⟨j + 1, rfl, by omega, rfl, rfl, hs3, fun x hx => hsub3 x (hsub x hx), fun a y ha e1 e2 e3 => ?_⟩
        by_cases haj : a = j
        · subst haj; exact hx e1 y e2 e3
        · exact hsub3 y (hcl a y (by omega) e1 e2 e3)
      rw [hc]
      refine pk_le n i (fun hin => out (fun e1 y e2 e3 => hcl3 y (by have := e2.1; omega) e1 e2 e3)) (fun hin => ?_)
      rw [b_is1 a2 (show j < 32 by omega)]
      refine ⟨fun hb => out (fun e1 => absurd (hsub3 j (hsub j e1)) hb), fun hb => mm_hasEdge hP (by omega) ?_⟩
      have step : ∀ z, (∀ x, bt z x = true ↔ bt a2 x = true ∨ (x = i ∧ gX t2 n j i ∧ ¬ wb i)) → P41 z (nI i + 1) t2 := by
        intro z hz
        rw [nI_k1]
        refine hrec3 (n - (i + 1)) z _ t2 (by omega) ⟨i + 1, rfl, by omega, rfl, rfl, fun x hx => ?_, fun x hx => (hz x).mpr (Or.inl (hsub3 x hx)), fun y hy e1 e2 e3 => ?_⟩
        · rcases (hz x).mp hx with e | ⟨rfl, e2, e3⟩
          · exact hs3 x e
          · exact Rch_e (by omega) (hs3 j hb) e2 e3
        · by_cases hyi : y = i
          · subst hyi; exact (hz y).mpr (Or.inr ⟨rfl, e2, e3⟩)
          · exact (hz y).mpr (Or.inl (hcl3 y (by omega) e1 e2 e3))
      have step0 : (¬ (gX t2 n j i ∧ ¬ wb i)) → P41 (a2 ||| 0) (nI i + 1) t2 := by
        intro hno
        refine step _ (fun x => ?_)
        rw [b_or, b_0, Bool.or_false]
        exact ⟨fun e => Or.inl e, fun e => e.elim id (fun e => absurd e.2 hno)⟩
      refine ⟨fun g => ?_, fun g => ?_⟩
      · intro P86 hP86 P85 hP85
        refine ⟨fun e => absurd e (by decide), fun _ => ⟨fun e => ?_, fun e => ?_⟩⟩
        · exact hP85 _ _ (hP86 _ _ _ (step0 (fun z => z.2 ((hwy i (by omega)).mp e))))
        · refine hP86 _ _ _ (step _ (fun x => ?_))
          rw [b_or, b_one (by omega), Bool.or_eq_true, decide_eq_true_eq]
          exact ⟨fun z => z.elim Or.inl (fun z => Or.inr ⟨z, ⟨by omega, g⟩, fun q => e ((hwy i (by omega)).mpr q)⟩), fun z => z.elim Or.inl (fun z => Or.inr z.1)⟩
      · intro P86 hP86 P85 hP85
        exact ⟨fun _ => hP85 _ _ (hP86 _ _ _ (step0 (fun z => g z.1.2))), fun e => absurd rfl e⟩
  rcases hw with ⟨h1, h2⟩ | ⟨j, hj, rfl, h2⟩
  · have hn0 : ¬ (0 : Int32) ≤ w := by
      rw [Int32.lt_iff_toInt_lt] at h1
      rw [Int32.le_iff_toInt_le]
      omega
    exact ⟨fun e => absurd e hn0, fun _ => key S (fun x => ⟨fun e => ⟨e, h2 x⟩, fun e => e.1⟩)⟩
  · refine ⟨fun _ => key _ (fun x => ?_), fun e => absurd (nI_pos' (by omega)) e⟩
    rw [b_wo, b_one (by omega), Bool.and_eq_true, h2]
    simp

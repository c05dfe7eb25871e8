/-! alive blocks, dominance; the class's findEdges and findDominators, the reference's isAlive and dominates -/
noncomputable def tr (p : Prop) : Bool := @decide p (Classical.propDecidable p)
theorem tr_t {p : Prop} : tr p = true ↔ p := by unfold tr; exact @decide_eq_true_iff p (Classical.propDecidable p)
theorem tr_f {p : Prop} : tr p = false ↔ ¬ p := by unfold tr; exact @decide_eq_false_iff_not p (Classical.propDecidable p)
def Al (σ : mz_St) (n x : Nat) : Prop := x < n ∧ Rch n (gX σ n) (fun y => y = 0) (fun _ => False) x
def Dom (σ : mz_St) (n a b : Nat) : Prop := Al σ n b ∧ ¬ Rch n (gX σ n) (fun y => y = 0) (fun y => y = a) b
def pR : List Nat := [12, 13, 14, 15, 16, 17, 18, 19, 20, 1003, 60, 61, 62, 63, 64, 65, 1016]
/-- the same program -/
def Sm (σ u : mz_St) : Prop := ∀ a, a ∈ pR → u a = σ a
theorem Sm_mf {W : List Nat} {σ u : mz_St} (h : mf W σ u) (hW : ∀ a, a ∈ pR → a ∉ W) : Sm σ u := fun a ha => h a (hW a ha)
theorem Sm_rf {σ : mz_St} : Sm σ σ := fun _ _ => rfl
theorem Sm_tr {σ u v : mz_St} (h1 : Sm σ u) (h2 : Sm u v) : Sm σ v := fun a ha => (h2 a ha).trans (h1 a ha)
theorem Sm.pn {σ u : mz_St} {n : Nat} (h : Sm σ u) (hP : PN σ n) : PN u n := PN_congr h hP
theorem Sm_gX {σ u : mz_St} (h : Sm σ u) (n : Nat) : gX u n = gX σ n := by
  funext a b
  unfold gX gE
  rw [h 17 (by decide), h 19 (by decide), h 20 (by decide)]
theorem Sm_Al {σ u : mz_St} (h : Sm σ u) (n : Nat) : Al u n = Al σ n := by
  funext x
  unfold Al
  rw [Sm_gX h n]
theorem Sm_Dom {σ u : mz_St} (h : Sm σ u) (n : Nat) : Dom u n = Dom σ n := by
  funext a b
  unfold Dom
  rw [Sm_Al h n, Sm_gX h n]
def aliveOK (σ : mz_St) (n : Nat) : Prop := ∀ x, bt (σ 1004 0) x = true ↔ Al σ n x
def prevOK (σ : mz_St) (n : Nat) : Prop := ∀ b, b < n → ∀ a, bt (σ 23 b) a = true ↔ Al σ n a ∧ gX σ n a b
def domOK (σ : mz_St) (n : Nat) : Prop := ∀ b, b < n → ∀ a, bt (σ 25 b) a = true ↔ a < n ∧ Dom σ n a b
/-- the first j edges of a block -/
def fst (σ : mz_St) (j i y : Nat) : Prop := (1 ≤ j ∧ σ 19 i = nI y) ∨ (2 ≤ j ∧ σ 20 i = nI y)
theorem fst_all {σ : mz_St} {n i e y : Nat} (h : σ 17 i = nI e) (he : e ≤ 2) : gX σ n i y ↔ y < n ∧ fst σ e i y := by
  unfold gX gE fst
  rw [h, n2 he, Ne, n0 (by omega)]
  constructor
  · rintro ⟨h1, h2⟩
    refine ⟨h1, ?_⟩
    rcases h2 with ⟨a, b⟩ | ⟨a, b⟩
    · exact Or.inl ⟨by omega, b⟩
    · exact Or.inr ⟨by omega, b⟩
  · rintro ⟨h1, h2⟩
    refine ⟨h1, ?_⟩
    rcases h2 with ⟨a, b⟩ | ⟨a, b⟩
    · exact Or.inl ⟨by omega, b⟩
    · exact Or.inr ⟨by omega, b⟩
theorem fst_s {σ : mz_St} {i j y : Nat} (hj : j < 2) : fst σ (j + 1) i y ↔ fst σ j i y ∨ (if j = 0 then σ 19 i else σ 20 i) = nI y := by
  unfold fst
  have : j = 0 ∨ j = 1 := by omega
  rcases this with rfl | rfl <;> simp
/-- a told edge: its target is a block -/
theorem tg_lt {σ : mz_St} {n i : Nat} (hP : PN σ n) (hi : i < n) (j : Nat) : ∃ t, t < n ∧ (if j = 0 then σ 19 i else σ 20 i) = nI t := by
  have hn := hP.1
  obtain ⟨len, e, -, -, -, ⟨-, -, -, -, ⟨m1, q1, e1⟩, ⟨m2, q2, e2⟩, -⟩, -⟩ := hP.2.2.2 i (by omega)
  by_cases hj : j = 0
  · exact ⟨m1, by omega, by rw [if_pos hj]; exact e1⟩
  · exact ⟨m2, by omega, by rw [if_neg hj]; exact e2⟩
theorem PN_e {σ : mz_St} {n i : Nat} (hP : PN σ n) (hi : i < n) : ∃ e, e ≤ 2 ∧ σ 17 i = nI e := by
  have hn := hP.1
  obtain ⟨len, e, -, -, -, ⟨q1, -, q3, -⟩, -⟩ := hP.2.2.2 i (by omega)
  exact ⟨e, q3, q1⟩
theorem mm_findEdges {K : mz_St → Prop} {σ : mz_St} {n : Nat} (hP : PN σ n) (h : ∀ u, mf [22, 23, 1004] σ u → nextOK u n → aliveOK u n → prevOK u n → K u) : mw_Flow_findEdges K σ := by
  have hn := hP.1
  unfold mw_Flow_findEdges
  refine lf1 (fun m x u => ∃ i, x = nI i ∧ i ≤ n ∧ m = n - i ∧ mf [22] σ u ∧ ∀ a, a < i → ∀ y, bt (u 22 a) y = true ↔ gX σ n a y) ?_ n 0 σ ⟨0, rfl, by omega, rfl, mf_rf, fun a ha => absurd ha (by omega)⟩
  rintro m P2 x u ⟨i, rfl, hi, rfl, hm, hnx⟩ hrec
  have hSu : Sm σ u := Sm_mf hm (by decide)
  have hPu : PN u n := hSu.pn hP
  unfold mw_Flow_findEdges_2
  rw [hPu.2.1]
  refine pk_le n i (fun hin => ?_) (fun hin => ?_)
  · -- behind the first loop
    have ei : i = n := by omega
    subst ei
    have hN : nextOK u i := fun a ha y => by rw [Sm_gX hSu]; exact hnx a ha y
    intro P87 hP87
    have go : ∀ y0, (∀ x, bt y0 x = true ↔ Al σ i x) → P87 y0 u := by
      intro y0 hy0
      apply hP87
      unfold mw_Flow_findEdges_87
      have hw : mf [22, 23, 1004] σ (mz_fl (mz_up u 1004 0 y0) 23 10 0) := mf_tr (mf_tr (mf_mono hm (by decide)) (mf_up (by decide))) (mf_fl (by decide))
      refine lf1 (fun m x t => ∃ j, x = nI j ∧ j ≤ i ∧ m = i - j ∧ mf [22, 23, 1004] σ t ∧ t 22 = u 22 ∧ t 1004 0 = y0 ∧ ∀ b, b < i → ∀ a, bt (t 23 b) a = true ↔ a < j ∧ Al σ i a ∧ gX σ i a b) ?_ i 0 _ ⟨0, rfl, by omega, rfl, hw, by rw [fl_row (by decide), up_row (by decide)], by rw [fl_row (by decide), up_at], fun b hb a => ?_⟩
      · rintro m P100 x t ⟨j, rfl, hj, rfl, ht, t22, t04, tp⟩ hrec2
        have hSt : Sm σ t := Sm_mf ht (by decide)
        have hPt : PN t i := hSt.pn hP
        unfold mw_Flow_findEdges_100
        rw [hPt.2.1]
        refine pk_le i j (fun hij => h t ht (fun a ha y => ?_) (fun x => ?_) (fun b hb a => ?_)) (fun hij => ?_)
        · rw [Sm_gX hSt, t22]; exact hnx a ha y
        · rw [Sm_Al hSt, t04]; exact hy0 x
        · rw [Sm_Al hSt, Sm_gX hSt, tp b hb a]
          exact ⟨fun z => z.2, fun z => ⟨by have := z.1.1; omega, z⟩⟩
        · obtain ⟨e, he, hee⟩ := PN_e hPt (show j < i by omega)
          refine lf1 (fun m x v => ∃ d, x = nI d ∧ d ≤ e ∧ m = e - d ∧ mf [22, 23, 1004] σ v ∧ v 22 = u 22 ∧ v 1004 0 = y0 ∧ (1 ≤ d → Al σ i j) ∧ ∀ b, b < i → ∀ a, bt (v 23 b) a = true ↔ (a < j ∧ Al σ i a ∧ gX σ i a b) ∨ (a = j ∧ Al σ i j ∧ fst σ d j b)) ?_ e 0 t ⟨0, rfl, by omega, rfl, ht, t22, t04, fun z => absurd z (by omega), fun b hb a => ?_⟩
          · rintro m P113 x v ⟨d, rfl, hd, rfl, hv, v22, v04, v1, vp⟩ hrec3
            have hSv : Sm σ v := Sm_mf hv (by decide)
            have hPv : PN v i := hSv.pn hP
            have hev : v 17 j = nI e := by rw [hSv 17 (by decide), ← hSt 17 (by decide)]; exact hee
            unfold mw_Flow_findEdges_113
            refine mm_edges hPv (by omega) (fun P162 hP162 => ?_)
            rw [hev]
            have out : (∀ b, b < i → ∀ a, bt (v 23 b) a = true ↔ a < j + 1 ∧ Al σ i a ∧ gX σ i a b) → P162 v := by
              intro hx
              apply hP162
              unfold mw_Flow_findEdges_162
              rw [nI_k1]
              exact hrec2 (i - (j + 1)) _ v (by omega) ⟨j + 1, rfl, by omega, rfl, hv, v22, v04, hx⟩
            have hes : σ 17 j = nI e := by rw [← hSv 17 (by decide)]; exact hev
            refine pk_le e d (fun hed => out (fun b hb a => ?_)) (fun hed => ?_)
            · have : d = e := by omega
              subst this
              rw [vp b hb a]
              constructor
              · rintro (⟨z1, z2⟩ | ⟨rfl, z2, z3⟩)
                · exact ⟨by omega, z2⟩
                · exact ⟨by omega, z2, (fst_all hes he).mpr ⟨hb, z3⟩⟩
              · rintro ⟨z1, z2, z3⟩
                by_cases haj : a = j
                · subst haj
                  exact Or.inr ⟨rfl, z2, ((fst_all hes he).mp z3).2⟩
                · exact Or.inl ⟨by omega, z2, z3⟩
            · rw [v04]
              refine mm_isIn (by omega) (bz_go (fun ha => out (fun b hb a => ?_)) (fun ha => ?_))
              · have hna : ¬ Al σ i j := fun z => by rw [(hy0 j).mpr z] at ha; cases ha
                rw [vp b hb a]
                constructor
                · rintro (⟨z1, z2⟩ | ⟨rfl, z2, z3⟩)
                  · exact ⟨by omega, z2⟩
                  · exact absurd z2 hna
                · rintro ⟨z1, z2, z3⟩
                  by_cases haj : a = j
                  · subst haj; exact absurd z2 hna
                  · exact Or.inl ⟨by omega, z2, z3⟩
              · have hal : Al σ i j := (hy0 j).mp ha
                refine mm_target (by omega) (by omega) ?_
                obtain ⟨t0, ht0, et0⟩ := tg_lt hPv (show j < i by omega) d
                rw [et0, nI_k1, mz_wrn (by omega), mz_rdn (by omega)]
                refine ⟨vp_in_nI (by omega) (by decide), vp_in_nI (by omega) (by decide), ?_⟩
                refine hrec3 (e - (d + 1)) _ _ (by omega) ⟨d + 1, rfl, by omega, rfl, mf_tr hv (mf_up (by decide)), by rw [up_row (by decide)]; exact v22, by rw [up_row (by decide)]; exact v04, fun _ => hal, fun b hb a => ?_⟩
                have es : (if d = 0 then σ 19 j else σ 20 j) = nI t0 := by rw [← hSv 19 (by decide), ← hSv 20 (by decide)]; exact et0
                rw [fst_s (by omega), es]
                by_cases hbt : b = t0
                · subst hbt
                  rw [up_at, b_or, b_one (by omega), Bool.or_eq_true, decide_eq_true_eq, vp b hb a]
                  constructor
                  · rintro ((z | z) | z)
                    · exact Or.inl z
                    · exact Or.inr ⟨z.1, z.2.1, Or.inl z.2.2⟩
                    · exact Or.inr ⟨z, hal, Or.inr rfl⟩
                  · rintro (z | ⟨z1, z2, z3⟩)
                    · exact Or.inl (Or.inl z)
                    · exact Or.inr z1
                · rw [up_ot hbt, vp b hb a]
                  have hne : ¬ nI t0 = nI b := by rw [nI_eq (by omega) (by omega)]; omega
                  constructor
                  · rintro (z | z)
                    · exact Or.inl z
                    · exact Or.inr ⟨z.1, z.2.1, Or.inl z.2.2⟩
                  · rintro (z | ⟨z1, z2, z3⟩)
                    · exact Or.inl z
                    · exact Or.inr ⟨z1, z2, z3.resolve_right hne⟩
          · rw [tp b hb a]
            constructor
            · exact fun z => Or.inl z
            · rintro (z | ⟨-, -, z⟩)
              · exact z
              · unfold fst at z; rcases z with ⟨z, -⟩ | ⟨z, -⟩ <;> omega
      · rw [fl_at (by omega), b_0]
        constructor
        · intro z; cases z
        · rintro ⟨z, -⟩; omega
    refine ⟨fun h0 => ?_, fun h0 => go 0 (fun x => ?_)⟩
    · have hi0 : 0 < i := by
        rcases Nat.eq_zero_or_pos i with z | z
        · exact absurd (by rw [z]; rfl) h0
        · exact z
      refine mm_reachedFrom (s := 0) hPu hN hi0 (fun r hr => go r (fun x => ?_))
      rw [hr x, Sm_gX hSu]
      unfold Al
      constructor
      · intro z
        have z2 : Rch i (gX σ i) (fun y => y = 0) (fun _ => False) x := Rch_mono z (fun _ e => e) (fun y e => by cases e)
        exact ⟨Rch_lt (fun y e => by subst e; exact hi0) (fun y z _ e => e.1) z2, z2⟩
      · rintro ⟨-, z⟩
        exact Rch_mono z (fun _ e => e) (fun y e => by rw [b_0] at e; cases e)
    · rw [n0 (by omega)] at h0
      rw [b_0]
      constructor
      · intro z; cases z
      · rintro ⟨z, -⟩; omega
  · -- a block's edges
    obtain ⟨e, he, hee⟩ := PN_e hPu (show i < n by omega)
    refine ⟨vp_in_nI (by omega) (by decide), ?_⟩
    rw [mz_wrn (by omega)]
    refine lf1 (fun m x v => ∃ d, x = nI d ∧ d ≤ e ∧ m = e - d ∧ mf [22] σ v ∧ (∀ a, a ≠ i → v 22 a = u 22 a) ∧ ∀ y, bt (v 22 i) y = true ↔ y < n ∧ fst σ d i y) ?_ e 0 _ ⟨0, rfl, by omega, rfl, mf_tr hm (mf_up (by decide)), fun a ha => up_ot ha, fun y => ?_⟩
    · rintro m P22 x v ⟨d, rfl, hd, rfl, hv, vo, vi⟩ hrec2
      have hSv : Sm σ v := Sm_mf hv (by decide)
      have hPv : PN v n := hSv.pn hP
      have hev : v 17 i = nI e := by rw [hSv 17 (by decide), ← hSu 17 (by decide)]; exact hee
      have hes : σ 17 i = nI e := by rw [← hSv 17 (by decide)]; exact hev
      unfold mw_Flow_findEdges_22
      refine mm_edges hPv (by omega) ?_
      rw [hev]
      refine pk_le e d (fun hed => ?_) (fun hed => ⟨vp_in_nI (by omega) (by decide), mm_target (by omega) (by omega) ⟨vp_in_nI (by omega) (by decide), ?_⟩⟩)
      · have : d = e := by omega
        subst this
        rw [nI_k1]
        refine hrec (n - (i + 1)) _ v (by omega) ⟨i + 1, rfl, by omega, rfl, hv, fun a ha y => ?_⟩
        by_cases hai : a = i
        · subst hai
          rw [vi y, fst_all hes he]
        · rw [vo a hai]
          exact hnx a (by omega) y
      · obtain ⟨t0, ht0, et0⟩ := tg_lt hPv (show i < n by omega) d
        have es : (if d = 0 then σ 19 i else σ 20 i) = nI t0 := by rw [← hSv 19 (by decide), ← hSv 20 (by decide)]; exact et0
        rw [et0, nI_k1, mz_wrn (by omega), mz_rdn (by omega)]
        refine hrec2 (e - (d + 1)) _ _ (by omega) ⟨d + 1, rfl, by omega, rfl, mf_tr hv (mf_up (by decide)), fun a ha => by rw [up_ot ha]; exact vo a ha, fun y => ?_⟩
        rw [up_at, b_or, b_one (by omega), Bool.or_eq_true, decide_eq_true_eq, vi y, fst_s (by omega), es]
        constructor
        · rintro (⟨z1, z2⟩ | rfl)
          · exact ⟨z1, Or.inl z2⟩
          · exact ⟨ht0, Or.inr rfl⟩
        · rintro ⟨z1, z2 | z2⟩
          · exact Or.inl ⟨z1, z2⟩
          · right
            rw [nI_eq (by omega) (by omega)] at z2
            exact z2.symm
    · rw [up_at, b_0]
      constructor
      · intro z; cases z
      · rintro ⟨-, z⟩
        unfold fst at z; rcases z with ⟨z, -⟩ | ⟨z, -⟩ <;> omega

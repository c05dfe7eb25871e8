/-! loops: how many a block lies in, on both sides -/
def Tl (σ : mz_St) (n h t : Nat) : Prop := gX σ n t h ∧ Dom σ n h t
def InL (σ : mz_St) (n k h : Nat) : Prop := (∃ t, Tl σ n h t) ∧ (k = h ∨ ∃ t, Tl σ n h t ∧ Rch n (gX σ n) (fun y => y = k) (fun y => y = h) t)
theorem Sm_InL {σ u : mz_St} (h : Sm σ u) (n : Nat) : InL u n = InL σ n := by
  funext a b; unfold InL Tl; rw [Sm_Dom h n, Sm_gX h n]
noncomputable def dep (σ : mz_St) (n k i : Nat) : Nat := cn (fun h => tr (InL σ n k h)) i
theorem Sm_dep {σ u : mz_St} (h : Sm σ u) (n : Nat) : dep u n = dep σ n := by
  funext a b; unfold dep; rw [Sm_InL h n]
def depOK (σ : mz_St) (n : Nat) : Prop := ∀ b, b < n → Al σ n b → σ 28 b = nI (dep σ n b n)
theorem dep_le (σ : mz_St) (n k i : Nat) : dep σ n k i ≤ i := cn_le _ i
theorem mm_countLoop {K : mz_St → Prop} {σ : mz_St} {n i : Nat} (hP : PN σ n) (hi : i < n) (hN : nextOK σ n) (hA : aliveOK σ n) (hD : domOK σ n) (hd : ∀ b, b < n → Al σ n b → σ 28 b = nI (dep σ n b i)) (h : ∀ u, mf [28] σ u → (∀ b, b < n → Al σ n b → u 28 b = nI (dep σ n b (i + 1))) → K u) : mw_Flow_countLoop K (nI i) σ := by
  have hn := hP.1
  unfold mw_Flow_countLoop
  refine lf2 (fun m tails x u => ∃ j, x = nI j ∧ j ≤ n ∧ m = n - j ∧ u = σ ∧ ∀ t, bt tails t = true ↔ t < j ∧ Tl σ n i t) ?_ n 0 0 σ ⟨0, rfl, by omega, rfl, rfl, fun t => ⟨fun e => (by rw [b_0] at e; cases e), fun e => absurd e.1 (by omega)⟩⟩
  rintro m P4 tails x u ⟨j, rfl, hj, rfl, rfl, ht⟩ hrec
  unfold mw_Flow_countLoop_4
  rw [hP.2.1]
  refine pk_le n j (fun hjn => ?_) (fun hjn => mm_cDom hP hD hi (by omega) (fun P43 hP43 => ?_))
  · have ej : j = n := by omega
    subst ej
    have hT : (∃ t, Tl u j i t) ↔ ¬ tails = 0 := by
      rw [b_zero]
      constructor
      · rintro ⟨t, z⟩ hz
        have hlt := z.2.1.1
        have := hz t (by omega)
        rw [(ht t).mpr ⟨hlt, z⟩] at this
        cases this
      · intro hz
        apply Classical.byContradiction
        intro hno
        apply hz
        intro t _
        cases e : bt tails t
        · rfl
        · exact absurd ⟨t, ((ht t).mp e).2⟩ hno
    refine ⟨fun hne => ?_, fun he => h u mf_rf (fun b hb hab => ?_)⟩
    · -- the loop has tails
      refine lf1 (fun m x v => ∃ c, x = nI c ∧ c ≤ j ∧ m = j - c ∧ mf [28] u v ∧ (∀ b, b < j → Al u j b → v 28 b = nI (if b < c then dep u j b (i + 1) else dep u j b i))) ?_ j 0 u ⟨0, rfl, by omega, rfl, mf_rf, fun b hb hab => by rw [if_neg (by omega)]; exact hd b hb hab⟩
      rintro m P56 x v ⟨c, rfl, hc, rfl, hv, vd⟩ hrec2
      have hSv : Sm u v := Sm_mf hv (by decide)
      have hPv := hSv.pn hP
      have hin : vp_in (nI c) 10 ∨ True := Or.inr trivial
      unfold mw_Flow_countLoop_56
      rw [hPv.2.1]
      refine pk_le j c (fun hjc => h v hv (fun b hb hab => by rw [vd b hb hab, if_pos (by omega)])) (fun hjc => ?_)
      refine mm_reachedFrom hPv (next_mf hv (by decide) (by decide) hN) (by omega) (fun r hr => fun P85 hP85 => ?_)
      have hr2 : ∀ x, bt r x = true ↔ Rch j (gX u j) (fun y => y = c) (fun y => y = i) x := by
        intro x
        rw [hr x, Sm_gX hSv, Rch_bar (fun y => by rw [b_one (by omega), decide_eq_true_eq])]
      have hrt : ¬ (r &&& tails) = 0 ↔ ∃ t, Tl u j i t ∧ Rch j (gX u j) (fun y => y = c) (fun y => y = i) t := by
        rw [b_zero]
        constructor
        · intro hz
          apply Classical.byContradiction
          intro hno
          apply hz
          intro t _
          rw [b_and]
          cases e1 : bt r t
          · rfl
          · cases e2 : bt tails t
            · rfl
            · exact absurd ⟨t, ((ht t).mp e2).2, (hr2 t).mp e1⟩ hno
        · rintro ⟨t, z, z2⟩ hz
          have hlt := z.2.1.1
          have := hz t (by omega)
          rw [b_and, (ht t).mpr ⟨hlt, z⟩, (hr2 t).mpr z2] at this
          cases this
      have body : ∀ B : Bool, (B = true ↔ ∃ t, Tl u j i t ∧ Rch j (gX u j) (fun y => y = c) (fun y => y = i) t) → P85 (bz B) v := by
        intro B hB
        apply hP85
        unfold mw_Flow_countLoop_85
        have hAv := alive_mf hv (by decide) (by decide) hA
        have hinl : InL u j c i ↔ c = i ∨ B = true := by
          unfold InL
          rw [hT, hB]
          exact ⟨fun z => z.2, fun z => ⟨hne, z⟩⟩
        refine mm_isIn (by omega) (fun P118 hP118 => ?_)
        have go : ∀ t, mf [28] u t → (∀ b, b < j → Al u j b → t 28 b = nI (if b < c + 1 then dep u j b (i + 1) else dep u j b i)) → P118 t := by
          intro t h1 h2
          apply hP118
          unfold mw_Flow_countLoop_118
          rw [nI_k1]
          exact hrec2 (j - (c + 1)) _ t (by omega) ⟨c + 1, rfl, by omega, rfl, h1, h2⟩
        have skip : (Al u j c → ¬ InL u j c i) → P118 v := by
          intro hno
          refine go v hv (fun b hb hab => ?_)
          rw [vd b hb hab]
          by_cases hbc : b = c
          · subst hbc
            rw [if_neg (by omega), if_pos (by omega)]
            have e9 : dep u j b (i + 1) = dep u j b i + (if tr (InL u j b i) = true then 1 else 0) := rfl
            rw [e9, if_neg (by rw [tr_f.mpr (hno hab)]; decide), Nat.add_zero]
          · by_cases hlt : b < c
            · rw [if_pos hlt, if_pos (by omega)]
            · rw [if_neg hlt, if_neg (by omega)]
        refine bz_go (fun e => skip (fun z => ?_)) (fun e => fun P108 hP108 => ?_)
        · have := (hAv c).mpr (by rw [Sm_Al hSv]; exact z)
          rw [this] at e; cases e
        have hac : Al u j c := by have := (hAv c).mp e; rw [Sm_Al hSv] at this; exact this
        have yes : InL u j c i → P108 v := by
          intro hI
          apply hP108
          unfold mw_Flow_countLoop_108
          refine ⟨vp_in_nI (by omega) (by decide), vp_in_nI (by omega) (by decide), ?_⟩
          rw [mz_wrn (by omega), mz_rdn (by omega)]
          refine go _ (mf_tr hv (mf_up (by decide))) (fun b hb hab => ?_)
          by_cases hbc : b = c
          · subst hbc
            rw [up_at, vd b hb hab, if_neg (by omega), if_pos (by omega), nI_k1]
            have : dep u j b (i + 1) = dep u j b i + 1 := by
              unfold dep
              rw [show cn (fun h => tr (InL u j b h)) (i + 1) = cn (fun h => tr (InL u j b h)) i + (if tr (InL u j b i) = true then 1 else 0) from rfl, if_pos (tr_t.mpr hI)]
            rw [this]
          · rw [up_ot hbc, vd b hb hab]
            by_cases hlt : b < c
            · rw [if_pos hlt, if_pos (by omega)]
            · rw [if_neg hlt, if_neg (by omega)]
        rw [nI_eq (by omega) (by omega)]
        refine ⟨fun e2 => yes (hinl.mpr (Or.inl e2)), fun e2 => bz_go (fun e3 => skip (fun _ z => ?_)) (fun e3 => yes (hinl.mpr (Or.inr e3)))⟩
        rcases hinl.mp z with z | z
        · exact e2 z
        · rw [z] at e3; cases e3
      refine ⟨fun e => body false ?_, fun e => body true ?_⟩
      · rw [← hrt]; simp [e]
      · rw [← hrt]; simp [e]
    · have hno : ¬ ∃ t, Tl u j i t := fun z => (hT.mp z) he
      rw [hd b hb hab]
      unfold dep
      rw [show cn (fun h => tr (InL u j b h)) (i + 1) = cn (fun h => tr (InL u j b h)) i + (if tr (InL u j b i) = true then 1 else 0) from rfl, if_neg (by rw [tr_f.mpr (fun z => hno z.1)]; decide)]
      rfl
  · have go : ∀ x2, (∀ t, bt x2 t = true ↔ t < j + 1 ∧ Tl u n i t) → P43 x2 u := by
      intro x2 hx
      apply hP43
      unfold mw_Flow_countLoop_43
      rw [nI_k1]
      exact hrec (n - (j + 1)) x2 _ u (by omega) ⟨j + 1, rfl, by omega, rfl, rfl, hx⟩
    have skip : ¬ Tl u n i j → P43 tails u := by
      intro hno
      refine go _ (fun t => ?_)
      rw [ht t]
      refine ⟨fun z => ⟨by omega, z.2⟩, fun z => ⟨?_, z.2⟩⟩
      by_cases htj : t = j
      · subst htj; exact absurd z.2 hno
      · omega
    refine bz_go (fun e => skip (fun z => (tr_f.mp e) z.2)) (fun e => ⟨vp_in_nI (by omega) (by decide), ?_⟩)
    rw [mz_rdn (by omega)]
    refine mm_isIn (by omega) (bz_go (fun e2 => skip (fun z => ?_)) (fun e2 => go _ (fun t => ?_)))
    · rw [(hN j (by omega) i).mpr z.1] at e2; cases e2
    · rw [b_or, b_one (by omega), Bool.or_eq_true, decide_eq_true_eq, ht t]
      constructor
      · rintro (z | rfl)
        · exact ⟨by omega, z.2⟩
        · exact ⟨by omega, (hN t (by omega) i).mp e2, tr_t.mp e⟩
      · rintro ⟨z, z2⟩
        by_cases htj : t = j
        · exact Or.inr htj
        · exact Or.inl ⟨by omega, z2⟩
/-! the reference -/
theorem mm_rInL {K : Int32 → mz_St → Prop} {σ : mz_St} {n k i : Nat} (hP : PN σ n) (hk : k < n) (hi : i < n) (h : K (bz (tr (InL σ n k i))) σ) : mw_Ref_isInLoop K (nI k) (nI i) σ := by
  have hn := hP.1
  unfold mw_Ref_isInLoop
  refine lf2 (fun m tails x u => ∃ j, x = nI j ∧ j ≤ n ∧ m = n - j ∧ u = σ ∧ ∀ t, bt tails t = true ↔ t < j ∧ Tl σ n i t) ?_ n 0 0 σ ⟨0, rfl, by omega, rfl, rfl, fun t => ⟨fun e => (by rw [b_0] at e; cases e), fun e => absurd e.1 (by omega)⟩⟩
  rintro m P5 tails x u ⟨j, rfl, hj, rfl, rfl, ht⟩ hrec
  unfold mw_Ref_isInLoop_5
  rw [hP.2.2.1]
  refine pk_le n j (fun hjn => ?_) (fun hjn => mm_hasEdge hP (by omega) ?_)
  · have ej : j = n := by omega
    subst ej
    have hT : (∃ t, Tl u j i t) ↔ ¬ tails = 0 := by
      rw [b_zero]
      constructor
      · rintro ⟨t, z⟩ hz
        have hlt := z.2.1.1
        have := hz t (by omega)
        rw [(ht t).mpr ⟨hlt, z⟩] at this
        cases this
      · intro hz
        apply Classical.byContradiction
        intro hno
        apply hz
        intro t _
        cases e : bt tails t
        · rfl
        · exact absurd ⟨t, ((ht t).mp e).2⟩ hno
    have no : ¬ InL u j k i → K 0 u := fun z => by rw [tr_f.mpr z] at h; exact h
    refine ⟨fun e => no (fun z => (hT.mp z.1) e), fun e => fun P73 hP73 => ?_⟩
    have yes : InL u j k i → P73 u := fun z => hP73 _ (by unfold mw_Ref_isInLoop_73; rw [tr_t.mpr z] at h; exact h)
    rw [nI_eq (by omega) (by omega)]
    refine ⟨fun e2 => yes ⟨hT.mpr e, Or.inl e2⟩, fun e2 => mm_reach (wb := fun q => q = i) hP (Or.inr ⟨i, by omega, rfl, fun _ => Iff.rfl⟩) (fun y hy => ?_) (fun r hr => ?_)⟩
    · rw [b_one (by omega), decide_eq_true_eq] at hy; omega
    · have hr2 : ∀ x, bt r x = true ↔ Rch j (gX u j) (fun y => y = k) (fun y => y = i) x := by
        intro x
        rw [hr x]
        constructor
        · intro z; exact Rch_mono z (fun y e => by rw [b_one (by omega), decide_eq_true_eq] at e; exact e) (fun _ e => e)
        · intro z; exact Rch_mono z (fun y e => by rw [b_one (by omega), decide_eq_true_eq]; exact e) (fun _ e => e)
      have hrt : ¬ (r &&& tails) = 0 ↔ ∃ t, Tl u j i t ∧ Rch j (gX u j) (fun y => y = k) (fun y => y = i) t := by
        rw [b_zero]
        constructor
        · intro hz
          apply Classical.byContradiction
          intro hno
          apply hz
          intro t _
          rw [b_and]
          cases e1 : bt r t
          · rfl
          · cases e2 : bt tails t
            · rfl
            · exact absurd ⟨t, ((ht t).mp e2).2, (hr2 t).mp e1⟩ hno
        · rintro ⟨t, z, z2⟩ hz
          have hlt := z.2.1.1
          have := hz t (by omega)
          rw [b_and, (ht t).mpr ⟨hlt, z⟩, (hr2 t).mpr z2] at this
          cases this
      refine ⟨fun e3 => no (fun z => ?_), fun e3 => yes ⟨hT.mpr e, Or.inr (hrt.mp e3)⟩⟩
      rcases z.2 with z2 | z2
      · exact e2 z2
      · exact (hrt.mpr z2) e3
  · have go : ∀ x2, (∀ t, bt x2 t = true ↔ t < j + 1 ∧ Tl u n i t) → P5 x2 (nI j + 1) u := by
      intro x2 hx
      rw [nI_k1]
      exact hrec (n - (j + 1)) x2 _ u (by omega) ⟨j + 1, rfl, by omega, rfl, rfl, hx⟩
    have skip : ¬ Tl u n i j → P5 (tails ||| 0) (nI j + 1) u := by
      intro hno
      refine go _ (fun t => ?_)
      rw [b_or, b_0, Bool.or_false, ht t]
      refine ⟨fun z => ⟨by omega, z.2⟩, fun z => ⟨?_, z.2⟩⟩
      by_cases htj : t = j
      · subst htj; exact absurd z.2 hno
      · omega
    refine ⟨fun g => fun P43 hP43 P42 hP42 => ⟨fun z => absurd z (by decide), fun _ => mm_rDom hP (bz_go (fun e => hP42 _ _ (hP43 _ _ _ (skip (fun z => ?_)))) (fun e => hP43 _ _ _ (go _ (fun t => ?_))))⟩, fun g => fun P43 hP43 P42 hP42 => ⟨fun _ => hP42 _ _ (hP43 _ _ _ (skip (fun z => g z.1.2))), fun z => absurd rfl z⟩⟩
    · rw [tr_f, DomI_nI hn (by omega) (by omega)] at e
      exact e z.2
    · rw [tr_t, DomI_nI hn (by omega) (by omega)] at e
      rw [b_or, b_one (by omega), Bool.or_eq_true, decide_eq_true_eq, ht t]
      constructor
      · rintro (z | rfl)
        · exact ⟨by omega, z.2⟩
        · exact ⟨by omega, ⟨hi, g⟩, e⟩
      · rintro ⟨z, z2⟩
        by_cases htj : t = j
        · exact Or.inr htj
        · exact Or.inl ⟨by omega, z2⟩
def depR (σ : mz_St) (n : Nat) (x r : Int32) : Prop := (∃ b, Al σ n b ∧ x = nI b ∧ r = nI (dep σ n b n)) ∨ (¬ AlI σ n x ∧ r = -1)
theorem depR_u {σ : mz_St} {n : Nat} {x r r' : Int32} (hn : n ≤ 10) (h : depR σ n x r) (h' : depR σ n x r') : r = r' := by
  rcases h with ⟨b, hb, e, hv⟩ | ⟨h1, h2⟩ <;> rcases h' with ⟨b', hb', e', hv'⟩ | ⟨h1', h2'⟩
  · have := hb.1
    have := hb'.1
    rw [e, nI_eq (by omega) (by omega)] at e'
    subst e'
    rw [hv, hv']
  · exact absurd ⟨b, hb.1, e, hb⟩ h1'
  · exact absurd ⟨b', hb'.1, e', hb'⟩ h1
  · rw [h2, h2']
theorem mm_rDep {K : Int32 → mz_St → Prop} {σ : mz_St} {n : Nat} {x : Int32} (hP : PN σ n) (h : ∀ r, depR σ n x r → K r σ) : mw_Ref_depth K x σ := by
  have hn := hP.1
  unfold mw_Ref_depth
  refine mm_rAlive hP (bz_og (fun e => ?_) (fun e => h _ (Or.inr ⟨tr_f.mp e, rfl⟩)))
  rw [tr_t] at e
  obtain ⟨b, hb, rfl, hab⟩ := e
  refine lf2 (fun m many x u => ∃ i, x = nI i ∧ i ≤ n ∧ m = n - i ∧ u = σ ∧ many = nI (dep σ n b i)) ?_ n 0 0 σ ⟨0, rfl, by omega, rfl, rfl, rfl⟩
  rintro m P14 many x u ⟨i, rfl, hi, rfl, rfl, rfl⟩ hrec
  unfold mw_Ref_depth_14
  rw [hP.2.2.1]
  refine pk_le n i (fun hin => h _ (Or.inl ⟨b, hab, rfl, by rw [show i = n by omega]⟩)) (fun hin => mm_rInL hP hb (by omega) (fun P37 hP37 => ?_))
  have e2 : dep u n b (i + 1) = dep u n b i + (if tr (InL u n b i) = true then 1 else 0) := rfl
  have go : ∀ y, nI (dep u n b i) + y = nI (dep u n b (i + 1)) → P37 y (nI (dep u n b i)) u := by
    intro y hy
    apply hP37
    unfold mw_Ref_depth_37
    rw [nI_k1, hy]
    exact hrec (n - (i + 1)) _ _ u (by omega) ⟨i + 1, rfl, by omega, rfl, rfl, rfl⟩
  refine bz_go (fun e => go 0 ?_) (fun e => go 1 ?_)
  · rw [e2, if_neg (by rw [e]; decide), show (0 : Int32) = nI 0 from rfl, nI_add]
  · rw [e2, if_pos e, nI_k1]

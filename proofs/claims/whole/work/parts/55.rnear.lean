/-! the reference's nearest and frontier; loops on both sides -/
def NearR (σ : mz_St) (n : Nat) (x r : Int32) : Prop := (∃ b, b < n ∧ x = nI b ∧ nearV σ n b r) ∨ ((∀ b, b < n → x ≠ nI b) ∧ r = -1)
theorem nearV_u {σ : mz_St} {n b : Nat} {r r' : Int32} (h : nearV σ n b r) (h' : nearV σ n b r') : r = r' := by
  rcases h with ⟨a, h1, h2⟩ | ⟨h1, h2⟩ <;> rcases h' with ⟨a', h1', h2'⟩ | ⟨h1', h2'⟩
  · rw [h2, h2', Idm_u h1 h1']
  · exact absurd h1 (h1' a)
  · exact absurd h1' (h1 a')
  · rw [h2, h2']
theorem NearR_u {σ : mz_St} {n : Nat} {x r r' : Int32} (hn : n ≤ 10) (h : NearR σ n x r) (h' : NearR σ n x r') : r = r' := by
  rcases h with ⟨b, hb, e, hv⟩ | ⟨h1, h2⟩ <;> rcases h' with ⟨b', hb', e', hv'⟩ | ⟨h1', h2'⟩
  · rw [e, nI_eq (by omega) (by omega)] at e'
    subst e'
    exact nearV_u hv hv'
  · exact absurd e (h1' b hb)
  · exact absurd e' (h1 b' hb')
  · rw [h2, h2']
theorem mm_rNear {K : Int32 → mz_St → Prop} {σ : mz_St} {n : Nat} {x : Int32} (hP : PN σ n) (h : ∀ r, NearR σ n x r → K r σ) : mw_Ref_nearest K x σ := by
  have hn := hP.1
  unfold mw_Ref_nearest
  refine lf1 (fun m a u => ∃ j, a = nI j ∧ j ≤ n ∧ m = n - j ∧ u = σ ∧ ∀ b, b < n → x = nI b → ∀ a, a < j → ¬ Idm σ n a b) ?_ n 0 σ ⟨0, rfl, by omega, rfl, rfl, fun b _ _ a ha => absurd ha (by omega)⟩
  rintro m P2 a u ⟨j, rfl, hj, rfl, rfl, hno⟩ hrec
  unfold mw_Ref_nearest_2
  rw [hP.2.2.1]
  refine pk_le n j (fun hjn => h _ ?_) (fun hjn => fun P86 hP86 => ?_)
  · by_cases hx : ∃ b, b < n ∧ x = nI b
    · obtain ⟨b, hb, e⟩ := hx
      exact Or.inl ⟨b, hb, e, Or.inr ⟨fun a ha => hno b hb e a (by have := Idm_lt ha; omega) ha, rfl⟩⟩
    · exact Or.inr ⟨fun b hb e => hx ⟨b, hb, e⟩, rfl⟩
  have skip : (∀ b, b < n → x = nI b → ¬ Idm u n j b) → P86 u := by
    intro hs
    apply hP86
    unfold mw_Ref_nearest_86
    rw [nI_k1]
    refine hrec (n - (j + 1)) _ u (by omega) ⟨j + 1, rfl, by omega, rfl, rfl, fun b hb e a ha => ?_⟩
    by_cases haj : a = j
    · subst haj; exact hs b hb e
    · exact hno b hb e a (by omega)
  refine ⟨fun e => skip (fun b hb e2 hI => hI.1 ?_), fun e => mm_rDom hP (bz_go (fun e1 => skip (fun b hb e2 hI => ?_)) (fun e1 => ?_))⟩
  · rw [← e, nI_eq (by omega) (by omega)] at e2; exact e2
  · rw [tr_f] at e1
    exact e1 ⟨j, b, by omega, hb, rfl, e2, hI.2.1⟩
  · rw [tr_t] at e1
    obtain ⟨i, b, hi, hb, ei, rfl, hd⟩ := e1
    have hij : j = i := by rw [nI_eq (by omega) (by omega)] at ei; exact ei
    subst hij
    have hjb : j ≠ b := fun z => e (by rw [z])
    refine lf2 (fun m fl a u' => ∃ c, a = nI c ∧ c ≤ n ∧ m = n - c ∧ u' = u ∧ fl = bz (tr (∀ q, q < c → q ≠ b → Dom u n q b → Dom u n q j))) ?_ n 1 0 u ⟨0, rfl, by omega, rfl, rfl, ?_⟩
    · rintro m P29 fl a u' ⟨c, rfl, hc, rfl, rfl, rfl⟩ hrec2
      unfold mw_Ref_nearest_29
      rw [hP.2.2.1]
      refine pk_le n c (fun hnc => bz_go (fun e2 => skip (fun b' hb' e3 hI => ?_)) (fun e2 => h _ (Or.inl ⟨b, hb, rfl, Or.inl ⟨j, ⟨hjb, hd, fun q hq hdq => ?_⟩, rfl⟩⟩))) (fun hnc => fun P73 hP73 P72 hP72 => ?_)
      · rw [tr_f] at e2
        rw [nI_eq (by omega) (by omega)] at e3
        subst e3
        exact e2 (fun q _ hq hdq => hI.2.2 q hq hdq)
      · rw [tr_t] at e2
        exact e2 q (by have := (Dom_al hdq).1; omega) hq hdq
      have go : ∀ B : Bool, B = tr (∀ q, q < c + 1 → q ≠ b → Dom u' n q b → Dom u' n q j) → P73 (bz B) u' := by
        intro B hB
        apply hP73
        unfold mw_Ref_nearest_73
        rw [nI_k1]
        exact hrec2 (n - (c + 1)) _ _ u' (by omega) ⟨c + 1, rfl, by omega, rfl, rfl, by rw [hB]⟩
      have no : (¬ ∀ q, q < c + 1 → q ≠ b → Dom u' n q b → Dom u' n q j) → P72 u' := fun hx => hP72 _ (go false (tr_f.mpr hx).symm)
      refine bz_go (fun e2 => no (fun hx => ?_)) (fun e2 => fun P68 hP68 => ?_)
      · rw [tr_f] at e2
        exact e2 (fun q hq => hx q (by omega))
      rw [tr_t] at e2
      have yes : (c ≠ b → Dom u' n c b → Dom u' n c j) → P68 u' := by
        intro hx
        refine hP68 _ (go true (tr_t.mpr (fun q hq h1 h2 => ?_)).symm)
        by_cases hqc : q = c
        · subst hqc; exact hx h1 h2
        · exact e2 q (by omega) h1 h2
      rw [nI_eq (by omega) (by omega)]
      refine ⟨fun e3 => yes (fun z => absurd e3 z), fun e3 => mm_rDom hP (bz_go (fun e4 => yes (fun _ z => ?_)) (fun e4 => mm_rDom hP (bz_go (fun e5 => no (fun hx => ?_)) (fun e5 => yes (fun _ _ => ?_)))))⟩
      · rw [tr_f] at e4
        exact absurd ((DomI_nI hn (by omega) (by omega)).mpr z) e4
      · rw [tr_t, DomI_nI hn (by omega) (by omega)] at e4
        rw [tr_f, DomI_nI hn (by omega) (by omega)] at e5
        exact e5 (hx c (by omega) e3 e4)
      · rw [tr_t, DomI_nI hn (by omega) (by omega)] at e5
        exact e5
    · rw [tr_t.mpr (fun q hq => absurd hq (by omega))]; rfl
def FrI (σ : mz_St) (n : Nat) (x y : Int32) : Prop := ∃ a c, a < n ∧ c < n ∧ x = nI a ∧ y = nI c ∧ Fr σ n a c
theorem mm_rFr {K : Int32 → mz_St → Prop} {σ : mz_St} {n : Nat} {x y : Int32} (hP : PN σ n) (h : K (bz (tr (FrI σ n x y))) σ) : mw_Ref_frontier K x y σ := by
  have hn := hP.1
  unfold mw_Ref_frontier
  refine lf2 (fun m some fr u => ∃ j, fr = nI j ∧ j ≤ n ∧ m = n - j ∧ u = σ ∧ some = bz (tr (∃ f c, f < j ∧ y = nI c ∧ gX σ n f c ∧ DomI σ n x (nI f)))) ?_ n 0 0 σ ⟨0, rfl, by omega, rfl, rfl, ?_⟩
  · rintro m P5 some fr u ⟨j, rfl, hj, rfl, rfl, rfl⟩ hrec
    unfold mw_Ref_frontier_5
    intro P58 hP58
    have out : ((∃ f c, f < n ∧ y = nI c ∧ gX u n f c ∧ DomI u n x (nI f)) → (∃ f c, f < j ∧ y = nI c ∧ gX u n f c ∧ DomI u n x (nI f))) → P58 u := by
      intro hx
      apply hP58
      unfold mw_Ref_frontier_58
      refine bz_go (fun e => ?_) (fun e => fun P76 hP76 => ?_)
      · rw [tr_f] at e
        rw [tr_f.mpr (fun ⟨a, c, ha, hc, e1, e2, ⟨f, hd, hg⟩, _⟩ => e (hx ⟨f, c, hd.1.1, e2, hg, ⟨a, f, ha, hd.1.1, e1, rfl, hd⟩⟩))] at h
        exact h
      · rw [tr_t] at e
        obtain ⟨f, c, hf, rfl, hg, ⟨a, f', ha, hf', rfl, ef, hd⟩⟩ := e
        have hff : f = f' := by rw [nI_eq (by omega) (by omega)] at ef; exact ef
        subst hff
        have hc := hg.1
        have yes : ¬ (c ≠ a ∧ Dom u n a c) → P76 u := fun hz => hP76 _ (by
          unfold mw_Ref_frontier_76
          rw [tr_t.mpr ⟨a, c, ha, hc, rfl, rfl, ⟨f, hd, hg⟩, hz⟩] at h
          exact h)
        rw [nI_eq (by omega) (by omega)]
        refine ⟨fun e => yes (fun z => z.1 e.symm), fun e => mm_rDom hP (bz_og (fun e2 => ?_) (fun e2 => yes (fun z => ?_)))⟩
        · rw [tr_t, DomI_nI hn (by omega) (by omega)] at e2
          rw [tr_f.mpr (fun ⟨a', c', ha', hc', e3, e4, hF⟩ => by
            rw [nI_eq (by omega) (by omega)] at e3 e4
            subst e3; subst e4
            exact hF.2 ⟨fun z => e z.symm, e2⟩)] at h
          exact h
        · rw [tr_f, DomI_nI hn (by omega) (by omega)] at e2
          exact e2 z.2
    rw [hP.2.2.1]
    refine pk_le n j (fun hjn => out (fun ⟨f, c, hf, z⟩ => ⟨f, c, by omega, z⟩)) (fun hjn => mm_rAlive hP (bz_go (fun e => out (fun ⟨f, c, hf, e1, e2, e3⟩ => ?_)) (fun e => fun P51 hP51 P46 hP46 => ?_)))
    · rw [tr_f] at e
      obtain ⟨a, f', ha, hf', _, ef, hd⟩ := e3
      have hff : f = f' := by rw [nI_eq (by omega) (by omega)] at ef; exact ef
      subst hff
      exact absurd ⟨c, e2.1, e1, Al_e hd.1 e2⟩ e
    rw [tr_t] at e
    obtain ⟨c, hc, rfl, hac⟩ := e
    have go : ∀ B : Bool, B = tr (∃ f c', f < j + 1 ∧ nI c = nI c' ∧ gX u n f c' ∧ DomI u n x (nI f)) → P51 (bz B) u := by
      intro B hB
      apply hP51
      unfold mw_Ref_frontier_51
      rw [nI_k1]
      exact hrec (n - (j + 1)) _ _ u (by omega) ⟨j + 1, rfl, by omega, rfl, rfl, by rw [hB]⟩
    have yes : (∃ f c', f < j + 1 ∧ nI c = nI c' ∧ gX u n f c' ∧ DomI u n x (nI f)) → P46 u := fun z => hP46 _ (go true (tr_t.mpr z).symm)
    refine bz_og (fun e => yes ?_) (fun e => mm_hasEdge hP (by omega) ?_)
    · rw [tr_t] at e
      obtain ⟨f, c', hf, z⟩ := e
      exact ⟨f, c', by omega, z⟩
    rw [tr_f] at e
    have no : ¬ (gX u n j c ∧ DomI u n x (nI j)) → ∀ P50 : mz_St → Prop, (∀ s, mw_Ref_frontier_50 P51 s → P50 s) → P50 u := by
      intro hx P50 hP50
      apply hP50
      refine go false (tr_f.mpr ?_).symm
      rintro ⟨f, c', hf, e1, e2, e3⟩
      by_cases hfj : f = j
      · subst hfj
        have := e2.1
        rw [nI_eq (by omega) (by omega)] at e1
        subst e1
        exact hx ⟨e2, e3⟩
      · exact e ⟨f, c', by omega, e1, e2, e3⟩
    refine ⟨fun g => fun P50 hP50 => ⟨fun z => absurd z (by decide), fun _ => mm_rDom hP (bz_go (fun e1 => no (fun z => (tr_f.mp e1) z.2) P50 hP50) (fun e1 => yes ⟨j, c, by omega, rfl, ⟨hc, g⟩, tr_t.mp e1⟩))⟩, fun g => fun P50 hP50 => ⟨fun _ => no (fun z => g z.1.2) P50 hP50, fun z => absurd rfl z⟩⟩
  · rw [tr_f.mpr (fun ⟨f, c, hf, _⟩ => absurd hf (by omega))]; rfl

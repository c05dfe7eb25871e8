/-! guessing, and settling what names stand for -/
def own (u v : mz_St) : Prop := ∀ b t, bt (u 39 b) t = true → bt (v 39 b) t = true
theorem own_rf {u : mz_St} : own u u := fun _ _ h => h
theorem own_tr {u v w : mz_St} (h1 : own u v) (h2 : own v w) : own u w := fun b t h => h2 b t (h1 b t h)
theorem own_39 {u v : mz_St} (h : v 39 = u 39) : own u v := fun b t q => by rw [h]; exact q
/-- what is needed of the look and of the names -/
def Bas (σ : mz_St) (n c : Nat) (o : Nat → Nat) : Prop := PN σ n ∧ Ord σ n c o ∧ ordR σ c o ∧ NI σ c o c ∧ prevOK σ n
section H1
variable {K : Int32 → mz_St → Prop} {Kv : mz_St → Prop} {σ u : mz_St} {n c : Nat} {o : Nat → Nat}
theorem bh_ok (hB : Bas σ n c o) {p t : Nat} (hp : Al σ n p) (ht : t < 10) : σ 36 (10 * p + t) = nI (bh σ p t) ∧ bh σ p t < 221 ∧ Pn σ c o t (1 + 22 * c) (bh σ p t) := by
  obtain ⟨hP, hO, -, hI, -⟩ := hB
  obtain ⟨j, hj, rfl⟩ := hO.2.2.2.2.2.1 p hp
  obtain ⟨h1, h2, -⟩ := NB_row hP hO hj ht (hI j hj)
  exact ⟨h1, Pn_lt hP hO ht h2, Pn_end hP hO ht h2⟩
theorem mm_along (hB : Bas σ n c o) (hm : mf sW σ u) {p t : Nat} (hp : Al σ n p) (ht : t < 10) (h : K (nI (bh σ p t)) u) : mw_Names_along K (nI p) (nI t) u := by
  have hn := hB.1.1
  have := hp.1
  unfold mw_Names_along
  rw [ix10, mz_rdn (by omega), hm 36 (by decide), (bh_ok hB hp ht).1]
  exact ⟨vp_in_nI (by omega) (by decide), h⟩
def otP (σ u : mz_St) (n x b t p : Nat) : Prop := Al σ n p ∧ gX σ n p b ∧ u 37 (bh σ p t) ≠ 0 ∧ ¬ (u 37 (bh σ p t) = u 37 x ∧ u 38 (bh σ p t) = u 38 x)
theorem mm_takesOther (hB : Bas σ n c o) (hm : mf sW σ u) {x b t : Nat} (hx : x < 221) (hb : b < n) (ht : t < 10) (h : ∀ r : Bool, (r = true → ∃ p, otP σ u n x b t p) → (r = false → ∀ p, ¬ otP σ u n x b t p) → K (bz r) u) : mw_Stands_takesOtherThan K (nI x) (nI b) (nI t) u := by
  have hP := hB.1
  have hn := hP.1
  have hS : Sm σ u := Sm_mf hm (by decide)
  unfold mw_Stands_takesOtherThan
  refine lf1 (fun m y v => ∃ i, y = nI i ∧ i ≤ n ∧ m = n - i ∧ v = u ∧ ∀ p, p < i → ¬ otP σ u n x b t p) ?_ n 0 u ⟨0, rfl, by omega, rfl, rfl, fun p hp => absurd hp (by omega)⟩
  rintro m P3 y v ⟨i, rfl, hi, rfl, rfl, hno⟩ hrec
  unfold mw_Stands_takesOtherThan_3
  rw [hS 1003 (by decide), hP.2.1]
  refine pk_le n i (fun hle => ?_) (fun hlt => ?_)
  · exact h false (fun z => by cases z) (fun _ p hp => hno p (by have := hp.1.1; omega) hp)
  · rw [mz_rdn (by omega), hm 23 (by decide)]
    refine ⟨vp_in_nI (by omega) (by decide), mm_isIn (by omega) (fun P52 hP52 => ?_)⟩
    have nx : ¬ otP σ v n x b t i → P52 v := by
      intro hi2
      apply hP52
      unfold mw_Stands_takesOtherThan_52
      rw [nI_k1]
      refine hrec (n - (i + 1)) _ v (by omega) ⟨i + 1, rfl, by omega, rfl, rfl, fun p hp => ?_⟩
      by_cases e : p = i
      · rw [e]; exact hi2
      · exact hno p (by omega)
    have hpv := hB.2.2.2.2 b hb i
    refine bz_go (fun e => nx (fun z => ?_)) (fun e => ?_)
    · rw [hpv.mpr ⟨z.1, z.2.1⟩] at e; cases e
    · obtain ⟨a1, a2⟩ := hpv.mp e
      refine mm_along hB hm a1 ht (mm_differ hx (bh_ok hB a1 ht).2.1 (bz_go (fun e2 => nx (fun z => ?_)) (fun e2 => ?_)))
      · exact of_decide_eq_false e2 ⟨z.2.2.1, z.2.2.2⟩
      · have := of_decide_eq_true e2
        exact h true (fun _ => ⟨i, a1, a2, this.1, this.2⟩) (fun z => by cases z)
theorem mm_firstKnown (hB : Bas σ n c o) (hm : mf sW σ u) {b t : Nat} (hb : b < n) (ht : t < 10) (h : ∀ r : Int32, (r = -1 ∨ ∃ y, r = nI y ∧ ((b = 0 ∧ y = 0) ∨ (b ≠ 0 ∧ ∃ p, Al σ n p ∧ gX σ n p b ∧ y = bh σ p t ∧ u 37 y ≠ 0))) → K r u) : mw_Stands_firstKnown K (nI b) (nI t) u := by
  have hP := hB.1
  have hn := hP.1
  have hS : Sm σ u := Sm_mf hm (by decide)
  unfold mw_Stands_firstKnown
  rw [n0 (by omega)]
  refine ⟨fun hb0 => ?_, fun hb0 => h _ (Or.inr ⟨0, rfl, Or.inl ⟨hb0, rfl⟩⟩)⟩
  refine lf1 (fun m y v => ∃ i, y = nI i ∧ i ≤ n ∧ m = n - i ∧ v = u) ?_ n 0 u ⟨0, rfl, by omega, rfl, rfl⟩
  rintro m P8 y v ⟨i, rfl, hi, rfl, rfl⟩ hrec
  unfold mw_Stands_firstKnown_8
  rw [hS 1003 (by decide), hP.2.1]
  refine pk_le n i (fun hle => h _ (Or.inl rfl)) (fun hlt => ?_)
  rw [mz_rdn (by omega), hm 23 (by decide)]
  refine ⟨vp_in_nI (by omega) (by decide), mm_isIn (by omega) (fun P62 hP62 => ?_)⟩
  have nx : P62 v := by
    apply hP62
    unfold mw_Stands_firstKnown_62
    rw [nI_k1]
    exact hrec (n - (i + 1)) _ v (by omega) ⟨i + 1, rfl, by omega, rfl, rfl⟩
  refine bz_go (fun e => nx) (fun e => ?_)
  obtain ⟨a1, a2⟩ := (hB.2.2.2.2 b hb i).mp e
  have hlt2 := (bh_ok hB a1 ht).2.1
  refine mm_along hB hm a1 ht ⟨vp_in_nI hlt2 (by decide), fun _ => nx, fun e2 => mm_along hB hm a1 ht (h _ (Or.inr ⟨_, rfl, Or.inr ⟨hb0, i, a1, a2, rfl, ?_⟩⟩))⟩
  rw [mz_rdn (by omega)] at e2
  exact e2
theorem ok_0 (hO : Ord σ n c o) {k : Nat} (hk : k < c) : o k = 0 ↔ k = 0 := by
  constructor
  · intro e
    exact hO.2.2.2.2.1 k 0 hk hO.2.1 (e.trans hO.2.2.1.symm)
  · rintro rfl; exact hO.2.2.1
theorem mm_guessPhi (hB : Bas σ n c o) (hm : mf sW σ u) {k t : Nat} (hk : k < c) (ht : t < 10) (hb : bt (σ 32 (o k)) t = true) (hG : GG σ u c o (1 + 22 * k + t)) (h : ∀ v, mf sW σ v → own u v → GG σ v c o (1 + 22 * k + t + 1) → Kv v) : mw_Stands_guessPhi Kv (nI (o k)) (nI t) u := by
  obtain ⟨hP, hO, hR, hI, hV⟩ := id hB
  have hn := hP.1
  have hok := (hO.2.2.2.1 k hk).1
  have hin : vp_in (nI (o k)) 10 := vp_in_nI (by omega) (by decide)
  have hxp : Pn σ c o t (1 + 22 * k + t + 1) (1 + 10 * o k + t) := Or.inr (Or.inl ⟨k, hk, hb, rfl, by omega⟩)
  have hx1 : ∀ t' z, t' < 10 → Pn σ c o t' (1 + 22 * k + t + 1) z → z = 1 + 10 * o k + t ∨ Pn σ c o t' (1 + 22 * k + t) z := fun t' z h1 h2 => (Pn_sP hP hO ht h1 h2).imp (fun q => q.1) id
  have hx2 : ∀ t', t' < 10 → ¬ Pn σ c o t' (1 + 22 * k + t) (1 + 10 * o k + t) := fun t' h1 h2 => by have := (Pn_phi hP hO hk ht h1 h2).2.2; omega
  have hop : ∀ v : mz_St, ∀ k' i, k' < c → i < lenC σ (o k') → σ 12 (12 * o k' + i) ≠ 17 → 11 + 22 * k' + i = 1 + 22 * k + t → opS σ v (o k') i := fun v k' i h1 h2 _ h3 => by have := (o_lt hP hO h1).2; omega
  -- let it be itself
  have letbe : ∀ w, mf sW σ w → own u w → (∀ z, w 37 z = u 37 z ∧ w 38 z = u 38 z) → (∀ k' t', k' < c → t' < 10 → 1 + 22 * k' + t' < 1 + 22 * k + t → bt (w 39 (o k')) t' = bt (u 39 (o k')) t') → mw_Stands_letBe Kv (nI (1 + 10 * o k + t)) w := by
    intro w hmw how hw h39
    refine mm_letBe (by omega) (h _ (mf_tr hmw (mf_tr (mf_up (by decide)) (mf_up (by decide)))) (own_tr how (own_39 (by rw [up_row (by decide), up_row (by decide)]))) ?_)
    refine GG_step hP hO hI hG hx1 hx2 (fun z hz => ?_) (fun k' t' h1 h2 h3 => ?_) (Or.inr ⟨?_, Or.inl up_at⟩) ⟨t, ht, hxp⟩ (hop _) (fun k' t' h1 h2 h3 h4 => ?_)
    · rw [up_row (by decide), up_ot hz, up_ot hz, up_row (by decide)]; exact hw z
    · rw [up_row (by decide), up_row (by decide)]; exact h39 k' t' h1 h2 h3
    · rw [up_row (by decide), up_at]
    · have e1 : k' = k := by omega
      have e2 : t' = t := by omega
      subst e1 e2
      have hs : self (mz_up (mz_up w 37 (1 + 10 * o k' + t') 1) 38 (1 + 10 * o k' + t') (nI (1 + 10 * o k' + t'))) (1 + 10 * o k' + t') := ⟨by rw [up_row (by decide), up_at], up_at⟩
      exact ⟨Or.inl hs, fun _ => hs⟩
  unfold mw_Stands_guessPhi
  refine mm_firstKnown hB hm hok ht (fun r1 hr1 P34 hP34 P22 hP22 => ?_)
  -- with its own bit
  have p22 : P22 u := by
    apply hP22
    unfold mw_Stands_guessPhi_22
    rw [mz_wrn (by omega), mz_rdn (by omega)]
    refine ⟨hin, hin, ?_⟩
    apply hP34
    unfold mw_Stands_guessPhi_34
    rw [mz_rdn (by omega), up_at]
    refine ⟨hin, mm_isIn (by omega) (bz_go (fun e => ?_) (fun e => ?_))⟩
    · rw [b_or, b_one (by omega)] at e
      simp at e
    · unfold mw_Mill_phiName
      rw [ixphi]
      refine letbe _ (mf_tr hm (mf_up (by decide))) (fun b q hq => ?_) (fun z => by rw [up_row (by decide), up_row (by decide)]; exact ⟨rfl, rfl⟩) (fun k' t' h1 h2 h3 => ?_)
      · rw [up_any]
        split
        · rename_i e2; rw [b_or, ← e2.2, hq]; rfl
        · exact hq
      · rw [up_any]
        split
        · rename_i e2
          have := hO.2.2.2.2.1 k' k h1 hk e2.2
          subst this
          rw [b_or, b_one (by omega), decide_eq_false (by omega), Bool.or_false]
        · rfl
  refine ⟨fun _ => p22, fun hne => ?_⟩
  rcases hr1 with z | ⟨y, rfl, hy⟩
  · exact absurd z hne
  -- what is known of y
  have key : y < 221 ∧ ((k = 0 ∧ u 37 y = 2 ∧ u 38 y = 0) ∨ (k ≠ 0 ∧ Sd σ u c o (1 + 22 * k) y)) := by
    rcases hy with ⟨h0, rfl⟩ | ⟨h0, p, hp, hg, rfl, h37⟩
    · exact ⟨by omega, Or.inl ⟨(ok_0 hO hk).mp h0, hG.1⟩⟩
    · obtain ⟨a1, a2, a3⟩ := bh_ok hB hp ht
      refine ⟨a2, Or.inr ⟨fun z => h0 ((ok_0 hO hk).mpr z), ?_⟩⟩
      have : Pn σ c o t (1 + 22 * k + t) (bh σ p t) := by
        apply Classical.byContradiction
        exact fun z => h37 (hG.2.2.2.2 t _ _ ht a3 z)
      exact hG.2.1 (1 + 22 * k) t _ (by omega) ht (Pn_blk hP hO ht this)
  refine mm_takesOther hB hm key.1 hok ht (fun r5 _ _ => bz_go (fun _ => ?_) (fun _ => p22))
  apply hP34
  unfold mw_Stands_guessPhi_34
  rw [mz_rdn (by omega)]
  refine ⟨hin, mm_isIn (by omega) (bz_go (fun e => ?_) (fun e => ?_))⟩
  · unfold mw_Mill_phiName
    rw [ixphi]
    refine mm_standLike (by omega) key.1 (h _ (mf_tr hm (mf_tr (mf_up (by decide)) (mf_up (by decide)))) (own_39 (by rw [up_row (by decide), up_row (by decide)])) ?_)
    generalize hgv : mz_up (mz_up u 37 (1 + 10 * o k + t) (u 37 y)) 38 (1 + 10 * o k + t) (u 38 y) = v
    have v37 : v 37 (1 + 10 * o k + t) = u 37 y := by rw [← hgv, up_row (by decide), up_at]
    have v38 : v 38 (1 + 10 * o k + t) = u 38 y := by rw [← hgv, up_at]
    have v39 : v 39 = u 39 := by rw [← hgv, up_row (by decide), up_row (by decide)]
    have vo : ∀ z, z ≠ 1 + 10 * o k + t → v 37 z = u 37 z ∧ v 38 z = u 38 z := fun z hz => by rw [← hgv, up_row (by decide), up_ot hz, up_ot hz, up_row (by decide)]; exact ⟨rfl, rfl⟩
    have hyx : ∀ y' t', t' < 10 → Pn σ c o t' (1 + 22 * k) y' → y' ≠ 1 + 10 * o k + t := fun y' t' h1 h2 h3 => by
      rw [h3] at h2
      have := (Pn_phi hP hO hk ht h1 h2).2.2
      omega
    refine GG_step hP hO hI hG hx1 hx2 vo (fun k' t' _ _ _ => by rw [v39]) ?_ ⟨t, ht, hxp⟩ (hop _) (fun k' t' h1 h2 h3 h4 => ?_)
    · rw [v37, v38]
      rcases key.2 with ⟨-, q, -⟩ | ⟨-, q | ⟨q1, y', t', ht', hy', q2, q3⟩⟩
      · exact Or.inl q
      · exact Or.inl q
      · exact Or.inr ⟨q1, Or.inr ⟨y', t', ht', Pn_mono hy' (by omega), q2, q3⟩⟩
    · have e1 : k' = k := by omega
      have e2 : t' = t := by omega
      subst e1 e2
      refine ⟨Or.inr ⟨fun k0 => ?_, fun q => ?_⟩, fun z => by rw [v39, e] at z; cases z⟩
      · rw [v37, v38]
        rcases key.2 with ⟨-, q⟩ | ⟨q, -⟩
        · exact q
        · exact absurd k0 q
      · rw [v37] at q
        rw [v38]
        rcases key.2 with ⟨-, q', -⟩ | ⟨-, q' | ⟨q1, y', t'', ht', hy', q2, q3⟩⟩
        · rw [q'] at q; exact absurd q (by decide)
        · rw [q'] at q; exact absurd q (by decide)
        · exact ⟨y', t'', ht', hy', q2, self_ag (vo y' (hyx y' t'' ht' hy')) q3⟩
  · unfold mw_Mill_phiName
    rw [ixphi]
    exact letbe u hm own_rf (fun z => ⟨rfl, rfl⟩) (fun _ _ _ _ _ => rfl)
theorem mm_guessOp (hB : Bas σ n c o) (hm : mf sW σ u) {k i : Nat} (hk : k < c) (hi : i < lenC σ (o k)) (hG : GG σ u c o (11 + 22 * k + i)) (h : ∀ v, mf sW σ v → own u v → GG σ v c o (11 + 22 * k + i + 1) → Kv v) : mw_Stands_guessOperation Kv (nI (12 * o k + i)) u := by
  obtain ⟨hP, hO, hR, hI, hV⟩ := id hB
  have hn := hP.1
  have hS : Sm σ u := Sm_mf hm (by decide)
  obtain ⟨ho, hl⟩ := o_lt hP hO hk
  obtain ⟨-, -, -, hop⟩ := PN_len hP ho
  have hsu := (hop i hi).1
  have hin : vp_in (nI (12 * o k + i)) 120 := vp_in_nI (by omega) (by decide)
  have hnb := (hI k hk).2.2.1 i hi
  -- a step to a state that gives the made name a standing
  have step : ∀ (p w : Int32), σ 12 (12 * o k + i) ≠ 17 → (p = 2 ∨ (p = 1 ∧ (w = nI (101 + 12 * o k + i) ∨ ∃ y t', t' < 10 ∧ Pn σ c o t' (11 + 22 * k + i) y ∧ w = nI y ∧ self u y))) → opS σ (mz_up (mz_up u 37 (101 + 12 * o k + i) p) 38 (101 + 12 * o k + i) w) (o k) i → Kv (mz_up (mz_up u 37 (101 + 12 * o k + i) p) 38 (101 + 12 * o k + i) w) := by
    intro p w h17 hpw hos
    obtain ⟨td, htd, -, hpo⟩ := Pn_op hP hO hk hi h17
    refine h _ (mf_tr hm (mf_tr (mf_up (by decide)) (mf_up (by decide)))) (own_39 (by rw [up_row (by decide), up_row (by decide)])) ?_
    refine GG_step hP hO hI hG (fun t' z h1 h2 => (Pn_sM hP hO (by omega) h1 h2).imp (fun q => q.1) id) (fun t' h1 h2 => by have := (Pn_mad hP hO hk hi h1 h2).2; omega) (fun z hz => ?_) (fun k' t' _ _ _ => by rw [up_row (by decide), up_row (by decide)]) ?_ ⟨td, htd, hpo⟩ (fun k' i' h1 h2 h3 h4 => ?_) (fun k' t' h1 h2 h3 h4 => by omega)
    · rw [up_row (by decide), up_ot hz, up_ot hz, up_row (by decide)]; exact ⟨rfl, rfl⟩
    · rw [up_at, up_row (by decide), up_at]; exact hpw
    · have := (o_lt hP hO h1).2
      have e1 : k' = k := by omega
      have e2 : i' = i := by omega
      subst e1 e2
      exact hos
  have letbe : σ 12 (12 * o k + i) ≠ 17 → mw_Stands_letBe Kv (nI (101 + 12 * o k + i)) u := by
    intro h17
    refine mm_letBe (by omega) (step _ _ h17 (Or.inr ⟨rfl, Or.inl rfl⟩) (Or.inl ⟨?_, up_at⟩))
    rw [up_row (by decide), up_at]
  unfold mw_Stands_guessOperation mw_Mill_madeName
  rw [ixmade, ← Nat.add_assoc, mz_rdn (by omega), hS 12 (by decide)]
  refine ⟨hin, fun h0 => ⟨fun h1 => fun P112 hP112 => ?_, fun h1 => ⟨hin, ?_⟩⟩, fun h0 => ⟨hin, ?_⟩⟩
  · have p112 : P112 u := by
      apply hP112
      unfold mw_Stands_guessOperation_112
      refine mm_makesValue ho (by omega) ?_
      rw [hS 12 (by decide)]
      refine bz_go (fun e => ?_) (fun e => letbe (by simpa using e))
      have e : σ 12 (12 * o k + i) = 17 := by simpa using e
      refine h u hm own_rf (GG_skip hG (by omega) (fun t' z q1 q2 => ?_) hP hO (fun k' i' q1 q2 q3 q4 => ?_) (fun k' t' q1 q2 q3 q4 => by omega))
      · rcases Pn_sM hP hO (by omega) q1 q2 with ⟨-, q⟩ | q
        · exact absurd e q.1
        · exact q
      · have := (o_lt hP hO q1).2
        apply Classical.byContradiction
        intro q5
        have e1 : k' = k := by omega
        have e2 : i' = i := by omega
        subst e1 e2
        exact q3 e
    refine ⟨fun _ => p112, fun h16 => ?_⟩
    have hmid : ¬ σ 12 (12 * o k + i) ≤ 1 ∧ ¬ 16 ≤ σ 12 (12 * o k + i) := ⟨such_mid hsu h0 h1 h16, h16⟩
    have h17 : σ 12 (12 * o k + i) ≠ 17 := fun z => h16 (by rw [z]; decide)
    obtain ⟨ta, hta, hna, -, ena⟩ := Pn_na hP hO hI hk hi h0
    obtain ⟨tb, htb, hnbp, -, enb⟩ := Pn_nb hP hO hI hk hi (Or.inr hmid)
    have lna := Pn_lt hP hO hta hna
    have lnb := Pn_lt hP hO htb hnbp
    have e33 : mz_rd u 33 (nI (12 * o k + i)) = nI (naO σ (o k) i) := by rw [mz_rdn (by omega), hm 33 (by decide)]; exact hnb.1 h0
    have e34 : mz_rd u 34 (nI (12 * o k + i)) = nI (nbO σ (o k) i) := by rw [mz_rdn (by omega), hm 34 (by decide)]; exact hnb.2.2.1 (Or.inr hmid)
    have vna : vp_in (nI (naO σ (o k) i)) 221 := vp_in_nI lna (by decide)
    have vnb : vp_in (nI (nbO σ (o k) i)) 221 := vp_in_nI lnb (by decide)
    unfold mw_Stands_givesNumber
    rw [e33, e34]
    refine ⟨hin, hin, mm_isNumber lna (bz_go (fun e1 => ⟨fun _ => p112, fun z => absurd rfl z⟩) (fun e1 => mm_isNumber lnb (bz_go (fun e2 => ⟨fun _ => p112, fun z => absurd rfl z⟩) (fun e2 => ⟨hin, vna, vnb, ?_⟩))))⟩
    rw [mz_rdn (show 12 * o k + i < 2 ^ 31 by omega), mz_rdn (show naO σ (o k) i < 2 ^ 31 by omega), mz_rdn (show nbO σ (o k) i < 2 ^ 31 by omega), hS 12 (by decide)]
    refine mm_fails (bz_og (fun e3 => ⟨fun _ => p112, fun z => absurd rfl z⟩) (fun e3 => ⟨fun z => absurd z (by decide), fun _ => ⟨hin, ?_⟩⟩))
    rw [e33, e34, mz_rdn (show naO σ (o k) i < 2 ^ 31 by omega), mz_rdn (show nbO σ (o k) i < 2 ^ 31 by omega)]
    refine ⟨vna, hin, vnb, mm_reckon (mm_letBeNumber (by omega) (step _ _ h17 (Or.inl rfl) (Or.inr (Or.inr (Or.inr ⟨hmid, ?_⟩)))))⟩
    have hnx : naO σ (o k) i ≠ 101 + 12 * o k + i := fun z => by
      rw [z] at hna; have := (Pn_mad hP hO hk hi hta hna).2; omega
    have hbx : nbO σ (o k) i ≠ 101 + 12 * o k + i := fun z => by
      rw [z] at hnbp; have := (Pn_mad hP hO hk hi htb hnbp).2; omega
    rw [up_row (by decide), up_ot hnx, up_ot hbx, up_ot hnx, up_ot hbx, up_at, up_at, up_row (by decide)]
    exact ⟨of_decide_eq_true e1, of_decide_eq_true e2, e3, rfl, rfl⟩
  · have e33 : mz_rd u 33 (nI (12 * o k + i)) = nI (naO σ (o k) i) := by rw [mz_rdn (by omega), hm 33 (by decide)]; exact hnb.1 h0
    obtain ⟨ta, hta, hna, -, ena⟩ := Pn_na hP hO hI hk hi h0
    have lna := Pn_lt hP hO hta hna
    have hnx : naO σ (o k) i ≠ 101 + 12 * o k + i := fun z => by
      rw [z] at hna; have := (Pn_mad hP hO hk hi hta hna).2; omega
    rw [e33]
    refine mm_standLike (by omega) lna (step _ _ (by rw [h1]; decide) ?_ (Or.inr (Or.inr (Or.inl ⟨h1, ?_, ?_⟩))))
    · rcases hG.2.1 _ ta _ (Nat.le_refl _) hta hna with q | ⟨q1, y, t', ht', hy, q2, q3⟩
      · exact Or.inl q
      · exact Or.inr ⟨q1, Or.inr ⟨y, t', ht', hy, q2, q3⟩⟩
    · rw [up_row (by decide), up_at, up_ot hnx]
    · rw [up_at, up_ot hnx, up_row (by decide)]
  · rw [mz_rdn (by omega), hS 14 (by decide)]
    refine mm_letBeNumber (by omega) (step _ _ (by rw [h0]; decide) (Or.inl rfl) (Or.inr (Or.inl ⟨h0, ?_, up_at⟩)))
    rw [up_row (by decide), up_at]
end H1

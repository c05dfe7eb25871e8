/-! what names stand for is settled -/
def bR : List Nat := [12, 13, 14, 15, 16, 17, 18, 19, 20, 1003, 60, 61, 62, 63, 64, 65, 1016, 22, 23, 24, 25, 26, 27, 28, 29, 30, 31, 32, 1004, 1006, 33, 34, 35, 36]
/-- the same program, the same look, the same names -/
def Sn (σ u : mz_St) : Prop := ∀ a, a ∈ bR → u a = σ a
theorem Sn_mf {W : List Nat} {σ u : mz_St} (h : mf W σ u) (hW : ∀ a, a ∈ bR → a ∉ W) : Sn σ u := fun a ha => h a (hW a ha)
theorem Sn.sm {σ u : mz_St} (h : Sn σ u) : Sm σ u := fun a ha => h a (by revert ha; revert a; decide)
section I1
variable {K : Int32 → mz_St → Prop} {Kv : mz_St → Prop} {σ u : mz_St} {n c : Nat} {o : Nat → Nat}
theorem Sn_bh (h : Sn σ u) : bh u = bh σ := by funext b t; unfold bh; rw [h 36 (by decide)]
theorem Sn_bf (h : Sn σ u) : bf u = bf σ := by funext b t; unfold bf; rw [h 32 (by decide), h 26 (by decide), Sn_bh h]
theorem Sn_nm (h : Sn σ u) : nm u = nm σ := by funext b B i t; exact nm_congr h.sm b B i t
theorem Sn_Pn (h : Sn σ u) : Pn u = Pn σ := by funext c o t R x; exact Pn_congr h.sm (h 32 (by decide)) c o t R x
theorem Sn_na (h : Sn σ u) : naO u = naO σ := by funext b i; unfold naO; rw [Sn_nm h, Sn_bf h, h 14 (by decide)]
theorem Sn_nb (h : Sn σ u) : nbO u = nbO σ := by funext b i; unfold nbO; rw [Sn_nm h, Sn_bf h, h 15 (by decide)]
theorem Sn_NI (h : Sn σ u) : NI u = NI σ := by
  funext c o m
  unfold NI NB
  rw [Sn_bf h, Sn_nm h, Sn_Pn h, Sm_lenC h.sm, h 32 (by decide), h 36 (by decide), h 33 (by decide), h 34 (by decide), h 35 (by decide), h 12 (by decide), h 14 (by decide), h 15 (by decide), h 18 (by decide)]
theorem Sn_Ord (h : Sn σ u) : Ord u = Ord σ := by
  funext n c o
  unfold Ord
  rw [Sm_Al h.sm, Sm_gX h.sm]
theorem Sn_Bas (h : Sn σ u) (hB : Bas σ n c o) : Bas u n c o := by
  obtain ⟨h1, h2, h3, h4, h5⟩ := hB
  refine ⟨h.sm.pn h1, by rw [Sn_Ord h]; exact h2, ?_, by rw [Sn_NI h]; exact h4, ?_⟩
  · unfold ordR at *
    rw [h 1006 (by decide), h 24 (by decide)]; exact h3
  · unfold prevOK at *
    rw [h 23 (by decide), Sm_Al h.sm, Sm_gX h.sm]; exact h5
theorem StOK_of (h : Sn σ u) (h0 : (u 37 0 = 2 ∧ u 38 0 = 0) ∨ self u 0) (h1 : ∀ R t x, t < 10 → Pn σ c o t R x → Sd σ u c o R x) (h2 : ∀ k i, k < c → i < lenC σ (o k) → σ 12 (12 * o k + i) ≠ 17 → opS σ u (o k) i) (h3 : ∀ k t, k < c → t < 10 → bt (σ 32 (o k)) t = true → self u (1 + 10 * o k + t) ∨ (phN σ u c o k t ∧ ∀ p, Al σ n p → gX σ n p (o k) → u 37 (1 + 10 * o k + t) = u 37 (bh σ p t) ∧ u 38 (1 + 10 * o k + t) = u 38 (bh σ p t))) : StOK u n c o := by
  unfold StOK Sd opS phN at *
  rw [Sn_Pn h, Sm_lenC h.sm, h 12 (by decide), h 14 (by decide), Sn_na h, Sn_nb h, h 32 (by decide), Sm_Al h.sm, Sm_gX h.sm, Sn_bh h]
  exact ⟨h0, h1, h2, h3⟩
theorem ge221 {k : Nat} (hk : k < 2 ^ 31) : (221 : Int32) ≤ nI k ↔ 221 ≤ k := by
  rw [show (221 : Int32) = nI 221 from rfl, nI_leI (by omega) hk]
theorem mm_letAllBe (hB : Bas σ n c o) (h : ∀ u, mf sW σ u → StOK u n c o → Kv u) : mw_Stands_letAllBe Kv σ := by
  obtain ⟨hP, hO, -⟩ := id hB
  unfold mw_Stands_letAllBe
  refine lf1 (fun m x u => ∃ i, x = nI i ∧ i ≤ 221 ∧ m = 221 - i ∧ mf sW σ u ∧ ∀ y, y < i → self u y) ?_ 221 0 σ ⟨0, rfl, by omega, rfl, mf_rf, fun y hy => absurd hy (by omega)⟩
  rintro m P2 x u ⟨i, rfl, hi, rfl, hm, hs⟩ hrec
  unfold mw_Stands_letAllBe_2
  rw [ge221 (by omega)]
  refine ⟨fun hle => ?_, fun hlt => ?_⟩
  · have hall : ∀ y, y < 221 → self u y := fun y hy => hs y (by omega)
    refine h u hm (StOK_of (Sn_mf hm (by decide)) (Or.inr (hall 0 (by omega))) (fun R t x ht hx => ?_) (fun k i hk hi _ => Or.inl (hall _ ?_)) (fun k t hk ht _ => Or.inl (hall _ ?_)))
    · have q := hall x (Pn_lt hP hO ht hx)
      exact Or.inr ⟨q.1, x, t, ht, hx, q.2, q⟩
    · have := o_lt hP hO hk; omega
    · have := o_lt hP hO hk; omega
  · refine mm_letBe (by omega) ?_
    rw [nI_k1]
    refine hrec (221 - (i + 1)) _ _ (by omega) ⟨i + 1, rfl, by omega, rfl, mf_tr hm (mf_tr (mf_up (by decide)) (mf_up (by decide))), fun y hy => ?_⟩
    unfold self
    by_cases e : y = i
    · subst e
      rw [up_row (by decide), up_at, up_at]; exact ⟨rfl, rfl⟩
    · rw [up_row (by decide), up_ot e, up_ot e, up_row (by decide)]
      exact hs y (by omega)
theorem mm_guess (hB : Bas σ n c o) (hm : mf sW σ u) (h : ∀ v, mf sW σ v → own u v → GG σ v c o (1 + 22 * c) → Kv v) : mw_Stands_guess Kv u := by
  obtain ⟨hP, hO, hR, hI, hV⟩ := id hB
  have hn := hP.1
  have hc := hO.1
  unfold mw_Stands_guess
  rw [show mw_Stands_letBeNumber = fun K a b s => mw_Stands_letBeNumber K a b s from rfl]
  show mw_Stands_letBeNumber _ (nI 0) 0 _
  refine mm_letBeNumber (by omega) ?_
  generalize hu0 : mz_up (mz_up (mz_fl u 37 221 0) 37 0 2) 38 0 0 = u0
  have hm0 : mf sW σ u0 := by
    rw [← hu0]
    exact mf_tr hm (mf_tr (mf_tr (mf_fl (by decide)) (mf_up (by decide))) (mf_up (by decide)))
  have ho0 : own u u0 := own_39 (by rw [← hu0, up_row (by decide), up_row (by decide), fl_row (by decide)])
  have hG0 : GG σ u0 c o (1 + 22 * 0) := by
    have z37 : u0 37 0 = 2 := by rw [← hu0, up_row (by decide), up_at]
    refine ⟨⟨z37, by rw [← hu0, up_at]⟩, fun R' t x hR' ht hx => ?_, fun k i _ _ _ hh => absurd hh (by omega), fun k t _ _ _ hh => absurd hh (by omega), fun t x R' ht hx hnx => ?_⟩
    · rcases hx with z | ⟨j, h1, h2, h3, h4⟩ | ⟨j, i, h1, h2, h3, h4, h5⟩
      · rw [z]; exact Or.inl z37
      · omega
      · omega
    · have hx0 : x ≠ 0 := fun z => hnx (Or.inl z)
      rw [← hu0, up_row (by decide), up_ot hx0, fl_at (Pn_lt hP hO ht hx)]
  refine lf1 (fun m x w => ∃ k, x = nI k ∧ k ≤ c ∧ m = c - k ∧ mf sW σ w ∧ own u w ∧ GG σ w c o (1 + 22 * k)) ?_ c 0 u0 ⟨0, rfl, by omega, rfl, hm0, ho0, hG0⟩
  rintro m P16 x w ⟨k, rfl, hk, rfl, hmw, how, hG⟩ hrec
  unfold mw_Stands_guess_16
  rw [hmw 1006 (by decide), hR.1]
  refine pk_le c k (fun hle => ?_) (fun hlt => ?_)
  · have ek : k = c := by omega
    subst ek
    exact h w hmw how hG
  · obtain ⟨hok, hlen⟩ := o_lt hP hO hlt
    have e24 : mz_rd w 24 (nI k) = nI (o k) := by rw [mz_rdn (by omega), hmw 24 (by decide), hR.2 k hlt]
    have hin : vp_in (nI (o k)) 10 := vp_in_nI hok (by decide)
    refine ⟨vp_in_nI (by omega) (by decide), ?_⟩
    refine lf1 (fun m x y => ∃ t, x = nI t ∧ t ≤ 10 ∧ m = 10 - t ∧ mf sW σ y ∧ own u y ∧ GG σ y c o (1 + 22 * k + t)) ?_ 10 0 w ⟨0, rfl, by omega, rfl, hmw, how, hG⟩
    rintro m P39 x y ⟨t, rfl, ht, rfl, hmy, hoy, hGy⟩ hrec2
    unfold mw_Stands_guess_39
    rw [e24, ge10 (by omega)]
    refine ⟨fun hle => ?_, fun hlt2 => ?_⟩
    · have et : t = 10 := by omega
      subst et
      rw [nI_x12]
      refine lf1 (fun m x q => ∃ i, x = nI (12 * o k + i) ∧ i ≤ lenC σ (o k) ∧ m = lenC σ (o k) - i ∧ mf sW σ q ∧ own u q ∧ GG σ q c o (11 + 22 * k + i)) ?_ (lenC σ (o k)) _ y ⟨0, rfl, by omega, rfl, hmy, hoy, by rw [show 11 + 22 * k + 0 = 1 + 22 * k + 10 by omega]; exact hGy⟩
      rintro m P78 x q ⟨i, rfl, hi, rfl, hmq, hoq, hGq⟩ hrec3
      have hl1 := (PN_len hP hok).1
      unfold mw_Stands_guess_78
      rw [e24, mz_rdn (show o k < 2 ^ 31 by omega), hmq 16 (by decide), hl1, ix12]
      refine ⟨hin, fun hle2 => ?_, fun hlt3 => ?_⟩
      · have ei : i = lenC σ (o k) := by rw [nI_leI (by omega) (by omega)] at hle2; omega
        subst ei
        rw [nI_k1]
        refine hrec (c - (k + 1)) _ q (by omega) ⟨k + 1, rfl, by omega, rfl, hmq, hoq, ?_⟩
        refine GG_skip hGq (by omega) (fun t' z q1 q2 => Pn_sE hP hO q1 q2) hP hO (fun k' i' q1 q2 q3 q4 => ?_) (fun k' t' q1 q2 q3 q4 => by omega)
        have := (o_lt hP hO q1).2
        by_cases e : k' = k
        · subst e; omega
        · omega
      · have hi2 : i < lenC σ (o k) := by rw [nI_leI (by omega) (by omega)] at hlt3; omega
        refine mm_guessOp hB hmq hlt hi2 hGq (fun v hmv hov hGv => ?_)
        rw [nI_k1]
        exact hrec3 (lenC σ (o k) - (i + 1)) _ v (by omega) ⟨i + 1, by rw [Nat.add_assoc], by omega, rfl, hmv, own_tr hoq hov, hGv⟩
    · rw [mz_rdn (by omega), hmy 32 (by decide)]
      refine ⟨hin, mm_isIn (by omega) (fun P67 hP67 => ?_)⟩
      have nx : ∀ v, mf sW σ v → own u v → GG σ v c o (1 + 22 * k + t + 1) → P67 v := by
        intro v hmv hov hGv
        apply hP67
        unfold mw_Stands_guess_67
        rw [nI_k1]
        exact hrec2 (10 - (t + 1)) _ v (by omega) ⟨t + 1, rfl, by omega, rfl, hmv, hov, hGv⟩
      refine bz_go (fun e => nx y hmy hoy ?_) (fun e => mm_guessPhi hB hmy hlt (by omega) e hGy (fun v hmv hov hGv => nx v hmv (own_tr hoy hov) hGv))
      refine GG_skip hGy (by omega) (fun t' z q1 q2 => ?_) hP hO (fun k' i' q1 q2 q3 q4 => ?_) (fun k' t' q1 q2 q3 q4 => ?_)
      · rcases Pn_sP hP hO (by omega) q1 q2 with ⟨-, q⟩ | q
        · rw [e] at q; cases q
        · exact q
      · have := (o_lt hP hO q1).2
        omega
      · apply Classical.byContradiction
        intro q5
        have e1 : k' = k := by omega
        have e2 : t' = t := by omega
        subst e1 e2
        rw [e] at q3; cases q3
theorem mm_findWrong (hB : Bas σ n c o) (hm : mf sW σ u) (h : ∀ (r : Bool) v, mf [39] u v → own u v → (r = false → v = u ∧ ∀ k t, k < c → t < 10 → bt (σ 32 (o k)) t = true → bt (u 39 (o k)) t = false → ∀ p, ¬ otP σ u n (1 + 10 * o k + t) (o k) t p) → (r = true → ∃ k t, k < c ∧ t < 10 ∧ bt (u 39 (o k)) t = false ∧ bt (v 39 (o k)) t = true) → K (bz r) v) : mw_Stands_findWrongGuesses K u := by
  obtain ⟨hP, hO, hR, hI, hV⟩ := id hB
  have hn := hP.1
  have hc := hO.1
  unfold mw_Stands_findWrongGuesses
  refine lf2 (fun m f x v => ∃ (k : Nat) (r : Bool), f = bz r ∧ x = nI k ∧ k ≤ c ∧ m = c - k ∧ mf [39] u v ∧ own u v ∧ (r = false → v = u ∧ ∀ k' t, k' < k → t < 10 → bt (σ 32 (o k')) t = true → bt (u 39 (o k')) t = false → ∀ p, ¬ otP σ u n (1 + 10 * o k' + t) (o k') t p) ∧ (r = true → ∃ k t, k < c ∧ t < 10 ∧ bt (u 39 (o k)) t = false ∧ bt (v 39 (o k)) t = true)) ?_ c 0 0 u ⟨0, false, rfl, rfl, by omega, rfl, mf_rf, own_rf, fun _ => ⟨rfl, fun k' t hk' => absurd hk' (by omega)⟩, fun z => by cases z⟩
  rintro m P4 f x v ⟨k, r, rfl, rfl, hk, rfl, hmv, hov, hf, ht'⟩ hrec
  have hmv' : mf sW σ v := mf_tr hm (mf_mono hmv (by decide))
  unfold mw_Stands_findWrongGuesses_4
  rw [hmv' 1006 (by decide), hR.1]
  refine pk_le c k (fun hle => ⟨bz_01 r, ?_⟩) (fun hlt => ?_)
  · have ek : k = c := by omega
    subst ek
    exact h r v hmv hov hf ht'
  · obtain ⟨hok, hlen⟩ := o_lt hP hO hlt
    have hokn := (hO.2.2.2.1 k hlt).1
    have e24 : mz_rd v 24 (nI k) = nI (o k) := by rw [mz_rdn (by omega), hmv' 24 (by decide), hR.2 k hlt]
    have hin : vp_in (nI (o k)) 10 := vp_in_nI hok (by decide)
    refine ⟨vp_in_nI (by omega) (by decide), ?_⟩
    refine lf2 (fun m f x y => ∃ (t : Nat) (r : Bool), f = bz r ∧ x = nI t ∧ t ≤ 10 ∧ m = 10 - t ∧ mf [39] u y ∧ own u y ∧ (r = false → y = u ∧ ∀ k' t', (k' < k ∨ (k' = k ∧ t' < t)) → t' < 10 → bt (σ 32 (o k')) t' = true → bt (u 39 (o k')) t' = false → ∀ p, ¬ otP σ u n (1 + 10 * o k' + t') (o k') t' p) ∧ (r = true → ∃ k t, k < c ∧ t < 10 ∧ bt (u 39 (o k)) t = false ∧ bt (y 39 (o k)) t = true)) ?_ 10 (bz r) 0 v ⟨0, r, rfl, rfl, by omega, rfl, hmv, hov, fun z => ⟨(hf z).1, fun k' t' h1 h2 => (hf z).2 k' t' (by omega) h2⟩, ht'⟩
    rintro m P28 f x y ⟨t, r, rfl, rfl, ht, rfl, hmy, hoy, hfy, hty⟩ hrec2
    have hmy' : mf sW σ y := mf_tr hm (mf_mono hmy (by decide))
    unfold mw_Stands_findWrongGuesses_28
    rw [e24, ge10 (by omega)]
    refine ⟨fun hle => ?_, fun hlt2 => ?_⟩
    · rw [nI_k1]
      exact hrec (c - (k + 1)) _ _ y (by omega) ⟨k + 1, r, rfl, rfl, by omega, rfl, hmy, hoy, fun z => ⟨(hfy z).1, fun k' t' h1 h2 => (hfy z).2 k' t' (by omega) h2⟩, hty⟩
    · rw [mz_rdn (by omega), mz_rdn (by omega), hmy' 32 (by decide)]
      refine ⟨hin, hin, mm_isIn (by omega) (fun P96 hP96 => ?_)⟩
      have nx : ∀ (r' : Bool) z, mf [39] u z → own u z → (r' = false → z = u ∧ r = false ∧ (bt (σ 32 (o k)) t = true → bt (u 39 (o k)) t = false → ∀ p, ¬ otP σ u n (1 + 10 * o k + t) (o k) t p)) → (r' = true → ∃ k t, k < c ∧ t < 10 ∧ bt (u 39 (o k)) t = false ∧ bt (z 39 (o k)) t = true) → P96 (bz r') z := by
        intro r' z hmz hoz hfz htz
        apply hP96
        unfold mw_Stands_findWrongGuesses_96
        rw [nI_k1]
        refine hrec2 (10 - (t + 1)) _ _ z (by omega) ⟨t + 1, r', rfl, rfl, by omega, rfl, hmz, hoz, fun q => ⟨(hfz q).1, fun k' t' h1 h2 => ?_⟩, htz⟩
        obtain ⟨q1, q2, q3⟩ := hfz q
        by_cases e : k' = k ∧ t' = t
        · obtain ⟨rfl, rfl⟩ := e
          exact q3
        · exact (hfy q2).2 k' t' (by omega) h2
      have ybit : r = false → bt (y 39 (o k)) t = bt (u 39 (o k)) t := fun z => by rw [(hfy z).1]
      refine bz_go (fun e => nx r y hmy hoy (fun z => ⟨(hfy z).1, z, fun q1 q2 => ?_⟩) hty) (fun e => ?_)
      · rw [b_wo, q1, ybit z, q2] at e; cases e
      · rw [b_wo, Bool.and_eq_true] at e
        have e2 : bt (y 39 (o k)) t = false := by simpa using e.2
        unfold mw_Mill_phiName
        rw [ixphi]
        refine mm_takesOther hB hmy' (by omega) hokn (by omega) (fun r3 hr1 hr2 => bz_go (fun e3 => nx r y hmy hoy (fun z => ⟨(hfy z).1, z, fun q1 q2 => ?_⟩) hty) (fun e3 => ⟨hin, hin, ?_⟩))
        · have := hr2 e3
          rw [(hfy z).1] at this
          exact this
        · rw [mz_wrn (by omega), mz_rdn (by omega)]
          refine nx true _ (mf_tr hmy (mf_up (by decide))) (own_tr hoy (fun b q hq => ?_)) (fun z => by cases z) (fun _ => ⟨k, t, hlt, by omega, ?_, ?_⟩)
          · rw [up_any]
            split
            · rename_i e4; rw [b_or, ← e4.2, hq]; rfl
            · exact hq
          · cases q : bt (u 39 (o k)) t
            · rfl
            · rw [hoy _ _ q] at e2; cases e2
          · rw [up_at, b_or, b_one (by omega)]
            simp
def ob (u : mz_St) (j : Nat) : Bool := bt (u 39 (j / 10)) (j % 10)
theorem mm_settle (hB : Bas σ n c o) (h : ∀ u, mf sW σ u → StOK u n c o → u 37 0 = 2 → Kv u) : mw_Stands_settle Kv σ := by
  obtain ⟨hP, hO, hR, hI, hV⟩ := id hB
  have hn := hP.1
  unfold mw_Stands_settle
  refine lf1 (fun m x u => ∃ r, x = nI r ∧ r ≤ 101 ∧ m = 101 - r ∧ mf sW σ u ∧ r ≤ cn (ob u) 100) ?_ 101 0 _ ⟨0, rfl, by omega, rfl, mf_fl (by decide), by omega⟩
  rintro m P10 x u ⟨r, rfl, hr, rfl, hm, hcn⟩ hrec
  have hle := cn_le (ob u) 100
  unfold mw_Stands_settle_10
  have e100 : (100 : Int32) < nI r ↔ 100 < r := by
    rw [Int32.lt_iff_toInt_lt, nI_toInt (by omega), show (100 : Int32).toInt = 100 by decide]; omega
  rw [e100]
  refine ⟨fun z => by omega, fun _ => mm_guess hB hm (fun v hmv hov hG => mm_findWrong hB hmv (fun f w hmw how hf ht => ?_))⟩
  have c1 : cn (ob u) 100 ≤ cn (ob v) 100 := cn_mono (fun i hi => hov _ _ hi) 100
  refine bz_og (fun e => ?_) (fun e => ?_)
  · obtain ⟨k, t, hk, htt, b1, b2⟩ := ht e
    have hok := (o_lt hP hO hk).1
    have c2 : cn (ob v) 100 < cn (ob w) 100 := by
      refine cn_lt (fun i hi => how _ _ hi) (j := 10 * o k + t) ?_ ?_ 100 (by omega)
      · show bt (w 39 ((10 * o k + t) / 10)) ((10 * o k + t) % 10) = true
        rw [show (10 * o k + t) / 10 = o k by omega, show (10 * o k + t) % 10 = t by omega]; exact b2
      · show bt (v 39 ((10 * o k + t) / 10)) ((10 * o k + t) % 10) = false
        rw [show (10 * o k + t) / 10 = o k by omega, show (10 * o k + t) % 10 = t by omega]; exact b1
    rw [nI_k1]
    exact hrec (101 - (r + 1)) _ w (by omega) ⟨r + 1, rfl, by omega, rfl, mf_tr hmv (mf_mono hmw (by decide)), by omega⟩
  · obtain ⟨rfl, hno⟩ := hf e
    obtain ⟨g0, g1, g2, g3, g4⟩ := hG
    have hsd : ∀ R t x, t < 10 → Pn σ c o t R x → Sd σ w c o R x := by
      intro R t x ht' hx
      have hm' := Pn_min hx (Pn_end hP hO ht' hx) hP hO ht'
      rcases g1 (min R (1 + 22 * c)) t x (by omega) ht' hm' with q | ⟨q1, y, t', q2, q3, q4⟩
      · exact Or.inl q
      · exact Or.inr ⟨q1, y, t', q2, Pn_mono q3 (by omega), q4⟩
    refine h w hmv (StOK_of (Sn_mf hmv (by decide)) (Or.inl g0) hsd (fun k i hk hi h17 => g2 k i hk hi h17 ?_) (fun k t hk htt hb => ?_)) g0.1
    · have := (o_lt hP hO hk).2; omega
    · obtain ⟨q1, q2⟩ := g3 k t hk htt hb (by omega)
      rcases q1 with z | z
      · exact Or.inl z
      · cases eb : bt (w 39 (o k)) t
        · refine Or.inr ⟨z, fun p hp hg => ?_⟩
          have hnp := hno k t hk htt hb eb p
          apply Classical.byContradiction
          intro hne
          refine hnp ⟨hp, hg, ?_, fun q => hne ⟨q.1.symm, q.2.symm⟩⟩
          rcases hsd _ t _ htt (bh_ok hB hp htt).2.2 with q | ⟨q, -⟩
          · rw [q]; decide
          · rw [q]; decide
        · exact Or.inl (q2 eb)
end I1

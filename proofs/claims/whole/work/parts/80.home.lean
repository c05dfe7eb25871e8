/-! homes: each name its own, or few registers for all -/
def HmOK (σ : mz_St) (n c : Nat) (o : Nat → Nat) : Prop := ∃ fs, σ 1007 0 = nI fs ∧ fs ≤ 230 ∧
  (∀ t x R, t < 10 → Pn σ c o t R x → self σ x → ∃ h, σ 40 x = nI h ∧ h < 229) ∧
  ((∀ t x R h, t < 10 → Pn σ c o t R x → self σ x → σ 40 x = nI h → h < 229 → h < fs) ∨ ∃ s, σ 1008 0 = nI s ∧ s + 1 < fs ∧ s + 1 < 8 ∧ ∀ t x R h, t < 10 → Pn σ c o t R x → self σ x → σ 40 x = nI h → h < 229 → h ≠ s ∧ h ≠ s + 1) ∧
  (∀ k, k < c → Prs σ σ (nx σ (o k) 0) (LvA σ n (o k) 0)) ∧
  (∀ k i, k < c → i < lenC σ (o k) → σ 12 (12 * o k + i) ≠ 17 → self σ (101 + 12 * o k + i) → ∀ t y, t < 10 → LvA σ n (o k) (i + 1) t → y < 221 → st σ (nx σ (o k) (i + 1) t) = nI y → y ≠ 101 + 12 * o k + i → σ 40 y ≠ σ 40 (101 + 12 * o k + i))
section Q1
variable {σ u : mz_St} {n c rg : Nat} {o : Nat → Nat} {K : mz_St → Prop}
theorem mm_giveHomes (hB : Bas σ n c o) (hF : FlowOK σ n) (hS : StOK σ n c o) (hz : σ 37 0 = 2) (hm : mf hW σ u) (hrg : rg ≤ 8) (h : ∀ v, mf [40, 42, 43, 44, 1009, 1010] u v → HG σ v n c o rg (1 + 22 * c) (1 + 22 * c) → K v) : mw_Homes_giveHomes K (nI rg) u := by
  obtain ⟨hP, hO, hR, hI, hV⟩ := id hB
  have hn := hP.1
  have hc := hO.1
  unfold mw_Homes_giveHomes
  generalize hu0 : mz_fl (mz_up (mz_up u 1009 0 (nI rg)) 1010 0 0) 40 221 (-1) = u0
  have hm0 : mf [40, 42, 43, 44, 1009, 1010] u u0 := by
    rw [← hu0]
    exact mf_tr (mf_tr (mf_up (by decide)) (mf_up (by decide))) (mf_fl (by decide))
  have hG0 : HG σ u0 n c o rg (1 + 22 * 0) (1 + 22 * 0) := by
    refine ⟨fun t x ht hx hs => ?_, fun t x R' ht hx hnx => ?_, fun k i hk hi hQ => by omega, fun k i hk hi hQ => by omega, ?_, Or.inl ?_⟩
    · exfalso
      rcases hx with z | ⟨j, h1, h2, h3, h4⟩ | ⟨j, i, h1, h2, h3, h4, h5⟩
      · rw [z] at hs
        have := hs.1
        rw [hz] at this
        exact absurd this (by decide)
      · omega
      · omega
    · rw [← hu0, fl_at (Pn_lt hP hO ht hx)]
    · rw [← hu0, fl_row (by decide), up_row (by decide), up_at]
    · rw [← hu0, fl_row (by decide), up_at]
  refine lf1 (fun m x w => ∃ k, x = nI k ∧ k ≤ c ∧ m = c - k ∧ mf [40, 42, 43, 44, 1009, 1010] u w ∧ HG σ w n c o rg (1 + 22 * k) (1 + 22 * k)) ?_ c 0 u0 ⟨0, rfl, by omega, rfl, hm0, hG0⟩
  rintro m P20 x w ⟨k, rfl, hk, rfl, hmw, hG⟩ hrec
  have hmw' : mf hW σ w := mf_tr hm (mf_mono hmw (by decide))
  unfold mw_Homes_giveHomes_20
  rw [hmw' 1006 (by decide), hR.1]
  refine pk_le c k (fun hle => ?_) (fun hlt => ?_)
  · have ek : k = c := by omega
    subst ek
    exact h w hmw hG
  · obtain ⟨hok, hlen⟩ := o_lt hP hO hlt
    have hokn := (hO.2.2.2.1 k hlt).1
    have e24 : mz_rd w 24 (nI k) = nI (o k) := by rw [mz_rdn (by omega), hmw' 24 (by decide), hR.2 k hlt]
    have hin : vp_in (nI (o k)) 10 := vp_in_nI hok (by decide)
    refine ⟨vp_in_nI (by omega) (by decide), ?_⟩
    rw [e24]
    refine mm_giveHomesToPhis hB hF hS hz hmw' hrg hlt hG (fun v hmv hGv v42 => ?_)
    have hmv' : mf hW σ v := mf_tr hmw' (mf_mono hmv (by decide))
    have hSv : Sm σ v := Sm_mf hmv' (by decide)
    have hLv : liveOK v n := by
      have := hF.2.2.2.2.2.2.2.2.2.2.1
      unfold liveOK at this ⊢
      rw [hmv' 31 (by decide), Sm_Lv hSv]; exact this
    refine mm_findLiveBehind (hSv.pn hP) hLv hokn (fun y hmy y44 => ?_)
    rw [Sm_lenC hSv, Sm_LvA hSv] at y44
    have hGy : HG σ y n c o rg (11 + 22 * k + 0) (11 + 22 * k + 0) := by
      unfold HG Prs
      rw [hmy 40 (by decide), hmy 1009 (by decide), hmy 1010 (by decide)]
      exact hGv
    refine lf1 (fun m x q => ∃ i, x = nI i ∧ i ≤ lenC σ (o k) ∧ m = lenC σ (o k) - i ∧ mf [40, 42, 43, 1010] y q ∧ HG σ q n c o rg (11 + 22 * k + i) (11 + 22 * k + i) ∧ ∀ t, t < 10 → q 42 t = st σ (nx σ (o k) i t)) ?_ (lenC σ (o k)) 0 y ⟨0, rfl, by omega, rfl, mf_rf, hGy, fun t ht => by rw [hmy 42 (by decide)]; exact v42 t ht⟩
    rintro m P54 x q ⟨i, rfl, hi, rfl, hmq, hGq, q42⟩ hrec2
    have hmyq : mf hW σ q := mf_tr hmv' (mf_tr (mf_mono hmy (by decide)) (mf_mono hmq (by decide)))
    have hl1 := (PN_len hP hok).1
    unfold mw_Homes_giveHomes_54
    rw [e24, mz_rdn (show o k < 2 ^ 31 by omega), hmyq 16 (by decide), hl1]
    refine ⟨hin, fun hle => ?_, fun hlt2 => ?_⟩
    · have ei : i = lenC σ (o k) := by rw [nI_leI (by omega) (by omega)] at hle; omega
      subst ei
      rw [nI_k1]
      refine hrec (c - (k + 1)) _ q (by omega) ⟨k + 1, rfl, by omega, rfl, mf_tr hmw (mf_tr (mf_mono hmv (by decide)) (mf_tr (mf_mono hmy (by decide)) (mf_mono hmq (by decide)))), ?_⟩
      refine HG_pt (HG_skip hGq (by omega) rfl rfl rfl (fun t' z q1 q2 _ => Pn_sE hP hO q1 q2) (fun k' i' q1 q2 q3 _ _ => ?_)) (fun k' i' q1 q2 q3 q4 => ?_)
      · have := (o_lt hP hO q1).2
        by_cases e : k' = k
        · subst e; omega
        · omega
      · exfalso
        have := (o_lt hP hO q1).2
        by_cases e : k' = k
        · subst e; omega
        · omega
    · have hi2 : i < lenC σ (o k) := by rw [nI_leI (by omega) (by omega)] at hlt2; omega
      refine ⟨vp_in_nI (by omega) (by decide), ?_⟩
      rw [ix12, mz_rdn (by omega)]
      refine mm_giveHomeToMade hB hS hmyq hrg hlt hi2 hGq q42 (fun t ht => by rw [hmq 44 (by decide)]; exact y44 i hi2 t ht) (fun z hmz hGz z42 => ?_)
      rw [nI_k1]
      exact hrec2 (lenC σ (o k) - (i + 1)) _ z (by omega) ⟨i + 1, rfl, by omega, rfl, mf_tr hmq hmz, hGz, z42⟩
theorem mm_addCost (hB : Bas σ n c o) (hS : StOK σ n c o) (hm : mf hW σ u) {t R x : Nat} {wt : Int64} (ht : t < 10) (hx : Pn σ c o t R x) (h : K u) : mw_Homes_addCost K (nI x) wt u := by
  obtain ⟨hP, hO, hR, hI, hV⟩ := id hB
  have hlt := Pn_lt hP hO ht hx
  unfold mw_Homes_addCost
  refine mm_isNumber hlt (bz_og (fun _ => h) (fun e => ?_))
  rw [hm 37 (by decide)] at e
  rw [mz_rdn (by omega), hm 38 (by decide)]
  rcases hS.2.1 R t x ht hx with q | ⟨q1, y, t', ht', hy, q2, q3⟩
  · exact absurd q (of_decide_eq_false e)
  · rw [q2]
    have := Pn_lt hP hO ht' hy
    exact ⟨vp_in_nI hlt (by decide), vp_in_nI this (by decide), fun _ => ⟨vp_in_nI this (by decide), h⟩⟩
theorem mm_addCostsOfEdges (hB : Bas σ n c o) (hS : StOK σ n c o) (hm : mf hW σ u) {b : Nat} {wt : Int64} (hb : Al σ n b) (h : K u) : mw_Homes_addCostsOfEdges K (nI b) wt u := by
  obtain ⟨hP, hO, hR, hI, hV⟩ := id hB
  have hn := hP.1
  have hbn := hb.1
  have hSm : Sm σ u := Sm_mf hm (by decide)
  have hPu := hSm.pn hP
  obtain ⟨eC1, eC2⟩ := PN_eC hP hbn
  unfold mw_Homes_addCostsOfEdges
  refine lf1 (fun m x v => ∃ e, x = nI e ∧ e ≤ eC σ b ∧ m = eC σ b - e ∧ v = u) ?_ (eC σ b) 0 u ⟨0, rfl, by omega, rfl, rfl⟩
  rintro m P3 x v ⟨e, rfl, he, rfl, rfl⟩ hrec
  unfold mw_Homes_addCostsOfEdges_3
  refine mm_edges hPu hbn ?_
  rw [hSm 17 (by decide), eC1]
  refine pk_le (eC σ b) e (fun _ => h) (fun hlt => mm_target (by omega) (by omega) ?_)
  obtain ⟨t1, t2⟩ := PN_eT hP hbn e
  rw [hSm 19 (by decide), hSm 20 (by decide), t1]
  refine lf1 (fun m x w => ∃ t, x = nI t ∧ t ≤ 10 ∧ m = 10 - t ∧ w = v) ?_ 10 0 v ⟨0, rfl, by omega, rfl, rfl⟩
  rintro m P31 x w ⟨t, rfl, ht, rfl, rfl⟩ hrec2
  unfold mw_Homes_addCostsOfEdges_31
  rw [ge10 (by omega)]
  refine ⟨fun _ => ?_, fun hlt2 => ?_⟩
  · rw [nI_k1]
    exact hrec (eC σ b - (e + 1)) _ w (by omega) ⟨e + 1, rfl, by omega, rfl, rfl⟩
  · refine mm_keepsPhi (by omega) (by omega) (fun P83 hP83 => ?_)
    have nx : P83 w := by
      apply hP83
      unfold mw_Homes_addCostsOfEdges_83
      rw [nI_k1]
      exact hrec2 (10 - (t + 1)) _ w (by omega) ⟨t + 1, rfl, by omega, rfl, rfl⟩
    refine bz_go (fun _ => nx) (fun _ => ?_)
    obtain ⟨a1, a2, a3⟩ := bh_ok hB hb (show t < 10 by omega)
    unfold mw_Mill_phiName mw_Names_along
    rw [ixphi, ix10]
    have v1 : vp_in (nI (1 + 10 * eT σ b e + t)) 221 := vp_in_nI (by omega) (by decide)
    refine ⟨v1, fun _ => ⟨v1, vp_in_nI (by omega) (by decide), ?_⟩⟩
    rw [mz_rdn (by omega), hm 36 (by decide), a1]
    exact mm_addCost hB hS hm (by omega) a3 nx
theorem mm_findCosts (hB : Bas σ n c o) (hS : StOK σ n c o) (hm : mf hW σ u) (h : K u) : mw_Homes_findCosts K u := by
  obtain ⟨hP, hO, hR, hI, hV⟩ := id hB
  have hn := hP.1
  have hc := hO.1
  have hSm : Sm σ u := Sm_mf hm (by decide)
  have hPu := hSm.pn hP
  unfold mw_Homes_findCosts
  refine lf1 (fun m x v => ∃ k, x = nI k ∧ k ≤ c ∧ m = c - k ∧ v = u) ?_ c 0 u ⟨0, rfl, by omega, rfl, rfl⟩
  rintro m P10 x v ⟨k, rfl, hk, rfl, rfl⟩ hrec
  unfold mw_Homes_findCosts_10
  rw [hm 1006 (by decide), hR.1]
  refine pk_le c k (fun _ => h) (fun hlt => ?_)
  obtain ⟨hok, hlen⟩ := o_lt hP hO hlt
  have hal := (hO.2.2.2.1 k hlt).2
  have e24 : mz_rd v 24 (nI k) = nI (o k) := by rw [mz_rdn (by omega), hm 24 (by decide), hR.2 k hlt]
  have hin : vp_in (nI (o k)) 10 := vp_in_nI hok (by decide)
  rw [e24]
  refine ⟨vp_in_nI (by omega) (by decide), hin, ?_⟩
  rw [nI_x12]
  refine lf1 (fun m x w => ∃ i, x = nI (12 * o k + i) ∧ i ≤ lenC σ (o k) ∧ m = lenC σ (o k) - i ∧ w = v) ?_ (lenC σ (o k)) _ v ⟨0, rfl, by omega, rfl, rfl⟩
  rintro m P51 x w ⟨i, rfl, hi, rfl, rfl⟩ hrec2
  have hl1 := (PN_len hP hok).1
  unfold mw_Homes_findCosts_51
  rw [e24, mz_rdn (show o k < 2 ^ 31 by omega), hm 16 (by decide), hl1, ix12]
  refine ⟨hin, fun hle => ?_, fun hlt2 => ?_⟩
  · refine mm_endTakesTemp hok (fun P157 hP157 => ?_)
    have nx : P157 w := by
      apply hP157
      unfold mw_Homes_findCosts_157
      rw [e24]
      refine mm_addCostsOfEdges hB hS hm hal ?_
      rw [nI_k1]
      exact hrec (c - (k + 1)) _ w (by omega) ⟨k + 1, rfl, by omega, rfl, rfl⟩
    refine bz_go (fun _ => nx) (fun _ => ⟨hin, ?_⟩)
    obtain ⟨len, e, -, -, -, hE, -⟩ := hP.2.2.2 (o k) (by omega)
    obtain ⟨te, hte, ete⟩ := hE.2.2.2.1
    rw [mz_rdn (by omega), hm 35 (by decide), (hI k hlt).2.2.2, ete, nI_clamp (by omega)]
    exact mm_addCost hB hS hm hte (Pn_nx hP hO hI hlt (Nat.le_refl _) hte) nx
  · have hi2 : i < lenC σ (o k) := by rw [nI_leI (by omega) (by omega)] at hlt2; omega
    have hin2 : vp_in (nI (12 * o k + i)) 120 := vp_in_nI (by omega) (by decide)
    refine mm_keepsOp hok (by omega) (fun P126 hP126 => ?_)
    have nx : P126 w := by
      apply hP126
      unfold mw_Homes_findCosts_126
      rw [nI_k1]
      exact hrec2 (lenC σ (o k) - (i + 1)) _ w (by omega) ⟨i + 1, by rw [Nat.add_assoc], by omega, rfl, rfl⟩
    refine bz_go (fun _ => nx) (fun _ => ?_)
    unfold mw_Mill_madeName
    rw [ixmade, ← Nat.add_assoc]
    have v1 : vp_in (nI (101 + 12 * o k + i)) 221 := vp_in_nI (by omega) (by decide)
    obtain ⟨n1, n2, n3, n4⟩ := (hI k hlt).2.2.1 i hi2
    have two : ∀ (x : Nat) (t R : Nat), t < 10 → Pn σ c o t R x → σ 34 (12 * o k + i) = nI x → vp_in (nI (12 * o k + i)) 120 ∧ mw_Homes_addCost (fun u7 => P126 u7) (mz_rd w 34 (nI (12 * o k + i))) ((1 : Int64) <<< (((3 : Int32) * (mz_rd w 28 (nI (o k)))).toInt64 &&& 63)) w := by
      intro x t R ht hx e
      refine ⟨hin2, ?_⟩
      rw [mz_rdn (by omega), hm 34 (by decide), e]
      exact mm_addCost hB hS hm ht hx nx
    have snd : vp_in (nI (12 * o k + i)) 120 ∧ mw_Homes_addCost (fun u7 => P126 u7) (mz_rd w 34 (nI (12 * o k + i))) ((1 : Int64) <<< (((3 : Int32) * (mz_rd w 28 (nI (o k)))).toInt64 &&& 63)) w := by
      by_cases hb : tkB (σ 12 (12 * o k + i))
      · obtain ⟨tb, htb, hnb, -, -⟩ := Pn_nb hP hO hI hlt hi2 hb
        exact two _ tb _ htb hnb (n3 hb)
      · exact two 0 0 0 (by omega) (Or.inl rfl) (n4 hb)
    refine ⟨v1, fun _ => ⟨v1, hin2, ?_⟩⟩
    rw [mz_rdn (show 12 * o k + i < 2 ^ 31 by omega), hm 33 (by decide)]
    by_cases h0 : σ 12 (12 * o k + i) = 0
    · rw [n2 h0]
      exact mm_addCost (x := 0) (t := 0) (R := 0) hB hS hm (by omega) (Or.inl rfl) snd
    · obtain ⟨ta, hta, hna, -, -⟩ := Pn_na hP hO hI hlt hi2 h0
      rw [n1 h0]
      exact mm_addCost hB hS hm hta hna snd
theorem HmOK_of (hB : Bas σ n c o) (hm : mf hW σ u) {fs : Nat} (h7 : u 1007 0 = nI fs) (hfs : fs ≤ 230) (h1 : ∀ t x R, t < 10 → Pn σ c o t R x → self σ x → ∃ h, u 40 x = nI h ∧ h < 229) (h2 : (∀ t x R h, t < 10 → Pn σ c o t R x → self σ x → u 40 x = nI h → h < 229 → h < fs) ∨ ∃ s, u 1008 0 = nI s ∧ s + 1 < fs ∧ s + 1 < 8 ∧ ∀ t x R h, t < 10 → Pn σ c o t R x → self σ x → u 40 x = nI h → h < 229 → h ≠ s ∧ h ≠ s + 1) (h3 : ∀ k, k < c → Prs σ u (nx σ (o k) 0) (LvA σ n (o k) 0)) (h4 : ∀ k i, k < c → i < lenC σ (o k) → σ 12 (12 * o k + i) ≠ 17 → self σ (101 + 12 * o k + i) → ∀ t y, t < 10 → LvA σ n (o k) (i + 1) t → y < 221 → st σ (nx σ (o k) (i + 1) t) = nI y → y ≠ 101 + 12 * o k + i → u 40 y ≠ u 40 (101 + 12 * o k + i)) : HmOK u n c o := by
  have hSn : Sn σ u := Sn_mf hm (by decide)
  have e1 : self u = self σ := by funext x; unfold self; rw [hm 37 (by decide), hm 38 (by decide)]
  have e2 : st u = st σ := by funext x; unfold st; rw [hm 37 (by decide), hm 38 (by decide)]
  have e3 : nx u = nx σ := by funext b i t; unfold nx; rw [Sn_nm hSn, Sn_bf hSn]
  unfold HmOK Prs
  rw [Sn_Pn hSn, e1, e2, e3, Sm_LvA hSn.sm, Sm_lenC hSn.sm, hm 12 (by decide)]
  exact ⟨fs, h7, hfs, h1, h2, h3, h4⟩
def hW2 : List Nat := [40, 1007]
theorem mm_giveEach (hB : Bas σ n c o) (hS : StOK σ n c o) (h : ∀ v, mf hW σ v → HmOK v n c o → K v) : mw_Homes_giveEachItsOwn K σ := by
  obtain ⟨hP, hO, hR, hI, hV⟩ := id hB
  unfold mw_Homes_giveEachItsOwn
  refine lf1 (fun m x v => ∃ i, x = nI i ∧ i ≤ 221 ∧ m = 221 - i ∧ mf [40] σ v ∧ ∀ y, y < i → v 40 y = nI y) ?_ 221 0 σ ⟨0, rfl, by omega, rfl, mf_rf, fun y hy => absurd hy (by omega)⟩
  rintro m P2 x v ⟨i, rfl, hi, rfl, hm, hv⟩ hrec
  unfold mw_Homes_giveEachItsOwn_2
  rw [ge221 (by omega)]
  refine ⟨fun hle => ?_, fun hlt => ?_⟩
  · have ei : i = 221 := by omega
    subst ei
    have hm2 : mf hW σ (mz_up v 1007 0 230) := mf_tr (mf_mono hm (by decide)) (mf_up (by decide))
    have v40 : ∀ y, y < 221 → mz_up v 1007 0 230 40 y = nI y := fun y hy => by rw [up_row (by decide)]; exact hv y hy
    refine h _ hm2 (HmOK_of hB hm2 (fs := 230) up_at (by omega) (fun t x R ht hx _ => ?_) (Or.inl (fun t x R q ht hx _ e _ => by omega)) (fun k hk t1 t2 y1 y2 h1 h2 _ _ l1 l2 _ _ hne => ?_) (fun k i hk hi h17 hs t y ht hL hy e hne => ?_))
    · have := Pn_lt hP hO ht hx
      exact ⟨x, v40 x this, by omega⟩
    · rw [v40 y1 l1, v40 y2 l2]
      exact fun z => hne ((nI_eq (by omega) (by omega)).mp z)
    · have := o_lt hP hO hk
      rw [v40 y hy, v40 _ (by omega)]
      exact fun z => hne ((nI_eq (by omega) (by omega)).mp z)
  · rw [mz_wrn (by omega), nI_k1]
    refine ⟨vp_in_nI (by omega) (by decide), hrec (221 - (i + 1)) _ _ (by omega) ⟨i + 1, rfl, by omega, rfl, mf_tr hm (mf_up (by decide)), fun y hy => ?_⟩⟩
    by_cases e : y = i
    · subst e; rw [up_at]
    · rw [up_ot e]; exact hv y (by omega)
theorem mm_shareRegisters (hB : Bas σ n c o) (hF : FlowOK σ n) (hS : StOK σ n c o) (hz : σ 37 0 = 2) {r : Nat} (hr2 : 2 ≤ r) (hr8 : r ≤ 8) (h : ∀ v, mf hW σ v → HmOK v n c o → K v) : mw_Homes_shareRegisters K (nI r) σ := by
  obtain ⟨hP, hO, hR, hI, hV⟩ := id hB
  unfold mw_Homes_shareRegisters
  have er : nI r - 2 = nI (r - 2) := by
    obtain ⟨q, rfl⟩ : ∃ q, r = q + 2 := ⟨r - 2, by omega⟩
    rw [← nI_2, Int32.add_sub_cancel]
    congr 1
  rw [er]
  have hm0 : mf hW σ (mz_up (mz_up σ 1007 0 8) 1008 0 (nI (r - 2))) := mf_tr (mf_up (by decide)) (mf_up (by decide))
  have e7 : mz_up (mz_up σ 1007 0 8) 1008 0 (nI (r - 2)) 1007 0 = nI 8 := by rw [up_row (by decide), up_at]; rfl
  have e8 : mz_up (mz_up σ 1007 0 8) 1008 0 (nI (r - 2)) 1008 0 = nI (r - 2) := up_at
  generalize mz_up (mz_up σ 1007 0 8) 1008 0 (nI (r - 2)) = u0 at hm0 e7 e8 ⊢
  -- a pass that is good ends it
  have good : ∀ (v : mz_St) (rg : Nat), mf hW σ v → rg ≤ 8 → v 1007 0 = nI 8 → v 1008 0 = nI (r - 2) → HG σ v n c o rg (1 + 22 * c) (1 + 22 * c) → (v 1010 0 = 0 ∨ rg ≤ r - 2) → K v := by
    intro v rg hmv hrg v7 v8 hG hor
    refine h v hmv (HmOK_of hB hmv v7 (by omega) (fun t x R ht hx hs => ?_) ?_ (fun k hk => hG.2.2.1 k 0 hk (by omega) (by omega)) (fun k i hk hi h17 hs => hG.2.2.2.1 k i hk hi (by have := (o_lt hP hO hk).2; omega) h17 hs))
    · obtain ⟨q, e, f⟩ := hG.1 t x ht (Pn_end hP hO ht hx) hs
      have := Pn_lt hP hO ht hx
      refine ⟨q, e, ?_⟩
      omega
    · rcases hor with z | z
      · left
        intro t x R q ht hx hs e hq
        obtain ⟨q', e', f⟩ := hG.1 t x ht (Pn_end hP hO ht hx) hs
        have := Pn_lt hP hO ht hx
        rw [e, nI_eq (by omega) (by omega)] at e'
        rcases f with f | ⟨-, f⟩
        · omega
        · rw [z] at f; exact absurd f (by decide)
      · right
        refine ⟨r - 2, v8, by omega, by omega, fun t x R q ht hx hs e hq => ?_⟩
        obtain ⟨q', e', f⟩ := hG.1 t x ht (Pn_end hP hO ht hx) hs
        have := Pn_lt hP hO ht hx
        rw [e, nI_eq (by omega) (by omega)] at e'
        omega
  refine mm_findCosts hB hS hm0 (mm_giveHomes hB hF hS hz hm0 hr8 (fun v hmv hG => ?_))
  have hmv' : mf hW σ v := mf_tr hm0 (mf_mono hmv (by decide))
  have v7 : v 1007 0 = nI 8 := by rw [hmv 1007 (by decide)]; exact e7
  have v8 : v 1008 0 = nI (r - 2) := by rw [hmv 1008 (by decide)]; exact e8
  refine ⟨fun e => good v r hmv' hr8 v7 v8 hG (Or.inl e), fun _ => ?_⟩
  rw [v8]
  refine mm_giveHomes hB hF hS hz hmv' (by omega) (fun w hmw hGw => ?_)
  exact good w (r - 2) (mf_tr hmv' (mf_mono hmw (by decide))) (by omega) (by rw [hmw 1007 (by decide)]; exact v7) (by rw [hmw 1008 (by decide)]; exact v8) hGw (Or.inr (Nat.le_refl _))
end Q1

/-! the reference's order: a stack does what the calls do -/
theorem dgo_seen {σ : mz_St} {f k : Nat} {s : Ds} (h : bt s.1 k = true) : dgo σ f k s = s := by
  cases f with
  | zero => rfl
  | succ f => rw [dgo_s, if_pos h]
def Rep70 (st : mz_St) (l : List Nat) : Prop := ∀ i, i < l.length → st 70 i = nI (l.getD i 0)
theorem note_fin {σ : mz_St} {n : Nat} (hP : PN σ n) {K : Int32 → mz_St → Prop} {P31 : Int32 → Int32 → Int32 → mz_St → Prop} (hP31 : ∀ x1 x2 x3 s, mw_Ref_note_31 K P31 x1 x2 x3 s → P31 x1 x2 x3 s) :
    ∀ (f r d k e : Nat) (s : Ds) (st : mz_St), r = eC σ k - e → 1 ≤ d → k < n → e ≤ eC σ k → mf [70, 71, 72] σ st → Rep70 st s.2 → st 71 (d - 1) = nI k → st 72 (d - 1) = nI e → s.2.length + d ≤ cb s.1 → 10 ≤ cb s.1 + f →
      (∀ (s' : Ds) (st' : mz_St), s' = rsx (dgo σ f) (eC σ k) (eT σ k 0) (eT σ k 1) e s → mf [70, 71, 72] σ st' → (∀ i, i < d - 1 → st' 71 i = st 71 i ∧ st' 72 i = st 72 i) → Rep70 st' (s'.2 ++ [k]) → s'.2.length + d ≤ cb s'.1 → cb s.1 ≤ cb s'.1 → P31 (nI (s'.2.length + 1)) (nI (d - 1)) s'.1 st') →
      P31 (nI s.2.length) (nI d) s.1 st := by
  have hn := hP.1
  intro f
  induction f using Nat.strongRecOn with
  | ind f ihf =>
  intro r
  induction r with
  | zero =>
    intro d k e s st hr hd hk he hm h70 h71 h72 hb hf h
    have hE := PN_eC hP hk
    have hcb := cb_le s.1
    have hSm : Sm σ st := Sm_mf hm (by decide)
    apply hP31
    unfold mw_Ref_note_31
    have ed : nI d - 1 = nI (d - 1) := by rw [show (1 : Int32) = nI 1 from rfl, pk_sub (by omega)]
    have ed2 : nI d + (-1) = nI (d - 1) := by
      rw [show d = (d - 1) + 1 by omega, pk_m1]
      rfl
    obtain ⟨len, e', -, -, -, ⟨q1, q2, q3, -⟩, -⟩ := hP.2.2.2 k (by omega)
    have hee : e' = eC σ k := by
      rw [hE.1, nI_eq (by omega) (by omega)] at q1; exact q1.symm
    subst hee
    refine ⟨fun z => absurd z (nI_nle (by omega) (by omega)), fun _ => ?_⟩
    rw [ed, mz_wrn (by omega), mz_rdn (by omega), mz_rdn (by omega), h71, h72, nI_k1, mz_rdn (by omega), up_row (by decide), hSm 62 (by decide), q2]
    have hin : vp_in (nI (d - 1)) 10 := vp_in_nI (by omega) (by decide)
    refine ⟨hin, hin, hin, hin, vp_in_nI (by omega) (by decide), fun P154 hP154 => ?_⟩
    refine pk_le (eC σ k) e (fun _ => ⟨vp_in_nI (by omega) (by decide), hP154 _ _ _ _ ?_⟩) (fun z => absurd z (by omega))
    unfold mw_Ref_note_154
    rw [nI_k1, ed2, mz_wrn (by omega)]
    refine h s _ (rsx_e (by omega)).symm (mf_tr (mf_tr hm (mf_up (by decide))) (mf_up (by decide))) (fun i hi => ?_) (fun i hi => ?_) hb (Nat.le_refl _)
    · rw [up_row (by decide), up_row (by decide), up_row (by decide), up_ot (by omega)]
      exact ⟨rfl, rfl⟩
    · rw [List.length_append] at hi
      have hi : i < s.2.length + 1 := hi
      rw [getD_app]
      by_cases hil : i < s.2.length
      · rw [if_pos hil, up_ot (by omega), up_row (by decide)]
        exact h70 i hil
      · have : i = s.2.length := by omega
        subst this
        rw [if_neg hil, if_pos rfl, up_at]
  | succ r ihr =>
    intro d k e s st hr hd hk he hm h70 h71 h72 hb hf h
    have hE := PN_eC hP hk
    have hcb := cb_le s.1
    have hSm : Sm σ st := Sm_mf hm (by decide)
    apply hP31
    unfold mw_Ref_note_31
    have ed : nI d - 1 = nI (d - 1) := by rw [show (1 : Int32) = nI 1 from rfl, pk_sub (by omega)]
    obtain ⟨len, e', -, -, -, ⟨q1, q2, q3, -, -, -, -, q8, q9⟩, -⟩ := hP.2.2.2 k (by omega)
    have hee : e' = eC σ k := by
      rw [hE.1, nI_eq (by omega) (by omega)] at q1; exact q1.symm
    subst hee
    refine ⟨fun z => absurd z (nI_nle (by omega) (by omega)), fun _ => ?_⟩
    rw [ed, mz_wrn (by omega), mz_rdn (by omega), mz_rdn (by omega), h71, h72, nI_k1, mz_rdn (by omega), up_row (by decide), hSm 62 (by decide), q2]
    have hin : vp_in (nI (d - 1)) 10 := vp_in_nI (by omega) (by decide)
    have hink : vp_in (nI k) 10 := vp_in_nI (by omega) (by decide)
    refine ⟨hin, hin, hin, hin, hink, fun P154 hP154 => ?_⟩
    refine pk_le (eC σ k) e (fun z => absurd z (by omega)) (fun hlt => fun P101 hP101 => ?_)
    rw [mz_rdn (by omega), mz_rdn (by omega), up_row (by decide), up_row (by decide), hSm 64 (by decide), hSm 65 (by decide), n0 (by omega)]
    have hm1 : mf [70, 71, 72] σ (mz_up st 72 (d - 1) (nI (e + 1))) := mf_tr hm (mf_up (by decide))
    have hT := PN_eT hP hk e
    have hif : (if e = 0 then eT σ k 0 else eT σ k 1) = eT σ k e := by
      by_cases hj0 : e = 0
      · rw [if_pos hj0, hj0]
      · rw [if_neg hj0, show e = 1 by omega]
    have hstep := rsx_s (h := dgo σ f) (t0 := eT σ k 0) (t1 := eT σ k 1) (s := s) hE.2 hlt
    rw [hif] at hstep
    -- behind the edge: the rest of k's edges
    have later : ∀ (s1 : Ds) (st1 : mz_St), s1 = dgo σ f (eT σ k e) s → mf [70, 71, 72] σ st1 → Rep70 st1 s1.2 → (∀ i, i < d → st1 71 i = st 71 i) → (∀ i, i < d - 1 → st1 72 i = st 72 i) → st1 72 (d - 1) = nI (e + 1) → s1.2.length + d ≤ cb s1.1 → cb s.1 ≤ cb s1.1 → P31 (nI s1.2.length) (nI d) s1.1 st1 := by
      intro s1 st1 hs1 hmm h70' h71' h72' h72e hb1 hb2
      refine ihr d k (e + 1) s1 st1 (by omega) hd hk (by omega) hmm h70' (by rw [h71' _ (by omega)]; exact h71) h72e hb1 (by omega) (fun s' st' hs' hm' hr' h70'' hb' hc' => ?_)
      refine h s' st' (by rw [hs', hs1, hstep]) hm' (fun i hi => ?_) h70'' hb' (by omega)
      rw [(hr' i hi).1, (hr' i hi).2, h71' i (by omega), h72' i hi]
      exact ⟨rfl, rfl⟩
    have body : P101 (nI (eT σ k e)) (mz_up st 72 (d - 1) (nI (e + 1))) := by
      apply hP101
      unfold mw_Ref_note_101
      intro P137 hP137
      rw [b_is0 s.1 (show eT σ k e < 32 by have := hT.2; omega)]
      refine ⟨fun z => ?_, fun z => ?_⟩
      · have hs : bt s.1 (eT σ k e) = true := by
          cases e9 : bt s.1 (eT σ k e)
          · exact absurd e9 z
          · rfl
        refine hP137 _ _ _ (hP154 _ _ _ _ ?_)
        unfold mw_Ref_note_154
        exact later s _ (dgo_seen hs).symm hm1 (fun i hi => by rw [up_row (by decide)]; exact h70 i hi) (fun i _ => by rw [up_row (by decide)]) (fun i hi => up_ot (by omega)) up_at hb (Nat.le_refl _)
      · have hmk := cb_mark (x := s.1) (k := eT σ k e) (by have := hT.2; omega) z
        have hmk2 := cb_le (s.1 ||| ((1 : Int32) <<< (nI (eT σ k e) &&& 31)))
        have hf1 : f = (f - 1) + 1 := by omega
        refine ⟨vp_in_nI (by omega) (by decide), vp_in_nI (by omega) (by decide), hP137 _ _ _ (hP154 _ _ _ _ ?_)⟩
        unfold mw_Ref_note_154
        rw [nI_k1, mz_wrn (by omega), mz_wrn (by omega)]
        refine ihf (f - 1) (by omega) (eC σ (eT σ k e)) (d + 1) (eT σ k e) 0 (mark (eT σ k e) s) _ (by omega) (by omega) hT.2 (by omega) (mf_tr (mf_tr hm1 (mf_up (by decide))) (mf_up (by decide))) (fun i hi => ?_) ?_ ?_ ?_ ?_ (fun s' st' hs' hm' hr' h70'' hb' hc' => ?_)
        · rw [up_row (by decide), up_row (by decide), up_row (by decide)]
          exact h70 i hi
        · rw [Nat.add_sub_cancel, up_row (by decide), up_at]
        · rw [Nat.add_sub_cancel, up_at]; rfl
        · show s.2.length + (d + 1) ≤ cb (s.1 ||| ((1 : Int32) <<< (nI (eT σ k e) &&& 31)))
          omega
        · show 10 ≤ cb (s.1 ||| ((1 : Int32) <<< (nI (eT σ k e) &&& 31))) + (f - 1)
          omega
        · have hc2 : cb (s.1 ||| ((1 : Int32) <<< (nI (eT σ k e) &&& 31))) ≤ cb s'.1 := hc'
          have hdg : (s'.1, s'.2 ++ [eT σ k e]) = dgo σ f (eT σ k e) s := by
            rw [hf1, dgo_s, if_neg (by rw [z]; decide), hs']
          have hlen : (s'.2 ++ [eT σ k e]).length = s'.2.length + 1 := by rw [List.length_append]; rfl
          rw [Nat.add_sub_cancel]
          have := later (s'.1, s'.2 ++ [eT σ k e]) st' hdg hm' h70'' (fun i hi => ?_) (fun i hi => ?_) ?_ ?_ ?_
          · rw [hlen] at this
            exact this
          · rw [(hr' i (by omega)).1, up_row (by decide), up_ot (by omega), up_row (by decide)]
          · rw [(hr' i (by omega)).2, up_ot (by omega), up_row (by decide), up_ot (by omega)]
          · rw [(hr' (d - 1) (by omega)).2, up_ot (by omega), up_row (by decide), up_at]
          · show (s'.2 ++ [eT σ k e]).length + d ≤ cb s'.1
            rw [hlen]
            omega
          · show cb s.1 ≤ cb s'.1
            omega
    refine ⟨fun z => ⟨hink, ?_⟩, fun z => ⟨hink, ?_⟩⟩
    · have e1 : e = 1 := by omega
      rw [q9 (by omega)]
      have := hT.1
      rw [if_neg z] at this
      rw [this]
      exact body
    · rw [q8 (by omega)]
      have := hT.1
      rw [if_pos z] at this
      rw [this]
      exact body
theorem mm_note {K : Int32 → mz_St → Prop} {σ : mz_St} {n : Nat} (hP : PN σ n) (h : ∀ u, mf [70, 71, 72] σ u → Rep70 u (outL σ n) → K (nI (outL σ n).length) u) : mw_Ref_note K σ := by
  have hn := hP.1
  unfold mw_Ref_note
  intro P31 hP31
  rw [hP.2.2.1]
  refine pk_le n 0 (fun hn0 => ?_) (fun hn0 => ⟨vp_in_nI (n := 0) (by decide) (by decide), vp_in_nI (n := 0) (by decide) (by decide), ?_⟩)
  · have eo : outL σ n = [] := by unfold outL; rw [if_pos (by omega)]
    rw [eo] at h
    exact hP31 _ _ _ _ ⟨fun _ => h σ mf_rf (fun i hi => absurd hi (by simp)), fun z => absurd (by decide) z⟩
  · have eo : outL σ n = (dgo σ 10 0 (0, [])).2 := by unfold outL; rw [if_neg (by omega)]
    have e71 : mz_wr (mz_wr σ 71 0 0) 72 0 0 = mz_up (mz_up σ 71 0 0) 72 0 0 := rfl
    rw [e71]
    have hm1 : mark 0 (0, []) = ((1 : Int32), ([] : List Nat)) := by
      unfold mark
      have : (0 : Int32) ||| ((1 : Int32) <<< (nI 0 &&& 31)) = 1 := by decide
      rw [this]
    have hcb : cb 1 = 1 := by decide +kernel
    have := note_fin hP hP31 9 (eC σ 0) 1 0 0 (1, []) (mz_up (mz_up σ 71 0 0) 72 0 0) (by omega) (by omega) (by omega) (by omega) (mf_tr (mf_up (by decide)) (mf_up (by decide))) (fun i hi => absurd hi (by simp)) (by rw [up_row (by decide), up_at]; rfl) (by rw [up_at]; rfl) (by rw [hcb]; simp) (by rw [hcb]; omega) (fun s' st' hs' hm' _ h70 _ _ => ?_)
    · exact this
    · have hd : dgo σ 10 0 (0, []) = (s'.1, s'.2 ++ [0]) := by
        rw [show (10 : Nat) = 9 + 1 from rfl, dgo_s, if_neg (by rw [b_0]; decide), hm1, ← hs']
      have ho : outL σ n = s'.2 ++ [0] := by rw [eo, hd]
      rw [ho] at h
      have hl : (s'.2 ++ [0]).length = s'.2.length + 1 := by rw [List.length_append]; rfl
      rw [hl] at h
      exact hP31 _ _ _ _ ⟨fun _ => h st' hm' h70, fun z => absurd (by decide) z⟩

/-! the class's run over code that does what the program does -/
theorem opX_c (kd a b : Int32) (d : Nat) (X : Xs) : (opX kd a b d X).2.2.2.1 ≤ X.2.2.1 + 1 := by
  unfold opX
  split
  · show opC kd X.2.2.1 ≤ _
    unfold opC; split <;> omega
  · show X.2.2.1 ≤ _
    omega
theorem csc_s {σ : mz_St} {r j : Nat} {X : Xs} : csc σ (r + 1) j X = if (cst σ j X).1 = 0 then csc σ r (j + 1) (cst σ j X).2 else cst σ j X := rfl
theorem cst_congr {σ u : mz_St} (h : ∀ a, a ∈ cR → u a = σ a) (j : Nat) (X : Xs) : cst u j X = cst σ j X := by
  unfold cst cA cB
  rw [h 47 (by decide), h 48 (by decide), h 49 (by decide), h 50 (by decide), h 51 (by decide)]
theorem cok_congr {σ u : mz_St} (h : ∀ a, a ∈ cR → u a = σ a) {j : Nat} (hk : cok σ j) : cok u j := by
  unfold cok at *
  rw [h 47 (by decide), h 48 (by decide), h 49 (by decide), h 50 (by decide), h 51 (by decide)]
  exact hk
theorem mW_cR {σ u : mz_St} (h : mf mW σ u) : ∀ a, a ∈ cR → u a = σ a := fun a ha => h a (by revert ha; revert a; decide)
theorem mm_perform {K : Int32 → mz_St → Prop} {σ : mz_St} {s lo r : Nat} {X : Xs} (hs : s < 30) (hsec : sec σ s lo r) (hR : RepM σ X) (hc : X.2.2.1 + r < 2 ^ 30) (h : ∀ u, mf mW σ u → RepM u (csc σ r lo X).2 → K (if (csc σ r lo X).1 = 0 then -1 else nI (csc σ r lo X).1) u) : mw_Machine_perform K (nI s) σ := by
  obtain ⟨h45, h46, hle, hok⟩ := hsec
  unfold mw_Machine_perform
  refine ⟨vp_in_nI hs (by decide), ?_⟩
  rw [mz_rdn (by omega), h45]
  refine lf1 (fun m x u => ∃ (i : Nat) (Y : Xs), x = nI (lo + i) ∧ i ≤ r ∧ m = r - i ∧ mf mW σ u ∧ RepM u Y ∧ Y.2.2.1 + (r - i) < 2 ^ 30 ∧ csc σ (r - i) (lo + i) Y = csc σ r lo X) ?_ r _ σ ⟨0, X, rfl, by omega, rfl, mf_rf, hR, hc, rfl⟩
  rintro m P7 x u ⟨i, Y, rfl, hi, rfl, hm, hRu, hcu, hY⟩ hrec
  have hcr := mW_cR hm
  unfold mw_Machine_perform_7
  refine ⟨vp_in_nI hs (by decide), ?_⟩
  rw [mz_rdn (by omega), hcr 46 (by decide), h46]
  refine pk_le (lo + r) (lo + i) (fun hle2 => ?_) (fun hlt => ?_)
  · have ei : i = r := by omega
    subst ei
    rw [Nat.sub_self] at hY
    rw [← hY] at h
    exact h u hm hRu
  · refine mm_performOne (X := Y) (by omega) (cok_congr hcr (hok i (by omega))) hRu (by omega) (fun v hv hRv => ?_)
    rw [cst_congr hcr] at hRv ⊢
    have e1 : r - i = (r - (i + 1)) + 1 := by omega
    have hY2 := hY
    rw [e1, csc_s] at hY2
    by_cases hz : (cst σ (lo + i) Y).1 = 0
    · rw [if_pos hz] at hY2 ⊢
      refine ⟨fun _ => ?_, fun q => absurd rfl q⟩
      rw [nI_k1]
      refine hrec (r - (i + 1)) _ v (by omega) ⟨i + 1, (cst σ (lo + i) Y).2, by rw [Nat.add_assoc], by omega, rfl, mf_tr hm hv, hRv, ?_, by rw [← Nat.add_assoc]; exact hY2⟩
      have := opX_c (σ 47 (lo + i)) (cA σ (lo + i) Y.1) (cB σ (lo + i) Y.1) (σ 48 (lo + i)).toNatClampNeg Y
      have h2 : (cst σ (lo + i) Y).2.2.2.1 ≤ Y.2.2.1 + 1 := this
      omega
    · rw [if_neg hz] at hY2 ⊢
      have hcode : (cst σ (lo + i) Y).1 = 1 ∨ (cst σ (lo + i) Y).1 = 2 := by
        have : (cst σ (lo + i) Y).1 = opE (σ 47 (lo + i)) (cA σ (lo + i) Y.1) (cB σ (lo + i) Y.1) ∨ (cst σ (lo + i) Y).1 = 0 := by
          unfold cst opX
          split
          · exact Or.inr rfl
          · exact Or.inl rfl
        rcases this with q | q
        · rw [q]
          rw [q] at hz
          unfold opE at hz ⊢
          split
          · exact Or.inl rfl
          · split
            · exact Or.inr rfl
            · rename_i q1 q2; rw [if_neg q1, if_neg q2] at hz; exact absurd rfl hz
        · exact absurd q hz
      refine ⟨fun q => ?_, fun _ => ?_⟩
      · rcases hcode with q2 | q2 <;> rw [q2] at q <;> exact absurd q (by decide)
      · rw [← hY2, if_neg hz] at h
        exact h v (mf_tr hm hv) hRv
theorem pbl_c (σ : mz_St) : ∀ r at' X, (pbl σ r at' X).2.2.2.1 ≤ X.2.2.1 + r
  | 0, _, X => Nat.le_refl _
  | r + 1, at', X => by
    have h1 : (pst σ at' X).2.2.2.1 ≤ X.2.2.1 + 1 := opX_c _ _ _ _ X
    unfold pbl
    split
    · have := pbl_c σ r (at' + 1) (pst σ at' X).2
      omega
    · omega
def oW : List Nat := [57, 58, 59, 1013, 1014, 1015]
theorem mm_follow {K : Int32 → mz_St → Prop} {σ : mz_St} {n f : Nat} (hP : PN σ n) (hn0 : 0 < n) (hf : f ≤ 500) (hC : CO σ) (h : ∀ (w0 : Wd) (O : Ro) (u : mz_St), (∀ i, i < 32 → w0 i = σ 21 i) → O = prn σ f 0 0 (fun _ => 0, w0, 0, σ 59) → mf oW σ u → u 1013 0 = O.2.1 → u 1014 0 = nI O.2.2.1 → u 58 = O.2.2.2.2.1 → u 1015 0 = nI O.2.2.2.2.2.1 → u 59 = O.2.2.2.2.2.2 → O.2.2.2.2.2.1 ≤ 6000 → K (nI O.1) u) : mw_Machine_follow K (nI f) σ := by
  have hn := hP.1
  obtain ⟨J, hJ0, hJ⟩ := hC
  unfold mw_Machine_follow mw_Machine_begin
  generalize hu0 : mz_up (mz_up (mz_up (mz_cp (mz_fl σ 57 230 0)) 1013 0 0) 1014 0 0) 1015 0 0 = u0
  have hm0 : mf oW σ u0 := by
    rw [← hu0]
    have q1 : mf oW σ (mz_fl σ 57 230 0) := mf_fl (by decide)
    have q2 : mf oW (mz_fl σ 57 230 0) (mz_cp (mz_fl σ 57 230 0)) := by
      intro b hb
      have : b ≠ 58 := fun e => hb (by rw [e]; decide)
      simp [mz_cp, this]
    exact mf_tr (mf_tr (mf_tr (mf_tr q1 q2) (mf_up (by decide))) (mf_up (by decide))) (mf_up (by decide))
  have e57 : ∀ i, i < 230 → u0 57 i = 0 := by
    intro i hi
    rw [← hu0, up_row (by decide), up_row (by decide), up_row (by decide)]
    show mz_cp (mz_fl σ 57 230 0) 57 i = 0
    have : mz_cp (mz_fl σ 57 230 0) 57 = mz_fl σ 57 230 0 57 := by simp [mz_cp]
    rw [this, fl_at hi]
  have e58 : ∀ i, i < 32 → u0 58 i = σ 21 i := by
    intro i hi
    rw [← hu0, up_row (by decide), up_row (by decide), up_row (by decide)]
    have : mz_cp (mz_fl σ 57 230 0) 58 = va_cpy (mz_fl σ 57 230 0 21) (mz_fl σ 57 230 0 58) 0 0 32 := by simp [mz_cp]
    rw [this, pk_cpy_in (by omega) (by omega), fl_row (by decide)]
    congr 1
    omega
  have e13 : u0 1013 0 = 0 := by rw [← hu0, up_row (by decide), up_row (by decide), up_at]
  have e14 : u0 1014 0 = 0 := by rw [← hu0, up_row (by decide), up_at]
  have e15 : u0 1015 0 = 0 := by rw [← hu0, up_at]
  have e59 : u0 59 = σ 59 := by
    rw [← hu0, up_row (by decide), up_row (by decide), up_row (by decide)]
    have : mz_cp (mz_fl σ 57 230 0) 59 = mz_fl σ 57 230 0 59 := by simp [mz_cp]
    rw [this, fl_row (by decide)]
  generalize hO : prn σ f 0 0 (fun _ => 0, u0 58, 0, σ 59) = O
  have fin := h (u0 58) O
  refine lf2 (fun m x y u => ∃ (k g ent c : Nat) (z τ w lg : Wd), x = nI k ∧ y = nI g ∧ m = g ∧ k < n ∧ ent + g = f ∧ mf oW σ u ∧ u 1013 0 = 0 ∧ u 1014 0 = nI ent ∧ RepM u (z, w, c, lg) ∧ J k z τ ∧ c ≤ 12 * ent ∧ prn σ g k ent (τ, w, c, lg) = O) ?_ f _ _ u0 ⟨0, f, 0, 0, u0 57, fun _ => 0, u0 58, σ 59, rfl, rfl, rfl, hn0, by omega, hm0, e13, e14, ⟨rfl, rfl, e15, e59⟩, hJ0 _ e57, by omega, hO⟩
  rintro m P14 x y u ⟨k, g, ent, c, z, τ, w, lg, rfl, rfl, rfl, hk, heg, hm, h13, h14, hRu, hJk, hc, hprn⟩ hrec
  obtain ⟨sb1, sb2, lo, r, hsec, hroads, hsim⟩ := hJ k z τ hJk
  have hin : vp_in (nI k) 10 := vp_in_nI (by omega) (by decide)
  unfold mw_Machine_follow_14
  have e0 : nI m ≤ 0 ↔ m = 0 := by rw [show (0 : Int32) = nI 0 from rfl, nI_leI (by omega) (by omega)]; omega
  rw [e0]
  refine ⟨fun hm0' => ?_, fun hm0' => ?_⟩
  · subst hm0'
    have : O = (3, 0, ent, (τ, w, c, lg)) := hprn.symm
    subst this
    exact fin u e58 hO.symm hm h13 h14 hRu.2.1 hRu.2.2.1 hRu.2.2.2 (by show c ≤ 6000; omega)
  · obtain ⟨g', rfl⟩ : ∃ g', m = g' + 1 := ⟨m - 1, by omega⟩
    have hr1090 := hsec.2.2.1
    rw [h14, nI_k1]
    have hmu : mf oW σ (mz_up u 1014 0 (nI (ent + 1))) := mf_tr hm (mf_up (by decide))
    have hcr : ∀ v, mf oW σ v → ∀ a, a ∈ cR → v a = σ a := fun v hv a ha => hv a (by revert ha; revert a; decide)
    have hsecC : ∀ v, mf oW σ v → ∀ s lo r, sec σ s lo r → sec v s lo r := by
      intro v hv s lo r hs
      have q := hcr v hv
      unfold sec at hs ⊢
      rw [q 45 (by decide), q 46 (by decide)]
      exact ⟨hs.1, hs.2.1, hs.2.2.1, fun j hj => cok_congr q (hs.2.2.2 j hj)⟩
    have hRu1 : RepM (mz_up u 1014 0 (nI (ent + 1))) (z, w, c, lg) := ⟨by rw [up_row (by decide)]; exact hRu.1, by rw [up_row (by decide)]; exact hRu.2.1, by rw [up_row (by decide)]; exact hRu.2.2.1, by rw [up_row (by decide)]; exact hRu.2.2.2⟩
    refine mm_perform (s := k) (X := (z, w, c, lg)) (by omega) (hsecC _ hmu k lo r hsec) hRu1 (by show c + r < 2 ^ 30; omega) (fun v hv hRv => ?_)
    rw [csc_congr (hcr _ hmu)] at hRv ⊢
    have hvo : mf oW σ v := mf_tr hmu (mf_mono hv (by decide))
    have hSv : Sm σ v := Sm_mf hvo (by decide)
    have v13 : v 1013 0 = 0 := by rw [hv 1013 (by decide), up_row (by decide)]; exact h13
    have v14 : v 1014 0 = nI (ent + 1) := by rw [hv 1014 (by decide), up_at]
    obtain ⟨s1, s2, s3⟩ := hsim z τ hJk w c lg
    generalize hcs : csc σ r lo (z, w, c, lg) = Cs at *
    generalize hpb : pbl σ (lenC σ k) (12 * k) (τ, w, c, lg) = Pb at *
    have hlen := (PN_len hP (show k < 10 by omega)).2.2.1
    have hcc : Pb.2.2.2.1 ≤ 12 * (ent + 1) := by
      have := pbl_c σ (lenC σ k) (12 * k) (τ, w, c, lg)
      rw [hpb] at this
      have h2 : Pb.2.2.2.1 ≤ c + lenC σ k := this
      omega
    have hprn2 : (if Pb.1 = 0 then (if σ 17 k = 0 then (0, Pb.2.1 (σ 18 k).toNatClampNeg, ent + 1, Pb.2) else prn σ g' (eT σ k (pnx σ k (Pb.2.1 (σ 18 k).toNatClampNeg))) (ent + 1) Pb.2) else (Pb.1, 0, ent + 1, Pb.2)) = O := by
      rw [← hpb]; exact hprn
    rw [s1]
    by_cases hz : Pb.1 = 0
    · rw [if_pos hz] at hprn2 ⊢
      obtain ⟨s4, s5⟩ := s3 hz
      refine ⟨fun _ => ⟨hin, fun P79 hP79 => ?_⟩, fun q => absurd rfl q⟩
      have p79 : P79 (shw σ k Cs.2.1) v := by
        apply hP79
        unfold mw_Machine_follow_79
        obtain ⟨eC1, eC2⟩ := PN_eC hP hk
        rw [mz_rdn (by omega), hSv 17 (by decide)]
        refine ⟨hin, fun h0 => ⟨hin, fun P120 hP120 P119 hP119 => ?_⟩, fun h0 => ?_⟩
        · rw [if_neg h0] at hprn2
          -- along an edge
          have road : ∀ e, e < eC σ k → e = pnx σ k (Pb.2.1 (σ 18 k).toNatClampNeg) → P120 (nI e) v := by
            intro e he hpe
            obtain ⟨lo', r', hsr⟩ := hroads e he
            obtain ⟨z', hz', hJ'⟩ := s5 e he lo' r' hsr
            apply hP120
            unfold mw_Machine_follow_120 mw_Mill_roadOf
            have er : ((10 : Int32) + (2 : Int32) * nI k) + nI e = nI (10 + 2 * k + e) := by
              rw [show (10 : Int32) = nI 10 from rfl, show (2 : Int32) = nI 2 from rfl, pk_mul, nI_add, nI_add]
            rw [er]
            have hr' := hsr.2.2.1
            have hCc : Cs.2.2.2.1 = Pb.2.2.2.1 := by rw [s2]
            refine mm_perform (X := Cs.2) (by omega) (hsecC v hvo _ lo' r' hsr) hRv (by omega) (fun q hq hRq => ?_)
            rw [csc_congr (hcr v hvo), hz'] at hRq
            have hqo : mf oW σ q := mf_tr hvo (mf_mono hq (by decide))
            have hSq : Sm σ q := Sm_mf hqo (by decide)
            refine mm_target (by omega) (by omega) ?_
            obtain ⟨eT1, eT2⟩ := PN_eT hP hk e
            rw [hSq 19 (by decide), hSq 20 (by decide), eT1, pk_m1]
            refine hrec g' _ _ q (by omega) ⟨eT σ k e, g', ent + 1, Pb.2.2.2.1, z', Pb.2.1, Pb.2.2.1, Pb.2.2.2.2, rfl, rfl, rfl, eT2, by omega, hqo, by rw [hq 1013 (by decide)]; exact v13, by rw [hq 1014 (by decide)]; exact v14, ?_, hJ', hcc, ?_⟩
            · refine ⟨hRq.1, ?_, ?_, ?_⟩
              · rw [hRq.2.1]; show Cs.2.2.1 = _; rw [s2]
              · rw [hRq.2.2.1]; show nI Cs.2.2.2.1 = _; rw [s2]
              · rw [hRq.2.2.2]; show Cs.2.2.2.2 = _; rw [s2]
            · rw [hpe]; exact hprn2
          have h1e : 1 ≤ eC σ k := by
            rcases Nat.eq_zero_or_pos (eC σ k) with q | q
            · exact absurd (by rw [eC1, q]; rfl) h0
            · exact q
          have p119 : pnx σ k (Pb.2.1 (σ 18 k).toNatClampNeg) = 0 → P119 v := fun q => hP119 _ (road 0 (by omega) q.symm)
          refine ⟨fun n2 => p119 (by unfold pnx; rw [if_neg (fun q => n2 q.1)]), fun k2 => ?_⟩
          have hs4 := s4 (by rw [k2]; decide)
          refine ⟨fun nz => p119 (by unfold pnx; rw [if_neg (fun q => nz (by rw [hs4]; exact q.2))]), fun zz => ?_⟩
          refine road 1 ?_ (by unfold pnx; rw [if_pos ⟨k2, by rw [← hs4]; exact zz⟩])
          rw [eC1, n2 eC2] at k2
          omega
        · rw [if_pos h0] at hprn2
          have hs4 := s4 (by rw [h0]; decide)
          subst hprn2
          rw [hs4]
          refine fin _ e58 hO.symm (mf_tr hvo (mf_up (by decide))) up_at (by rw [up_row (by decide)]; exact v14) ?_ ?_ ?_ ?_
          · rw [up_row (by decide), hRv.2.1]; show Cs.2.2.1 = Pb.2.2.1; rw [s2]
          · rw [up_row (by decide), hRv.2.2.1]; show nI Cs.2.2.2.1 = nI Pb.2.2.2.1; rw [s2]
          · rw [up_row (by decide), hRv.2.2.2]; show Cs.2.2.2.2 = Pb.2.2.2.2; rw [s2]
          · show Pb.2.2.2.1 ≤ 6000
            omega
      rw [mz_rdn (by omega), mz_rdn (by omega), hcr v hvo 52 (by decide), hcr v hvo 53 (by decide)]
      refine ⟨fun e => ?_, fun e => ?_⟩
      · obtain ⟨b, hb, eb⟩ := sb2 e
        rw [eb, mz_rdn (by omega)]
        refine ⟨hin, vp_in_nI hb (by decide), ?_⟩
        have : shw σ k Cs.2.1 = v 57 b := by unfold shw; rw [if_pos e, eb, nI_clamp (by omega), hRv.1]
        rw [← this]; exact p79
      · refine ⟨hin, ?_⟩
        have : shw σ k Cs.2.1 = σ 52 k := by unfold shw; rw [if_neg e]
        rw [← this]; exact p79
    · rw [if_neg hz] at hprn2 ⊢
      have hcode : nI Pb.1 ≠ -1 := by
        have hb : Pb.1 ≤ 2 := by
          have key : ∀ r at' X, (pbl σ r at' X).1 ≤ 2 := by
            intro r
            induction r with
            | zero => intro at' X; show 0 ≤ 2; omega
            | succ r ih =>
              intro at' X
              unfold pbl
              split
              · exact ih _ _
              · unfold pst opX
                split
                · show 0 ≤ 2; omega
                · show opE _ _ _ ≤ 2
                  unfold opE
                  split
                  · omega
                  · split <;> omega
          rw [← hpb]; exact key _ _ _
        have : Pb.1 = 1 ∨ Pb.1 = 2 := by omega
        rcases this with q | q <;> rw [q] <;> decide
      refine ⟨fun q => absurd q hcode, fun _ => ?_⟩
      subst hprn2
      refine fin v e58 hO.symm hvo v13 v14 ?_ ?_ ?_ ?_
      · rw [hRv.2.1]; show Cs.2.2.1 = Pb.2.2.1; rw [s2]
      · rw [hRv.2.2.1]; show nI Cs.2.2.2.1 = nI Pb.2.2.2.1; rw [s2]
      · rw [hRv.2.2.2]; show Cs.2.2.2.2 = Pb.2.2.2.2; rw [s2]
      · show Pb.2.2.2.1 ≤ 6000
        omega

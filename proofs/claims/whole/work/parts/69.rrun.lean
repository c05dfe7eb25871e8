/-! the reference's run; the class's run is the reference's, wherever code is made that does what the program does -/
def Xq (X Y : Xs) : Prop := (∀ t, t < 10 → X.1 t = Y.1 t) ∧ (∀ i, i < 32 → X.2.1 i = Y.2.1 i) ∧ X.2.2.1 = Y.2.2.1 ∧ ∀ j, j < 600 → j < 3 * X.2.2.1 → X.2.2.2 j = Y.2.2.2 j
theorem Xq_op {kd a b : Int32} {d : Nat} {X Y : Xs} (h : Xq X Y) : (opX kd a b d X).1 = (opX kd a b d Y).1 ∧ Xq (opX kd a b d X).2 (opX kd a b d Y).2 := by
  obtain ⟨h1, h2, h3, h4⟩ := h
  unfold opX
  by_cases e : opE kd a b = 0
  · rw [if_pos e, if_pos e]
    have hw : kd = 16 → X.2.1 a.toNatClampNeg = Y.2.1 a.toNatClampNeg := by
      intro k
      apply h2
      subst k
      unfold opE adE at e
      by_cases q : dvE 16 a b = true
      · rw [if_pos q] at e; cases e
      · rw [if_neg q] at e
        by_cases q2 : isword a = true
        · obtain ⟨i, hi, rfl⟩ := isword_of q2
          rw [nI_clamp (by omega)]; exact hi
        · simp at q2
          simp [q2] at e
    have hv : opV kd a b X.2.1 X.2.2.1 = opV kd a b Y.2.1 Y.2.2.1 := by
      unfold opV
      by_cases k : kd = 16
      · rw [if_pos k, if_pos k]; exact hw k
      · rw [if_neg k, if_neg k, h3]
    refine ⟨rfl, ?_, ?_, ?_, ?_⟩
    · intro t ht
      show (if kd = 17 then X.1 else upd X.1 d (opV kd a b X.2.1 X.2.2.1)) t = (if kd = 17 then Y.1 else upd Y.1 d (opV kd a b Y.2.1 Y.2.2.1)) t
      by_cases k : kd = 17
      · rw [if_pos k, if_pos k]; exact h1 t ht
      · rw [if_neg k, if_neg k, hv]
        unfold upd
        by_cases q : t = d
        · simp [q]
        · simp [q]; exact h1 t ht
    · intro i hi
      show opW kd a b X.2.1 i = opW kd a b Y.2.1 i
      unfold opW
      by_cases k : kd = 17
      · rw [if_pos k, if_pos k]
        unfold upd
        by_cases q : i = b.toNatClampNeg
        · simp [q]
        · simp [q]; exact h2 i hi
      · rw [if_neg k, if_neg k]; exact h2 i hi
    · show opC kd X.2.2.1 = opC kd Y.2.2.1
      rw [h3]
    · intro j hj hj3
      have hj3 : j < 3 * opC kd X.2.2.1 := hj3
      show opL kd a b X.2.2.1 X.2.2.2 j = opL kd a b Y.2.2.1 Y.2.2.2 j
      rw [← h3]
      unfold opL
      unfold opC at hj3
      by_cases k : kd = 18
      · rw [if_pos k] at hj3
        by_cases c2 : X.2.2.1 < 200
        · rw [if_pos ⟨k, c2⟩, if_pos ⟨k, c2⟩]
          unfold upd
          by_cases q1 : j = 3 * X.2.2.1 + 2
          · simp [q1]
          · by_cases q2 : j = 3 * X.2.2.1 + 1
            · simp [q2]
            · by_cases q3 : j = 3 * X.2.2.1
              · simp [q3]
              · simp [q1, q2, q3]
                exact h4 j hj (by omega)
        · rw [if_neg (fun z => c2 z.2), if_neg (fun z => c2 z.2)]
          exact h4 j hj (by omega)
      · rw [if_neg k] at hj3
        rw [if_neg (fun z => k z.1), if_neg (fun z => k z.1)]
        exact h4 j hj hj3
  · rw [if_neg e, if_neg e]
    exact ⟨rfl, h1, h2, h3, h4⟩
theorem Xq_pst {σ : mz_St} {n k i : Nat} {X Y : Xs} (hP : PN σ n) (hk : k < 10) (hi : i < lenC σ k) (h : Xq X Y) : (pst σ (12 * k + i) X).1 = (pst σ (12 * k + i) Y).1 ∧ Xq (pst σ (12 * k + i) X).2 (pst σ (12 * k + i) Y).2 := by
  obtain ⟨-, -, hl, hop⟩ := PN_len hP hk
  have hs := (hop i hi).1
  have eA : pA σ (12 * k + i) X.1 = pA σ (12 * k + i) Y.1 := by
    unfold pA
    by_cases q : σ 12 (12 * k + i) = 0
    · rw [if_pos q, if_pos q]
    · rw [if_neg q, if_neg q]
      obtain ⟨t, ht, e⟩ := such_a hs q
      rw [e, nI_clamp (by omega)]
      exact h.1 t ht
  have eB : pB σ (12 * k + i) X.1 = pB σ (12 * k + i) Y.1 := by
    unfold pB
    by_cases q : tr (tkB (σ 12 (12 * k + i))) = true
    · rw [if_pos q, if_pos q]
      obtain ⟨t, ht, e⟩ := such_b hs (tr_t.mp q)
      rw [e, nI_clamp (by omega)]
      exact h.1 t ht
    · rw [if_neg q, if_neg q]
  unfold pst
  rw [eA, eB]
  exact Xq_op h
theorem Xq_pbl {σ : mz_St} {n k : Nat} (hP : PN σ n) (hk : k < 10) : ∀ r i X Y, i + r = lenC σ k → Xq X Y → (pbl σ r (12 * k + i) X).1 = (pbl σ r (12 * k + i) Y).1 ∧ Xq (pbl σ r (12 * k + i) X).2 (pbl σ r (12 * k + i) Y).2
  | 0, _, _, _, _, h => ⟨rfl, h⟩
  | r + 1, i, X, Y, hi, h => by
    have h1 := Xq_pst hP hk (show i < lenC σ k by omega) h
    unfold pbl
    rw [h1.1]
    by_cases q : (pst σ (12 * k + i) Y).1 = 0
    · rw [if_pos q, if_pos q]
      exact Xq_pbl hP hk r (i + 1) _ _ (by omega) h1.2
    · rw [if_neg q, if_neg q]
      exact h1
theorem Xq_prn {σ : mz_St} {n : Nat} (hP : PN σ n) : ∀ f k ent X Y, k < n → Xq X Y → (prn σ f k ent X).1 = (prn σ f k ent Y).1 ∧ (prn σ f k ent X).2.1 = (prn σ f k ent Y).2.1 ∧ (prn σ f k ent X).2.2.1 = (prn σ f k ent Y).2.2.1 ∧ Xq (prn σ f k ent X).2.2.2 (prn σ f k ent Y).2.2.2
  | 0, _, _, _, _, _, h => ⟨rfl, rfl, rfl, h⟩
  | f + 1, k, ent, X, Y, hk, h => by
    have hn := hP.1
    have h1 := Xq_pbl hP (show k < 10 by omega) (lenC σ k) 0 X Y (by omega) h
    rw [Nat.add_zero] at h1
    obtain ⟨len, e, -, -, -, hE, -⟩ := hP.2.2.2 k (by omega)
    obtain ⟨tt, htt, ett⟩ := hE.2.2.2.1
    have h2 : (pbl σ (lenC σ k) (12 * k) X).2.1 (σ 18 k).toNatClampNeg = (pbl σ (lenC σ k) (12 * k) Y).2.1 (σ 18 k).toNatClampNeg := by
      rw [ett, nI_clamp (by omega)]
      exact h1.2.1 tt htt
    unfold prn
    rw [h1.1, h2]
    by_cases q : (pbl σ (lenC σ k) (12 * k) Y).1 = 0
    · rw [if_pos q, if_pos q]
      by_cases q2 : σ 17 k = 0
      · rw [if_pos q2, if_pos q2]
        exact ⟨rfl, rfl, rfl, h1.2⟩
      · rw [if_neg q2, if_neg q2]
        exact Xq_prn hP f _ _ _ _ (PN_eT hP hk _).2 h1.2
    · rw [if_neg q, if_neg q]
      exact ⟨rfl, rfl, rfl, h1.2⟩
theorem pbl_s {σ : mz_St} {r j : Nat} {X : Xs} : pbl σ (r + 1) j X = if (pst σ j X).1 = 0 then pbl σ r (j + 1) (pst σ j X).2 else pst σ j X := rfl
def uW : List Nat := [67, 68, 69, 1017, 1018, 1019, 1020]
theorem pbl_le2 (σ : mz_St) : ∀ r at' X, (pbl σ r at' X).1 ≤ 2 := by
  intro r
  induction r with
  | zero => intro at' X; show 0 ≤ 2; omega
  | succ r ih =>
    intro at' X
    unfold pbl
    split
    · exact ih _ _
    · unfold pst opX
      split
      · show 0 ≤ 2; omega
      · show opE _ _ _ ≤ 2
        unfold opE
        split
        · omega
        · split <;> omega
theorem mm_rRun {K : Int32 → mz_St → Prop} {σ : mz_St} {n f : Nat} (hP : PN σ n) (hn0 : 0 < n) (hf : f ≤ 500) (h : ∀ (τ0 w0 : Wd) (O : Ro) (u : mz_St), (∀ i, i < 10 → τ0 i = 0) → (∀ i, i < 32 → w0 i = σ 66 i) → O = prn σ f 0 0 (τ0, w0, 0, σ 69) → mf uW σ u → u 1017 0 = 1 → u 1018 0 = O.2.1 → u 1019 0 = nI O.2.2.1 → u 67 = O.2.2.2.2.1 → u 1020 0 = nI O.2.2.2.2.2.1 → u 69 = O.2.2.2.2.2.2 → K (nI O.1) u) : ∀ P63 : Int32 → mz_St → Prop, (∀ (x4_63 : Int32) (s63 : mz_St), mw_Ref_run_63 K (nI f) P63 x4_63 s63 → P63 x4_63 s63) → P63 0 (mz_up (mz_up (mz_up (mz_up σ 1017 0 1) 1018 0 0) 1019 0 0) 1020 0 0) := by
  have hn := hP.1
  have hm0 : mf uW σ (mz_up (mz_up (mz_up (mz_up σ 1017 0 1) 1018 0 0) 1019 0 0) 1020 0 0) := mf_tr (mf_tr (mf_tr (mf_up (by decide)) (mf_up (by decide))) (mf_up (by decide))) (mf_up (by decide))
  refine lf1 (fun m x u => ∃ i, x = nI i ∧ i ≤ 10 ∧ m = 10 - i ∧ mf uW σ u ∧ u 1017 0 = 1 ∧ u 1018 0 = 0 ∧ u 1019 0 = 0 ∧ u 1020 0 = 0 ∧ u 69 = σ 69 ∧ ∀ j, j < i → u 68 j = 0) ?_ 10 0 _ ⟨0, rfl, by omega, rfl, hm0, by simp [up_any], by simp [up_any], by simp [up_any], by simp [up_any], by rw [up_row (by decide), up_row (by decide), up_row (by decide), up_row (by decide)], fun j hj => absurd hj (by omega)⟩
  rintro m P63 x u ⟨i, rfl, hi, rfl, hm, u17, u18, u19, u20, u69, u68⟩ hrec
  unfold mw_Ref_run_63
  refine ⟨fun hle => ?_, fun hlt => ?_⟩
  · have ei : i = 10 := by have := (ge10 (show i < 2 ^ 31 by omega)).mp hle; omega
    subst ei
    refine lf1 (fun m x v => ∃ i, x = nI i ∧ i ≤ 32 ∧ m = 32 - i ∧ mf [67] u v ∧ ∀ j, j < i → v 67 j = σ 66 j) ?_ 32 0 u ⟨0, rfl, by omega, rfl, mf_rf, fun j hj => absurd hj (by omega)⟩
    rintro m P87 x v ⟨i, rfl, hi, rfl, hv, v67⟩ hrec2
    unfold mw_Ref_run_87
    have e32 : (32 : Int32) ≤ nI i ↔ 32 ≤ i := by rw [show (32 : Int32) = nI 32 from rfl, nI_leI (by omega) (by omega)]
    refine ⟨fun hle2 => ?_, fun hlt2 => ?_⟩
    · have ei2 : i = 32 := by have := e32.mp hle2; omega
      subst ei2
      have hmv : mf uW σ v := mf_tr hm (mf_mono hv (by decide))
      have v17 : v 1017 0 = 1 := by rw [hv 1017 (by decide)]; exact u17
      have v18 : v 1018 0 = 0 := by rw [hv 1018 (by decide)]; exact u18
      have v19 : v 1019 0 = 0 := by rw [hv 1019 (by decide)]; exact u19
      have v20 : v 1020 0 = 0 := by rw [hv 1020 (by decide)]; exact u20
      have v69 : v 69 = σ 69 := by rw [hv 69 (by decide)]; exact u69
      have v68 : ∀ j, j < 10 → v 68 j = 0 := by rw [hv 68 (by decide)]; exact u68
      have fin := h (v 68) (v 67) (prn σ f 0 0 (v 68, v 67, 0, σ 69))
      generalize hO : prn σ f 0 0 (v 68, v 67, 0, σ 69) = O at *
      refine lf1 (fun m x w => ∃ (k ent g : Nat) (X : Xs), x = nI k ∧ m = g ∧ k < n ∧ ent + g = f ∧ mf uW σ w ∧ w 1017 0 = 1 ∧ w 1018 0 = 0 ∧ w 1019 0 = nI ent ∧ RepR w X ∧ X.2.2.1 ≤ 12 * ent ∧ prn σ g k ent X = O) ?_ f 0 v ⟨0, 0, f, (v 68, v 67, 0, σ 69), rfl, rfl, hn0, by omega, hmv, v17, v18, v19, ⟨rfl, rfl, v20, v69⟩, by show 0 ≤ _; omega, hO⟩
      rintro m P117 x w ⟨k, ent, g, X, rfl, rfl, hk, heg, hmw, w17, w18, w19, hRw, hc, hprn⟩ hrec3
      unfold mw_Ref_run_117
      rw [w19, nI_leI (by omega) (by omega)]
      refine ⟨fun hle3 => ?_, fun hlt3 => ?_⟩
      · have : m = 0 := by omega
        subst this
        have : O = (3, 0, ent, X) := hprn.symm
        subst this
        exact fin w v68 v67 rfl hmw w17 w18 w19 hRw.2.1 hRw.2.2.1 hRw.2.2.2
      · obtain ⟨g', rfl⟩ : ∃ g', m = g' + 1 := ⟨m - 1, by omega⟩
        rw [nI_k1]
        have hmw1 : mf uW σ (mz_up w 1019 0 (nI (ent + 1))) := mf_tr hmw (mf_up (by decide))
        have hRw1 : RepR (mz_up w 1019 0 (nI (ent + 1))) X := ⟨by rw [up_row (by decide)]; exact hRw.1, by rw [up_row (by decide)]; exact hRw.2.1, by rw [up_row (by decide)]; exact hRw.2.2.1, by rw [up_row (by decide)]; exact hRw.2.2.2⟩
        obtain ⟨hl1, hl2, hl3, -⟩ := PN_len hP (show k < 10 by omega)
        have hin : vp_in (nI k) 10 := vp_in_nI (by omega) (by decide)
        refine lf1 (fun m x y => ∃ (i : Nat) (Y : Xs), x = nI i ∧ i ≤ lenC σ k ∧ m = lenC σ k - i ∧ mf uW σ y ∧ y 1017 0 = 1 ∧ y 1018 0 = 0 ∧ y 1019 0 = nI (ent + 1) ∧ RepR y Y ∧ Y.2.2.1 ≤ X.2.2.1 + i ∧ pbl σ (lenC σ k - i) (12 * k + i) Y = pbl σ (lenC σ k) (12 * k) X) ?_ (lenC σ k) 0 _ ⟨0, X, rfl, by omega, rfl, hmw1, by rw [up_row (by decide)]; exact w17, by rw [up_row (by decide)]; exact w18, up_at, hRw1, by omega, rfl⟩
        rintro m P138 x y ⟨i, Y, rfl, hi, rfl, hmy, y17, y18, y19, hRy, hcY, hpb⟩ hrec4
        have hSy : Sm σ y := Sm_mf hmy (by decide)
        have hPy := hSy.pn hP
        unfold mw_Ref_run_138
        rw [mz_rdn (show k < 2 ^ 31 by omega), hSy 60 (by decide), hl2]
        refine ⟨hin, fun hle4 => ?_, fun hlt4 => ?_⟩
        · have ei : i = lenC σ k := by
            rw [nI_leI (by omega) (by omega)] at hle4; omega
          subst ei
          rw [Nat.sub_self] at hpb
          have hpb : (0, Y) = pbl σ (lenC σ k) (12 * k) X := hpb
          have hp1 : (pbl σ (lenC σ k) (12 * k) X).1 = 0 := by rw [← hpb]
          have hp2 : (pbl σ (lenC σ k) (12 * k) X).2 = Y := by rw [← hpb]
          unfold prn at hprn
          rw [hp1, hp2, if_pos rfl] at hprn
          obtain ⟨len, e, -, -, -, ⟨e17, e62, e2, ⟨tt, htt, ett⟩, -, -, e63, e64, e65⟩, -⟩ := hP.2.2.2 k (by omega)
          rw [mz_rdn (show k < 2 ^ 31 by omega), mz_rdn (show k < 2 ^ 31 by omega), mz_rdn (show k < 2 ^ 31 by omega), hSy 62 (by decide), hSy 63 (by decide), hSy 65 (by decide), e62]
          rw [e17] at hprn
          refine ⟨hin, fun hne => ⟨hin, fun P251 hP251 P234 hP234 => ?_⟩, fun he0 => ?_⟩
          · rw [if_neg hne] at hprn
            have he1' : 1 ≤ e := by
              rcases Nat.eq_zero_or_pos e with z | z
              · exact absurd (by rw [z]; rfl) hne
              · exact z
            have go : ∀ j, j = pnx σ k (Y.1 (σ 18 k).toNatClampNeg) → P251 (nI (eT σ k j)) y := by
              intro j hj
              apply hP251
              unfold mw_Ref_run_251
              refine hrec3 g' _ y (by omega) ⟨eT σ k j, ent + 1, g', Y, rfl, rfl, (PN_eT hP hk j).2, by omega, hmy, y17, y18, y19, hRy, by omega, ?_⟩
              rw [hj]; exact hprn
            have h234 : pnx σ k (Y.1 (σ 18 k).toNatClampNeg) = 0 → P234 y := by
              intro q
              apply hP234
              unfold mw_Ref_run_234
              rw [mz_rdn (show k < 2 ^ 31 by omega), hSy 64 (by decide), e64 he1']
              refine ⟨hin, ?_⟩
              have := (PN_eT hP hk 0).1
              rw [if_pos rfl] at this
              rw [this]
              exact go 0 q.symm
            refine ⟨fun he1 => h234 ?_, fun hne1 => ⟨hin, ?_⟩⟩
            · unfold pnx
              rw [e17, he1, if_neg (fun z => absurd z.1 (by decide))]
            · have e2' : e = 2 := by
                have q1 : e ≠ 1 := fun z => hne1 (by rw [z]; rfl)
                have q0 : e ≠ 0 := fun z => hne (by rw [z]; rfl)
                omega
              subst e2'
              rw [e63 (by omega), ett, mz_rdn (by omega), hRy.1]
              rw [ett, nI_clamp (by omega)] at h234 go
              refine ⟨vp_in_nI (by omega) (by decide), fun z => ⟨hin, ?_⟩, fun z => h234 ?_⟩
              · rw [e65 rfl]
                have := (PN_eT hP hk 1).1
                rw [if_neg (by decide)] at this
                rw [this]
                refine go 1 ?_
                unfold pnx
                rw [if_pos ⟨e17, z⟩]
              · unfold pnx
                rw [if_neg (fun q => z q.2)]
          · rw [if_pos he0] at hprn
            have e0' : e = 0 := (n0 (by omega)).mp he0
            rw [e63 (by omega), ett, mz_rdn (by omega), hRy.1]
            rw [ett, nI_clamp (by omega)] at hprn
            refine ⟨hin, vp_in_nI (by omega) (by decide), ?_⟩
            subst hprn
            exact fin _ v68 v67 rfl (mf_tr hmy (mf_up (by decide))) (by rw [up_row (by decide)]; exact y17) up_at (by rw [up_row (by decide)]; exact y19) (by rw [up_row (by decide)]; exact hRy.2.1) (by rw [up_row (by decide)]; exact hRy.2.2.1) (by rw [up_row (by decide)]; exact hRy.2.2.2)
        · have hi2 : i < lenC σ k := by
            rw [nI_leI (by omega) (by omega)] at hlt4; omega
          rw [ix48]
          have hcY2 : Y.2.2.1 < 2 ^ 30 := by omega
          have hleny : lenC y k = lenC σ k := by unfold lenC; rw [hSy 16 (by decide)]
          refine mm_rStep (X := Y) hPy (by omega) (by rw [hleny]; exact hi2) hRy hcY2 (fun z hz hRz => ?_)
          have epst : pst y (12 * k + i) Y = pst σ (12 * k + i) Y := by
            unfold pst pA pB
            rw [hSy 12 (by decide), hSy 13 (by decide), hSy 14 (by decide), hSy 15 (by decide)]
          rw [epst] at hRz ⊢
          have e1 : lenC σ k - i = (lenC σ k - (i + 1)) + 1 := by omega
          have hpb2 := hpb
          rw [e1, pbl_s] at hpb2
          have hz17 : z 1017 0 = 1 := by rw [hz 1017 (by decide)]; exact y17
          have hz18 : z 1018 0 = 0 := by rw [hz 1018 (by decide)]; exact y18
          have hz19 : z 1019 0 = nI (ent + 1) := by rw [hz 1019 (by decide)]; exact y19
          have hmz : mf uW σ z := mf_tr hmy (mf_mono hz (by decide))
          by_cases q : (pst σ (12 * k + i) Y).1 = 0
          · rw [if_pos q] at hpb2
            rw [q]
            refine ⟨fun _ => ?_, fun z => absurd (by decide) z⟩
            rw [nI_k1]
            refine hrec4 (lenC σ k - (i + 1)) _ z (by omega) ⟨i + 1, (pst σ (12 * k + i) Y).2, rfl, by omega, rfl, hmz, hz17, hz18, hz19, hRz, ?_, ?_⟩
            · have := opX_c (σ 12 (12 * k + i)) (pA σ (12 * k + i) Y.1) (pB σ (12 * k + i) Y.1) (σ 13 (12 * k + i)).toNatClampNeg Y
              have h2 : (pst σ (12 * k + i) Y).2.2.2.1 ≤ Y.2.2.1 + 1 := this
              omega
            · rw [← Nat.add_assoc]; exact hpb2
          · rw [if_neg q] at hpb2
            have hp1 : (pbl σ (lenC σ k) (12 * k) X).1 ≠ 0 := by
              rw [← hpb2]
              exact q
            have hp1' : pbl σ (lenC σ k) (12 * k) X = pst σ (12 * k + i) Y := hpb2.symm
            have hle2 := pbl_le2 σ (lenC σ k) (12 * k) X
            refine ⟨fun z2 => ?_, fun _ => ?_⟩
            · exfalso
              rw [hp1'] at hle2
              have : (pst σ (12 * k + i) Y).1 = 1 ∨ (pst σ (12 * k + i) Y).1 = 2 := by omega
              rcases this with q3 | q3 <;> rw [q3] at z2 <;> exact absurd z2 (by decide)
            · unfold prn at hprn
              rw [if_neg hp1, hp1'] at hprn
              subst hprn
              exact fin z v68 v67 rfl hmz hz17 hz18 hz19 hRz.2.1 hRz.2.2.1 hRz.2.2.2
    · have hi3 : i < 32 := by
        rcases Nat.lt_or_ge i 32 with q | q
        · exact q
        · exact absurd (e32.mpr q) hlt2
      refine ⟨vp_in_nI hi3 (by decide), vp_in_nI hi3 (by decide), ?_⟩
      rw [nI_k1, mz_wrn (by omega), mz_rdn (by omega)]
      refine hrec2 (32 - (i + 1)) _ _ (by omega) ⟨i + 1, rfl, by omega, rfl, mf_tr hv (mf_up (by decide)), fun j hj => ?_⟩
      rw [up_any]
      by_cases q : j = i
      · rw [if_pos ⟨rfl, q⟩, q, hv 66 (by decide), hm 66 (by decide)]
      · rw [if_neg (fun z => q z.2)]; exact v67 j (by omega)
  · have hi3 : i < 10 := by
      rcases Nat.lt_or_ge i 10 with q | q
      · exact q
      · exact absurd ((ge10 (by omega)).mpr q) hlt
    refine ⟨vp_in_nI hi3 (by decide), ?_⟩
    rw [nI_k1, mz_wrn (by omega)]
    refine hrec (10 - (i + 1)) _ _ (by omega) ⟨i + 1, rfl, by omega, rfl, mf_tr hm (mf_up (by decide)), by rw [up_row (by decide)]; exact u17, by rw [up_row (by decide)]; exact u18, by rw [up_row (by decide)]; exact u19, by rw [up_row (by decide)]; exact u20, by rw [up_row (by decide)]; exact u69, fun j hj => ?_⟩
    rw [up_any]
    by_cases q : j = i
    · rw [if_pos ⟨rfl, q⟩]
    · rw [if_neg (fun z => q z.2)]; exact u68 j (by omega)
/-- the rows that making code may change -/
def kW : List Nat := [22, 23, 1004, 24, 1005, 1006, 25, 26, 27, 28, 29, 30, 31, 32, 1000, 1001, 1002, 33, 34, 35, 36, 37, 38, 39, 40, 42, 43, 44, 45, 46, 47, 48, 49, 50, 51, 52, 53, 54, 55, 56, 1007, 1008, 1009, 1010, 1011, 1012]
def MkOK : Prop := ∀ (K : mz_St → Prop) (σ : mz_St) (n s r : Nat), PN σ n → 0 < n → s ≤ 3 → 2 ≤ r → r ≤ 8 → LM σ → (∀ u, mf kW σ u → CO u → LM u → K u) → mw_Mill_makeCode K (nI s) (nI r) σ
theorem LM_run {σ u : mz_St} {W : List Nat} (h : mf W σ u) (hW : ∀ a, a ∈ kW → a ∉ W) (hS : ∀ a, a ∈ pR → a ∉ W) (hL : LM σ) : LM u := by
  have hSm : Sm σ u := Sm_mf h hS
  have g : ∀ a, a ∈ kW → u a = σ a := fun a ha => h a (hW a ha)
  obtain ⟨h1, h2, h3⟩ := hL
  refine ⟨?_, ?_, ?_⟩
  · unfold LK at *
    rw [g 1000 (by decide)]
    refine h1.imp id (fun ⟨q1, q2⟩ => ⟨q1, fun n hn => Flow_congr hSm (fun a ha => g a (by revert ha; revert a; decide)) (q2 n ?_)⟩)
    exact PN_congr (fun a ha => (hSm a ha).symm) hn
  · rw [g 1001 (by decide)]
    exact h2.imp id (CO_congr hSm (fun a ha => g a (by revert ha; revert a; decide)))
  · rw [g 1012 (by decide)]; exact h3
set_option maxHeartbeats 1000000 in
theorem lk_run (hMk : MkOK) : Lk3 LM mw_Mill_run mw_Ref_run := by
  intro σ a0 a1 a2 K2 R hI hR hK
  obtain ⟨n, hP⟩ := hI.1
  have hn := hP.1
  unfold mw_Mill_run
  rw [hP.2.1]
  have no : mw_Ref_run (K2 (-1)) a0 a1 a2 σ → R (-1) σ := hR (-1) σ
  have kno : K2 (-1) (-1) σ := hK _ _ hI
  have e16 : σ 1016 0 = nI n := hP.2.2.1
  have bad : (nI n = 0 ∨ a0 < 0 ∨ 3 < a0 ∨ a1 < 2 ∨ 8 < a1 ∨ a2 < 0 ∨ ¬ a2 ≤ 500) → R (-1) σ := by
    intro hb
    refine no ?_
    unfold mw_Ref_run
    rw [e16]
    refine ⟨fun _ => kno, fun q0 => ⟨fun _ => kno, fun q1 => ⟨fun _ => kno, fun q2 => ⟨fun _ => kno, fun q3 => ⟨fun _ => kno, fun q4 => ⟨fun _ => kno, fun q5 => ⟨fun q6 => ?_, fun _ => kno⟩⟩⟩⟩⟩⟩⟩
    rcases hb with z | z | z | z | z | z | z
    · exact absurd z q0
    · exact absurd z q1
    · exact absurd z q2
    · exact absurd z q3
    · exact absurd z q4
    · exact absurd z q5
    · exact absurd q6 z
  have gt3 : ∀ x : Int32, 3 < x ↔ ¬ x ≤ 3 := fun x => by rw [Int32.lt_iff_toInt_lt, Int32.le_iff_toInt_le]; omega
  refine ⟨fun q0 => bad (Or.inl q0), fun q0 => ⟨fun q1 => bad (Or.inr (Or.inl q1)), fun q1 => ⟨fun q2 => ⟨fun q3 => bad (Or.inr (Or.inr (Or.inr (Or.inl q3)))), fun q3 => ⟨fun q4 => bad (Or.inr (Or.inr (Or.inr (Or.inr (Or.inl q4))))), fun q4 => ⟨fun q5 => bad (Or.inr (Or.inr (Or.inr (Or.inr (Or.inr (Or.inl q5)))))), fun q5 => ⟨fun q6 => ?_, fun q6 => bad (Or.inr (Or.inr (Or.inr (Or.inr (Or.inr (Or.inr q6))))))⟩⟩⟩⟩, fun q2 => bad (Or.inr (Or.inr (Or.inl ((gt3 _).mpr q2))))⟩⟩⟩
  have q2' : ¬ 3 < a0 := fun z => (gt3 _).mp z q2
  obtain ⟨s, hs, rfl⟩ : ∃ s, s ≤ 3 ∧ a0 = nI s := by
    rcases pk_ix a0 (n := 4) (by decide) with h | h | ⟨k, hk, rfl⟩
    · exact absurd h q1
    · exact absurd h (fun z => q2' (by rw [Int32.lt_iff_toInt_lt]; rw [Int32.le_iff_toInt_le] at z; have e4 : (nI 4).toInt = 4 := by decide
                                       have e3 : (3 : Int32).toInt = 3 := by decide
                                       omega))
    · exact ⟨k, by omega, rfl⟩
  obtain ⟨r, hr2, hr8, rfl⟩ : ∃ r, 2 ≤ r ∧ r ≤ 8 ∧ a1 = nI r := by
    have e2 : (2 : Int32).toInt = 2 := by decide
    have e8 : (8 : Int32).toInt = 8 := by decide
    have e9 : (nI 9).toInt = 9 := by decide
    have e0 : (0 : Int32).toInt = 0 := by decide
    rw [Int32.lt_iff_toInt_lt] at q3 q4
    rcases pk_ix a1 (n := 9) (by decide) with h | h | ⟨k, hk, rfl⟩
    · rw [Int32.lt_iff_toInt_lt] at h; omega
    · rw [Int32.le_iff_toInt_le] at h; omega
    · rw [nI_toInt (by omega)] at q3 q4
      exact ⟨k, by omega, by omega, rfl⟩
  obtain ⟨f, hf, rfl⟩ : ∃ f, f ≤ 500 ∧ a2 = nI f := by
    have e5 : (500 : Int32).toInt = 500 := by decide
    have e51 : (nI 501).toInt = 501 := by decide
    rw [Int32.le_iff_toInt_le] at q6
    rcases pk_ix a2 (n := 501) (by decide) with h | h | ⟨k, hk, rfl⟩
    · exact absurd h q5
    · rw [Int32.le_iff_toInt_le] at h; omega
    · exact ⟨k, by omega, rfl⟩
  have hn0 : 0 < n := by
    rcases Nat.eq_zero_or_pos n with z | z
    · exact absurd (by rw [z]; rfl) q0
    · exact z
  refine hMk _ σ n s r hP hn0 hs hr2 hr8 hI.2.2.2 (fun u hm hC hL => ?_)
  have hSu : Sm σ u := Sm_mf hm (by decide)
  refine mm_follow (hSu.pn hP) hn0 hf hC (fun w0 O v hw0 hO hv v13 v14 v58 v15 v59 hc => ?_)
  have hSv : Sm σ v := Sm_tr hSu (Sm_mf hv (by decide))
  have hPv := hSv.pn hP
  refine hR _ _ ?_
  unfold mw_Ref_run
  rw [hPv.2.2.1]
  refine ⟨fun z => absurd z q0, fun _ => ⟨fun z => absurd z q1, fun _ => ⟨fun z => absurd z q2', fun _ => ⟨fun z => absurd z q3, fun _ => ⟨fun z => absurd z q4, fun _ => ⟨fun z => absurd z q5, fun _ => ⟨fun _ => ?_, fun z => absurd q6 z⟩⟩⟩⟩⟩⟩⟩
  refine mm_rRun hPv hn0 hf (fun τ0 w1 O2 x h0 hw1 hO2 hx x17 x18 x19 x67 x20 x69 => ?_)
  have hq : Xq (fun _ => 0, w0, 0, u 59) (τ0, w1, 0, v 69) := by
    refine ⟨fun t ht => (h0 t ht).symm, fun i hi => ?_, rfl, fun j _ hj => absurd hj (by show ¬ j < 3 * 0; omega)⟩
    show w0 i = w1 i
    rw [hw0 i hi, hw1 i hi, hv 66 (by decide), hm 66 (by decide), hm 21 (by decide)]
    exact (hI.2.1 i hi).symm
  have hprn := Xq_prn (hSu.pn hP) f 0 0 _ _ hn0 hq
  rw [← hO] at hprn
  rw [prn_congr (Sm_mf hv (by decide))] at hO2
  rw [← hO2] at hprn
  obtain ⟨p1, p2, p3, p4, p5, p6, p7⟩ := hprn
  rw [← p1]
  refine hK _ _ ⟨⟨n, (Sm_mf hx (by decide)).pn hPv⟩, ?_, ?_, ?_⟩
  · exact TI_mf hx (by decide) (by decide) (TI_mf hv (by decide) (by decide) (TI_mf hm (by decide) (by decide) hI.2.1))
  · have y13 : x 1013 0 = O.2.1 := by rw [hx 1013 (by decide)]; exact v13
    have y14 : x 1014 0 = nI O.2.2.1 := by rw [hx 1014 (by decide)]; exact v14
    have y15 : x 1015 0 = nI O.2.2.2.2.2.1 := by rw [hx 1015 (by decide)]; exact v15
    refine ⟨?_, ?_, ?_, Or.inr x17, fun z => ?_, fun _ i hi => ?_, O.2.2.2.2.2.1, hc, y15, fun j hj hj3 => ?_⟩
    · rw [x18, y13, p2]
    · rw [x19, y14, p3]
    · rw [x20, y15, p6]
    · rw [x17] at z; exact absurd z (by decide)
    · rw [x67, hx 58 (by decide), v58]
      exact (p5 i hi).symm
    · rw [x69, hx 59 (by decide), v59]
      exact (p7 j hj hj3).symm
  · exact LM_run hx (by decide) (by decide) (LM_run hv (by decide) (by decide) hL)

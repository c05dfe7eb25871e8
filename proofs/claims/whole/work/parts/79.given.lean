/-! homes are given -/
def hW : List Nat := [40, 42, 43, 44, 1007, 1008, 1009, 1010]
section M1
variable {σ u : mz_St} {n c rg : Nat} {o : Nat → Nat} {K : mz_St → Prop}
theorem Sm_LvA {σ u : mz_St} (h : Sm σ u) (n : Nat) : LvA u n = LvA σ n := by
  funext b i t
  unfold LvA
  rw [Sm_RdF h, Sm_WrF h, Sm_gX h n, Sm_Lv h n]
theorem cur_ok (hP : PN σ n) (hO : Ord σ n c o) (hS : StOK σ n c o) {R R' Q x t : Nat} (hG : HG σ u n c o rg R Q) (ht : t < 10) (hx : Pn σ c o t R' x) : st σ x = -1 ∨ ∃ y, y < 221 ∧ st σ x = nI y ∧ cel u rg y := by
  rcases st_ok hP hO hS ht hx with q | ⟨y, t', ht', hy, q, q2, q3⟩
  · exact Or.inl q
  · refine Or.inr ⟨y, q3, q, ?_⟩
    by_cases e : Pn σ c o t' R y
    · obtain ⟨q, e1, e2⟩ := hG.1 t' y ht' e q2
      exact Or.inr ⟨q, e1, e2.imp id (fun z => z.1)⟩
    · exact Or.inl (hG.2.1 t' y R' ht' hy e)
theorem mm_giveHomeToMade (hB : Bas σ n c o) (hS : StOK σ n c o) (hm : mf hW σ u) (hrg : rg ≤ 8) {k i : Nat} {L : Int32} (hk : k < c) (hi : i < lenC σ (o k)) (hG : HG σ u n c o rg (11 + 22 * k + i) (11 + 22 * k + i)) (h42 : ∀ t, t < 10 → u 42 t = st σ (nx σ (o k) i t)) (hL : ∀ t, t < 10 → (bt L t = true ↔ LvA σ n (o k) (i + 1) t)) (h : ∀ v, mf [40, 42, 43, 1010] u v → HG σ v n c o rg (11 + 22 * k + i + 1) (11 + 22 * k + i + 1) → (∀ t, t < 10 → v 42 t = st σ (nx σ (o k) (i + 1) t)) → K v) : mw_Homes_giveHomeToMade K (nI (12 * o k + i)) L u := by
  obtain ⟨hP, hO, hR, hI, hV⟩ := id hB
  have hn := hP.1
  obtain ⟨ho, hl⟩ := o_lt hP hO hk
  obtain ⟨-, -, -, hop⟩ := PN_len hP ho
  have hsu := (hop i hi).1
  have hSm : Sm σ u := Sm_mf hm (by decide)
  have hin : vp_in (nI (12 * o k + i)) 120 := vp_in_nI (by omega) (by decide)
  have pt := hG.2.2.1 k i hk (by omega) (Nat.le_refl _)
  have only : ∀ k' i', k' < c → i' ≤ lenC σ (o k') → 11 + 22 * k + i < 11 + 22 * k' + i' → 11 + 22 * k' + i' ≤ 11 + 22 * k + i + 1 → k' = k ∧ i' = i + 1 := by
    intro k' i' h1 h2 h3 h4
    have := (o_lt hP hO h1).2
    have e : k' = k := by omega
    exact ⟨e, by omega⟩
  -- where nothing new lies in a cell
  have quiet : ∀ v, mf [42] u v → (∀ t' z, t' < 10 → Pn σ c o t' (11 + 22 * k + i + 1) z → self σ z → Pn σ c o t' (11 + 22 * k + i) z) → (σ 12 (12 * o k + i) ≠ 17 → ¬ self σ (101 + 12 * o k + i)) → (∀ t, t < 10 → v 42 t = st σ (nx σ (o k) (i + 1) t)) → (∀ t, t < 10 → LvA σ n (o k) (i + 1) t → st σ (nx σ (o k) (i + 1) t) = -1 ∨ ∃ t', t' < 10 ∧ LvA σ n (o k) i t' ∧ st σ (nx σ (o k) (i + 1) t) = st σ (nx σ (o k) i t')) → K v := by
    intro v hmv h1 hns h42v hst
    have hG2 : HG σ v n c o rg (11 + 22 * k + i + 1) (11 + 22 * k + i) := by
      refine HG_skip hG (by omega) (hmv 40 (by decide)) (hmv 1009 (by decide)) (hmv 1010 (by decide)) h1 (fun k' i' q1 q2 q3 q4 q5 => ?_)
      apply Classical.byContradiction
      intro q6
      have := (o_lt hP hO q1).2
      have e1 : k' = k := by omega
      have e2 : i' = i := by omega
      subst e1 e2
      exact hns q4 q5
    refine h v (mf_mono hmv (by decide)) (HG_pt hG2 (fun k' i' q1 q2 q3 q4 => ?_)) h42v
    obtain ⟨rfl, rfl⟩ := only k' i' q1 q2 q3 q4
    intro t1 t2 y1 y2 h1 h2 L1 L2 l1 l2 e1 e2 hne
    rw [hmv 40 (by decide)]
    rcases hst t1 h1 L1 with z | ⟨s1, a1, a2, a3⟩
    · rw [z] at e1; exact absurd e1.symm (ne_m1 (by omega))
    rcases hst t2 h2 L2 with z | ⟨s2, b1, b2, b3⟩
    · rw [z] at e2; exact absurd e2.symm (ne_m1 (by omega))
    exact pt s1 s2 y1 y2 a1 b1 a2 b2 l1 l2 (a3.symm.trans e1) (b3.symm.trans e2) hne
  unfold mw_Homes_giveHomeToMade
  refine mm_makesValue ho (by omega) ?_
  rw [hSm 12 (by decide)]
  refine bz_og (fun e => ?_) (fun e => ?_)
  · have h17 : σ 12 (12 * o k + i) ≠ 17 := by simpa using e
    obtain ⟨d, hd, ed, hpo⟩ := Pn_op hP hO hk hi h17
    have hx := Pn_lt hP hO hd hpo
    have nxd : nx σ (o k) (i + 1) d = 101 + 12 * o k + i := by unfold nx; rw [nm_s, if_pos ⟨h17, ed⟩]
    have nxo : ∀ t, t < 10 → t ≠ d → nx σ (o k) (i + 1) t = nx σ (o k) i t := fun t ht htd => by
      unfold nx; rw [nm_s, if_neg (fun z => htd (by have := z.2; rw [ed, nI_eq (by omega) (by omega)] at this; exact this.symm))]
    have nmo : ∀ t, t < 10 → t ≠ d → ¬ mOp σ (o k) i t := fun t ht htd z => htd (by have := z.2; rw [ed, nI_eq (by omega) (by omega)] at this; exact this.symm)
    refine ⟨hin, ?_⟩
    unfold mw_Mill_madeName
    rw [ixmade, ← Nat.add_assoc]
    refine mm_nameFor hx ⟨?_, ?_⟩
    · rw [mz_rdn (by omega), hSm 13 (by decide), ed]; exact vp_in_nI hd (by decide)
    · rw [mz_rdn (by omega), hSm 13 (by decide), ed, mz_wrn (by omega), hm 37 (by decide), hm 38 (by decide)]
      have hm2 : mf [42] u (mz_up u 42 d (if σ 37 (101 + 12 * o k + i) = 1 then σ 38 (101 + 12 * o k + i) else -1)) := mf_up (by decide)
      have h42v : ∀ t, t < 10 → mz_up u 42 d (if σ 37 (101 + 12 * o k + i) = 1 then σ 38 (101 + 12 * o k + i) else -1) 42 t = st σ (nx σ (o k) (i + 1) t) := by
        intro t ht
        by_cases e : t = d
        · subst e; rw [up_at, nxd]; rfl
        · rw [up_ot e, nxo t ht e]; exact h42 t ht
      generalize mz_up u 42 d (if σ 37 (101 + 12 * o k + i) = 1 then σ 38 (101 + 12 * o k + i) else -1) = w at hm2 h42v ⊢
      have hmw : mf hW σ w := mf_tr hm (mf_mono hm2 (by decide))
      refine mm_keepsOp ho (by omega) ?_
      rw [hmw 12 (by decide), hmw 37 (by decide), hmw 38 (by decide)]
      refine bz_go (fun e2 => ?_) (fun e2 => ?_)
      · have hns : ¬ self σ (101 + 12 * o k + i) := fun z => of_decide_eq_false e2 (Or.inr z)
        refine quiet w hm2 (fun t' z q1 q2 q3 => ?_) (fun _ => hns) h42v (fun t ht hLt => ?_)
        · rcases Pn_sM hP hO (by omega) q1 q2 with ⟨q, -⟩ | q
          · rw [q] at q3; exact absurd q3 hns
          · exact q
        · by_cases etd : t = d
          · subst etd
            rw [nxd]
            rcases hS.2.2.1 k i hk hi h17 with z | ⟨z1, z2, z3⟩ | ⟨z1, z2, z3⟩ | ⟨z1, z2, z3, z4, z5, z6⟩
            · exact absurd z hns
            · left; unfold st; rw [if_neg (by rw [z2]; decide)]
            · right
              have h0 : σ 12 (12 * o k + i) ≠ 0 := by rw [z1]; decide
              obtain ⟨ta, hta, hna, ea, ena⟩ := Pn_na hP hO hI hk hi h0
              refine ⟨ta, hta, LvA_u hi (Or.inl ⟨h0, ea⟩), ?_⟩
              have : nx σ (o k) i ta = naO σ (o k) i := ena.symm
              rw [this]
              unfold st
              rw [z2, z3]
            · left; unfold st; rw [if_neg (by rw [z5]; decide)]
          · right
            exact ⟨t, ht, LvA_s hi hLt (nmo t ht etd), by rw [nxo t ht etd]⟩
      · have hs : self σ (101 + 12 * o k + i) := (of_decide_eq_true e2).resolve_left h17
        have hx2 : ∀ t', t' < 10 → ¬ Pn σ c o t' (11 + 22 * k + i) (101 + 12 * o k + i) := fun t' q1 q2 => by have := (Pn_mad hP hO hk hi q1 q2).2; omega
        have w40 : w 40 = u 40 := hm2 40 (by decide)
        have hGw : HG σ w n c o rg (11 + 22 * k + i) (11 + 22 * k + i) := by
          unfold HG Prs
          rw [w40, hm2 1009 (by decide), hm2 1010 (by decide)]
          exact hG
        have hx40 : w 40 (101 + 12 * o k + i) = -1 := hGw.2.1 d _ _ hd hpo (hx2 d hd)
        refine mm_giveHome hx hrg hGw.2.2.2.2.1 hx40 (fun t ht => ?_) (fun t1 t2 y1 y2 h1 h2 b1 b2 l1 l2 c1 c2 hne n1 n2 => ?_) (fun v hmv hv1 hv2 hv3 hv4 => ?_)
        · rw [h42v t ht]
          exact cur_ok hP hO hS hGw ht (Pn_nx hP hO hI hk (show i + 1 ≤ lenC σ (o k) by omega) ht)
        · have td : ∀ t y, t < 10 → y < 221 → w 42 t = nI y → w 40 y ≠ -1 → t ≠ d := by
            intro t y q1 q2 q3 q4 q5
            rw [h42v t q1, q5, nxd, st_self hs, nI_eq (by omega) (by omega)] at q3
            rw [← q3] at q4
            exact q4 hx40
          have d1 := td t1 y1 h1 l1 c1 n1
          have d2 := td t2 y2 h2 l2 c2 n2
          rw [h42v t1 h1, nxo t1 h1 d1] at c1
          rw [h42v t2 h2, nxo t2 h2 d2] at c2
          rw [w40]
          exact pt t1 t2 y1 y2 h1 h2 (LvA_s hi ((hL t1 h1).mp b1) (nmo t1 h1 d1)) (LvA_s hi ((hL t2 h2).mp b2) (nmo t2 h2 d2)) l1 l2 c1 c2 hne
        · have hx1 : ∀ t' z, t' < 10 → Pn σ c o t' (11 + 22 * k + i + 1) z → z = 101 + 12 * o k + i ∨ Pn σ c o t' (11 + 22 * k + i) z := fun t' z q1 q2 => (Pn_sM hP hO (by omega) q1 q2).imp (fun q => q.1) id
          have hG2 : HG σ v n c o rg (11 + 22 * k + i + 1) (11 + 22 * k + i) := by
            refine HG_step hP hO hI hS hrg (Nat.le_refl _) hGw hx1 hx2 ⟨d, hd, hpo⟩ hv1 hv2 (by rw [hmv 1009 (by decide)]) hv4 (fun k' i' q1 q2 q3 q4 q5 t y ht hLt hy ee hne => ?_)
            have := (o_lt hP hO q1).2
            have f1 : k' = k := by omega
            have f2 : i' = i := by omega
            subst f1 f2
            exact hv3 t y ht ((hL t ht).mpr hLt) hy (by rw [h42v t ht]; exact ee) hne
          refine h v (mf_tr (mf_mono hm2 (by decide)) (mf_mono hmv (by decide))) (HG_pt hG2 (fun k' i' q1 q2 q3 q4 => ?_)) (fun t ht => by rw [hmv 42 (by decide)]; exact h42v t ht)
          obtain ⟨rfl, rfl⟩ := only k' i' q1 q2 q3 q4
          intro t1 t2 y1 y2 h1 h2 L1 L2 l1 l2 e1 e2 hne
          by_cases x1 : y1 = 101 + 12 * o k' + i
          · rw [x1]
            exact fun z => hv3 t2 y2 h2 ((hL t2 h2).mpr L2) l2 (by rw [h42v t2 h2]; exact e2) (fun z => hne (x1.trans z.symm)) z.symm
          · by_cases x2 : y2 = 101 + 12 * o k' + i
            · rw [x2]
              exact hv3 t1 y1 h1 ((hL t1 h1).mpr L1) l1 (by rw [h42v t1 h1]; exact e1) x1
            · have td : ∀ t y, y < 221 → y ≠ 101 + 12 * o k' + i → st σ (nx σ (o k') (i + 1) t) = nI y → t ≠ d := by
                intro t y q2 q3 q4 q5
                rw [q5, nxd, st_self hs, nI_eq (by omega) (by omega)] at q4
                exact q3 q4.symm
              have d1 := td t1 y1 l1 x1 e1
              have d2 := td t2 y2 l2 x2 e2
              rw [nxo t1 h1 d1] at e1
              rw [nxo t2 h2 d2] at e2
              obtain ⟨s1, a1, a2, a3⟩ := st_of hP hO hS h1 (Pn_nx hP hO hI hk (Nat.le_of_lt hi) h1) l1 e1
              obtain ⟨s2, b1, b2, b3⟩ := st_of hP hO hS h2 (Pn_nx hP hO hI hk (Nat.le_of_lt hi) h2) l2 e2
              refine HG_key hrg hGw hx2 hv1 a1 b1 a2 b2 a3 b3 l1 l2 hne ?_
              rw [w40]
              exact pt t1 t2 y1 y2 h1 h2 (LvA_s hi L1 (nmo t1 h1 d1)) (LvA_s hi L2 (nmo t2 h2 d2)) l1 l2 e1 e2 hne
  · have h17 : σ 12 (12 * o k + i) = 17 := by simpa using e
    have nxo : ∀ t, nx σ (o k) (i + 1) t = nx σ (o k) i t := fun t => by unfold nx; rw [nm_s, if_neg (fun z => z.1 h17)]
    refine quiet u mf_rf (fun t' z q1 q2 _ => ?_) (fun z => absurd h17 z) (fun t ht => by rw [nxo t]; exact h42 t ht) (fun t ht hLt => Or.inr ⟨t, ht, LvA_s hi hLt (fun z => z.1 h17), by rw [nxo t]⟩)
    rcases Pn_sM hP hO (by omega) q1 q2 with ⟨-, q⟩ | q
    · exact absurd h17 q.1
    · exact q
theorem mm_giveHomesToPhis (hB : Bas σ n c o) (hF : FlowOK σ n) (hS : StOK σ n c o) (hz : σ 37 0 = 2) (hm : mf hW σ u) (hrg : rg ≤ 8) {k : Nat} (hk : k < c) (hG : HG σ u n c o rg (1 + 22 * k) (1 + 22 * k)) (h : ∀ v, mf [40, 42, 43, 1010] u v → HG σ v n c o rg (11 + 22 * k) (11 + 22 * k) → (∀ t, t < 10 → v 42 t = st σ (nx σ (o k) 0 t)) → K v) : mw_Homes_giveHomesToPhis K (nI (o k)) u := by
  obtain ⟨hP, hO, hR, hI, hV⟩ := id hB
  obtain ⟨-, -, -, -, -, hN, -, -, -, -, hLv, hPh⟩ := hF
  have hn := hP.1
  obtain ⟨ho, hl⟩ := o_lt hP hO hk
  have hok := hO.2.2.2.1 k hk
  have hbfP : ∀ t, t < 10 → Pn σ c o t (11 + 22 * k) (bf σ (o k) t) := fun t ht => Pn_bf hk ((hI k hk).1 t ht) ht
  unfold mw_Homes_giveHomesToPhis
  refine lf1 (fun m x v => ∃ i, x = nI i ∧ i ≤ 10 ∧ m = 10 - i ∧ mf [42] u v ∧ ∀ t, t < i → v 42 t = st σ (bf σ (o k) t)) ?_ 10 0 u ⟨0, rfl, by omega, rfl, mf_rf, fun t ht => absurd ht (by omega)⟩
  rintro m P2 x v ⟨i, rfl, hi, rfl, hmv, h42⟩ hrec
  have hmv' : mf hW σ v := mf_tr hm (mf_mono hmv (by decide))
  have hSn : Sn σ v := Sn_mf hmv' (by decide)
  unfold mw_Homes_giveHomesToPhis_2
  rw [ge10 (by omega)]
  refine ⟨fun hle => ?_, fun hlt => ?_⟩
  · have ei : i = 10 := by omega
    subst ei
    -- the phis
    have hG0 : HG σ v n c o rg (1 + 22 * k + 0) (1 + 22 * k) := by
      unfold HG Prs
      rw [hmv 40 (by decide), hmv 1009 (by decide), hmv 1010 (by decide)]
      exact hG
    have hPG0 : ∀ t1 t2 y1 y2, t1 < 10 → t2 < 10 → Lv σ n t1 (o k) → Lv σ n t2 (o k) → y1 < 221 → y2 < 221 → st σ (bf σ (o k) t1) = nI y1 → st σ (bf σ (o k) t2) = nI y2 → y1 ≠ y2 → (∃ t', t' < 10 ∧ Pn σ c o t' (1 + 22 * k + 0) y1) → (∃ t', t' < 10 ∧ Pn σ c o t' (1 + 22 * k + 0) y2) → v 40 y1 ≠ v 40 y2 := by
      -- a live temporary that stands for an older name
      have old : ∀ t y, t < 10 → Lv σ n t (o k) → y < 221 → st σ (bf σ (o k) t) = nI y → (∃ t', t' < 10 ∧ Pn σ c o t' (1 + 22 * k + 0) y) → (bt (σ 32 (o k)) t = true → phN σ σ c o k t ∧ ∀ p, Al σ n p → gX σ n p (o k) → σ 37 (1 + 10 * o k + t) = σ 37 (bh σ p t) ∧ σ 38 (1 + 10 * o k + t) = σ 38 (bh σ p t)) := by
        rintro t y ht hLt hy e ⟨t', ht', hp⟩ hb
        have ebf : bf σ (o k) t = 1 + 10 * o k + t := by unfold bf; rw [if_pos hb]
        rcases hS.2.2.2 k t hk ht hb with q | q
        · rw [ebf, st_self q, nI_eq (by omega) (by omega)] at e
          rw [← e] at hp
          have := (Pn_phi hP hO hk ht ht' hp).2.2
          omega
        · exact q
      rcases Nat.eq_zero_or_pos k with k0 | k0
      · subst k0
        intro t1 t2 y1 y2 h1 h2 L1 L2 l1 l2 e1 e2 hne p1 p2
        exfalso
        cases hb : bt (σ 32 (o 0)) t1
        · have ebf : bf σ (o 0) t1 = 0 := by
            unfold bf
            rw [if_neg (by rw [hb]; decide)]
            rcases near_ok hO hN hk with ⟨-, z⟩ | ⟨j, j1, -⟩
            · rw [if_pos z]
            · omega
          rw [ebf] at e1
          unfold st at e1
          rw [if_neg (by rw [hz]; decide)] at e1
          exact ne_m1 (by omega) e1.symm
        · have q := (old t1 y1 h1 L1 l1 e1 p1 hb).1.1 rfl
          have ebf : bf σ (o 0) t1 = 1 + 10 * o 0 + t1 := by unfold bf; rw [if_pos hb]
          rw [ebf] at e1
          unfold st at e1
          rw [if_neg (by rw [q.1]; decide)] at e1
          exact ne_m1 (by omega) e1.symm
      · obtain ⟨j, j1, j2⟩ := hO.2.2.2.2.2.2 k hk k0
        have hoj := o_lt hP hO (show j < c by omega)
        have halj := (hO.2.2.2.1 j (by omega)).2
        have pt := hG.2.2.1 j (lenC σ (o j)) (by omega) (Nat.le_refl _) (by omega)
        have par : ∀ t y, t < 10 → Lv σ n t (o k) → y < 221 → st σ (bf σ (o k) t) = nI y → (∃ t', t' < 10 ∧ Pn σ c o t' (1 + 22 * k + 0) y) → st σ (nx σ (o j) (lenC σ (o j)) t) = nI y := by
          intro t y ht hLt hy e hp
          have e1 : nx σ (o j) (lenC σ (o j)) t = bh σ (o j) t := (NB_row hP hO (show j < c by omega) ht (hI j (by omega))).2.2.symm
          rw [e1]
          cases hb : bt (σ 32 (o k)) t
          · rw [edge_ok hP hO hN hPh hI hk halj j2 ht hLt hb]
            exact e
          · have q := (old t y ht hLt hy e hp hb).2 (o j) halj j2
            have ebf : bf σ (o k) t = 1 + 10 * o k + t := by unfold bf; rw [if_pos hb]
            rw [ebf] at e
            unfold st at e ⊢
            rw [← q.1, ← q.2]
            exact e
        intro t1 t2 y1 y2 h1 h2 L1 L2 l1 l2 e1 e2 hne p1 p2
        rw [hmv 40 (by decide)]
        exact pt t1 t2 y1 y2 h1 h2 (LvA_o j2 L1) (LvA_o j2 L2) l1 l2 (par t1 y1 h1 L1 l1 e1 p1) (par t2 y2 h2 L2 l2 e2 p2) hne
    refine lf1 (fun m x w => ∃ t, x = nI t ∧ t ≤ 10 ∧ m = 10 - t ∧ mf [40, 43, 1010] v w ∧ HG σ w n c o rg (1 + 22 * k + t) (1 + 22 * k) ∧ ∀ t1 t2 y1 y2, t1 < 10 → t2 < 10 → Lv σ n t1 (o k) → Lv σ n t2 (o k) → y1 < 221 → y2 < 221 → st σ (bf σ (o k) t1) = nI y1 → st σ (bf σ (o k) t2) = nI y2 → y1 ≠ y2 → (∃ t', t' < 10 ∧ Pn σ c o t' (1 + 22 * k + t) y1) → (∃ t', t' < 10 ∧ Pn σ c o t' (1 + 22 * k + t) y2) → w 40 y1 ≠ w 40 y2) ?_ 10 0 v ⟨0, rfl, by omega, rfl, mf_rf, hG0, hPG0⟩
    rintro m P38 x w ⟨t, rfl, ht, rfl, hmw, hGw, hPG⟩ hrec2
    have hmw' : mf hW σ w := mf_tr hmv' (mf_mono hmw (by decide))
    have w42 : ∀ q, q < 10 → w 42 q = st σ (bf σ (o k) q) := fun q hq => by rw [hmw 42 (by decide)]; exact h42 q hq
    unfold mw_Homes_giveHomesToPhis_38
    rw [ge10 (by omega)]
    refine ⟨fun hle2 => ?_, fun hlt2 => ?_⟩
    · have et : t = 10 := by omega
      subst et
      have hGw' : HG σ w n c o rg (11 + 22 * k) (1 + 22 * k) := by rw [show 11 + 22 * k = 1 + 22 * k + 10 by omega]; exact hGw
      refine h w (mf_tr (mf_mono hmv (by decide)) (mf_mono hmw (by decide))) (HG_pt hGw' (fun k' i' q1 q2 q3 q4 => ?_)) (fun q hq => w42 q hq)
      have := (o_lt hP hO q1).2
      have e1 : k' = k := by omega
      have e2 : i' = 0 := by omega
      subst e1 e2
      intro t1 t2 y1 y2 h1 h2 L1 L2 l1 l2 e1 e2 hne
      have lv : ∀ t, LvA σ n (o k') 0 t → Lv σ n t (o k') := by
        rintro t (z | ⟨z1, y, z2, z3⟩)
        · exact Lv_r hok.1 z
        · exact Lv_e hok.1 z1 z2 z3
      obtain ⟨s1, a1, a2, -⟩ := st_of hP hO hS h1 (hbfP t1 h1) l1 e1
      obtain ⟨s2, b1, b2, -⟩ := st_of hP hO hS h2 (hbfP t2 h2) l2 e2
      exact hPG t1 t2 y1 y2 h1 h2 (lv t1 L1) (lv t2 L2) l1 l2 e1 e2 hne ⟨s1, a1, Pn_mono a2 (by omega)⟩ ⟨s2, b1, Pn_mono b2 (by omega)⟩
    · have ht2 : t < 10 := by omega
      refine mm_keepsPhi ho ht2 ?_
      rw [hmw' 32 (by decide), hmw' 37 (by decide), hmw' 38 (by decide)]
      intro P74 hP74
      have nxt : ∀ y, mf [40, 43, 1010] v y → HG σ y n c o rg (1 + 22 * k + t + 1) (1 + 22 * k) → (∀ t1 t2 y1 y2, t1 < 10 → t2 < 10 → Lv σ n t1 (o k) → Lv σ n t2 (o k) → y1 < 221 → y2 < 221 → st σ (bf σ (o k) t1) = nI y1 → st σ (bf σ (o k) t2) = nI y2 → y1 ≠ y2 → (∃ t', t' < 10 ∧ Pn σ c o t' (1 + 22 * k + t + 1) y1) → (∃ t', t' < 10 ∧ Pn σ c o t' (1 + 22 * k + t + 1) y2) → y 40 y1 ≠ y 40 y2) → P74 y := by
        intro y q1 q2 q3
        apply hP74
        unfold mw_Homes_giveHomesToPhis_74
        rw [nI_k1]
        exact hrec2 (10 - (t + 1)) _ y (by omega) ⟨t + 1, rfl, by omega, rfl, q1, q2, q3⟩
      refine bz_go (fun e => ?_) (fun e => ?_)
      · have e := of_decide_eq_false e
        have hsl : ∀ t' z, t' < 10 → Pn σ c o t' (1 + 22 * k + t + 1) z → self σ z → Pn σ c o t' (1 + 22 * k + t) z := by
          intro t' z q1 q2 q3
          rcases Pn_sP hP hO ht2 q1 q2 with ⟨q, q4⟩ | q
          · rw [q] at q3; exact absurd ⟨q4, q3⟩ e
          · exact q
        refine nxt w hmw (HG_skip hGw (by omega) rfl rfl rfl hsl (fun k' i' q1 q2 q3 _ _ => by have := (o_lt hP hO q1).2; omega)) ?_
        rintro t1 t2 y1 y2 h1 h2 L1 L2 l1 l2 e1 e2 hne ⟨s1, a1, a2⟩ ⟨s2, b1, b2⟩
        obtain ⟨-, -, -, c1⟩ := st_of hP hO hS h1 (hbfP t1 h1) l1 e1
        obtain ⟨-, -, -, c2⟩ := st_of hP hO hS h2 (hbfP t2 h2) l2 e2
        exact hPG t1 t2 y1 y2 h1 h2 L1 L2 l1 l2 e1 e2 hne ⟨s1, a1, hsl s1 y1 a1 a2 c1⟩ ⟨s2, b1, hsl s2 y2 b1 b2 c2⟩
      · obtain ⟨hb, hs⟩ := of_decide_eq_true e
        have hs : self σ (1 + 10 * o k + t) := hs
        have hx2 : ∀ t', t' < 10 → ¬ Pn σ c o t' (1 + 22 * k + t) (1 + 10 * o k + t) := fun t' q1 q2 => by have := (Pn_phi hP hO hk ht2 q1 q2).2.2; omega
        have hpx : Pn σ c o t (1 + 22 * k + t + 1) (1 + 10 * o k + t) := Or.inr (Or.inl ⟨k, hk, hb, rfl, by omega⟩)
        have hx1 : ∀ t' z, t' < 10 → Pn σ c o t' (1 + 22 * k + t + 1) z → z = 1 + 10 * o k + t ∨ Pn σ c o t' (1 + 22 * k + t) z := fun t' z q1 q2 => (Pn_sP hP hO ht2 q1 q2).imp (fun q => q.1) id
        unfold mw_Mill_phiName
        rw [ixphi]
        refine ⟨vp_in_nI ho (by decide), ?_⟩
        rw [mz_rdn (by omega), hmw' 31 (by decide)]
        have hLb : ∀ q, q < 10 → (bt (σ 31 (o k)) q = true ↔ Lv σ n q (o k)) := fun q hq => by rw [hLv (o k) hok.1 q]; exact ⟨fun z => z.2, fun z => ⟨hq, z⟩⟩
        have given : ∀ q y, q < 10 → y < 221 → w 42 q = nI y → w 40 y ≠ -1 → ∃ t', t' < 10 ∧ Pn σ c o t' (1 + 22 * k + t) y := by
          intro q y q1 q2 q3 q4
          rw [w42 q q1] at q3
          obtain ⟨s1, a1, a2, -⟩ := st_of hP hO hS q1 (hbfP q q1) q2 q3
          refine ⟨s1, a1, ?_⟩
          apply Classical.byContradiction
          exact fun z => q4 (hGw.2.1 s1 y _ a1 a2 z)
        refine mm_giveHome (by omega) hrg hGw.2.2.2.2.1 (hGw.2.1 t _ _ ht2 hpx (hx2 t ht2)) (fun q hq => ?_) (fun t1 t2 y1 y2 h1 h2 b1 b2 l1 l2 c1 c2 hne n1 n2 => ?_) (fun y hmy hv1 hv2 hv3 hv4 => ?_)
        · rw [w42 q hq]
          exact cur_ok hP hO hS hGw hq (hbfP q hq)
        · have g1 := given t1 y1 h1 l1 c1 n1
          have g2 := given t2 y2 h2 l2 c2 n2
          rw [w42 t1 h1] at c1
          rw [w42 t2 h2] at c2
          exact hPG t1 t2 y1 y2 h1 h2 ((hLb t1 h1).mp b1) ((hLb t2 h2).mp b2) l1 l2 c1 c2 hne g1 g2
        · refine nxt y (mf_tr hmw (mf_mono hmy (by decide))) (HG_step hP hO hI hS hrg (by omega) hGw hx1 hx2 ⟨t, ht2, hpx⟩ hv1 hv2 (by rw [hmy 1009 (by decide)]) hv4 (fun k' i' q1 q2 q3 => by have := (o_lt hP hO q1).2; omega)) ?_
          rintro t1 t2 y1 y2 h1 h2 L1 L2 l1 l2 e1 e2 hne ⟨s1, a1, a2⟩ ⟨s2, b1, b2⟩
          obtain ⟨-, -, -, c1⟩ := st_of hP hO hS h1 (hbfP t1 h1) l1 e1
          obtain ⟨-, -, -, c2⟩ := st_of hP hO hS h2 (hbfP t2 h2) l2 e2
          rcases hx1 s1 y1 a1 a2 with x1 | x1
          · rw [x1]
            exact fun z => hv3 t2 y2 h2 ((hLb t2 h2).mpr L2) l2 (by rw [w42 t2 h2]; exact e2) (fun z => hne (x1.trans z.symm)) z.symm
          · rcases hx1 s2 y2 b1 b2 with x2 | x2
            · rw [x2]
              exact hv3 t1 y1 h1 ((hLb t1 h1).mpr L1) l1 (by rw [w42 t1 h1]; exact e1) (fun z => hne (z.trans x2.symm))
            · exact HG_key hrg hGw hx2 hv1 a1 b1 x1 x2 c1 c2 l1 l2 hne (hPG t1 t2 y1 y2 h1 h2 L1 L2 l1 l2 e1 e2 hne ⟨s1, a1, x1⟩ ⟨s2, b1, x2⟩)
  · have hPv := hSn.sm.pn hP
    have hOv : Ord v n c o := by rw [Sn_Ord hSn]; exact hO
    have hNv : nearOK v n := by
      unfold nearOK nearV at hN ⊢
      rw [Sm_Idm hSn.sm, hSn 26 (by decide)]; exact hN
    have hIv : NI v c o k := by rw [Sn_NI hSn]; exact fun j hj => hI j (by omega)
    refine mm_nameBefore hPv hOv hNv hk (by omega) hIv ?_
    rw [Sn_bf hSn]
    refine mm_nameFor (Pn_lt hP hO (show i < 10 by omega) (hbfP i (by omega))) ⟨vp_in_nI (by omega) (by decide), ?_⟩
    rw [mz_wrn (by omega), nI_k1, hmv' 37 (by decide), hmv' 38 (by decide)]
    refine hrec (10 - (i + 1)) _ _ (by omega) ⟨i + 1, rfl, by omega, rfl, mf_tr hmv (mf_up (by decide)), fun t ht => ?_⟩
    by_cases e : t = i
    · subst e; rw [up_at]; rfl
    · rw [up_ot e]; exact h42 t (by omega)
end M1

/-! along an edge -/
section B1
variable {K : mz_St → Prop} {σ u : mz_St} {n c fs L : Nat} {o : Nat → Nat} {Zs : Nat → Prop}
/-- a phi that is kept -/
def kp (σ : mz_St) (b t : Nat) : Prop := bt (σ 32 b) t = true ∧ self σ (1 + 10 * b + t)
theorem kp_live (hF : FlowOK σ n) {b t : Nat} (hb : b < n) (h : bt (σ 32 b) t = true) : Lv σ n t b := ((hF.2.2.2.2.2.2.2.2.2.2.2 b hb t).mp h).2.2
theorem kp_home (hM : Mde σ n c o fs Zs) {k t : Nat} (hk : k < c) (ht : t < 10) (h : kp σ (o k) t) : ∃ q, σ 40 (1 + 10 * o k + t) = nI q ∧ q < 229 ∧ ¬ Zs q ∧ (NSl σ c o fs → q < fs) := by
  obtain ⟨⟨hP, hO, hR, hI, hV⟩, hF, hS, hH, hZ⟩ := hM
  have hp : Pn σ c o t (1 + 22 * k + t + 1) (1 + 10 * o k + t) := Or.inr (Or.inl ⟨k, hk, h.1, rfl, by omega⟩)
  obtain ⟨q, q1, q2, q3⟩ := hZ.2.2.2.1 t _ _ ht hp h.2
  exact ⟨q, q1, q2, q3, fun hN => hN t _ _ q ht hp h.2 q1 q2⟩
/-- homes of two kept phis of a block differ -/
theorem kp_dif (hM : Mde σ n c o fs Zs) {k t t' : Nat} (hk : k < c) (ht : t < 10) (ht' : t' < 10) (h : kp σ (o k) t) (h' : kp σ (o k) t') (hne : t ≠ t') : σ 40 (1 + 10 * o k + t) ≠ σ 40 (1 + 10 * o k + t') := by
  obtain ⟨⟨hP, hO, hR, hI, hV⟩, hF, hS, hH, hZ⟩ := hM
  obtain ⟨-, -, -, -, -, h3, -⟩ := hH
  obtain ⟨ho, hl⟩ := o_lt hP hO hk
  have hb := (hO.2.2.2.1 k hk).1
  have e1 : nx σ (o k) 0 t = 1 + 10 * o k + t := by show bf σ (o k) t = _; unfold bf; rw [if_pos h.1]
  have e2 : nx σ (o k) 0 t' = 1 + 10 * o k + t' := by show bf σ (o k) t' = _; unfold bf; rw [if_pos h'.1]
  exact h3 k hk t t' _ _ ht ht' (LvA_0 (kp_live hF hb h.1)) (LvA_0 (kp_live hF hb h'.1)) (by omega) (by omega) (by rw [e1]; exact st_self h.2) (by rw [e2]; exact st_self h'.2) (by omega)
/-- the moves that an edge asks for, up to a temporary -/
def Mvs (σ u : mz_St) (Zs : Nat → Prop) (b b' t : Nat) (m : Nat) (T : Nat → Nat) (S : Nat → Int32) (B : Nat → Bool) : Prop :=
  RM u m T S B ∧ m ≤ t ∧
  (∀ i, i < m → ∃ t', t' < t ∧ kp σ b' t' ∧ σ 40 (1 + 10 * b' + t') = nI (T i) ∧ T i < 229 ∧ (B i = false → ∃ q, S i = nI q ∧ q < 229 ∧ ¬ Zs q ∧ q ≠ T i)) ∧
  (∀ i j, i < m → j < m → T i = T j → i = j) ∧
  (∀ t', t' < t → kp σ b' t' → (∃ i, i < m ∧ σ 40 (1 + 10 * b' + t') = nI (T i) ∧ ∀ z, sv (B i) (S i) z = vl σ (bh σ b t') z) ∨ ∃ q, σ 40 (1 + 10 * b' + t') = nI q ∧ q < 229 ∧ (∀ i, i < m → T i ≠ q) ∧ ∀ z : Wd, vl σ (bh σ b t') z = z q)
theorem mm_waddMove (hM : Mde σ n c o fs Zs) (hm : mf wW σ u) {b k t m : Nat} {T : Nat → Nat} {S : Nat → Int32} {B : Nat → Bool} (hb : Al σ n b) (hk : k < c) (ht : t < 10) (hR : Mvs σ u Zs b (o k) t m T S B) (h : ∀ v m' T' S' B', mf [54, 55, 56, 1012] u v → Mvs σ v Zs b (o k) (t + 1) m' T' S' B' → K v) : mw_Writer_addMove K (nI (o k)) (nI t) (nI (bh σ b t)) u := by
  obtain ⟨hBas, hF, hS, hH, hZ⟩ := id hM
  obtain ⟨hP, hO, hRo, hI, hV⟩ := id hBas
  obtain ⟨ho, hl⟩ := o_lt hP hO hk
  obtain ⟨a1, a2, a3⟩ := bh_ok hBas hb ht
  obtain ⟨r1, r2, r3, r4, r5⟩ := id hR
  unfold mw_Writer_addMove
  refine mm_keepsPhi ho ht ?_
  rw [hm 32 (by decide), hm 37 (by decide), hm 38 (by decide)]
  refine bz_og (fun e => ⟨vp_in_nI a2 (by decide), mm_isNumber a2 ?_⟩) (fun e => ?_)
  · have e0 := of_decide_eq_true e
    have hkp : kp σ (o k) t := e0
    obtain ⟨q, q1, q2, q3, -⟩ := kp_home hM hk ht hkp
    unfold mw_Mill_phiName
    rw [ixphi, hm 37 (by decide)]
    refine ⟨vp_in_nI (by omega) (by decide), fun P71 hP71 => ?_⟩
    have e40 : mz_rd u 40 (nI (1 + 10 * o k + t)) = nI q := by rw [mz_rdn (by omega), hm 40 (by decide)]; exact q1
    have e38 : mz_rd u 38 (nI (bh σ b t)) = σ 38 (bh σ b t) := by rw [mz_rdn (by omega), hm 38 (by decide)]
    rw [e40, e38]
    have fresh : ∀ i, i < m → T i ≠ q := by
      intro i hi e
      obtain ⟨t', x1, x2, x3, -⟩ := r3 i hi
      refine kp_dif hM hk (by omega) ht x2 hkp (by omega) ?_
      rw [x3, q1, e]
    -- adding a source that gives the value
    have add : ∀ (sr : Int32), (nu σ (bh σ b t) = false → ∃ q, sr = nI q ∧ q < 229 ∧ ¬ Zs q) → (∀ z, sv (nu σ (bh σ b t)) sr z = vl σ (bh σ b t) z) → P71 sr (nI q) u := by
      intro sr hsr hval
      apply hP71
      unfold mw_Writer_addMove_71
      refine mm_madd (b := nu σ (bh σ b t)) r1 (by omega) (fun hb0 hsq => ?_) (fun hne v hmv hRv => ?_)
      · -- it lies there already
        refine h u m T S B mf_rf ⟨r1, by omega, fun i hi => ?_, r4, fun t' ht' hkp' => ?_⟩
        · obtain ⟨t', x1, x2⟩ := r3 i hi
          exact ⟨t', by omega, x2⟩
        · by_cases et : t' = t
          · subst et
            refine Or.inr ⟨q, q1, q2, fresh, fun z => ?_⟩
            rw [← hval z, hb0, hsq]
            show z (nI q).toNatClampNeg = z q
            rw [nI_clamp (by omega)]
          · exact r5 t' (by omega) hkp'
      · refine h v (m + 1) _ _ _ hmv ⟨hRv, by omega, fun i hi => ?_, fun i j hi hj eij => ?_, fun t' ht' hkp' => ?_⟩
        · by_cases ei : i = m
          · subst ei
            rw [apn_at, apn_at, apn_at]
            refine ⟨t, by omega, hkp, q1, q2, fun hb0 => ?_⟩
            obtain ⟨s, s1, s2, s3⟩ := hsr hb0
            exact ⟨s, s1, s2, s3, fun e => hne ⟨hb0, by rw [s1, e]⟩⟩
          · rw [apn_ot ei, apn_ot ei, apn_ot ei]
            obtain ⟨t', x1, x2⟩ := r3 i (by omega)
            exact ⟨t', by omega, x2⟩
        · by_cases ei : i = m
          · by_cases ej : j = m
            · omega
            · rw [ei, apn_at, apn_ot ej] at eij
              exact absurd eij.symm (fresh j (by omega))
          · by_cases ej : j = m
            · rw [ej, apn_at, apn_ot ei] at eij
              exact absurd eij (fresh i (by omega))
            · rw [apn_ot ei, apn_ot ej] at eij
              exact r4 i j (by omega) (by omega) eij
        · by_cases et : t' = t
          · subst et
            refine Or.inl ⟨m, by omega, ?_, fun z => ?_⟩
            · rw [apn_at]; exact q1
            · rw [apn_at, apn_at]; exact hval z
          · rcases r5 t' (by omega) hkp' with ⟨i, i1, i2, i3⟩ | ⟨q', x1, x2, x3, x4⟩
            · refine Or.inl ⟨i, by omega, ?_, fun z => ?_⟩
              · rw [apn_ot (by omega)]; exact i2
              · rw [apn_ot (by omega), apn_ot (by omega)]; exact i3 z
            · refine Or.inr ⟨q', x1, x2, fun i hi => ?_, x4⟩
              by_cases ei : i = m
              · rw [ei, apn_at]
                intro e
                refine kp_dif hM hk (by omega) ht hkp' hkp et ?_
                rw [x1, q1, e]
              · rw [apn_ot ei]; exact x3 i (by omega)
    rcases nval hP hO hS hZ ht a3 with ⟨hnu, h37, hv⟩ | ⟨y, t', hh, ht', hy, hys, hyl, hnu, h37, h38, hst, h40, hh1, hh2, hv⟩
    · rw [decide_eq_true h37]
      refine ⟨fun z => absurd z (by decide), fun _ => add _ (fun z => by rw [hnu] at z; cases z) (fun z => ?_)⟩
      rw [hnu, hv]; rfl
    · rw [decide_eq_false (by rw [h37]; decide), h38]
      refine ⟨fun _ => ⟨vp_in_nI hyl (by decide), ?_⟩, fun z => absurd rfl z⟩
      rw [mz_rdn (by omega), hm 40 (by decide), h40]
      refine add _ (fun _ => ⟨hh, rfl, hh1, hh2⟩) (fun z => ?_)
      rw [hnu, hv]
      show z (nI hh).toNatClampNeg = z hh
      rw [nI_clamp (by omega)]
  · have e0 := of_decide_eq_false e
    have hnk : ¬ kp σ (o k) t := e0
    refine h u m T S B mf_rf ⟨r1, by omega, fun i hi => ?_, r4, fun t' ht' hkp' => ?_⟩
    · obtain ⟨t', x1, x2⟩ := r3 i hi
      exact ⟨t', by omega, x2⟩
    · by_cases et : t' = t
      · rw [et] at hkp'; exact absurd hkp' hnk
      · exact r5 t' (by omega) hkp'
/-- what an edge leaves is what the next block begins with -/
theorem road_ok (hM : Mde σ n c o fs Zs) {b k m : Nat} {T : Nat → Nat} {S : Nat → Int32} {B : Nat → Bool} (hb : Al σ n b) (hk : k < c) (he : gX σ n b (o k)) (hR : Mvs σ u Zs b (o k) 10 m T S B) {z z' τ : Wd} (hz1 : ∀ i, i < m → z' (T i) = sv (B i) (S i) z) (hz2 : ∀ q, q ≠ 229 → ¬ Zs q → (∀ i, i < m → T i ≠ q) → z' q = z q) (hs : SimP σ n b (lenC σ b) z τ) : JJ σ n (o k) z' τ := by
  obtain ⟨hBas, hF, hS, hH, hZ⟩ := id hM
  obtain ⟨hP, hO, hRo, hI, hV⟩ := id hBas
  obtain ⟨-, -, -, -, -, hPr, -⟩ := hH
  obtain ⟨-, -, -, -, -, hN, -, -, -, -, -, hPh⟩ := id hF
  obtain ⟨r1, r2, r3, r4, r5⟩ := hR
  obtain ⟨ho, hl⟩ := o_lt hP hO hk
  have hbn := (hO.2.2.2.1 k hk).1
  refine ⟨(hO.2.2.2.1 k hk).2, fun t ht hLt => ?_⟩
  -- the value at the end of the block that is left
  have hval : vl σ (bh σ b t) z = τ t := by
    obtain ⟨j, hj, ej⟩ := hO.2.2.2.2.2.1 b hb
    subst ej
    rw [(NB_row hP hO hj ht (hI j hj)).2.2]
    exact hs t ht (LvA_o he hLt)
  have hbf := Pn_bf hk ((hI k hk).1 t ht) ht
  by_cases hkp : kp σ (o k) t
  · -- a kept phi
    have ebf : bf σ (o k) t = 1 + 10 * o k + t := by unfold bf; rw [if_pos hkp.1]
    obtain ⟨q, q1, q2, q3, -⟩ := kp_home hM hk ht hkp
    have ev : ∀ z : Wd, vl σ (1 + 10 * o k + t) z = z q := fun z => by
      unfold vl
      rw [if_neg (by rw [hkp.2.1]; decide), hkp.2.2, nI_clamp (by omega), q1, nI_clamp (by omega)]
    rw [ebf, ev, ← hval]
    rcases r5 t ht hkp with ⟨i, i1, i2, i3⟩ | ⟨q', x1, x2, x3, x4⟩
    · have : T i < 229 := by obtain ⟨t', y1, y2, y3, y4, -⟩ := r3 i i1; exact y4
      rw [q1, nI_eq (by omega) (by omega)] at i2
      rw [i2, hz1 i i1, i3 z]
    · rw [q1, nI_eq (by omega) (by omega)] at x1
      subst x1
      rw [x4 z]
      exact hz2 q (by omega) q3 x3
  · -- it stands as before
    have same : σ 37 (bf σ (o k) t) = σ 37 (bh σ b t) ∧ σ 38 (bf σ (o k) t) = σ 38 (bh σ b t) ∧ (σ 37 (bf σ (o k) t) = 1 → ∀ y, y < 221 → σ 38 (bf σ (o k) t) = nI y → ∃ t', t' < 10 ∧ Pn σ c o t' (1 + 22 * k) y) := by
      cases hb32 : bt (σ 32 (o k)) t
      · have e := edge_ok hP hO hN hPh hI hk hb he ht hLt hb32
        rw [e]
        refine ⟨rfl, rfl, fun e37 y hy e38 => ?_⟩
        obtain ⟨t', h1, h2, -⟩ := st_of hP hO hS ht ((hI k hk).1 t ht hb32) hy (by unfold st; rw [if_pos e37]; exact e38)
        exact ⟨t', h1, h2⟩
      · have ebf : bf σ (o k) t = 1 + 10 * o k + t := by unfold bf; rw [if_pos hb32]
        rcases hS.2.2.2 k t hk ht hb32 with x | ⟨⟨-, x1⟩, x2⟩
        · exact absurd ⟨hb32, x⟩ hkp
        · rw [ebf]
          refine ⟨(x2 b hb he).1, (x2 b hb he).2, fun e37 y hy e38 => ?_⟩
          obtain ⟨y', t', y1, y2, y3, -⟩ := x1 e37
          have := Pn_lt hP hO y1 y2
          rw [e38, nI_eq (by omega) (by omega)] at y3
          rw [y3]
          exact ⟨t', y1, y2⟩
    have evl : ∀ z : Wd, vl σ (bf σ (o k) t) z = vl σ (bh σ b t) z := fun z => by unfold vl; rw [same.1, same.2.1]
    rw [← hval, ← evl z]
    rcases nval hP hO hS hZ ht hbf with ⟨-, -, e⟩ | ⟨y, t', hh, ht', hy, hys, hyl, -, h37, h38, hst, h40, hh1, hh2, e⟩
    · rw [e, e]
    · rw [e, e]
      refine hz2 hh (by omega) hh2 (fun i hi eT => ?_)
      obtain ⟨t2, y1, y2, y3, y4, -⟩ := r3 i hi
      obtain ⟨t3, z1, z3⟩ := same.2.2 h37 y hyl h38
      have hyx : y ≠ 1 + 10 * o k + t2 := fun e2 => by
        rw [e2] at z3
        have := (Pn_phi hP hO hk (show t2 < 10 by omega) z1 z3).2.2
        omega
      have e2 : nx σ (o k) 0 t2 = 1 + 10 * o k + t2 := by show bf σ (o k) t2 = _; unfold bf; rw [if_pos y2.1]
      refine hPr k hk t t2 y (1 + 10 * o k + t2) ht (by omega) (LvA_0 hLt) (LvA_0 (kp_live hF hbn y2.1)) hyl (by omega) hst (by rw [e2]; exact st_self y2.2) hyx ?_
      rw [h40, y3, eT]
theorem mm_writeRoad (hM : Mde σ n c o fs Zs) (hm : mf wW σ u) {k e : Nat} (hk : k < c) (he : e < eC σ (o k)) (h11 : u 1011 0 = nI L) (h12 : u 1012 0 = 0) (hL : L + 30 ≤ 1090) (h : ∀ v L', Ext u v L L' (fun s => s = 10 + 2 * o k + e) (fun _ => False) → L' ≤ L + 30 → FR σ v n (o k) e L' → K v) : mw_Writer_writeRoad K (nI (o k)) (nI e) u := by
  obtain ⟨hBas, hF, hS, hH, hZ⟩ := id hM
  obtain ⟨hP, hO, hRo, hI, hV⟩ := id hBas
  have hn := hP.1
  obtain ⟨ho, hl⟩ := o_lt hP hO hk
  obtain ⟨hbn, hal⟩ := hO.2.2.2.1 k hk
  obtain ⟨eC1, eC2⟩ := PN_eC hP hbn
  obtain ⟨eT1, eT2⟩ := PN_eT hP hbn e
  have hgx : gX σ n (o k) (eT σ (o k) e) := by
    refine (fst_all eC1 eC2).mpr ⟨eT2, ?_⟩
    have e01 : e = 0 ∨ e = 1 := by omega
    rcases e01 with z | z
    · subst z; rw [if_pos rfl] at eT1; exact Or.inl ⟨by omega, eT1⟩
    · subst z; rw [if_neg (by decide)] at eT1; exact Or.inr ⟨by omega, eT1⟩
  obtain ⟨k', hk', ek'⟩ := hO.2.2.2.2.2.1 _ (Al_e hal hgx)
  rw [← ek'] at eT1 hgx
  unfold mw_Writer_writeRoad
  refine lf1 (fun w x v => ∃ t m T S B, x = nI t ∧ t ≤ 10 ∧ w = 10 - t ∧ mf [54, 55, 56, 1012] u v ∧ Mvs σ v Zs (o k) (o k') t m T S B) ?_ 10 0 u ⟨0, 0, fun _ => 0, fun _ => 0, fun _ => false, rfl, by omega, rfl, mf_rf, ⟨h12, by omega, fun i hi => absurd hi (by omega)⟩, by omega, fun i hi => absurd hi (by omega), fun i j hi => absurd hi (by omega), fun t' ht' => absurd ht' (by omega)⟩
  rintro w P2 x v ⟨t, m, T, S, B, rfl, ht, rfl, hmv, hMv⟩ hrec
  have hmv' : mf wW σ v := mf_tr hm (mf_mono hmv (by decide))
  have hSv : Sm σ v := Sm_mf hmv' (by decide)
  unfold mw_Writer_writeRoad_2
  rw [ge10 (by omega)]
  refine ⟨fun hle => ?_, fun hlt => ?_⟩
  · have et : t = 10 := by omega
    subst et
    have er : ((10 : Int32) + (2 : Int32) * nI (o k)) + nI e = nI (10 + 2 * o k + e) := by
      rw [show (10 : Int32) = nI 10 from rfl, show (2 : Int32) = nI 2 from rfl, pk_mul, nI_add, nI_add]
    unfold mw_Mill_roadOf mw_Code_begin mw_Code_finish
    rw [er]
    have hin : vp_in (nI (10 + 2 * o k + e)) 30 := vp_in_nI (by omega) (by decide)
    have v11 : v 1011 0 = nI L := by rw [hmv 1011 (by decide)]; exact h11
    refine ⟨hin, ?_⟩
    rw [v11, mz_wrn (by omega)]
    have hvy : mf [45] v (mz_up v 45 (10 + 2 * o k + e) (nI L)) := mf_up (by decide)
    have y45 : mz_up v 45 (10 + 2 * o k + e) (nI L) 45 (10 + 2 * o k + e) = nI L := up_at
    have yo : ∀ s, s ≠ 10 + 2 * o k + e → mz_up v 45 (10 + 2 * o k + e) (nI L) 45 s = v 45 s := fun s hs => up_ot hs
    generalize mz_up v 45 (10 + 2 * o k + e) (nI L) = y at hvy y45 yo ⊢
    have hmy : mf wW σ y := mf_tr hmv' (mf_mono hvy (by decide))
    have y11 : y 1011 0 = nI L := by rw [hvy 1011 (by decide)]; exact v11
    obtain ⟨m1, m2, m3, m4, m5⟩ := id hMv
    have hG : Gm Zs m T S B := by
      refine ⟨m4, fun i hi => ?_⟩
      obtain ⟨t', x1, x2, x3, x4, x5⟩ := m3 i hi
      obtain ⟨q, q1, q2, q3, -⟩ := kp_home hM hk' (by omega) x2
      rw [x3, nI_eq (by omega) (by omega)] at q1
      refine ⟨x4, by rw [q1]; exact q3, fun hb => ?_⟩
      obtain ⟨s, s1, s2, s3, s4⟩ := x5 hb
      exact ⟨s, s1, by omega, s3, s4⟩
    refine mm_mwrite (Zs := Zs) (by rw [hmy 1007 (by decide)]; exact hZ.1) hZ.2.1 y11 hL (RM_mf hvy (by decide) m1) hG (fun i hi hb => ?_) hZ.2.2.1 ?_ (fun q L' hA hL' q12 hsem => ⟨hin, ?_⟩)
    · obtain ⟨t', x1, x2, x3, x4, x5⟩ := m3 i hi
      obtain ⟨s, s1, s2, -⟩ := x5 hb
      rw [s1]
      intro z
      rw [nI_eq (by omega) (by omega)] at z
      omega
    · rcases hZ.2.2.2.2 with z | ⟨s, s1, s2, s3, s4⟩
      · left
        intro i hi
        obtain ⟨t', x1, x2, x3, x4, x5⟩ := m3 i hi
        obtain ⟨q, q1, q2, q3, q4⟩ := kp_home hM hk' (by omega) x2
        rw [x3, nI_eq (by omega) (by omega)] at q1
        rw [q1]; exact q4 z
      · exact Or.inr ⟨s, by rw [hmy 1008 (by decide)]; exact s1, by omega, s3⟩
    · rw [hA.2.1, mz_wrn (by omega)]
      have hqz : mf [46] q (mz_up q 46 (10 + 2 * o k + e) (nI L')) := mf_up (by decide)
      have z46 : mz_up q 46 (10 + 2 * o k + e) (nI L') 46 (10 + 2 * o k + e) = nI L' := up_at
      have zo : ∀ s, s ≠ 10 + 2 * o k + e → mz_up q 46 (10 + 2 * o k + e) (nI L') 46 s = q 46 s := fun s hs => up_ot hs
      generalize mz_up q 46 (10 + 2 * o k + e) (nI L') = f at hqz z46 zo ⊢
      have hlq : ∀ M, low q f M := fun M => low_mf M hqz (by decide)
      have hll := hA.2.2.1
      have hlu : low u f L := by
        refine low_tr (low_tr (low_mf L hmv (by decide)) (low_mf L hvy (by decide)) (Nat.le_refl _)) (low_tr hA.2.2.2.1 (hlq L) (Nat.le_refl _)) (Nat.le_refl _)
      refine h f L' ⟨mf_tr (mf_mono hmv (by decide)) (mf_tr (mf_mono hvy (by decide)) (mf_tr (mf_mono hA.1 (by decide)) (mf_mono hqz (by decide)))), by rw [hqz 1011 (by decide)]; exact hA.2.1, hll, hlu, fun s hs => ?_, fun j _ => ?_, ?_⟩ hL' ⟨L, L', ⟨?_, z46, hll, Nat.le_refl _, fun j q1 q2 => cok_loc (fun a ha => hlq (j + 1) a ha j (by omega)) (hA.2.2.2.2 j q1 q2)⟩, fun z τ rr hs => ?_⟩
      · have hs : s ≠ 10 + 2 * o k + e := hs
        rw [hqz 45 (by decide), zo s hs, hA.1 45 (by decide), hA.1 46 (by decide), yo s hs, hvy 46 (by decide), hmv 45 (by decide), hmv 46 (by decide)]
        exact ⟨rfl, rfl⟩
      · rw [hqz 52 (by decide), hqz 53 (by decide), hA.1 52 (by decide), hA.1 53 (by decide), hvy 52 (by decide), hvy 53 (by decide), hmv 52 (by decide), hmv 53 (by decide)]
        exact ⟨rfl, rfl⟩
      · rw [hqz 1012 (by decide), q12, h12]
      · rw [hqz 45 (by decide), hA.1 45 (by decide)]; exact y45
      · obtain ⟨z', g1, g2, g3⟩ := hsem z rr
        refine ⟨z', by rw [ex_loc _ (hlq L')]; exact g1, ?_⟩
        rw [← ek']
        exact road_ok hM hal hk' hgx hMv g2 g3 hs
  · refine mm_target (by omega) (by omega) ?_
    rw [hSv 19 (by decide), hSv 20 (by decide), eT1]
    unfold mw_Names_along
    obtain ⟨a1, a2, a3⟩ := bh_ok hBas hal (show t < 10 by omega)
    rw [ix10, mz_rdn (by omega), hmv' 36 (by decide), a1]
    refine ⟨vp_in_nI (by omega) (by decide), mm_waddMove hM hmv' hal hk' (by omega) hMv (fun y m' T' S' B' hmy hMy => ?_)⟩
    rw [nI_k1]
    exact hrec (10 - (t + 1)) _ y (by omega) ⟨t + 1, m', T', S', B', rfl, by omega, rfl, mf_tr hmv hmy, hMy⟩
end B1

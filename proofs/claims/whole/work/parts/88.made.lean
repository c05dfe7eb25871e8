/-! the code of a stage does what the program does -/
section C1
variable {K : mz_St → Prop} {σ u : mz_St} {n c fs L : Nat} {o : Nat → Nat} {Zs : Nat → Prop}
theorem JJ_sim (hn : n ≤ 10) {b : Nat} {z τ : Wd} (h : JJ σ n b z τ) : SimP σ n b 0 z τ := by
  intro t ht hL
  refine h.2 t ht ?_
  rcases hL with q | ⟨q1, y, q2, q3⟩
  · exact Lv_r h.1.1 q
  · exact Lv_e h.1.1 q1 q2 q3
theorem JJ_0 (hM : Mde σ n c o fs Zs) (hn0 : 0 < n) {z : Wd} (hz : ∀ i, i < 230 → z i = 0) : JJ σ n 0 z (fun _ => 0) := by
  obtain ⟨⟨hP, hO, hR, hI, hV⟩, hF, hS, hH, hZ⟩ := hM
  obtain ⟨-, -, -, -, -, hN, -⟩ := hF
  have h00 := hO.2.2.1
  have hc := hO.2.1
  refine ⟨Al_0 hn0, fun t ht _ => ?_⟩
  rw [← h00]
  have hbf := Pn_bf hc ((hI 0 hc).1 t ht) ht
  rcases nval hP hO hS hZ ht hbf with ⟨-, h37, e⟩ | ⟨y, t', hh, ht', hy, hys, hyl, -, h37, h38, hst, h40, hh1, hh2, e⟩
  · rw [e]
    cases hb : bt (σ 32 (o 0)) t
    · have ebf : bf σ (o 0) t = 0 := by
        unfold bf
        rw [if_neg (by rw [hb]; decide)]
        rcases near_ok hO hN hc with ⟨-, q⟩ | ⟨j, j1, -⟩
        · rw [if_pos q]
        · omega
      rw [ebf] at h37 ⊢
      rcases hS.1 with q | q
      · exact q.2
      · rw [q.1] at h37; exact absurd h37 (by decide)
    · have ebf : bf σ (o 0) t = 1 + 10 * o 0 + t := by unfold bf; rw [if_pos hb]
      rw [ebf] at h37 ⊢
      rcases hS.2.2.2 0 t hc ht hb with q | q
      · rw [q.1] at h37; exact absurd h37 (by decide)
      · exact (q.1.1 rfl).2
  · rw [e]
    exact hz hh (by omega)
theorem mm_writeNamed (hM : Mde σ n c o fs Zs) (hn0 : 0 < n) (h12 : σ 1012 0 = 0) (h : ∀ u, mf wW σ u → CO u → u 1012 0 = 0 → K u) : mw_Writer_writeNamed K σ := by
  obtain ⟨hBas, hF, hS, hH, hZ⟩ := id hM
  obtain ⟨hP, hO, hR, hI, hV⟩ := id hBas
  have hn := hP.1
  have hc := hO.1
  unfold mw_Writer_writeNamed mw_Code_clear
  generalize hu0 : mz_fl (mz_fl (mz_up σ 1011 0 0) 45 30 0) 46 30 0 = u0
  have hm0 : mf wW σ u0 := by
    rw [← hu0]
    exact mf_tr (mf_tr (mf_up (by decide)) (mf_fl (by decide))) (mf_fl (by decide))
  have e11 : u0 1011 0 = nI 0 := by
    rw [← hu0, fl_row (by decide), fl_row (by decide), up_at]; rfl
  have e12 : u0 1012 0 = 0 := by
    rw [← hu0, fl_row (by decide), fl_row (by decide), up_row (by decide)]; exact h12
  refine lf1 (fun m x v => ∃ k L, x = nI k ∧ k ≤ c ∧ m = c - k ∧ mf wW σ v ∧ v 1011 0 = nI L ∧ L ≤ 109 * k ∧ v 1012 0 = 0 ∧ ∀ j, j < k → FB σ v n (o j) L ∧ ∀ e, e < eC σ (o j) → FR σ v n (o j) e L) ?_ c 0 u0 ⟨0, 0, rfl, by omega, rfl, hm0, e11, by omega, e12, fun j hj => absurd hj (by omega)⟩
  rintro m P9 x v ⟨k, L, rfl, hk, rfl, hmv, v11, hL, v12, hall⟩ hrec
  have hSv : Sm σ v := Sm_mf hmv (by decide)
  unfold mw_Writer_writeNamed_9
  rw [hmv 1006 (by decide), hR.1]
  refine pk_le c k (fun hle => ?_) (fun hlt => ?_)
  · have ek : k = c := by omega
    subst ek
    refine h v hmv ⟨JJ σ n, fun z hz => JJ_0 hM hn0 hz, fun b z τ hJ => ?_⟩ v12
    obtain ⟨j, hj, rfl⟩ := hO.2.2.2.2.2.1 b hJ.1
    obtain ⟨⟨lo, hi, s1, s2, s3, s4⟩, hroad⟩ := hall j hj
    have toSec : ∀ s lo hi, Sct v s lo hi L → sec v s lo (hi - lo) := by
      rintro s lo hi ⟨q1, q2, q3, q4, q5⟩
      exact ⟨q1, by rw [q2]; congr 1; omega, by omega, fun i hi2 => q5 _ (by omega) (by omega)⟩
    have eeC : eC v = eC σ := by funext b; unfold eC; rw [hSv 17 (by decide)]
    have eeT : eT v = eT σ := by funext b e; unfold eT; rw [hSv 19 (by decide), hSv 20 (by decide)]
    unfold SimB
    rw [eeC, eeT, Sm_lenC hSv, hSv 17 (by decide), hSv 18 (by decide)]
    refine ⟨s2, s3, lo, hi - lo, toSec _ _ _ s1, fun e he => ?_, fun z τ hJ w cc lg => ?_⟩
    · obtain ⟨lo', hi', f1, -⟩ := hroad e he
      exact ⟨lo', hi' - lo', toSec _ _ _ f1⟩
    · rw [pbl_congr hSv]
      obtain ⟨g1, g2, g3⟩ := s4 z τ w cc lg (JJ_sim hn hJ)
      refine ⟨g1, g2, fun h0 => ⟨fun h17 => (g3 h0).1 h17, fun e he lo' r' hs' => ?_⟩⟩
      obtain ⟨lo2, hi2, f1, f2⟩ := hroad e he
      obtain ⟨x1, x2⟩ := sec_u hs' (toSec _ _ _ f1)
      subst x1 x2
      obtain ⟨z', y1, y2⟩ := f2 (csc v (hi - lo) lo (z, w, cc, lg)).2.1 (pbl σ (lenC σ (o j)) (12 * o j) (τ, w, cc, lg)).2.1 (csc v (hi - lo) lo (z, w, cc, lg)).2.2 (g3 h0).2
      exact ⟨z', y1, y2⟩
  · obtain ⟨ho, hl⟩ := o_lt hP hO hlt
    obtain ⟨hbn, hal⟩ := hO.2.2.2.1 k hlt
    obtain ⟨eC1, eC2⟩ := PN_eC hP hbn
    have e24 : mz_rd v 24 (nI k) = nI (o k) := by rw [mz_rdn (by omega), hmv 24 (by decide), hR.2 k hlt]
    have hne : ∀ j, j < k → o j ≠ o k := fun j hj e => by have := hO.2.2.2.2.1 j k (by omega) hlt e; omega
    have hec2 : ∀ j, j < c → eC σ (o j) ≤ 2 := fun j hj => (PN_eC hP (hO.2.2.2.1 j hj).1).2
    refine ⟨vp_in_nI (by omega) (by decide), ?_⟩
    rw [e24]
    refine mm_writeBlock hM hmv hlt v11 (by omega) (fun w L1 hE hL1 hFB => ?_)
    have hmw : mf wW σ w := mf_tr hmv hE.1
    have hallw : ∀ j, j < k → FB σ w n (o j) L1 ∧ ∀ e, e < eC σ (o j) → FR σ w n (o j) e L1 := by
      intro j hj
      have h1 := hall j hj
      have := hne j hj
      refine ⟨FB_ext hE this this h1.1, fun e he => FR_ext hE (fun z => ?_) (h1.2 e he)⟩
      have z : 10 + 2 * o j + e = o k := z
      omega
    refine lf1 (fun m x y => ∃ e L2, x = nI e ∧ e ≤ eC σ (o k) ∧ m = eC σ (o k) - e ∧ mf wW σ y ∧ y 1011 0 = nI L2 ∧ L2 ≤ L + 49 + 30 * e ∧ y 1012 0 = 0 ∧ FB σ y n (o k) L2 ∧ (∀ e', e' < e → FR σ y n (o k) e' L2) ∧ ∀ j, j < k → FB σ y n (o j) L2 ∧ ∀ e, e < eC σ (o j) → FR σ y n (o j) e L2) ?_ (eC σ (o k)) 0 w ⟨0, L1, rfl, by omega, rfl, hmw, hE.2.1, by omega, by rw [hE.2.2.2.2.2.2]; exact v12, hFB, fun e' he' => absurd he' (by omega), hallw⟩
    rintro m P37 x y ⟨e, L2, rfl, he, rfl, hmy, y11, hL2, y12, hFBy, hFRy, hally⟩ hrec2
    have hSy : Sm σ y := Sm_mf hmy (by decide)
    unfold mw_Writer_writeNamed_37
    rw [e24]
    refine mm_edges (hSy.pn hP) hbn ?_
    rw [hSy 17 (by decide), eC1]
    refine pk_le (eC σ (o k)) e (fun hle2 => ?_) (fun hlt2 => ?_)
    · have ee : e = eC σ (o k) := by omega
      rw [nI_k1]
      refine hrec (c - (k + 1)) _ y (by omega) ⟨k + 1, L2, rfl, by omega, rfl, hmy, y11, by omega, y12, fun j hj => ?_⟩
      by_cases ej : j = k
      · subst ej
        exact ⟨hFBy, fun e' he' => hFRy e' (by omega)⟩
      · exact hally j (by omega)
    · refine mm_writeRoad hM hmy hlt hlt2 y11 y12 (by omega) (fun q L3 hE3 hL3 hFR => ?_)
      rw [nI_k1]
      refine hrec2 (eC σ (o k) - (e + 1)) _ q (by omega) ⟨e + 1, L3, rfl, by omega, rfl, mf_tr hmy hE3.1, hE3.2.1, by omega, by rw [hE3.2.2.2.2.2.2]; exact y12, FB_ext hE3 (fun z => ?_) id hFBy, fun e' he' => ?_, fun j hj => ⟨FB_ext hE3 (fun z => ?_) id (hally j hj).1, fun e' he' => FR_ext hE3 (fun z => ?_) ((hally j hj).2 e' he')⟩⟩
      · have z : o k = 10 + 2 * o k + e := z
        omega
      · by_cases ee : e' = e
        · rw [ee]; exact hFR
        · refine FR_ext hE3 (fun z => ?_) (hFRy e' (by omega))
          have z : 10 + 2 * o k + e' = 10 + 2 * o k + e := z
          omega
      · have z : o j = 10 + 2 * o k + e := z
        have := (o_lt hP hO (show j < c by omega)).1
        omega
      · have z : 10 + 2 * o j + e' = 10 + 2 * o k + e := z
        have h1 := hec2 j (by omega)
        have h2 := hne j hj
        omega
theorem StOK_congr (h : Sn σ u) (h37 : u 37 = σ 37) (h38 : u 38 = σ 38) (hS : StOK σ n c o) : StOK u n c o := by
  have e1 : self u = self σ := by funext x; unfold self; rw [h37, h38]
  unfold StOK Sd opS phN at *
  rw [Sn_Pn h, Sm_lenC h.sm, h 12 (by decide), h 14 (by decide), Sn_na h, Sn_nb h, h 32 (by decide), Sm_Al h.sm, Sm_gX h.sm, Sn_bh h, e1, h37, h38]
  exact hS
theorem Sn_Flow (h : Sn σ u) (hF : FlowOK σ n) : FlowOK u n := Flow_congr h.sm (fun a ha => h a (by revert ha; revert a; decide)) hF
end C1
theorem mk_ok : MkOK := by
  intro K σ n s r hP hn0 hs hr2 hr8 hL h
  have hn := hP.1
  obtain ⟨hLK, hCO, h12⟩ := hL
  -- the last step
  have last : ∀ u, mf kW σ u → CO u → LK u → u 1012 0 = 0 → mw_Mill_makeCode_94 K (nI s) (nI r) u := by
    intro u hm hC hLKu hu12
    unfold mw_Mill_makeCode_94
    have hv : mf [1001, 1002] u (mz_up (mz_up u 1001 0 (nI s)) 1002 0 (nI r)) := mf_tr (mf_up (by decide)) (mf_up (by decide))
    generalize mz_up (mz_up u 1001 0 (nI s)) 1002 0 (nI r) = v at hv ⊢
    have hSv : Sm u v := Sm_mf hv (by decide)
    have hCv : CO v := CO_congr hSv (fun a ha => hv a (by revert ha; revert a; decide)) hC
    refine h v (mf_tr hm (mf_mono hv (by decide))) hCv ⟨?_, Or.inr hCv, by rw [hv 1012 (by decide)]; exact hu12⟩
    unfold LK at *
    rw [hv 1000 (by decide)]
    refine hLKu.imp id (fun z => ⟨z.1, fun m hm2 => Flow_congr hSv (fun a ha => hv a (by revert ha; revert a; decide)) (z.2 m (PN_congr (fun a ha => (hSv a ha).symm) hm2))⟩)
  have new : mw_Mill_makeCode_17 K (nI s) (nI r) σ := by
    unfold mw_Mill_makeCode_17
    intro P94 hP94
    rw [n0 (by omega)]
    refine ⟨fun hs0 => ?_, fun hs0 => ?_⟩
    · refine mm_look hP hLK (fun u1 m1 F1 e1000 => ?_)
      have S1 : Sm σ u1 := Sm_mf m1 (by decide)
      have P1 := S1.pn hP
      have hord := F1.2.2.2.1
      have hO1 : Ord u1 n (oc u1 n) (oa u1 n) := ord_ok P1 hn0 hord.1
      have hR1 : ordR u1 (oc u1 n) (oa u1 n) := ⟨hord.2.2.1, fun i hi => hord.2.2.2 i hi⟩
      generalize oc u1 n = c at hO1 hR1
      generalize oa u1 n = o at hO1 hR1
      refine mm_giveNames P1 hO1 hR1 F1.2.2.2.2.2.1 (fun u2 m2 I2 P64 hP64 => ?_)
      have S2 : Sm u1 u2 := Sm_mf m2 (by decide)
      have F2 : FlowOK u2 n := Flow_congr S2 (fun a ha => m2 a (by revert ha; revert a; decide)) F1
      have B2 : Bas u2 n c o := by
        refine ⟨S2.pn P1, ?_, ?_, I2, F2.2.2.1⟩
        · unfold Ord at hO1 ⊢
          rw [Sm_Al S2, Sm_gX S2]; exact hO1
        · unfold ordR at hR1 ⊢
          rw [m2 1006 (by decide), m2 24 (by decide)]; exact hR1
      -- from what names stand for to the end
      have on : ∀ u3, mf sW u2 u3 → StOK u3 n c o → (s = 3 → u3 37 0 = 2) → P64 u3 := by
        intro u3 m3 St3 hz
        apply hP64
        have N3 : Sn u2 u3 := Sn_mf m3 (by decide)
        have B3 := Sn_Bas N3 B2
        have F3 := Sn_Flow N3 F2
        unfold mw_Mill_makeCode_64
        intro P87 hP87
        have wr : ∀ u4, mf hW u3 u4 → HmOK u4 n c o → P87 u4 := by
          intro u4 m4 H4
          apply hP87
          unfold mw_Mill_makeCode_87
          have N4 : Sn u3 u4 := Sn_mf m4 (by decide)
          obtain ⟨fs, Zs, hz4⟩ := Hz_of H4
          have M4 : Mde u4 n c o fs Zs := ⟨Sn_Bas N4 B3, Sn_Flow N4 F3, StOK_congr N4 (m4 37 (by decide)) (m4 38 (by decide)) St3, H4, hz4⟩
          have m14 : mf kW σ u4 := mf_tr (mf_mono m1 (by decide)) (mf_tr (mf_mono m2 (by decide)) (mf_tr (mf_mono m3 (by decide)) (mf_mono m4 (by decide))))
          have e12 : u4 1012 0 = 0 := by rw [m4 1012 (by decide), m3 1012 (by decide), m2 1012 (by decide), m1 1012 (by decide)]; exact h12
          refine mm_writeNamed M4 hn0 e12 (fun u5 m5 C5 e5 => ?_)
          apply hP94
          have N5 : Sn u4 u5 := Sn_mf m5 (by decide)
          refine last u5 (mf_tr m14 (mf_mono m5 (by decide))) C5 (Or.inr ⟨?_, fun q hq => ?_⟩) e5
          · rw [m5 1000 (by decide), m4 1000 (by decide), m3 1000 (by decide), m2 1000 (by decide)]; exact e1000
          · have := PN_u hq (N5.sm.pn M4.1.1)
            subst this
            exact Sn_Flow N5 M4.2.1
        have e3 : nI s = 3 ↔ s = 3 := by rw [show (3 : Int32) = nI 3 from rfl, nI_eq (by omega) (by omega)]
        rw [e3]
        exact ⟨fun _ => mm_giveEach B3 St3 wr, fun q => mm_shareRegisters B3 F3 St3 (hz q) hr2 hr8 wr⟩
      have e1 : nI s = 1 ↔ s = 1 := by rw [show (1 : Int32) = nI 1 from rfl, nI_eq (by omega) (by omega)]
      rw [e1]
      exact ⟨fun _ => mm_settle B2 (fun u3 m3 St3 hz => on u3 m3 St3 (fun _ => hz)), fun q => mm_letAllBe B2 (fun u3 m3 St3 => on u3 m3 St3 (fun z => by omega))⟩
    · refine mm_asItIs hP hn0 (fun u hm hC => ?_)
      apply hP94
      refine last u (mf_mono hm (by decide)) hC ?_ (by rw [hm 1012 (by decide)]; exact h12)
      have hSu : Sm σ u := Sm_mf hm (by decide)
      unfold LK at *
      rw [hm 1000 (by decide)]
      exact hLK.imp id (fun z => ⟨z.1, fun m hm2 => Flow_congr hSu (fun a ha => hm a (by revert ha; revert a; decide)) (z.2 m (PN_congr (fun a ha => (hSu a ha).symm) hm2))⟩)
  unfold mw_Mill_makeCode
  intro P17 hP17
  have p17 : P17 σ := hP17 _ new
  refine ⟨fun _ => p17, fun e1 => ⟨fun _ => p17, fun e2 => ?_⟩⟩
  rcases hCO with z | z
  · rw [z] at e1; exact absurd e1.symm (ne_m1 (by omega))
  · exact h σ mf_rf z ⟨hLK, Or.inr z, h12⟩

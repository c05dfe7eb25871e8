/-! the reference's step and run -/
theorem lo32 (a : Int32) : (a.toInt64 &&& 4294967295).toInt = (a.toBitVec.toNat : Int) := by
  have e : (a.toInt64 &&& 4294967295).toBitVec = a.toBitVec.setWidth 64 := by
    rw [Int64.toBitVec_and]
    apply BitVec.eq_of_getLsbD_eq
    intro i hi
    rw [BitVec.getLsbD_and, BitVec.getLsbD_setWidth]
    have hm : ∀ i, i < 64 → (4294967295 : Int64).toBitVec.getLsbD i = decide (i < 32) := by decide +kernel
    rw [hm i hi]
    have e2 : a.toInt64.toBitVec = a.toBitVec.signExtend 64 := rfl
    rw [e2, BitVec.getLsbD_signExtend]
    by_cases h : i < 32
    · simp [h, hi]
    · simp [h, hi]
      exact BitVec.getLsbD_of_ge _ _ (by omega)
  show (a.toInt64 &&& 4294967295).toBitVec.toInt = _
  rw [e, BitVec.toInt_eq_toNat_cond, BitVec.toNat_setWidth]
  have := a.toBitVec.isLt
  rw [Nat.mod_eq_of_lt (by omega)]
  rw [if_pos (by omega)]
theorem mn32 (a : Int32) : (a + mnI).toInt = (a.toBitVec.toNat : Int) - 2147483648 := by
  show (a + mnI).toBitVec.toInt = _
  rw [Int32.toBitVec_add, BitVec.toInt_eq_toNat_cond, BitVec.toNat_add]
  have h1 := a.toBitVec.isLt
  have h2 : mnI.toBitVec.toNat = 2147483648 := by decide
  rw [h2]
  rcases Nat.lt_or_ge a.toBitVec.toNat 2147483648 with h | h
  · rw [Nat.mod_eq_of_lt (by omega), if_neg (by omega)]
    omega
  · have : (a.toBitVec.toNat + 2147483648) % 2 ^ 32 = a.toBitVec.toNat - 2147483648 := by omega
    rw [this, if_pos (by omega)]
    omega
theorem ult32 (a b : Int32) : 0 ≤ lg_cmp (a.toInt64 &&& 4294967295) (b.toInt64 &&& 4294967295) ↔ ¬ a + mnI < b + mnI := by
  rw [lg_cmp_ge, Int64.le_iff_toInt_le, lo32, lo32, Int32.lt_iff_toInt_lt, mn32, mn32]
  omega
theorem mm_rReckon {K : Int32 → mz_St → Prop} {σ : mz_St} {kd a b : Int32} (h5 : (kd = 5 ∨ kd = 6) → b ≠ 0) (h15 : ¬ kd ≤ 1 ∧ ¬ 16 ≤ kd) (h : K (rk kd a b) σ) : mw_Ref_reckon K kd a b σ := by
  unfold rk at h
  unfold mw_Ref_reckon
  have h := ite_go (K := fun r => K r σ) h
  refine ⟨h.1, fun e2 => ?_⟩
  have h := ite_go (K := fun r => K r σ) (h.2 e2)
  refine ⟨h.1, fun e3 => ?_⟩
  have h := ite_go (K := fun r => K r σ) (h.2 e3)
  refine ⟨h.1, fun e4 => ?_⟩
  have h := ite_go (K := fun r => K r σ) (h.2 e4)
  refine ⟨fun e => ?_, fun e5 => ?_⟩
  · have h := ite_go (K := fun r => K r σ) (h.1 e)
    exact ⟨h5 (Or.inl e), h.2 (h5 (Or.inl e))⟩
  have h := ite_go (K := fun r => K r σ) (h.2 e5)
  refine ⟨fun e => ?_, fun e6 => ?_⟩
  · have h := ite_go (K := fun r => K r σ) (h.1 e)
    exact ⟨h5 (Or.inr e), h.2 (h5 (Or.inr e))⟩
  have h := ite_go (K := fun r => K r σ) (h.2 e6)
  refine ⟨h.1, fun e7 => ?_⟩
  have h := ite_go (K := fun r => K r σ) (h.2 e7)
  refine ⟨h.1, fun e8 => ?_⟩
  have h := ite_go (K := fun r => K r σ) (h.2 e8)
  refine ⟨h.1, fun e9 => ?_⟩
  have h := ite_go (K := fun r => K r σ) (h.2 e9)
  refine ⟨h.1, fun e10 => ?_⟩
  have h := ite_go (K := fun r => K r σ) (h.2 e10)
  refine ⟨h.1, fun e11 => ?_⟩
  have h := ite_go (K := fun r => K r σ) (h.2 e11)
  refine ⟨h.1, fun e12 => ?_⟩
  have h := ite_go (K := fun r => K r σ) (h.2 e12)
  refine ⟨fun e => ?_, fun e13 => ?_⟩
  · have h := ite_go (K := fun r => K r σ) (h.1 e)
    exact ⟨h.2, h.1⟩
  have h := ite_go (K := fun r => K r σ) (h.2 e13)
  have ltle : ∀ x y : Int32, y ≤ x ↔ ¬ x < y := fun x y => by
    rw [Int32.lt_iff_toInt_lt, Int32.le_iff_toInt_le]; omega
  refine ⟨fun e => ?_, fun e14 => ?_⟩
  · have h := ite_go (K := fun r => K r σ) (h.1 e)
    exact ⟨fun z => h.2 ((ltle _ _).mp z), fun z => h.1 (Classical.byContradiction fun q => z ((ltle _ _).mpr q))⟩
  have h := ite_go (K := fun r => K r σ) (h.2 e14)
  have k15 : kd = 15 := by
    obtain ⟨g1, g2⟩ := h15
    rw [Int32.le_iff_toInt_le] at g1 g2
    have t1 : (1 : Int32).toInt = 1 := by decide
    have t16 : (16 : Int32).toInt = 16 := by decide
    have ne : ∀ (m : Int32) (i : Int), m.toInt = i → kd ≠ m → kd.toInt ≠ i := fun m i hm hk q => hk (Int32.toInt_inj.mp (by rw [q, hm]))
    have a2 := ne 2 2 (by decide) e2
    have a3 := ne 3 3 (by decide) e3
    have a4 := ne 4 4 (by decide) e4
    have a5 := ne 5 5 (by decide) e5
    have a6 := ne 6 6 (by decide) e6
    have a7 := ne 7 7 (by decide) e7
    have a8 := ne 8 8 (by decide) e8
    have a9 := ne 9 9 (by decide) e9
    have a10 := ne 10 10 (by decide) e10
    have a11 := ne 11 11 (by decide) e11
    have a12 := ne 12 12 (by decide) e12
    have a13 := ne 13 13 (by decide) e13
    have a14 := ne 14 14 (by decide) e14
    apply Int32.toInt_inj.mp
    rw [show (15 : Int32).toInt = 15 by decide]
    omega
  have h := ite_go (K := fun r => K r σ) (h.1 k15)
  rw [ult32]
  exact ⟨fun z => h.2 z, fun z => h.1 (Classical.byContradiction fun q => z q)⟩
theorem mm_isSlip {K : Int32 → mz_St → Prop} {σ : mz_St} {a b : Int32} (h : K (bz (decide (b = 0) || (decide (a = mnI) && decide (b = -1)))) σ) : mw_Ref_isSlip K a b σ := by
  unfold mw_Ref_isSlip
  intro P15 hP15
  have yes : (b = 0 ∨ (a = mnI ∧ b = -1)) → P15 σ := by
    intro z
    apply hP15
    unfold mw_Ref_isSlip_15
    have e : (decide (b = 0) || (decide (a = mnI) && decide (b = -1))) = true := by simpa using z
    rw [e] at h; exact h
  have no : ¬ (b = 0 ∨ (a = mnI ∧ b = -1)) → K 0 σ := by
    intro z
    have e : (decide (b = 0) || (decide (a = mnI) && decide (b = -1))) = false := by
      cases e9 : (decide (b = 0) || decide (a = mnI) && decide (b = -1))
      · rfl
      · exact absurd (by simpa using e9) z
    rw [e] at h; exact h
  exact ⟨fun e => yes (Or.inl e), fun e => ⟨fun e1 => no (fun z => z.elim e (fun z => e1 z.2)), fun e1 => ⟨fun e2 => no (fun z => z.elim e (fun z => e2 z.1)), fun e2 => yes (Or.inr ⟨e2, e1⟩)⟩⟩⟩
def RepR (u : mz_St) (X : Xs) : Prop := u 68 = X.1 ∧ u 67 = X.2.1 ∧ u 1020 0 = nI X.2.2.1 ∧ u 69 = X.2.2.2
def rW : List Nat := [67, 68, 69, 1020]
theorem mm_rCall {K : mz_St → Prop} {σ : mz_St} {c d : Nat} {a b : Int32} (h1 : σ 1020 0 = nI c) (hc : c < 2 ^ 30) (hd : d < 10) (h : ∀ u, mf [68, 69, 1020] σ u → u 1020 0 = nI (c + 1) → u 69 = opL 18 a b c (σ 69) → u 68 = upd (σ 68) d (a * 31 + b + (7 : Int32) * nI c) → K u) : mw_Ref_call3 K (nI d) a b σ := by
  unfold mw_Ref_call3
  intro P67 hP67
  have fin : ∀ u, mf [69] σ u → u 69 = opL 18 a b c (σ 69) → P67 u := by
    intro u hm h69
    apply hP67
    unfold mw_Ref_call3_67
    rw [hm 1020 (by decide), h1, nI_k1, mz_wrn (by omega)]
    refine ⟨vp_in_nI hd (by decide), h _ (mf_tr (mf_tr (mf_mono hm (by decide)) (mf_up (by decide))) (mf_up (by decide))) (by rw [up_row (by decide), up_at]) (by rw [up_row (by decide), up_row (by decide)]; exact h69) (by rw [up_fun, up_row (by decide), hm 68 (by decide)])⟩
  have e15 : ∀ i v, mz_wr σ 69 i v 1020 0 = nI c := fun i v => by unfold mz_wr; rw [up_row (by decide)]; exact h1
  have e15' : ∀ i v j w, mz_wr (mz_wr σ 69 i v) 69 j w 1020 0 = nI c := fun i v j w => by unfold mz_wr; rw [up_row (by decide), up_row (by decide)]; exact h1
  have e3 : (3 : Int32) * nI c = nI (3 * c) := by rw [show (3 : Int32) = nI 3 from rfl, pk_mul]
  rw [e15, e15', h1, ge200 (by omega), e3, nI_1, nI_2]
  refine ⟨fun hge => fin σ mf_rf ?_, fun hlt => ⟨vp_in_nI (by omega) (by decide), vp_in_nI (by omega) (by decide), vp_in_nI (by omega) (by decide), fin _ ?_ ?_⟩⟩
  · unfold opL; rw [if_neg (by omega)]
  · exact mf_tr (mf_tr (mf_wr (by decide)) (mf_wr (by decide))) (mf_wr (by decide))
  · rw [mz_wrn (by omega), mz_wrn (by omega), mz_wrn (by omega)]
    unfold opL
    rw [if_pos ⟨rfl, by omega⟩, up_fun, up_fun, up_fun]
theorem such_18 {kd d a b : Int32} (h : such kd d a b = true) (h0 : kd ≠ 0) (h1 : kd ≠ 1) (h16 : kd ≠ 16) (h17 : kd ≠ 17) (hg : 16 ≤ kd) : kd = 18 := by
  unfold such at h
  rw [if_neg h0, if_neg (fun z => z.elim h1 h16), if_neg h17] at h
  split at h
  · assumption
  · simp [hg] at h
theorem such_mid {kd d a b : Int32} (h : such kd d a b = true) (h0 : kd ≠ 0) (h1 : kd ≠ 1) (hg : ¬ 16 ≤ kd) : ¬ kd ≤ 1 := by
  have h17 : kd ≠ 17 := by rintro rfl; exact hg (by decide)
  have h18 : kd ≠ 18 := by rintro rfl; exact hg (by decide)
  have h16 : kd ≠ 16 := by rintro rfl; exact hg (by decide)
  unfold such at h
  rw [if_neg h0, if_neg (fun z => z.elim h1 h16), if_neg h17, if_neg h18] at h
  intro hle
  simp [hle] at h
theorem mm_rStep {K : Int32 → mz_St → Prop} {σ : mz_St} {n k i : Nat} {X : Xs} (hP : PN σ n) (hk : k < 10) (hi : i < lenC σ k) (hR : RepR σ X) (hc : X.2.2.1 < 2 ^ 30) (h : ∀ u, mf rW σ u → RepR u (pst σ (12 * k + i) X).2 → K (nI (pst σ (12 * k + i) X).1) u) : mw_Ref_step K (nI (48 * k + 4 * i)) σ := by
  obtain ⟨-, -, hl, hop⟩ := PN_len hP hk
  obtain ⟨hs, p1, p2, p3, p4⟩ := hop i hi
  obtain ⟨r68, r67, r20, r69⟩ := hR
  unfold mw_Ref_step
  rw [nI_1, nI_2, nI_3]
  rw [mz_rdn (show 48 * k + 4 * i < 2 ^ 31 by omega), mz_rdn (show 48 * k + 4 * i + 1 < 2 ^ 31 by omega), mz_rdn (show 48 * k + 4 * i + 2 < 2 ^ 31 by omega), mz_rdn (show 48 * k + 4 * i + 3 < 2 ^ 31 by omega), p1, p2, p3, p4]
  refine ⟨vp_in_nI (by omega) (by decide), vp_in_nI (by omega) (by decide), vp_in_nI (by omega) (by decide), vp_in_nI (by omega) (by decide), ?_⟩
  have e61 : ∀ j, j < 4 → nI (48 * k + 4 * i) + nI j = nI (48 * k + 4 * i + j) := fun j _ => nI_add _ _
  generalize hkd : σ 12 (12 * k + i) = kd at *
  generalize hA0 : σ 14 (12 * k + i) = A0 at *
  generalize hB0 : σ 15 (12 * k + i) = B0 at *
  generalize hD0 : σ 13 (12 * k + i) = D0 at *
  -- the answer in its parts
  have hpst : pst σ (12 * k + i) X = opX kd (if kd = 0 then A0 else X.1 A0.toNatClampNeg) (if tr (tkB kd) then X.1 B0.toNatClampNeg else B0) D0.toNatClampNeg X := by
    unfold pst pA pB
    rw [hkd, hA0, hB0, hD0]
  rw [hpst] at h
  refine ⟨fun n0' => ?_, fun k0 => ?_⟩
  · obtain ⟨ta, hta, ea⟩ := such_a hs n0'
    rw [if_neg n0', ea, nI_clamp (by omega)] at h
    refine ⟨fun n1' => ?_, fun k1 => ?_⟩
    · refine ⟨fun g16 => ?_, fun l16 => ?_⟩
      · refine ⟨fun n16 => ⟨fun n17 => ?_, fun k17 => ?_⟩, fun k16 => ?_⟩
        · -- a call
          have k18 := such_18 hs n0' n1' n16 n17 g16
          obtain ⟨td, htd, ed⟩ := such_d hs n17
          have ntk : ¬ tkB kd := by rw [k18]; unfold tkB; decide
          rw [tr_f.mpr ntk, ed, nI_clamp (by omega)] at h
          rw [ea, ed, mz_rdn (by omega), r68]
          refine ⟨vp_in_nI hta (by decide), mm_rCall r20 hc htd (fun u hm g20 g69 g68 => ?_)⟩
          have e0 : opE kd (X.1 ta) B0 = 0 := by rw [k18]; rfl
          have hX : opX kd (X.1 ta) B0 td X = (0, upd X.1 td (opV kd (X.1 ta) B0 X.2.1 X.2.2.1), opW kd (X.1 ta) B0 X.2.1, opC kd X.2.2.1, opL kd (X.1 ta) B0 X.2.2.1 X.2.2.2) := by unfold opX; rw [if_pos e0, if_neg n17]
          rw [if_neg (by decide), hX] at h
          refine h u (mf_mono hm (by decide)) ?_
          rw [k18]
          unfold opV opW opC
          rw [if_neg (by decide), if_pos rfl, if_neg (by decide), if_pos rfl]
          exact ⟨by rw [g68, r68], by rw [hm 67 (by decide)]; exact r67, g20, by rw [g69, r69]⟩
        · -- a write
          have tk : tkB kd := Or.inl k17
          obtain ⟨tb, htb, eb⟩ := such_b hs tk
          rw [tr_t.mpr tk, if_pos rfl, eb, nI_clamp (by omega)] at h
          rw [ea, eb, mz_rdn (by omega), r68]
          refine ⟨vp_in_nI htb (by decide), mm_rWord (bz_og (fun e => ?_) (fun e => ?_))⟩
          · rw [mz_rdn (by omega), mz_rdn (by omega), r68]
            obtain ⟨q, hq, eq⟩ := isword_of e
            have e0 : opE kd (X.1 ta) (X.1 tb) = 0 := by
              unfold opE dvE adE
              rw [k17, e]; rfl
            have hX : opX kd (X.1 ta) (X.1 tb) D0.toNatClampNeg X = (0, X.1, opW kd (X.1 ta) (X.1 tb) X.2.1, opC kd X.2.2.1, opL kd (X.1 ta) (X.1 tb) X.2.2.1 X.2.2.2) := by unfold opX; rw [if_pos e0, if_pos k17]
            rw [hX] at h
            rw [eq] at h ⊢
            refine ⟨vp_in_nI htb (by decide), vp_in_nI hta (by decide), vp_in_nI hq (by decide), ?_⟩
            rw [mz_wrn (by omega)]
            refine h _ (mf_up (by decide)) ?_
            rw [k17]
            unfold opW opC opL
            rw [if_pos rfl, if_neg (by decide), if_neg (fun q => absurd q.1 (by decide)), nI_clamp (by omega)]
            exact ⟨by rw [up_row (by decide)]; exact r68, by rw [up_fun, r67], by rw [up_row (by decide)]; exact r20, by rw [up_row (by decide)]; exact r69⟩
          · have e0 : opE kd (X.1 ta) (X.1 tb) = 2 := by
              unfold opE dvE adE
              rw [k17, e]; rfl
            have hX : opX kd (X.1 ta) (X.1 tb) D0.toNatClampNeg X = (2, X) := by unfold opX; rw [e0]; rfl
            rw [hX] at h
            exact h σ mf_rf ⟨r68, r67, r20, r69⟩
        · -- a read
          have n17 : kd ≠ 17 := by rw [k16]; decide
          obtain ⟨td, htd, ed⟩ := such_d hs n17
          have ntk : ¬ tkB kd := by rw [k16]; unfold tkB; decide
          rw [tr_f.mpr ntk, ed, nI_clamp (by omega), if_neg (by decide)] at h
          rw [ea, ed, mz_rdn (by omega), r68]
          refine ⟨vp_in_nI hta (by decide), mm_rWord (bz_og (fun e => ?_) (fun e => ?_))⟩
          · rw [mz_rdn (by omega), r68]
            obtain ⟨q, hq, eq⟩ := isword_of e
            have e0 : opE kd (X.1 ta) B0 = 0 := by
              unfold opE dvE adE
              rw [k16, e]; rfl
            have hX : opX kd (X.1 ta) B0 td X = (0, upd X.1 td (opV kd (X.1 ta) B0 X.2.1 X.2.2.1), opW kd (X.1 ta) B0 X.2.1, opC kd X.2.2.1, opL kd (X.1 ta) B0 X.2.2.1 X.2.2.2) := by unfold opX; rw [if_pos e0, if_neg n17]
            rw [hX] at h
            rw [eq] at h ⊢
            refine ⟨vp_in_nI hta (by decide), vp_in_nI hq (by decide), vp_in_nI htd (by decide), ?_⟩
            rw [mz_wrn (by omega), mz_rdn (by omega)]
            refine h _ (mf_up (by decide)) ?_
            rw [k16]
            unfold opV opW opC opL
            rw [if_pos rfl, if_neg (by decide), if_neg (by decide), if_neg (fun q => absurd q.1 (by decide)), nI_clamp (by omega)]
            exact ⟨by rw [up_fun, r68, r67], by rw [up_row (by decide)]; exact r67, by rw [up_row (by decide)]; exact r20, by rw [up_row (by decide)]; exact r69⟩
          · have e0 : opE kd (X.1 ta) B0 = 2 := by
              unfold opE dvE adE
              rw [k16, e]; rfl
            have hX : opX kd (X.1 ta) B0 td X = (2, X) := by unfold opX; rw [e0]; rfl
            rw [hX] at h
            exact h σ mf_rf ⟨r68, r67, r20, r69⟩
      · -- a reckoning
        have n17 : kd ≠ 17 := by rintro rfl; exact l16 (by decide)
        have n16 : kd ≠ 16 := by rintro rfl; exact l16 (by decide)
        have n18 : kd ≠ 18 := by rintro rfl; exact l16 (by decide)
        have l1 := such_mid hs n0' n1' l16
        have tk : tkB kd := Or.inr ⟨l1, l16⟩
        obtain ⟨tb, htb, eb⟩ := such_b hs tk
        obtain ⟨td, htd, ed⟩ := such_d hs n17
        rw [tr_t.mpr tk, if_pos rfl, eb, nI_clamp (by omega), ed, nI_clamp (by omega)] at h
        have hia : vp_in (nI ta) 10 := vp_in_nI hta (by decide)
        have hib : vp_in (nI tb) 10 := vp_in_nI htb (by decide)
        have had : adE kd (X.1 ta) (X.1 tb) = false := by unfold adE; rw [decide_eq_false n16, decide_eq_false n17]; rfl
        intro P111 hP111 P89 hP89
        have c61 : ∀ (s : mz_St), mz_rd σ 61 (nI (48 * k + 4 * i)) = kd ∧ mz_rd σ 61 (nI (48 * k + 4 * i) + 1) = D0 ∧ mz_rd σ 61 (nI (48 * k + 4 * i) + 2) = A0 ∧ mz_rd σ 61 (nI (48 * k + 4 * i) + 3) = B0 := by
          intro _
          rw [nI_1, nI_2, nI_3, mz_rdn (by omega), mz_rdn (by omega), mz_rdn (by omega), mz_rdn (by omega)]
          exact ⟨p1, p2, p3, p4⟩
        obtain ⟨f1, f2, f3, f4⟩ := c61 σ
        have p111 : dvE kd (X.1 ta) (X.1 tb) = false → P111 σ := by
          intro hdv
          apply hP111
          unfold mw_Ref_step_111
          rw [f1, f2, f3, f4, ea, eb, ed, mz_rdn (by omega), mz_rdn (by omega), r68]
          have e0 : opE kd (X.1 ta) (X.1 tb) = 0 := by unfold opE; rw [hdv, had]; rfl
          have hX : opX kd (X.1 ta) (X.1 tb) td X = (0, upd X.1 td (opV kd (X.1 ta) (X.1 tb) X.2.1 X.2.2.1), opW kd (X.1 ta) (X.1 tb) X.2.1, opC kd X.2.2.1, opL kd (X.1 ta) (X.1 tb) X.2.2.1 X.2.2.2) := by unfold opX; rw [if_pos e0, if_neg n17]
          rw [hX] at h
          refine ⟨hia, hib, mm_rReckon (fun z => ?_) ⟨l1, l16⟩ ⟨vp_in_nI htd (by decide), ?_⟩⟩
          · intro q
            unfold dvE at hdv
            rw [q] at hdv
            rcases z with z | z <;> rw [z] at hdv <;> simp at hdv
          · rw [mz_wrn (by omega)]
            refine h _ (mf_up (by decide)) ?_
            unfold opV opW opC opL
            rw [if_neg n16, if_neg n18, if_neg n17, if_neg n18, if_neg (fun q => n18 q.1)]
            exact ⟨by rw [up_fun, r68], by rw [up_row (by decide)]; exact r67, by rw [up_row (by decide)]; exact r20, by rw [up_row (by decide)]; exact r69⟩
        have p89 : (kd = 5 ∨ kd = 6) → P89 σ := by
          intro hk56
          have hk2 : (decide (kd = 5) || decide (kd = 6)) = true := by simpa using hk56
          apply hP89
          unfold mw_Ref_step_89
          rw [f3, f4, ea, eb, mz_rdn (by omega), mz_rdn (by omega), r68]
          refine ⟨hia, hib, mm_isSlip (bz_go (fun e => p111 (by unfold dvE; rw [hk2, e]; rfl)) (fun e => ?_))⟩
          have e0 : opE kd (X.1 ta) (X.1 tb) = 1 := by unfold opE dvE; rw [hk2, e]; rfl
          have hX : opX kd (X.1 ta) (X.1 tb) td X = (1, X) := by unfold opX; rw [e0]; rfl
          rw [hX] at h
          exact h σ mf_rf ⟨r68, r67, r20, r69⟩
        refine ⟨fun k5 => p89 (Or.inl k5), fun n5 => ⟨fun n6 => p111 (by unfold dvE; rw [decide_eq_false n5, decide_eq_false n6]; rfl), fun k6 => p89 (Or.inr k6)⟩⟩
    · -- a copy
      have n17 : kd ≠ 17 := by rw [k1]; decide
      obtain ⟨td, htd, ed⟩ := such_d hs n17
      have ntk : ¬ tkB kd := by rw [k1]; unfold tkB; decide
      rw [tr_f.mpr ntk, ed, nI_clamp (by omega), if_neg (by decide)] at h
      rw [ea, ed, mz_rdn (by omega), mz_wrn (by omega), r68]
      refine ⟨vp_in_nI hta (by decide), vp_in_nI htd (by decide), ?_⟩
      have hX : opX kd (X.1 ta) B0 td X = (0, upd X.1 td (X.1 ta), X.2.1, X.2.2.1, X.2.2.2) := by rw [k1]; rfl
      rw [hX] at h
      exact h _ (mf_up (by decide)) ⟨by rw [up_fun, r68], by rw [up_row (by decide)]; exact r67, by rw [up_row (by decide)]; exact r20, by rw [up_row (by decide)]; exact r69⟩
  · -- a number
    have n17 : kd ≠ 17 := by rw [k0]; decide
    obtain ⟨td, htd, ed⟩ := such_d hs n17
    have ntk : ¬ tkB kd := by rw [k0]; unfold tkB; decide
    rw [if_pos k0, tr_f.mpr ntk, ed, nI_clamp (by omega), if_neg (by decide)] at h
    rw [ed, mz_wrn (by omega)]
    refine ⟨vp_in_nI htd (by decide), ?_⟩
    have hX : opX kd A0 B0 td X = (0, upd X.1 td A0, X.2.1, X.2.2.1, X.2.2.2) := by rw [k0]; rfl
    rw [hX] at h
    exact h _ (mf_up (by decide)) ⟨by rw [up_fun, r68], by rw [up_row (by decide)]; exact r67, by rw [up_row (by decide)]; exact r20, by rw [up_row (by decide)]; exact r69⟩

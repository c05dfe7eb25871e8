/-! writing code; the program as it is -/
def cW : List Nat := [47, 48, 49, 50, 51, 1011]
def cL : List Nat := [47, 48, 49, 50, 51]
def low (σ u : mz_St) (L : Nat) : Prop := ∀ a, a ∈ cL → ∀ j, j < L → u a j = σ a j
theorem low_rf {σ : mz_St} {L : Nat} : low σ σ L := fun _ _ _ _ => rfl
theorem low_tr {σ u v : mz_St} {L L' : Nat} (h1 : low σ u L) (h2 : low u v L') (hL : L ≤ L') : low σ v L := fun a ha j hj => (h2 a ha j (by omega)).trans (h1 a ha j hj)
theorem low_mf {W : List Nat} {σ u : mz_St} (L : Nat) (h : mf W σ u) (hW : ∀ a, a ∈ cL → a ∉ W) : low σ u L := fun a ha j _ => by rw [h a (hW a ha)]
theorem mm_add {K : mz_St → Prop} {σ : mz_St} {L : Nat} {a0 a1 a2 a3 a4 : Int32} (h1 : σ 1011 0 = nI L) (hL : L < 1090) (h : ∀ u, mf cW σ u → u 1011 0 = nI (L + 1) → low σ u L → u 47 L = a0 → u 48 L = a1 → u 49 L = a2 → u 50 L = a3 → u 51 L = a4 → K u) : mw_Code_add K a0 a1 a2 a3 a4 σ := by
  unfold mw_Code_add
  have hin : vp_in (nI L) 1090 := vp_in_nI hL (by decide)
  refine ⟨fun _ => ?_, fun e => ?_⟩
  · rw [h1, mz_wrn (show L < 2 ^ 31 by omega)]
    rw [show mz_up σ 47 L a0 1011 0 = nI L by rw [up_row (by decide)]; exact h1, mz_wrn (show L < 2 ^ 31 by omega)]
    rw [show mz_up (mz_up σ 47 L a0) 48 L a1 1011 0 = nI L by rw [up_row (by decide), up_row (by decide)]; exact h1, mz_wrn (show L < 2 ^ 31 by omega)]
    rw [show mz_up (mz_up (mz_up σ 47 L a0) 48 L a1) 49 L a2 1011 0 = nI L by rw [up_row (by decide), up_row (by decide), up_row (by decide)]; exact h1, mz_wrn (show L < 2 ^ 31 by omega)]
    rw [show mz_up (mz_up (mz_up (mz_up σ 47 L a0) 48 L a1) 49 L a2) 50 L a3 1011 0 = nI L by rw [up_row (by decide), up_row (by decide), up_row (by decide), up_row (by decide)]; exact h1, mz_wrn (show L < 2 ^ 31 by omega)]
    rw [show mz_up (mz_up (mz_up (mz_up (mz_up σ 47 L a0) 48 L a1) 49 L a2) 50 L a3) 51 L a4 1011 0 = nI L by rw [up_row (by decide), up_row (by decide), up_row (by decide), up_row (by decide), up_row (by decide)]; exact h1, nI_k1]
    refine ⟨hin, hin, hin, hin, hin, h _ ?_ up_at ?_ (by simp [up_any]) (by simp [up_any]) (by simp [up_any]) (by simp [up_any]) (by simp [up_any])⟩
    · exact mf_tr (mf_tr (mf_tr (mf_tr (mf_tr (mf_up (by decide)) (mf_up (by decide))) (mf_up (by decide))) (mf_up (by decide))) (mf_up (by decide))) (mf_up (by decide))
    · intro a ha j hj
      have hne : j ≠ L := by omega
      simp [up_any, hne]
      intro z1 z2
      subst z1
      exact absurd ha (by decide)
  · rw [h1, show (1090 : Int32) = nI 1090 from rfl, nI_eq (by omega) (by omega)] at e
    omega
theorem csc_loc {σ u : mz_St} : ∀ r j X, (∀ a, a ∈ cL → ∀ i, j ≤ i → i < j + r → u a i = σ a i) → csc u r j X = csc σ r j X
  | 0, _, _, _ => rfl
  | r + 1, j, X, h => by
    have e : cst u j X = cst σ j X := by
      unfold cst cA cB
      rw [h 47 (by decide) j (by omega) (by omega), h 48 (by decide) j (by omega) (by omega), h 49 (by decide) j (by omega) (by omega), h 50 (by decide) j (by omega) (by omega), h 51 (by decide) j (by omega) (by omega)]
    rw [csc_s, csc_s, e]
    split
    · exact csc_loc r (j + 1) _ (fun a ha i h1 h2 => h a ha i (by omega) (by omega))
    · rfl
theorem csc_app {σ : mz_St} {r2 : Nat} : ∀ r1 j X, csc σ (r1 + r2) j X = if (csc σ r1 j X).1 = 0 then csc σ r2 (j + r1) (csc σ r1 j X).2 else csc σ r1 j X
  | 0, j, X => by
    rw [Nat.zero_add, Nat.add_zero]
    rfl
  | r1 + 1, j, X => by
    rw [show r1 + 1 + r2 = (r1 + r2) + 1 by omega, csc_s, csc_s]
    by_cases q : (cst σ j X).1 = 0
    · rw [if_pos q, if_pos q, csc_app r1 (j + 1), show j + 1 + r1 = j + (r1 + 1) by omega]
    · rw [if_neg q, if_neg q, if_neg q]
theorem cok_loc {σ u : mz_St} {j : Nat} (h : ∀ a, a ∈ cL → u a j = σ a j) (hc : cok σ j) : cok u j := by
  unfold cok at *
  rw [h 47 (by decide), h 48 (by decide), h 49 (by decide), h 50 (by decide), h 51 (by decide)]
  exact hc
/-- code grown from L to L' -/
def Ad (σ u : mz_St) (L L' : Nat) : Prop := mf cW σ u ∧ u 1011 0 = nI L' ∧ L ≤ L' ∧ low σ u L ∧ ∀ j, L ≤ j → j < L' → cok u j
theorem Ad_rf {σ : mz_St} {L : Nat} (h : σ 1011 0 = nI L) : Ad σ σ L L := ⟨mf_rf, h, Nat.le_refl _, low_rf, fun j h1 h2 => absurd h2 (by omega)⟩
theorem Ad_tr {σ u v : mz_St} {L L' L'' : Nat} (h1 : Ad σ u L L') (h2 : Ad u v L' L'') : Ad σ v L L'' := by
  obtain ⟨a1, a2, a3, a4, a5⟩ := h1
  obtain ⟨b1, b2, b3, b4, b5⟩ := h2
  refine ⟨mf_tr a1 b1, b2, by omega, low_tr a4 b4 a3, fun j q1 q2 => ?_⟩
  rcases Nat.lt_or_ge j L' with z | z
  · exact cok_loc (fun a ha => b4 a ha j z) (a5 j q1 z)
  · exact b5 j z q2
/-- what the code from L to L' does to X -/
def ex (u : mz_St) (L L' : Nat) (X : Xs) : Nat × Xs := csc u (L' - L) L X
theorem ex_0 {u : mz_St} {L : Nat} {X : Xs} : ex u L L X = (0, X) := by unfold ex; rw [Nat.sub_self]; rfl
theorem ex_loc {σ u : mz_St} {L L' : Nat} (X : Xs) (h : low σ u L') : ex u L L' X = ex σ L L' X := csc_loc _ _ _ (fun a ha i _ h2 => h a ha i (by omega))
theorem ex_app {σ u : mz_St} {L L' L'' : Nat} {X : Xs} (hl : low σ u L') (h1 : L ≤ L') (h2 : L' ≤ L'') : ex u L L'' X = if (ex σ L L' X).1 = 0 then ex u L' L'' (ex σ L L' X).2 else ex σ L L' X := by
  rw [← ex_loc X hl]
  unfold ex
  rw [show L'' - L = (L' - L) + (L'' - L') by omega, csc_app, show L + (L' - L) = L' by omega]
theorem ex_ok {σ u : mz_St} {L L' L'' : Nat} {X Y : Xs} {Z : Nat × Xs} (hl : low σ u L') (h1 : L ≤ L') (h2 : L' ≤ L'') (e1 : ex σ L L' X = (0, Y)) (e2 : ex u L' L'' Y = Z) : ex u L L'' X = Z := by
  rw [ex_app hl h1 h2, e1]
  exact e2
/-- a source: a number or a cell -/
def sv (b : Bool) (v : Int32) (z : Wd) : Int32 := if b then v else z v.toNatClampNeg
def svok (b : Bool) (v : Int32) : Prop := b = false → bdn v 230
theorem mm_addMove {K : mz_St → Prop} {σ : mz_St} {L c : Nat} {v : Int32} {b : Bool} (h1 : σ 1011 0 = nI L) (hL : L < 1090) (hc : c < 230) (hv : svok b v) (h : ∀ u, Ad σ u L (L + 1) → (∀ X : Xs, ex u L (L + 1) X = (0, (upd X.1 c (sv b v X.1), X.2))) → K u) : mw_Code_addMove K (nI c) v (bz b) σ := by
  have key : ∀ fo : Int32, fo = (if b then 3 else 2) → mw_Code_add K 1 (nI c) v 0 fo σ := by
    intro fo hfo
    refine mm_add h1 hL (fun u hm h11 hl e47 e48 e49 e50 e51 => h u ⟨hm, h11, by omega, hl, fun j q1 q2 => ?_⟩ (fun X => ?_))
    · have : j = L := by omega
      subst this
      unfold cok
      rw [e47, e48, e49, e51, hfo]
      refine ⟨fun q => hv ?_, fun q => ?_, fun _ => ⟨c, hc, rfl⟩⟩
      · cases b
        · rfl
        · exact absurd q (by decide)
      · cases b <;> exact absurd q (by decide)
    · unfold ex
      rw [show L + 1 - L = 0 + 1 by omega, csc_s]
      have e : cst u L X = (0, (upd X.1 c (sv b v X.1), X.2)) := by
        unfold cst
        have eA : cA u L X.1 = sv b v X.1 := by
          unfold cA sv
          rw [e49, e51, hfo]
          cases b
          · rw [if_pos (by decide)]; rfl
          · rw [if_neg (by decide)]; rfl
        have eB : cB u L X.1 = 0 := by
          unfold cB
          rw [e50, e51, hfo]
          cases b
          · rw [if_neg (by decide)]
          · rw [if_neg (by decide)]
        rw [eA, eB, e47, e48, nI_clamp (by omega)]
        unfold opX
        have e0 : opE 1 (sv b v X.1) 0 = 0 := by
          unfold opE dvE adE
          simp
        rw [if_pos e0, if_neg (by decide)]
        rfl
      rw [e, if_pos rfl]
      rfl
  unfold mw_Code_addMove
  intro P15 hP15
  refine bz_go (fun q => ?_) (fun q => ?_)
  · apply hP15
    exact key _ (by rw [q]; decide)
  · apply hP15
    exact key _ (by rw [q]; decide)
theorem nI_x12 (k : Nat) : nI k * 12 = nI (12 * k) := by rw [show (12 : Int32) = nI 12 from rfl, pk_mul, Nat.mul_comm]
/-- the form of an operation of the program -/
noncomputable def fm (kd : Int32) : Int32 := (if kd = 0 then 1 else 0) ||| (if tr (tkB kd) then 0 else 2)
theorem fm_a (kd : Int32) : fm kd &&& 1 = 0 ↔ kd ≠ 0 := by
  unfold fm
  by_cases h : kd = 0
  · rw [if_pos h]
    cases tr (tkB kd)
    · exact ⟨fun q => absurd q (by decide), fun q => absurd h q⟩
    · exact ⟨fun q => absurd q (by decide), fun q => absurd h q⟩
  · rw [if_neg h]
    cases tr (tkB kd)
    · exact ⟨fun _ => h, fun _ => by decide⟩
    · exact ⟨fun _ => h, fun _ => by decide⟩
theorem fm_b (kd : Int32) : fm kd &&& 2 = 0 ↔ tr (tkB kd) = true := by
  unfold fm
  by_cases h : kd = 0
  · rw [if_pos h]
    cases tr (tkB kd)
    · exact ⟨fun q => absurd q (by decide), fun q => absurd q (by decide)⟩
    · exact ⟨fun _ => rfl, fun _ => by decide⟩
  · rw [if_neg h]
    cases tr (tkB kd)
    · exact ⟨fun q => absurd q (by decide), fun q => absurd q (by decide)⟩
    · exact ⟨fun _ => rfl, fun _ => by decide⟩
theorem mm_plainForm {K : Int32 → mz_St → Prop} {σ : mz_St} {k i : Nat} (hk : k < 10) (hi : i < 12) (h : K (fm (σ 12 (12 * k + i))) σ) : mw_Writer_plainForm K (nI (12 * k + i)) σ := by
  unfold mw_Writer_plainForm
  refine mm_takesA hk hi (fun P16 hP16 => bz_go (fun q => ?_) (fun q => ?_))
  · have q : σ 12 (12 * k + i) = 0 := by simpa using q
    apply hP16
    unfold mw_Writer_plainForm_16
    refine mm_takesB hk hi (bz_go (fun q2 => ?_) (fun q2 => ?_))
    · unfold fm at h
      rw [if_pos q, q2] at h
      exact h
    · unfold fm at h
      rw [if_pos q, q2] at h
      exact h
  · have q : σ 12 (12 * k + i) ≠ 0 := by simpa using q
    apply hP16
    unfold mw_Writer_plainForm_16
    refine mm_takesB hk hi (bz_go (fun q2 => ?_) (fun q2 => ?_))
    · unfold fm at h
      rw [if_neg q, q2] at h
      exact h
    · unfold fm at h
      rw [if_neg q, q2] at h
      exact h
def stored (σ u : mz_St) (k lo j : Nat) : Prop := u 47 (lo + j) = σ 12 (12 * k + j) ∧ u 48 (lo + j) = σ 13 (12 * k + j) ∧ u 49 (lo + j) = σ 14 (12 * k + j) ∧ u 50 (lo + j) = σ 15 (12 * k + j) ∧ u 51 (lo + j) = fm (σ 12 (12 * k + j))
theorem stored_low {σ u v : mz_St} {k lo j L : Nat} (h : stored σ u k lo j) (hl : low u v L) (hj : lo + j < L) : stored σ v k lo j := by
  unfold stored at *
  rw [hl 47 (by decide) _ hj, hl 48 (by decide) _ hj, hl 49 (by decide) _ hj, hl 50 (by decide) _ hj, hl 51 (by decide) _ hj]
  exact h
def plW : List Nat := [45, 46, 47, 48, 49, 50, 51, 52, 53, 1011]
def plB (σ u : mz_St) (k L : Nat) : Prop := ∃ lo, u 45 k = nI lo ∧ u 46 k = nI (lo + lenC σ k) ∧ lo + lenC σ k ≤ L ∧ (∀ j, j < lenC σ k → stored σ u k lo j) ∧ u 52 k = σ 18 k ∧ u 53 k = 0
theorem plain_step {σ u : mz_St} {n k lo i : Nat} {z τ w lg : Wd} {c : Nat} (hP : PN σ n) (hk : k < 10) (hi : i < lenC σ k) (hs : stored σ u k lo i) (hz : ∀ t, t < 10 → z t = τ t) : (cst u (lo + i) (z, w, c, lg)).1 = (pst σ (12 * k + i) (τ, w, c, lg)).1 ∧ (cst u (lo + i) (z, w, c, lg)).2.2 = (pst σ (12 * k + i) (τ, w, c, lg)).2.2 ∧ ∀ t, t < 10 → (cst u (lo + i) (z, w, c, lg)).2.1 t = (pst σ (12 * k + i) (τ, w, c, lg)).2.1 t := by
  obtain ⟨-, -, hl, hop⟩ := PN_len hP hk
  have hsu := (hop i hi).1
  obtain ⟨s1, s2, s3, s4, s5⟩ := hs
  have eA : cA u (lo + i) z = pA σ (12 * k + i) τ := by
    unfold cA pA
    rw [s3, s5]
    by_cases q : σ 12 (12 * k + i) = 0
    · rw [if_pos q, if_neg (fun q2 => (fm_a _).mp q2 q)]
    · rw [if_neg q, if_pos ((fm_a _).mpr q)]
      obtain ⟨t, ht, e⟩ := such_a hsu q
      rw [e, nI_clamp (by omega)]
      exact hz t ht
  have eB : cB u (lo + i) z = pB σ (12 * k + i) τ := by
    unfold cB pB
    rw [s4, s5]
    by_cases q : tr (tkB (σ 12 (12 * k + i))) = true
    · rw [if_pos q, if_pos ((fm_b _).mpr q)]
      obtain ⟨t, ht, e⟩ := such_b hsu (tr_t.mp q)
      rw [e, nI_clamp (by omega)]
      exact hz t ht
    · rw [if_neg q, if_neg (fun q2 => q ((fm_b _).mp q2))]
  unfold cst pst
  rw [s1, s2, eA, eB]
  unfold opX
  by_cases q : opE (σ 12 (12 * k + i)) (pA σ (12 * k + i) τ) (pB σ (12 * k + i) τ) = 0
  · rw [if_pos q, if_pos q]
    refine ⟨rfl, rfl, fun t ht => ?_⟩
    show (if σ 12 (12 * k + i) = 17 then z else upd z _ _) t = (if σ 12 (12 * k + i) = 17 then τ else upd τ _ _) t
    by_cases q2 : σ 12 (12 * k + i) = 17
    · rw [if_pos q2, if_pos q2]; exact hz t ht
    · rw [if_neg q2, if_neg q2]
      unfold upd
      by_cases q3 : t = (σ 13 (12 * k + i)).toNatClampNeg
      · simp [q3]
      · simp [q3]; exact hz t ht
  · rw [if_neg q, if_neg q]
    exact ⟨rfl, rfl, hz⟩
theorem plain_run {σ u : mz_St} {n k lo : Nat} (hP : PN σ n) (hk : k < 10) (hs : ∀ j, j < lenC σ k → stored σ u k lo j) : ∀ r i z τ w c lg, i + r = lenC σ k → (∀ t, t < 10 → z t = τ t) → (csc u r (lo + i) (z, w, c, lg)).1 = (pbl σ r (12 * k + i) (τ, w, c, lg)).1 ∧ (csc u r (lo + i) (z, w, c, lg)).2.2 = (pbl σ r (12 * k + i) (τ, w, c, lg)).2.2 ∧ ∀ t, t < 10 → (csc u r (lo + i) (z, w, c, lg)).2.1 t = (pbl σ r (12 * k + i) (τ, w, c, lg)).2.1 t
  | 0, _, _, _, _, _, _, _, hz => ⟨rfl, rfl, hz⟩
  | r + 1, i, z, τ, w, c, lg, hi, hz => by
    obtain ⟨g1, g2, g3⟩ := plain_step (w := w) (c := c) (lg := lg) hP hk (show i < lenC σ k by omega) (hs i (by omega)) hz
    rw [csc_s, pbl_s, g1]
    by_cases q : (pst σ (12 * k + i) (τ, w, c, lg)).1 = 0
    · rw [if_pos q, if_pos q]
      have := plain_run hP hk hs r (i + 1) (cst u (lo + i) (z, w, c, lg)).2.1 (pst σ (12 * k + i) (τ, w, c, lg)).2.1 (pst σ (12 * k + i) (τ, w, c, lg)).2.2.1 (pst σ (12 * k + i) (τ, w, c, lg)).2.2.2.1 (pst σ (12 * k + i) (τ, w, c, lg)).2.2.2.2 (by omega) g3
      rw [show (cst u (lo + i) (z, w, c, lg)).2 = ((cst u (lo + i) (z, w, c, lg)).2.1, (pst σ (12 * k + i) (τ, w, c, lg)).2.2) from by rw [← g2]]
      exact this
    · rw [if_neg q, if_neg q]
      exact ⟨g1, g2, g3⟩
theorem sec_u {σ : mz_St} {s lo r lo' r' : Nat} (h : sec σ s lo r) (h' : sec σ s lo' r') : lo = lo' ∧ r = r' := by
  obtain ⟨a1, a2, a3, -⟩ := h
  obtain ⟨b1, b2, b3, -⟩ := h'
  have e1 := a1.symm.trans b1
  have e2 := a2.symm.trans b2
  rw [nI_eq (by omega) (by omega)] at e1 e2
  omega
theorem stored_cok {σ u : mz_St} {n k lo j : Nat} (hP : PN σ n) (hk : k < 10) (hj : j < lenC σ k) (h : stored σ u k lo j) : cok u (lo + j) := by
  obtain ⟨-, -, hl, hop⟩ := PN_len hP hk
  have hsu := (hop j hj).1
  obtain ⟨s1, s2, s3, s4, s5⟩ := h
  unfold cok
  rw [s1, s2, s3, s4, s5]
  refine ⟨fun q => ?_, fun q => ?_, fun q => ?_⟩
  · obtain ⟨t, ht, e⟩ := such_a hsu ((fm_a _).mp q)
    exact ⟨t, by omega, e⟩
  · obtain ⟨t, ht, e⟩ := such_b hsu (tr_t.mp ((fm_b _).mp q))
    exact ⟨t, by omega, e⟩
  · obtain ⟨t, ht, e⟩ := such_d hsu q
    exact ⟨t, by omega, e⟩
theorem mm_asItIs {K : mz_St → Prop} {σ : mz_St} {n : Nat} (hP : PN σ n) (hn0 : 0 < n) (h : ∀ u, mf plW σ u → CO u → K u) : mw_Writer_writeAsItIs K σ := by
  have hn := hP.1
  unfold mw_Writer_writeAsItIs mw_Code_clear
  generalize hu0 : mz_fl (mz_fl (mz_up σ 1011 0 0) 45 30 0) 46 30 0 = u0
  have hm0 : mf plW σ u0 := by
    rw [← hu0]
    exact mf_tr (mf_tr (mf_up (by decide)) (mf_fl (by decide))) (mf_fl (by decide))
  have e11 : u0 1011 0 = nI 0 := by
    rw [← hu0, fl_row (by decide), fl_row (by decide), up_at]; rfl
  have e45 : ∀ j, j < 30 → u0 45 j = 0 := fun j hj => by
    rw [← hu0, fl_row (by decide), fl_at hj]
  have e46 : ∀ j, j < 30 → u0 46 j = 0 := fun j hj => by
    rw [← hu0, fl_at hj]
  refine lf1 (fun m x u => ∃ i L, x = nI i ∧ i ≤ n ∧ m = n - i ∧ mf plW σ u ∧ u 1011 0 = nI L ∧ L ≤ 12 * i ∧ (∀ j, j < 30 → i ≤ j → u 45 j = 0) ∧ (∀ j, j < 30 → i ≤ j → u 46 j = 0) ∧ ∀ k, k < i → plB σ u k L) ?_ n 0 u0 ⟨0, 0, rfl, by omega, rfl, hm0, e11, by omega, fun j hj _ => e45 j hj, fun j hj _ => e46 j hj, fun k hk => absurd hk (by omega)⟩
  rintro m P9 x u ⟨i, L, rfl, hi, rfl, hm, u11, hL, u45, u46, hB⟩ hrec
  have hS : Sm σ u := Sm_mf hm (by decide)
  unfold mw_Writer_writeAsItIs_9
  rw [hS 1003 (by decide), hP.2.1]
  refine pk_le n i (fun hle => ?_) (fun hlt => ?_)
  · have ei : i = n := by omega
    subst ei
    have hPu := hS.pn hP
    refine h u hm ⟨fun k z τ => k < i ∧ ∀ t, t < 10 → z t = τ t, fun z hz => ⟨hn0, fun t ht => hz t (by omega)⟩, fun k z τ hJ => ?_⟩
    obtain ⟨hk, -⟩ := hJ
    obtain ⟨lo, b45, b46, bl, bs, b52, b53⟩ := hB k hk
    have hbs : ∀ j, j < lenC u k → stored u u k lo j := by
      intro j hj
      have := bs j (by rw [← Sm_lenC hS]; exact hj)
      unfold stored at this ⊢
      rw [hS 12 (by decide), hS 13 (by decide), hS 14 (by decide), hS 15 (by decide)]
      exact this
    have hlen := (PN_len hP (show k < 10 by omega)).2.2.1
    have el : lenC u k = lenC σ k := by rw [Sm_lenC hS]
    have hroad : ∀ e, e < eC u k → sec u (10 + 2 * k + e) 0 0 := by
      intro e he
      have := (PN_eC hPu hk).2
      exact ⟨u45 _ (by omega) (by omega), u46 _ (by omega) (by omega), by omega, fun j hj => absurd hj (by omega)⟩
    refine ⟨Or.inl b53, fun _ => ?_, lo, lenC u k, ⟨b45, by rw [el]; exact b46, by rw [el]; omega, fun j hj => stored_cok hPu (by omega) hj (hbs j hj)⟩, fun e he => ⟨0, 0, hroad e he⟩, fun z τ hJ w c lg => ?_⟩
    · rw [b52]
      obtain ⟨len, e, -, -, -, hE, -⟩ := hP.2.2.2 k (by omega)
      exact bdn_mono hE.2.2.2.1 (by omega)
    · have pr := plain_run hPu (show k < 10 by omega) hbs (lenC u k) 0 z τ w c lg (by omega) hJ.2
      rw [Nat.add_zero, Nat.add_zero] at pr
      obtain ⟨g1, g2, g3⟩ := pr
      refine ⟨g1, g2, fun _ => ⟨fun _ => ?_, fun e he lo' r' hs' => ?_⟩⟩
      · unfold shw
        rw [if_pos b53, b52, hS 18 (by decide)]
        obtain ⟨len, e, -, -, -, hE, -⟩ := hP.2.2.2 k (by omega)
        obtain ⟨t, ht, et⟩ := hE.2.2.2.1
        rw [et, nI_clamp (by omega)]
        exact g3 t ht
      · obtain ⟨r1, r2⟩ := sec_u hs' (hroad e he)
        subst r1 r2
        exact ⟨_, rfl, (PN_eT hPu hk e).2, g3⟩
  · have hk : i < 10 := by omega
    obtain ⟨hl1, -, hl3, hop⟩ := PN_len hP hk
    have hin : vp_in (nI i) 10 := vp_in_nI hk (by decide)
    unfold mw_Code_begin
    refine ⟨vp_in_nI (by omega) (by decide), ?_⟩
    rw [mz_wrn (by omega), u11, nI_x12]
    have hm1 : mf plW σ (mz_up u 45 i (nI L)) := mf_tr hm (mf_up (by decide))
    have hB1 : ∀ k, k < i → plB σ (mz_up u 45 i (nI L)) k L := by
      intro k hk2
      obtain ⟨lo, b45, b46, bl, bs, b52, b53⟩ := hB k hk2
      refine ⟨lo, by rw [up_ot (by omega)]; exact b45, by rw [up_row (by decide)]; exact b46, bl, fun j hj => ?_, by rw [up_row (by decide)]; exact b52, by rw [up_row (by decide)]; exact b53⟩
      exact stored_low (bs j hj) (low_mf (lo + j + 1) (mf_up (W := [45]) (by decide)) (by decide)) (by omega)
    refine lf1 (fun m x v => ∃ j, x = nI (12 * i + j) ∧ j ≤ lenC σ i ∧ m = lenC σ i - j ∧ mf plW σ v ∧ v 1011 0 = nI (L + j) ∧ v 45 i = nI L ∧ (∀ s, s < 30 → i < s → v 45 s = 0) ∧ (∀ s, s < 30 → i ≤ s → v 46 s = 0) ∧ (∀ k, k < i → plB σ v k L) ∧ ∀ q, q < j → stored σ v i L q) ?_ (lenC σ i) _ _ ⟨0, rfl, by omega, rfl, hm1, by rw [up_row (by decide)]; exact u11, up_at, fun s hs his => by rw [up_ot (by omega)]; exact u45 s hs (by omega), fun s hs his => by rw [up_row (by decide)]; exact u46 s hs his, hB1, fun q hq => absurd hq (by omega)⟩
    rintro m P33 x v ⟨j, rfl, hj, rfl, hmv, v11, v45, v45', v46, hBv, hst⟩ hrec2
    have hSv : Sm σ v := Sm_mf hmv (by decide)
    unfold mw_Writer_writeAsItIs_33
    rw [mz_rdn (show i < 2 ^ 31 by omega), hSv 16 (by decide), hl1, ix12]
    refine ⟨hin, fun hle2 => ?_, fun hlt2 => ?_⟩
    · have ej : j = lenC σ i := by rw [nI_leI (by omega) (by omega)] at hle2; omega
      subst ej
      unfold mw_Code_finish
      refine ⟨vp_in_nI (by omega) (by decide), hin, ?_⟩
      unfold mw_Code_setEnd
      rw [mz_wrn (by omega), v11, mz_wrn (by omega), mz_wrn (by omega), mz_rdn (by omega), nI_k1]
      refine ⟨hin, ⟨hin, Or.inl rfl⟩, ?_⟩
      refine hrec (n - (i + 1)) _ _ (by omega) ⟨i + 1, L + lenC σ i, rfl, by omega, rfl, mf_tr (mf_tr (mf_tr hmv (mf_up (by decide))) (mf_up (by decide))) (mf_up (by decide)), ?_, by omega, fun s hs his => ?_, fun s hs his => ?_, fun k hk2 => ?_⟩
      · rw [up_row (by decide), up_row (by decide), up_row (by decide)]; exact v11
      · rw [up_row (by decide), up_row (by decide), up_row (by decide)]; exact v45' s hs (by omega)
      · rw [up_row (by decide), up_row (by decide), up_ot (by omega)]; exact v46 s hs (by omega)
      · have lw : ∀ M, low v (mz_up (mz_up (mz_up v 46 i (nI (L + lenC σ i))) 52 i (mz_up v 46 i (nI (L + lenC σ i)) 18 i)) 53 i 0) M := fun M => low_mf M (W := [46, 52, 53]) (mf_tr (mf_tr (mf_up (by decide)) (mf_up (by decide))) (mf_up (by decide))) (by decide)
        by_cases q : k = i
        · subst q
          refine ⟨L, ?_, ?_, by omega, fun q hq => stored_low (hst q hq) (lw (L + q + 1)) (by omega), ?_, by rw [up_at]⟩
          · rw [up_row (by decide), up_row (by decide), up_row (by decide)]; exact v45
          · rw [up_row (by decide), up_row (by decide), up_at]
          · rw [up_row (by decide), up_at, up_row (by decide), hSv 18 (by decide)]
        · obtain ⟨lo, b45, b46, bl, bs, b52, b53⟩ := hBv k (by omega)
          refine ⟨lo, ?_, ?_, by omega, fun q hq => stored_low (bs q hq) (lw (lo + q + 1)) (by omega), ?_, ?_⟩
          · rw [up_row (by decide), up_row (by decide), up_row (by decide)]; exact b45
          · rw [up_row (by decide), up_row (by decide), up_ot q]; exact b46
          · rw [up_row (by decide), up_ot q, up_row (by decide)]; exact b52
          · rw [up_ot q, up_row (by decide), up_row (by decide)]; exact b53
    · have hj2 : j < lenC σ i := by rw [nI_leI (by omega) (by omega)] at hlt2; omega
      have hin2 : vp_in (nI (12 * i + j)) 120 := vp_in_nI (by omega) (by decide)
      refine ⟨hin2, hin2, hin2, hin2, mm_plainForm hk (by omega) ?_⟩
      refine mm_add v11 (by omega) (fun w hw w11 hlw w47 w48 w49 w50 w51 => ?_)
      rw [mz_rdn (by omega)] at w47 w48 w49 w50
      rw [nI_k1]
      refine hrec2 (lenC σ i - (j + 1)) _ w (by omega) ⟨j + 1, by rw [Nat.add_assoc], by omega, rfl, mf_tr hmv (mf_mono hw (by decide)), by rw [← Nat.add_assoc]; exact w11, by rw [hw 45 (by decide)]; exact v45, fun s hs his => by rw [hw 45 (by decide)]; exact v45' s hs his, fun s hs his => by rw [hw 46 (by decide)]; exact v46 s hs his, fun k hk2 => ?_, fun q hq => ?_⟩
      · obtain ⟨lo, b45, b46, bl, bs, b52, b53⟩ := hBv k hk2
        exact ⟨lo, by rw [hw 45 (by decide)]; exact b45, by rw [hw 46 (by decide)]; exact b46, bl, fun q hq => stored_low (bs q hq) hlw (by omega), by rw [hw 52 (by decide)]; exact b52, by rw [hw 53 (by decide)]; exact b53⟩
      · by_cases e : q = j
        · subst e
          rw [hSv 12 (by decide)] at w47 w51
          rw [hSv 13 (by decide)] at w48
          rw [hSv 14 (by decide)] at w49
          rw [hSv 15 (by decide)] at w50
          exact ⟨w47, w48, w49, w50, w51⟩
        · exact stored_low (hst q (by omega)) hlw (by omega)

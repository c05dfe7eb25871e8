/-! moves meant at one time, put in a row -/
theorem ph_sur : ∀ (m : Nat) (f : Nat → Nat), (∀ i, i < m → f i < m) → (∀ i j, i < m → j < m → f i = f j → i = j) → ∀ j, j < m → ∃ i, i < m ∧ f i = j
  | 0, _, _, _, j, hj => absurd hj (by omega)
  | m + 1, f, hf, hi, j, hj => by
    have ih := ph_sur m (fun i => if f i = m then f m else f i) (fun i h => by
      show (if f i = m then f m else f i) < m
      have h1 := hf i (by omega)
      have h2 := hf m (by omega)
      split
      · rename_i e
        have : f m ≠ m := fun z => by have := hi i m (by omega) (by omega) (e.trans z.symm); omega
        omega
      · omega) (fun i j h1 h2 e => by
      have e : (if f i = m then f m else f i) = (if f j = m then f m else f j) := e
      split at e
      · split at e
        · rename_i e1 e2; exact hi i j (by omega) (by omega) (e1.trans e2.symm)
        · have := hi m j (by omega) (by omega) e; omega
      · split at e
        · have := hi i m (by omega) (by omega) e; omega
        · exact hi i j (by omega) (by omega) e)
    by_cases h1 : j = f m
    · exact ⟨m, by omega, h1.symm⟩
    · by_cases h2 : j = m
      · have hfm := hf m (by omega)
        obtain ⟨i, i1, i2⟩ := ih (f m) (by omega)
        have i2 : (if f i = m then f m else f i) = f m := i2
        split at i2
        · rename_i e; exact ⟨i, by omega, by omega⟩
        · have := hi i m (by omega) (by omega) i2; omega
      · obtain ⟨i, i1, i2⟩ := ih j (by omega)
        have i2 : (if f i = m then f m else f i) = j := i2
        split at i2
        · exact absurd i2.symm h1
        · exact ⟨i, by omega, i2⟩
def xW : List Nat := [47, 48, 49, 50, 51, 1011, 54, 55, 56, 1012]
def AdX (σ u : mz_St) (L L' : Nat) : Prop := mf xW σ u ∧ u 1011 0 = nI L' ∧ L ≤ L' ∧ low σ u L ∧ ∀ j, L ≤ j → j < L' → cok u j
theorem AdX_rf {σ : mz_St} {L : Nat} (h : σ 1011 0 = nI L) : AdX σ σ L L := ⟨mf_rf, h, Nat.le_refl _, low_rf, fun j h1 h2 => absurd h2 (by omega)⟩
theorem AdX_of {σ u : mz_St} {L L' : Nat} (h : Ad σ u L L') : AdX σ u L L' := ⟨mf_mono h.1 (by decide), h.2⟩
theorem AdX_tr {σ u v : mz_St} {L L' L'' : Nat} (h1 : AdX σ u L L') (h2 : AdX u v L' L'') : AdX σ v L L'' := by
  obtain ⟨a1, a2, a3, a4, a5⟩ := h1
  obtain ⟨b1, b2, b3, b4, b5⟩ := h2
  refine ⟨mf_tr a1 b1, b2, by omega, low_tr a4 b4 a3, fun j q1 q2 => ?_⟩
  rcases Nat.lt_or_ge j L' with z | z
  · exact cok_loc (fun a ha => b4 a ha j z) (a5 j q1 z)
  · exact b5 j z q2
/-- rows of moves alone change -/
theorem AdX_mv {σ u : mz_St} {L : Nat} (h : mf [54, 55, 56, 1012] σ u) (h1 : σ 1011 0 = nI L) : AdX σ u L L := ⟨mf_mono h (by decide), by rw [h 1011 (by decide)]; exact h1, Nat.le_refl _, low_mf L h (by decide), fun j h1 h2 => absurd h2 (by omega)⟩
section V1
variable {K : mz_St → Prop} {K1 : Int32 → mz_St → Prop} {σ u : mz_St} {fs L : Nat} {Zs : Nat → Prop}
theorem mm_isSlot {q : Nat} (h7 : u 1007 0 = nI fs) (hf : fs ≤ 230) (hq : q < 230) (h : K1 (bz (decide (fs ≤ q))) u) : mw_Homes_isSlot K1 (nI q) u := by
  unfold mw_Homes_isSlot
  rw [h7]
  have e : nI q < nI fs ↔ ¬ fs ≤ q := by rw [Int32.lt_iff_toInt_lt, nI_toInt (by omega), nI_toInt (by omega)]; omega
  rw [e]
  refine ⟨fun z => ?_, fun z => ?_⟩
  · rw [decide_eq_false z] at h; exact h
  · rw [decide_eq_true (Classical.not_not.mp z)] at h; exact h
/-- scratch is there -/
def NS (u : mz_St) (Zs : Nat → Prop) : Prop := ∃ s, u 1008 0 = nI s ∧ s < 230 ∧ Zs s
theorem mm_writeMove {tc : Nat} {v : Int32} {b : Bool} (h7 : u 1007 0 = nI fs) (hf : fs ≤ 230) (h11 : u 1011 0 = nI L) (hL : L + 2 ≤ 1090) (htc : tc < 230) (hv : svok b v) (hns : fs ≤ tc → (b = true ∨ ∃ q, v = nI q ∧ q < 230 ∧ fs ≤ q) → NS u Zs) (h : ∀ w L', Ad u w L L' → L' ≤ L + 2 → (∀ z r, ∃ z', ex w L L' (z, r) = (0, (z', r)) ∧ z' tc = sv b v z ∧ ∀ c, c ≠ tc → ¬ Zs c → z' c = z c) → K w) : mw_Moves_writeMove K (nI tc) v (bz b) u := by
  -- straight
  have p61 : mw_Moves_writeMove_61 K (nI tc) v (bz b) u := by
    unfold mw_Moves_writeMove_61
    refine mm_addMove h11 (by omega) htc hv (fun w hA hx => h w (L + 1) hA (by omega) (fun z r => ⟨_, hx (z, r), ?_, fun c hc _ => ?_⟩))
    · simp [upd]
    · simp [upd, hc]
  -- by the scratch
  have p26 : NS u Zs → mw_Moves_writeMove_26 K (nI tc) v (bz b) u := by
    rintro ⟨s, e8, hs, hZ⟩
    unfold mw_Moves_writeMove_26
    rw [e8]
    refine mm_addMove h11 (by omega) hs hv (fun w hA hx => ?_)
    rw [hA.1 1008 (by decide), e8]
    refine mm_addMove (b := false) hA.2.1 (by omega) htc (fun _ => ⟨s, hs, rfl⟩) (fun y hA2 hx2 => h y (L + 1 + 1) (Ad_tr hA hA2) (by omega) (fun z r => ⟨_, ex_ok hA2.2.2.2.1 (by omega) (by omega) (hx (z, r)) (hx2 _), ?_, fun c hc hcZ => ?_⟩))
    · simp [upd, sv, nI_clamp (show s < 2 ^ 31 by omega)]
    · have : c ≠ s := fun e => hcZ (by rw [e]; exact hZ)
      simp [upd, hc, this]
  unfold mw_Moves_writeMove
  refine mm_isSlot h7 hf htc (fun P61 hP61 => bz_go (fun _ => hP61 _ p61) (fun e P26 hP26 => ?_))
  have e := of_decide_eq_true e
  refine bz_og (fun eb => hP26 _ (p26 (hns e (Or.inl eb)))) (fun eb => ?_)
  obtain ⟨q, hq, rfl⟩ := hv eb
  refine mm_isSlot h7 hf hq (bz_go (fun _ => hP61 _ p61) (fun e2 => hP26 _ (p26 (hns e (Or.inr ⟨q, rfl, hq, of_decide_eq_true e2⟩)))))
/-- the moves that are left -/
def RM (u : mz_St) (m : Nat) (T : Nat → Nat) (S : Nat → Int32) (B : Nat → Bool) : Prop := u 1012 0 = nI m ∧ m ≤ 10 ∧ ∀ i, i < m → u 54 i = nI (T i) ∧ u 55 i = S i ∧ u 56 i = bz (B i)
variable {m : Nat} {T : Nat → Nat} {S : Nat → Int32} {B : Nat → Bool}
theorem RM_mf {W : List Nat} {v : mz_St} (h : mf W u v) (hW : ∀ a, a ∈ [54, 55, 56, 1012] → a ∉ W) (hR : RM u m T S B) : RM v m T S B := by
  unfold RM at *
  rw [h 1012 (hW 1012 (by decide)), h 54 (hW 54 (by decide)), h 55 (hW 55 (by decide)), h 56 (hW 56 (by decide))]
  exact hR
def rdx (m : Nat) (S : Nat → Int32) (B : Nat → Bool) (x : Int32) : Prop := ∃ i, i < m ∧ B i = false ∧ S i = x
theorem mm_isStillRead {x : Int32} (hR : RM u m T S B) (h : ∀ r : Bool, (r = true → rdx m S B x) → (r = false → ¬ rdx m S B x) → K1 (bz r) u) : mw_Moves_isStillRead K1 x u := by
  obtain ⟨h12, hm, hr⟩ := hR
  unfold mw_Moves_isStillRead
  refine lf1 (fun k y v => ∃ i, y = nI i ∧ i ≤ m ∧ k = m - i ∧ v = u ∧ ∀ j, j < i → ¬ (B j = false ∧ S j = x)) ?_ m 0 u ⟨0, rfl, by omega, rfl, rfl, fun j hj => absurd hj (by omega)⟩
  rintro k P2 y v ⟨i, rfl, hi, rfl, rfl, hno⟩ hrec
  unfold mw_Moves_isStillRead_2
  rw [h12]
  refine pk_le m i (fun hle => h false (fun z => by cases z) (fun _ ⟨j, j1, j2⟩ => hno j (by omega) j2)) (fun hlt => ?_)
  obtain ⟨-, r2, r3⟩ := hr i hlt
  have hin : vp_in (nI i) 10 := vp_in_nI (by omega) (by decide)
  refine ⟨hin, fun P31 hP31 => ?_⟩
  have nx : ¬ (B i = false ∧ S i = x) → P31 v := by
    intro q
    apply hP31
    unfold mw_Moves_isStillRead_31
    rw [nI_k1]
    refine hrec (m - (i + 1)) _ v (by omega) ⟨i + 1, rfl, by omega, rfl, rfl, fun j hj => ?_⟩
    by_cases e : j = i
    · rw [e]; exact q
    · exact hno j (by omega)
  rw [mz_rdn (by omega), mz_rdn (by omega), r2, r3]
  refine bz_og (fun e => nx (fun z => by rw [e] at z; cases z.1)) (fun e => ⟨hin, fun q => nx (fun z => q z.2), fun q => h true (fun _ => ⟨i, hlt, e, q⟩) (fun z => by cases z)⟩)
theorem mm_firstReady (hR : RM u m T S B) (h1 : (∀ i, i < m → rdx m S B (nI (T i))) → K1 (-1) u) (h2 : ∀ i, i < m → ¬ rdx m S B (nI (T i)) → K1 (nI i) u) : mw_Moves_firstReady K1 u := by
  obtain ⟨h12, hm, hr⟩ := id hR
  unfold mw_Moves_firstReady
  refine lf1 (fun k y v => ∃ i, y = nI i ∧ i ≤ m ∧ k = m - i ∧ v = u ∧ ∀ j, j < i → rdx m S B (nI (T j))) ?_ m 0 u ⟨0, rfl, by omega, rfl, rfl, fun j hj => absurd hj (by omega)⟩
  rintro k P2 y v ⟨i, rfl, hi, rfl, rfl, hal⟩ hrec
  unfold mw_Moves_firstReady_2
  rw [h12]
  refine pk_le m i (fun hle => h1 (fun j hj => hal j (by omega))) (fun hlt => ?_)
  refine ⟨vp_in_nI (by omega) (by decide), ?_⟩
  rw [mz_rdn (by omega), (hr i hlt).1]
  refine mm_isStillRead hR (fun r q1 q2 => bz_og (fun e => ?_) (fun e => h2 i hlt (q2 e)))
  rw [nI_k1]
  refine hrec (m - (i + 1)) _ v (by omega) ⟨i + 1, rfl, by omega, rfl, rfl, fun j hj => ?_⟩
  by_cases e2 : j = i
  · rw [e2]; exact q1 e
  · exact hal j (by omega)
theorem mm_readFromSpare {x : Int32} (hR : RM u m T S B) (h : ∀ v, mf [55] u v → RM v m T (fun i => if B i = false ∧ S i = x then nI 229 else S i) B → K v) : mw_Moves_readFromSpare K x u := by
  obtain ⟨h12, hm, hr⟩ := id hR
  unfold mw_Moves_readFromSpare
  refine lf1 (fun k y v => ∃ i, y = nI i ∧ i ≤ m ∧ k = m - i ∧ mf [55] u v ∧ ∀ j, j < m → v 55 j = if j < i ∧ B j = false ∧ S j = x then nI 229 else S j) ?_ m 0 u ⟨0, rfl, by omega, rfl, mf_rf, fun j hj => by rw [if_neg (fun z => absurd z.1 (by omega))]; exact (hr j hj).2.1⟩
  rintro k P2 y v ⟨i, rfl, hi, rfl, hm', hv⟩ hrec
  have v12 : v 1012 0 = nI m := by rw [hm' 1012 (by decide)]; exact h12
  unfold mw_Moves_readFromSpare_2
  rw [v12]
  refine pk_le m i (fun hle => ?_) (fun hlt => ?_)
  · refine h v hm' ⟨v12, hm, fun j hj => ⟨by rw [hm' 54 (by decide)]; exact (hr j hj).1, ?_, by rw [hm' 56 (by decide)]; exact (hr j hj).2.2⟩⟩
    rw [hv j hj]
    show _ = if B j = false ∧ S j = x then nI 229 else S j
    by_cases e : B j = false ∧ S j = x
    · rw [if_pos e, if_pos ⟨by omega, e⟩]
    · rw [if_neg e, if_neg (fun z => e z.2)]
  · have hin : vp_in (nI i) 10 := vp_in_nI (by omega) (by decide)
    refine ⟨hin, fun P38 hP38 => ?_⟩
    have nx : ∀ w, mf [55] u w → (∀ j, j < m → w 55 j = if j < i + 1 ∧ B j = false ∧ S j = x then nI 229 else S j) → P38 w := by
      intro w hw hw2
      apply hP38
      unfold mw_Moves_readFromSpare_38
      rw [nI_k1]
      exact hrec (m - (i + 1)) _ w (by omega) ⟨i + 1, rfl, by omega, rfl, hw, hw2⟩
    have stay : ¬ (B i = false ∧ S i = x) → P38 v := fun q => nx v hm' (fun j hj => by
      rw [hv j hj]
      by_cases e : j = i
      · subst e
        rw [if_neg (fun z => q z.2), if_neg (fun z => q z.2)]
      · by_cases e2 : j < i ∧ B j = false ∧ S j = x
        · rw [if_pos e2, if_pos ⟨by omega, e2.2⟩]
        · rw [if_neg e2, if_neg (fun z => e2 ⟨by omega, z.2⟩)])
    have vi : v 55 i = S i := by rw [hv i hlt, if_neg (fun z => absurd z.1 (by omega))]
    rw [mz_rdn (by omega), mz_rdn (by omega), vi, hm' 56 (by decide), (hr i hlt).2.2]
    refine bz_og (fun e => stay (fun z => by rw [e] at z; cases z.1)) (fun e => ⟨hin, fun q => stay (fun z => q z.2), fun q => ⟨hin, ?_⟩⟩)
    rw [mz_wrn (by omega)]
    refine nx _ (mf_tr hm' (mf_up (by decide))) (fun j hj => ?_)
    by_cases e2 : j = i
    · subst e2
      rw [up_at, if_pos ⟨by omega, e, q⟩]; rfl
    · rw [up_ot e2, hv j hj]
      by_cases e3 : j < i ∧ B j = false ∧ S j = x
      · rw [if_pos e3, if_pos ⟨by omega, e3.2⟩]
      · rw [if_neg e3, if_neg (fun z => e3 ⟨by omega, z.2⟩)]
/-- the last takes the place of one -/
def mo {A : Type} (f : Nat → A) (i0 m : Nat) : Nat → A := fun i => if i = i0 then f m else f i
theorem mm_takeOut {i0 : Nat} (hR : RM u (m + 1) T S B) (hi : i0 < m + 1) (h : ∀ v, mf [54, 55, 56, 1012] u v → RM v m (mo T i0 m) (mo S i0 m) (mo B i0 m) → K v) : mw_Moves_takeOut K (nI i0) u := by
  obtain ⟨h12, hm, hr⟩ := id hR
  unfold mw_Moves_takeOut
  rw [h12, nI_dn]
  obtain ⟨r1, r2, r3⟩ := hr m (by omega)
  have q1 : mz_up u 1012 0 (nI m) 1012 0 = nI m := up_at
  have vm : vp_in (nI m) 10 := vp_in_nI (by omega) (by decide)
  have v0 : vp_in (nI i0) 10 := vp_in_nI (by omega) (by decide)
  simp only [q1, mz_rdn (show m < 2 ^ 31 by omega), mz_wrn (show i0 < 2 ^ 31 by omega)]
  have e54 : mz_up u 1012 0 (nI m) 54 m = nI (T m) := by rw [up_row (by decide)]; exact r1
  simp only [e54]
  have q2 : mz_up (mz_up u 1012 0 (nI m)) 54 i0 (nI (T m)) 1012 0 = nI m := by rw [up_row (by decide), up_at]
  simp only [q2, mz_rdn (show m < 2 ^ 31 by omega)]
  have e55 : mz_up (mz_up u 1012 0 (nI m)) 54 i0 (nI (T m)) 55 m = S m := by rw [up_row (by decide), up_row (by decide)]; exact r2
  simp only [e55]
  have q3 : mz_up (mz_up (mz_up u 1012 0 (nI m)) 54 i0 (nI (T m))) 55 i0 (S m) 1012 0 = nI m := by rw [up_row (by decide), up_row (by decide), up_at]
  simp only [q3, mz_rdn (show m < 2 ^ 31 by omega)]
  have e56 : mz_up (mz_up (mz_up u 1012 0 (nI m)) 54 i0 (nI (T m))) 55 i0 (S m) 56 m = bz (B m) := by rw [up_row (by decide), up_row (by decide), up_row (by decide)]; exact r3
  simp only [e56]
  refine ⟨vm, v0, vm, v0, vm, ⟨v0, bz_01 _⟩, h _ (mf_tr (mf_tr (mf_tr (mf_up (by decide)) (mf_up (by decide))) (mf_up (by decide))) (mf_up (by decide))) ⟨?_, by omega, fun i hi2 => ?_⟩⟩
  · rw [up_row (by decide), up_row (by decide), up_row (by decide), up_at]
  · obtain ⟨s1, s2, s3⟩ := hr i (by omega)
    unfold mo
    by_cases e : i = i0
    · subst e
      rw [if_pos rfl, if_pos rfl, if_pos rfl]
      refine ⟨?_, ?_, up_at⟩
      · rw [up_row (by decide), up_row (by decide), up_at]
      · rw [up_row (by decide), up_at]
    · rw [if_neg e, if_neg e, if_neg e]
      refine ⟨?_, ?_, ?_⟩
      · rw [up_row (by decide), up_row (by decide), up_ot e, up_row (by decide)]; exact s1
      · rw [up_row (by decide), up_ot e, up_row (by decide), up_row (by decide)]; exact s2
      · rw [up_ot e, up_row (by decide), up_row (by decide), up_row (by decide)]; exact s3
end V1

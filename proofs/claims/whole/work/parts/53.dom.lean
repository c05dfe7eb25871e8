/-! dominators: the class's row, the reference's question, what dominance is -/
theorem next_mf {W : List Nat} {σ u : mz_St} {n : Nat} (h : mf W σ u) (hW : ∀ a, a ∈ pR → a ∉ W) (h22 : 22 ∉ W) (hN : nextOK σ n) : nextOK u n := fun a ha y => by
  rw [h 22 h22, Sm_gX (Sm_mf h hW)]; exact hN a ha y
theorem alive_mf {W : List Nat} {σ u : mz_St} {n : Nat} (h : mf W σ u) (hW : ∀ a, a ∈ pR → a ∉ W) (h2 : 1004 ∉ W) (hA : aliveOK σ n) : aliveOK u n := fun x => by
  rw [h 1004 h2, Sm_Al (Sm_mf h hW)]; exact hA x
theorem dom_mf {W : List Nat} {σ u : mz_St} {n : Nat} (h : mf W σ u) (hW : ∀ a, a ∈ pR → a ∉ W) (h2 : 25 ∉ W) (hA : domOK σ n) : domOK u n := fun b hb a => by
  rw [h 25 h2, Sm_Dom (Sm_mf h hW)]; exact hA b hb a
theorem prev_mf {W : List Nat} {σ u : mz_St} {n : Nat} (h : mf W σ u) (hW : ∀ a, a ∈ pR → a ∉ W) (h2 : 23 ∉ W) (hA : prevOK σ n) : prevOK u n := fun b hb a => by
  rw [h 23 h2, Sm_Al (Sm_mf h hW), Sm_gX (Sm_mf h hW)]; exact hA b hb a
theorem Rch_bar {n : Nat} {E : Nat → Nat → Prop} {s b b' : Nat → Prop} (h : ∀ y, b y ↔ b' y) : Rch n E s b = Rch n E s b' := by
  have : b = b' := funext fun y => propext (h y)
  rw [this]
theorem mm_findDominators {K : mz_St → Prop} {σ : mz_St} {n : Nat} (hP : PN σ n) (hN : nextOK σ n) (hA : aliveOK σ n) (h : ∀ u, mf [25] σ u → domOK u n → K u) : mw_Flow_findDominators K σ := by
  have hn := hP.1
  unfold mw_Flow_findDominators
  refine lf1 (fun m x u => ∃ i, x = nI i ∧ i ≤ n ∧ m = n - i ∧ mf [25] σ u ∧ ∀ b, b < n → ∀ a, bt (u 25 b) a = true ↔ a < i ∧ Dom σ n a b) ?_ n 0 _ ⟨0, rfl, by omega, rfl, mf_fl (by decide), fun b hb a => ?_⟩
  · rintro m P10 x u ⟨i, rfl, hi, rfl, hm, hd⟩ hrec
    have hSu : Sm σ u := Sm_mf hm (by decide)
    have hPu : PN u n := hSu.pn hP
    unfold mw_Flow_findDominators_10
    rw [hPu.2.1]
    refine pk_le n i (fun hin => h u hm (fun b hb a => ?_)) (fun hin => ?_)
    · have : i = n := by omega
      subst this
      rw [Sm_Dom hSu]
      exact hd b hb a
    refine mm_reachedFrom (s := 0) hPu (next_mf hm (by decide) (by decide) hN) (by omega) (fun r hr => ?_)
    have hr2 : ∀ x, bt r x = true ↔ Rch n (gX σ n) (fun y => y = 0) (fun y => y = i) x := by
      intro x
      rw [hr x, Sm_gX hSu, Rch_bar (fun y => by rw [b_one (by omega), decide_eq_true_eq])]
    refine lf1 (fun m x v => ∃ j, x = nI j ∧ j ≤ n ∧ m = n - j ∧ mf [25] σ v ∧ ∀ b, b < n → ∀ a, bt (v 25 b) a = true ↔ (a < i ∨ (a = i ∧ b < j)) ∧ Dom σ n a b) ?_ n 0 u ⟨0, rfl, by omega, rfl, hm, fun b hb a => ?_⟩
    · rintro m P32 x v ⟨j, rfl, hj, rfl, hv, vd⟩ hrec2
      have hSv : Sm σ v := Sm_mf hv (by decide)
      have hPv : PN v n := hSv.pn hP
      have hAv := alive_mf hv (by decide) (by decide) hA
      unfold mw_Flow_findDominators_32
      rw [hPv.2.1]
      refine pk_le n j (fun hjn => ?_) (fun hjn => ?_)
      · rw [nI_k1]
        refine hrec (n - (i + 1)) _ v (by omega) ⟨i + 1, rfl, by omega, rfl, hv, fun b hb a => ?_⟩
        rw [vd b hb a]
        constructor
        · rintro ⟨z | z, z2⟩
          · exact ⟨by omega, z2⟩
          · exact ⟨by omega, z2⟩
        · rintro ⟨z, z2⟩
          exact ⟨by omega, z2⟩
      · have hin2 : vp_in (nI j) 10 := vp_in_nI (by omega) (by decide)
        have hbit : bt (v 1004 0 &&& (r ^^^ (-1))) j = true ↔ Dom σ n i j := by
          rw [b_wo, Bool.and_eq_true, hAv j, Sm_Al hSv]
          unfold Dom
          refine and_congr_right fun _ => ?_
          rw [← hr2 j]
          simp
        refine mm_isIn (by omega) (fun P70 hP70 => ?_)
        have go : ∀ t, mf [25] σ t → (∀ b, b < n → ∀ a, bt (t 25 b) a = true ↔ (a < i ∨ (a = i ∧ b < j + 1)) ∧ Dom σ n a b) → P70 t := by
          intro t h1 h2
          apply hP70
          unfold mw_Flow_findDominators_70
          rw [nI_k1]
          exact hrec2 (n - (j + 1)) _ t (by omega) ⟨j + 1, rfl, by omega, rfl, h1, h2⟩
        refine bz_go (fun e => go v hv (fun b hb a => ?_)) (fun e => ⟨hin2, hin2, ?_⟩)
        · have hno : ¬ Dom σ n i j := fun z => by rw [hbit.mpr z] at e; cases e
          rw [vd b hb a]
          constructor
          · rintro ⟨z, z2⟩
            exact ⟨by omega, z2⟩
          · rintro ⟨z, z2⟩
            refine ⟨?_, z2⟩
            rcases z with z | ⟨rfl, z⟩
            · exact Or.inl z
            · by_cases hbj : b = j
              · subst hbj; exact absurd z2 hno
              · exact Or.inr ⟨rfl, by omega⟩
        · have hyes : Dom σ n i j := hbit.mp e
          rw [mz_wrn (by omega), mz_rdn (by omega)]
          refine go _ (mf_tr hv (mf_up (by decide))) (fun b hb a => ?_)
          by_cases hbj : b = j
          · subst hbj
            rw [up_at, b_or, b_one (by omega), Bool.or_eq_true, decide_eq_true_eq, vd b hb a]
            constructor
            · rintro (⟨z, z2⟩ | rfl)
              · exact ⟨by omega, z2⟩
              · exact ⟨Or.inr ⟨rfl, by omega⟩, hyes⟩
            · rintro ⟨z | ⟨z, z3⟩, z2⟩
              · exact Or.inl ⟨Or.inl z, z2⟩
              · exact Or.inr z
          · rw [up_ot hbj, vd b hb a]
            constructor
            · rintro ⟨z, z2⟩
              exact ⟨by omega, z2⟩
            · rintro ⟨z, z2⟩
              refine ⟨?_, z2⟩
              rcases z with z | ⟨z3, z⟩
              · exact Or.inl z
              · exact Or.inr ⟨z3, by omega⟩
    · rw [hd b hb a]
      constructor
      · rintro ⟨z, z2⟩
        exact ⟨Or.inl z, z2⟩
      · rintro ⟨z, z2⟩
        exact ⟨by omega, z2⟩
  · rw [fl_at (by omega), b_0]
    constructor
    · intro z; cases z
    · rintro ⟨z, -⟩; omega
/-! what dominance is -/
section DM
variable {σ : mz_St} {n a b c x y : Nat}
theorem Al_0 (h : 0 < n) : Al σ n 0 := ⟨h, Rch_s rfl (fun z => z)⟩
theorem Al_e (ha : Al σ n a) (he : gX σ n a b) : Al σ n b := ⟨he.1, Rch_e ha.1 ha.2 he (fun z => z)⟩
theorem Al_pos (ha : Al σ n a) : 0 < n := by have := ha.1; omega
/-- a dead block bars nothing -/
theorem Dom_al (h : Dom σ n a b) : Al σ n a := by
  apply Classical.byContradiction
  intro hna
  apply h.2
  have : Al σ n b → (Rch n (gX σ n) (fun y => y = 0) (fun y => y = a) b) := by
    rintro ⟨hb, hr⟩
    have key := hr (fun y => Rch n (gX σ n) (fun y => y = 0) (fun _ => False) y ∧ (y < n → Rch n (gX σ n) (fun y => y = 0) (fun y => y = a) y)) (fun y hy hf => ?_) (fun y z hy hc he hf => ?_)
    · exact key.2 hb
    · subst hy
      refine ⟨Rch_s rfl hf, fun hn0 => Rch_s rfl (fun e => hna ?_)⟩
      rw [← e]
      exact Al_0 hn0
    · have h1 : Rch n (gX σ n) (fun y => y = 0) (fun _ => False) z := Rch_e hy hc.1 he hf
      exact ⟨h1, fun hz => Rch_e hy (hc.2 hy) he (fun e => hna (by rw [← e]; exact ⟨hz, h1⟩))⟩
  exact this h.1
theorem Dom_rf (h : Al σ n a) : Dom σ n a a := ⟨h, fun z => Rch_nb z rfl⟩
/-- x is reached without c, y isn't: whoever reaches y from x comes by c -/
theorem Dom_tr (h1 : Dom σ n a b) (h2 : Dom σ n b c) : Dom σ n a c := by
  refine ⟨h2.1, fun h => ?_⟩
  -- a way to c without a: it comes by b, and b isn't reached without a
  apply h2.2
  have key := h (fun y => Rch n (gX σ n) (fun y => y = 0) (fun y => y = a) y ∧ Rch n (gX σ n) (fun y => y = 0) (fun y => y = b) y) (fun y hy hb => ?_) (fun y z hy hc he hb => ?_)
  · exact key.2
  · subst hy
    have h0 : Rch n (gX σ n) (fun y => y = 0) (fun y => y = a) 0 := Rch_s rfl hb
    exact ⟨h0, Rch_s rfl (fun e => h1.2 (by rw [← e]; exact h0))⟩
  · have hz := Rch_e hy hc.1 he hb
    exact ⟨hz, Rch_e hy hc.2 he (fun e => h1.2 (by rw [← e]; exact hz))⟩
theorem Dom_as (h1 : Dom σ n a b) (h2 : Dom σ n b a) : a = b := by
  apply Classical.byContradiction
  intro hne
  -- neither is reached first
  have key : ∀ x, Rch n (gX σ n) (fun y => y = 0) (fun _ => False) x → Rch n (gX σ n) (fun y => y = 0) (fun y => y = a) x ∨ Rch n (gX σ n) (fun y => y = 0) (fun y => y = b) x ∨ (x ≠ a ∧ x ≠ b) ∨ True := fun x _ => Or.inr (Or.inr (Or.inr trivial))
  -- the set reached without a and without b is closed
  have cl := h1.1.2 (fun y => Rch n (gX σ n) (fun y => y = 0) (fun y => y = a ∨ y = b) y) (fun y hy hf => ?_) (fun y z hy hc he hf => ?_)
  · exact Rch_nb cl (Or.inr rfl)
  · subst hy
    refine Rch_s rfl ?_
    rintro (e | e)
    · exact h2.2 (Rch_s e.symm (fun z => hne (z.symm ▸ rfl)))
    · exact h1.2 (Rch_s e.symm (fun z => hne (z ▸ rfl)))
  · refine Rch_e hy hc he ?_
    rintro (e | e)
    · subst e
      exact h2.2 (Rch_e hy (Rch_mono hc (fun _ q => q) (fun w q => Or.inr q)) he hne)
    · subst e
      exact h1.2 (Rch_e hy (Rch_mono hc (fun _ q => q) (fun w q => Or.inl q)) he (fun q => hne q.symm))
end DM
/-! the reference -/
def AlI (σ : mz_St) (n : Nat) (x : Int32) : Prop := ∃ k, k < n ∧ x = nI k ∧ Al σ n k
def DomI (σ : mz_St) (n : Nat) (x y : Int32) : Prop := ∃ i j, i < n ∧ j < n ∧ x = nI i ∧ y = nI j ∧ Dom σ n i j
theorem AlI_nI {σ : mz_St} {n k : Nat} (hn : n ≤ 10) (hk : k < 2 ^ 31) : AlI σ n (nI k) ↔ Al σ n k := by
  constructor
  · rintro ⟨j, hj, e, h⟩
    rw [nI_eq hk (by omega)] at e
    subst e; exact h
  · intro h; exact ⟨k, h.1, rfl, h⟩
theorem DomI_nI {σ : mz_St} {n i j : Nat} (hn : n ≤ 10) (hi : i < 2 ^ 31) (hj : j < 2 ^ 31) : DomI σ n (nI i) (nI j) ↔ Dom σ n i j := by
  constructor
  · rintro ⟨a, b, ha, hb, e1, e2, h⟩
    rw [nI_eq hi (by omega)] at e1
    rw [nI_eq hj (by omega)] at e2
    subst e1; subst e2; exact h
  · intro h; exact ⟨i, j, (Dom_al h).1, h.1.1, rfl, rfl, h⟩
theorem mm_rAlive {K : Int32 → mz_St → Prop} {σ : mz_St} {n : Nat} {x : Int32} (hP : PN σ n) (h : K (bz (tr (AlI σ n x))) σ) : mw_Ref_isAlive K x σ := by
  have hn := hP.1
  unfold mw_Ref_isAlive
  refine mm_isBlock hP.2.2.1 (bz_go (fun e => ?_) (fun e => ?_))
  · have : tr (AlI σ n x) = false := tr_f.mpr (fun ⟨k, hk, ex, _⟩ => by rw [ex, isblk_nI hn hk] at e; cases e)
    rw [this] at h; exact h
  · obtain ⟨k, hk, rfl⟩ := isblk_of hn e
    refine mm_reach (wb := fun _ => False) hP (Or.inl ⟨by decide, fun _ z => z⟩) (fun y hy => ?_) (fun r hr => ?_)
    · rw [b_1, decide_eq_true_eq] at hy; omega
    · have hk2 : bt r k = true ↔ Al σ n k := by
        rw [hr k]
        unfold Al
        constructor
        · intro z; exact ⟨hk, Rch_mono z (fun y e => by rw [b_1, decide_eq_true_eq] at e; exact e) (fun _ e => e)⟩
        · rintro ⟨-, z⟩; exact Rch_mono z (fun y e => by rw [b_1, decide_eq_true_eq]; exact e) (fun _ e => e)
      rw [b_is1 r (show k < 32 by omega), hk2]
      refine ⟨fun z => ?_, fun z => ?_⟩
      · rw [tr_f.mpr (fun q => z ((AlI_nI hn (by omega)).mp q))] at h; exact h
      · rw [tr_t.mpr ((AlI_nI hn (by omega)).mpr z)] at h; exact h
theorem mm_rDom {K : Int32 → mz_St → Prop} {σ : mz_St} {n : Nat} {x y : Int32} (hP : PN σ n) (h : K (bz (tr (DomI σ n x y))) σ) : mw_Ref_dominates K x y σ := by
  have hn := hP.1
  unfold mw_Ref_dominates
  refine mm_rAlive hP (bz_go (fun e => ?_) (fun e => mm_rAlive hP (bz_go (fun e2 => ?_) (fun e2 => ?_))))
  · rw [tr_f] at e
    rw [tr_f.mpr (fun ⟨i, j, hi, hj, e1, e2, hd⟩ => e ⟨i, hi, e1, Dom_al hd⟩)] at h; exact h
  · rw [tr_f] at e2
    rw [tr_f.mpr (fun ⟨i, j, hi, hj, e1, e3, hd⟩ => e2 ⟨j, hj, e3, hd.1⟩)] at h; exact h
  · rw [tr_t] at e e2
    obtain ⟨i, hi, rfl, ai⟩ := e
    obtain ⟨j, hj, rfl, aj⟩ := e2
    intro P34 hP34
    have yes : Dom σ n i j → P34 σ := fun hd => hP34 _ (by unfold mw_Ref_dominates_34; rw [tr_t.mpr ((DomI_nI hn (by omega) (by omega)).mpr hd)] at h; exact h)
    rw [nI_eq (by omega) (by omega)]
    refine ⟨fun e => yes (by subst e; exact Dom_rf ai), fun e => mm_reach (wb := fun q => q = i) hP (Or.inr ⟨i, by omega, rfl, fun _ => Iff.rfl⟩) (fun q hq => ?_) (fun r hr => ?_)⟩
    · rw [b_1, decide_eq_true_eq] at hq; omega
    · have hr2 : bt r j = true ↔ Rch n (gX σ n) (fun q => q = 0) (fun q => q = i) j := by
        rw [hr j]
        constructor
        · intro z; exact Rch_mono z (fun q e => by rw [b_1, decide_eq_true_eq] at e; exact e) (fun _ e => e)
        · intro z; exact Rch_mono z (fun q e => by rw [b_1, decide_eq_true_eq]; exact e) (fun _ e => e)
      rw [b_is0 r (show j < 32 by omega)]
      refine ⟨fun z => ?_, fun z => yes ⟨aj, fun q => by rw [hr2.mpr q] at z; cases z⟩⟩
      rw [tr_f.mpr (fun q => z (by
        have hd := (DomI_nI hn (by omega) (by omega)).mp q
        cases e3 : bt r j
        · rfl
        · exact absurd (hr2.mp e3) hd.2))] at h
      exact h

/-! the order: going through, by calls (class) and by a stack (reference) -/
abbrev Ds : Type := Int32 × List Nat
def rsx (h : Nat → Ds → Ds) (E t0 t1 e : Nat) (s : Ds) : Ds := if e ≤ 1 ∧ 2 ≤ E then h t1 (if e = 0 ∧ 1 ≤ E then h t0 s else s) else (if e = 0 ∧ 1 ≤ E then h t0 s else s)
theorem rsx_s {h : Nat → Ds → Ds} {E t0 t1 e : Nat} {s : Ds} (hE : E ≤ 2) (he : e < E) : rsx h E t0 t1 e s = rsx h E t0 t1 (e + 1) (h (if e = 0 then t0 else t1) s) := by
  unfold rsx
  have : e = 0 ∨ e = 1 := by omega
  rcases this with rfl | rfl
  · have h1 : 1 ≤ E := by omega
    by_cases h2 : 2 ≤ E <;> simp [h1, h2]
  · have h2 : 2 ≤ E := by omega
    simp [h2]
theorem rsx_e {h : Nat → Ds → Ds} {E t0 t1 e : Nat} {s : Ds} (he : E ≤ e) : rsx h E t0 t1 e s = s := by
  unfold rsx
  rw [if_neg (by omega), if_neg (by omega)]
def eC (σ : mz_St) (k : Nat) : Nat := (σ 17 k).toNatClampNeg
def eT (σ : mz_St) (k j : Nat) : Nat := (if j = 0 then σ 19 k else σ 20 k).toNatClampNeg
def mark (k : Nat) (s : Ds) : Ds := (s.1 ||| ((1 : Int32) <<< (nI k &&& 31)), s.2)
def dgo (σ : mz_St) : Nat → Nat → Ds → Ds
  | 0, _, s => s
  | f + 1, k, s => if bt s.1 k = true then s else ((rsx (dgo σ f) (eC σ k) (eT σ k 0) (eT σ k 1) 0 (mark k s)).1, (rsx (dgo σ f) (eC σ k) (eT σ k 0) (eT σ k 1) 0 (mark k s)).2 ++ [k])
theorem dgo_s {σ : mz_St} {f k : Nat} {s : Ds} : dgo σ (f + 1) k s = if bt s.1 k = true then s else ((rsx (dgo σ f) (eC σ k) (eT σ k 0) (eT σ k 1) 0 (mark k s)).1, (rsx (dgo σ f) (eC σ k) (eT σ k 0) (eT σ k 1) 0 (mark k s)).2 ++ [k]) := rfl
theorem PN_eC {σ : mz_St} {n k : Nat} (hP : PN σ n) (hk : k < n) : σ 17 k = nI (eC σ k) ∧ eC σ k ≤ 2 := by
  obtain ⟨e, he, h⟩ := PN_e hP hk
  unfold eC
  rw [h, nI_clamp (by omega)]
  exact ⟨rfl, he⟩
theorem PN_eT {σ : mz_St} {n k : Nat} (hP : PN σ n) (hk : k < n) (j : Nat) : (if j = 0 then σ 19 k else σ 20 k) = nI (eT σ k j) ∧ eT σ k j < n := by
  have hn := hP.1
  obtain ⟨t, ht, h⟩ := tg_lt hP hk j
  unfold eT
  rw [h, nI_clamp (by omega)]
  exact ⟨rfl, ht⟩
theorem Sm_dgo {σ u : mz_St} (h : Sm σ u) : ∀ f, dgo u f = dgo σ f
  | 0 => rfl
  | f + 1 => by
    funext k s
    rw [dgo_s, dgo_s, Sm_dgo h f]
    unfold eC eT
    rw [h 17 (by decide), h 19 (by decide), h 20 (by decide)]
/-- marked ones: as many as are out or on the way -/
def cb (x : Int32) : Nat := cn (fun i => bt x i) 10
theorem cb_le (x : Int32) : cb x ≤ 10 := cn_le _ 10
theorem cb_mark {x : Int32} {k : Nat} (hk : k < 10) (h : bt x k = false) : cb x + 1 ≤ cb (x ||| ((1 : Int32) <<< (nI k &&& 31))) := by
  have := cn_lt (p := fun i => bt x i) (q := fun i => bt (x ||| ((1 : Int32) <<< (nI k &&& 31))) i) (fun i hi => by show bt _ i = true; rw [b_or, hi]; rfl) (j := k) (by show bt _ k = true; rw [b_or, b_one (by omega)]; simp) h 10 hk
  exact this
def Dok (n L : Nat) (s : Ds) : Prop := s.2.length + L ≤ cb s.1 ∧ ∀ k, k ∈ s.2 → k < n
def RepC (v : mz_St) (s : Ds) : Prop := v 1005 0 = s.1 ∧ v 1006 0 = nI s.2.length ∧ ∀ i, i < s.2.length → v 24 i = nI (s.2.getD i 0)
theorem getD_app {l : List Nat} {k i : Nat} : (l ++ [k]).getD i 0 = if i < l.length then l.getD i 0 else if i = l.length then k else 0 := by
  simp only [List.getD_eq_getElem?_getD]
  by_cases h : i < l.length
  · rw [if_pos h, List.getElem?_append_left h]
  · rw [if_neg h, List.getElem?_append_right (by omega)]
    by_cases h2 : i = l.length
    · subst h2; simp
    · rw [if_neg h2, List.getElem?_eq_none (by simp; omega)]
      rfl
/-- going through: what it does, and that it stays in bounds -/
theorem mm_goThrough (σ : mz_St) (n : Nat) (hP : PN σ n) : ∀ (d k : Nat) (s : Ds) (u : mz_St) (K : mz_St → Prop), d ≤ 10 → k < n → mf [24, 1005, 1006] σ u → RepC u s → Dok n (10 - d) s → (∀ v, mf [24, 1005, 1006] σ v → RepC v (dgo σ d k s) → Dok n (10 - d) (dgo σ d k s) → K v) → mwD_Flow_goThrough d K (nI k) (nI (10 - d)) u := by
  have hn := hP.1
  intro d
  induction d with
  | zero =>
    intro k s u K _ hk hm hR hD h
    show mwF_Flow_goThrough (fun _ _ _ _ => False) K (nI k) (nI (10 - 0)) u
    unfold mwF_Flow_goThrough
    exact mm_isIn (by omega) (bz_og (fun _ => h u hm hR hD) (fun _ => ⟨fun z => absurd z (by decide), fun _ => h u hm hR hD⟩))
  | succ d ih =>
    intro k s u K hd hk hm hR hD h
    show mwF_Flow_goThrough (mwD_Flow_goThrough d) K (nI k) (nI (10 - (d + 1))) u
    unfold mwF_Flow_goThrough
    rw [hR.1]
    refine mm_isIn (by omega) (bz_og (fun e => ?_) (fun e => ⟨fun _ => ?_, fun z => absurd (nI_lt (b := 10) (by omega) (by decide)) z⟩))
    · have e2 : dgo σ (d + 1) k s = s := by rw [dgo_s, if_pos e]
      rw [e2] at h
      exact h u hm hR hD
    have hE := PN_eC hP hk
    have e2 : dgo σ (d + 1) k s = ((rsx (dgo σ d) (eC σ k) (eT σ k 0) (eT σ k 1) 0 (mark k s)).1, (rsx (dgo σ d) (eC σ k) (eT σ k 0) (eT σ k 1) 0 (mark k s)).2 ++ [k]) := by rw [dgo_s, if_neg (by rw [e]; decide)]
    rw [e2] at h
    have hm0 : mf [24, 1005, 1006] σ (mz_up u 1005 0 (s.1 ||| ((1 : Int32) <<< (nI k &&& 31)))) := mf_tr hm (mf_up (by decide))
    have hR0 : RepC (mz_up u 1005 0 (s.1 ||| ((1 : Int32) <<< (nI k &&& 31)))) (mark k s) := ⟨up_at, by rw [up_row (by decide)]; exact hR.2.1, fun i hi => by rw [up_row (by decide)]; exact hR.2.2 i hi⟩
    have hD0 : Dok n (10 - d) (mark k s) := by
      refine ⟨?_, hD.2⟩
      have h1 := cb_mark (x := s.1) (k := k) (by omega) e
      have h2 := hD.1
      show s.2.length + (10 - d) ≤ cb (s.1 ||| ((1 : Int32) <<< (nI k &&& 31)))
      omega
    rw [hR.1]
    refine lf1 (fun m x v => ∃ (j : Nat) (s1 : Ds), x = nI j ∧ j ≤ eC σ k ∧ m = eC σ k - j ∧ mf [24, 1005, 1006] σ v ∧ RepC v s1 ∧ Dok n (10 - d) s1 ∧ rsx (dgo σ d) (eC σ k) (eT σ k 0) (eT σ k 1) j s1 = rsx (dgo σ d) (eC σ k) (eT σ k 0) (eT σ k 1) 0 (mark k s)) ?_ (eC σ k) 0 _ ⟨0, mark k s, rfl, by omega, rfl, hm0, hR0, hD0, rfl⟩
    rintro m P32 x v ⟨j, s1, rfl, hj, rfl, hv, hRv, hDv, hs⟩ hrec
    have hSv : Sm σ v := Sm_mf hv (by decide)
    have hPv := hSv.pn hP
    unfold mw_Flow_goThrough_32
    refine mm_edges hPv hk ?_
    rw [hSv 17 (by decide), hE.1]
    refine pk_le (eC σ k) j (fun hej => ?_) (fun hej => mm_target (by omega) (by omega) ?_)
    · rw [rsx_e hej] at hs
      have hl : s1.2.length < 10 := by
        have h1 := hDv.1
        have h2 := cb_le s1.1
        omega
      rw [hRv.2.1, mz_wrn (by omega)]
      refine ⟨vp_in_nI hl (by decide), ?_⟩
      have e3 : mz_up v 24 s1.2.length (nI k) 1006 0 + 1 = nI (s1.2.length + 1) := by rw [up_row (by decide), hRv.2.1, nI_k1]
      rw [e3]
      refine h _ (mf_tr (mf_tr hv (mf_up (by decide))) (mf_up (by decide))) ?_ ?_
      · rw [← hs]
        refine ⟨by rw [up_row (by decide), up_row (by decide)]; exact hRv.1, by rw [up_at, List.length_append]; rfl, fun i hi => ?_⟩
        rw [up_row (by decide), getD_app]
        rw [List.length_append] at hi
        have hi : i < s1.2.length + 1 := hi
        by_cases hil : i < s1.2.length
        · rw [if_pos hil, up_ot (by omega)]
          exact hRv.2.2 i hil
        · have : i = s1.2.length := by omega
          subst this
          rw [if_neg hil, if_pos rfl, up_at]
      · rw [← hs]
        refine ⟨?_, fun q hq => ?_⟩
        · show (s1.2 ++ [k]).length + _ ≤ _
          rw [List.length_append]
          have h1 := hDv.1
          show s1.2.length + 1 + (10 - (d + 1)) ≤ cb s1.1
          omega
        · rcases List.mem_append.mp hq with hq | hq
          · exact hDv.2 q hq
          · rw [List.mem_singleton.mp hq]; exact hk
    · have hT := PN_eT hP hk j
      rw [hSv 19 (by decide), hSv 20 (by decide), hT.1, nI_k1]
      have e4 : nI (10 - (d + 1)) + 1 = nI (10 - d) := by rw [nI_k1]; congr 1; omega
      rw [e4]
      refine ih (eT σ k j) s1 v _ (by omega) hT.2 hv hRv hDv (fun w hw hRw hDw => ?_)
      refine hrec (eC σ k - (j + 1)) _ w (by omega) ⟨j + 1, dgo σ d (eT σ k j) s1, rfl, by omega, rfl, hw, hRw, hDw, ?_⟩
      rw [← hs, rsx_s (s := s1) hE.2 (by omega)]
      have : (if j = 0 then eT σ k 0 else eT σ k 1) = eT σ k j := by
        by_cases hj0 : j = 0
        · rw [if_pos hj0, hj0]
        · rw [if_neg hj0, show j = 1 by have := hE.2; omega]
      rw [this]
/-- the order found: the list out, from its last -/
noncomputable def outL (σ : mz_St) (n : Nat) : List Nat := if n = 0 then [] else (dgo σ 10 0 (0, [])).2
theorem Sm_out {σ u : mz_St} (h : Sm σ u) (n : Nat) : outL u n = outL σ n := by
  unfold outL; rw [Sm_dgo h 10]
def ordOK (σ : mz_St) (n : Nat) : Prop := (outL σ n).length ≤ 10 ∧ (∀ k, k ∈ outL σ n → k < n) ∧ σ 1006 0 = nI (outL σ n).length ∧ ∀ i, i < (outL σ n).length → σ 24 i = nI ((outL σ n).getD ((outL σ n).length - 1 - i) 0)
theorem mm_findOrder {K : mz_St → Prop} {σ : mz_St} {n : Nat} (hP : PN σ n) (h : ∀ u, mf [24, 1005, 1006] σ u → ordOK u n → K u) : mw_Flow_findOrder K σ := by
  have hn := hP.1
  unfold mw_Flow_findOrder
  intro P26 hP26
  have hm0 : mf [24, 1005, 1006] σ (mz_up (mz_up σ 1005 0 0) 1006 0 0) := mf_tr (mf_up (by decide)) (mf_up (by decide))
  have rev : ∀ u, mf [24, 1005, 1006] σ u → RepC u ((u 1005 0), outL σ n) → (outL σ n).length ≤ 10 → (∀ k, k ∈ outL σ n → k < n) → P26 u := by
    intro u hm hR hl hlt
    apply hP26
    unfold mw_Flow_findOrder_26
    generalize hc : (outL σ n).length = c at hl
    have r06 : u 1006 0 = nI c := by rw [hR.2.1, ← hc]
    have r24 : ∀ i, i < c → u 24 i = nI ((outL σ n).getD i 0) := fun i hi => hR.2.2 i (by rw [hc]; exact hi)
    refine lf1 (fun m x v => ∃ k, x = nI k ∧ k ≤ c / 2 ∧ m = c / 2 - k ∧ mf [24, 1005, 1006] σ v ∧ v 1006 0 = nI c ∧ ∀ i, i < c → v 24 i = if i < k ∨ c - k ≤ i then nI ((outL σ n).getD (c - 1 - i) 0) else nI ((outL σ n).getD i 0)) ?_ (c / 2) 0 u ⟨0, rfl, by omega, rfl, hm, r06, fun i hi => by rw [if_neg (by omega)]; exact r24 i hi⟩
    rintro m P28 x v ⟨k, rfl, hk, rfl, hv, v06, v24⟩ hrec
    unfold mw_Flow_findOrder_28
    have e2 : nI c / 2 = nI (c / 2) := by rw [show (2 : Int32) = nI 2 from rfl, pk_div (by omega) (by omega) (by omega)]
    refine ⟨by decide, ?_⟩
    rw [v06, e2]
    refine pk_le (c / 2) k (fun hck => h v hv ?_) (fun hck => ?_)
    · have hSv : Sm σ v := Sm_mf hv (by decide)
      unfold ordOK
      rw [Sm_out hSv, hc]
      refine ⟨hl, hlt, v06, fun i hi => ?_⟩
      rw [v24 i hi]
      by_cases hz : i < k ∨ c - k ≤ i
      · rw [if_pos hz]
      · rw [if_neg hz]
        congr 2
        omega
    · have e3 : nI c - 1 - nI k = nI (c - 1 - k) := by
        rw [show (1 : Int32) = nI 1 from rfl, pk_sub (by omega), pk_sub (by omega)]
      have e4 : (mz_wr v 24 (nI k) (mz_rd v 24 (nI (c - 1 - k)))) 1006 0 - 1 - nI k = nI (c - 1 - k) := by
        rw [mz_wrn (by omega), up_row (by decide), v06, e3]
      rw [e3, e4, nI_k1]
      simp only [mz_wrn (show k < 2 ^ 31 by omega), mz_wrn (show c - 1 - k < 2 ^ 31 by omega), mz_rdn (show k < 2 ^ 31 by omega), mz_rdn (show c - 1 - k < 2 ^ 31 by omega)]
      refine ⟨vp_in_nI (by omega) (by decide), vp_in_nI (by omega) (by decide), vp_in_nI (by omega) (by decide), vp_in_nI (by omega) (by decide), ?_⟩
      refine hrec (c / 2 - (k + 1)) _ _ (by omega) ⟨k + 1, rfl, by omega, rfl, mf_tr (mf_tr hv (mf_up (by decide))) (mf_up (by decide)), by rw [up_row (by decide), up_row (by decide)]; exact v06, fun i hi => ?_⟩
      by_cases h1 : i = c - 1 - k
      · subst h1
        rw [up_at, v24 k (by omega), if_neg (by omega), if_pos (by omega)]
        congr 2
        omega
      · rw [up_ot h1]
        by_cases h2 : i = k
        · subst h2
          rw [up_at, v24 (c - 1 - i) (by omega), if_neg (by omega), if_pos (by omega)]
        · rw [up_ot h2, v24 i hi]
          by_cases hz : i < k ∨ c - k ≤ i
          · rw [if_pos hz, if_pos (by omega)]
          · rw [if_neg hz, if_neg (by omega)]
  have e0 : mz_up (mz_up σ 1005 0 0) 1006 0 0 1003 0 = nI n := by rw [up_row (by decide), up_row (by decide)]; exact hP.2.1
  rw [e0]
  have hR0 : RepC (mz_up (mz_up σ 1005 0 0) 1006 0 0) (0, []) := ⟨by rw [up_row (by decide), up_at], up_at, fun i hi => absurd hi (by simp)⟩
  refine pk_le n 0 (fun hn0 => ?_) (fun hn0 => ?_)
  · have : n = 0 := by omega
    have eo : outL σ n = [] := by unfold outL; rw [if_pos this]
    refine rev _ hm0 ?_ (by rw [eo]; simp) (by rw [eo]; simp)
    rw [eo]
    exact ⟨rfl, up_at, fun i hi => absurd hi (by simp)⟩
  · have eo : outL σ n = (dgo σ 10 0 (0, [])).2 := by unfold outL; rw [if_neg (by omega)]
    refine mm_goThrough σ n hP 10 0 (0, []) _ _ (by omega) hn0 hm0 hR0 ⟨by simp, fun k hk => by simp at hk⟩ (fun v hv hRv hDv => ?_)
    refine rev v hv ?_ ?_ ?_
    · rw [eo]
      exact ⟨rfl, hRv.2.1, hRv.2.2⟩
    · rw [eo]
      have h1 := hDv.1
      have h2 := cb_le (dgo σ 10 0 (0, [])).1
      omega
    · rw [eo]
      exact hDv.2

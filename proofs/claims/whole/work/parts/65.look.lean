/-! the look, and the six calls that look -/
def FlowOK (σ : mz_St) (n : Nat) : Prop := nextOK σ n ∧ aliveOK σ n ∧ prevOK σ n ∧ ordOK σ n ∧ domOK σ n ∧ nearOK σ n ∧ frOK σ n ∧ depOK σ n ∧ readOK σ n ∧ writeOK σ n ∧ liveOK σ n ∧ phiOK σ n
def fR : List Nat := [22, 23, 24, 25, 26, 27, 28, 29, 30, 31, 32, 1004, 1006]
theorem Flow_congr {σ u : mz_St} {n : Nat} (hS : Sm σ u) (h : ∀ a, a ∈ fR → u a = σ a) (hF : FlowOK σ n) : FlowOK u n := by
  unfold FlowOK nextOK aliveOK prevOK ordOK domOK nearOK nearV frOK depOK readOK writeOK liveOK phiOK at *
  rw [h 22 (by decide), h 23 (by decide), h 24 (by decide), h 25 (by decide), h 26 (by decide), h 27 (by decide), h 28 (by decide), h 29 (by decide), h 30 (by decide), h 31 (by decide), h 32 (by decide), h 1004 (by decide), h 1006 (by decide), Sm_gX hS, Sm_Al hS, Sm_Dom hS, Sm_out hS, Sm_Idm hS, Sm_Fr hS, Sm_dep hS, Sm_RdF hS, Sm_WrF hS, Sm_Lv hS, Sm_Mt hS]
  exact hF
def FW : List Nat := [22, 23, 1004, 24, 1005, 1006, 25, 26, 27, 28]
def LW : List Nat := [22, 23, 1004, 24, 1005, 1006, 25, 26, 27, 28, 29, 30, 31, 32, 1000]
theorem mm_flowLook {K : mz_St → Prop} {σ : mz_St} {n : Nat} (hP : PN σ n) (h : ∀ u, mf FW σ u → nextOK u n → aliveOK u n → prevOK u n → ordOK u n → domOK u n → nearOK u n → frOK u n → depOK u n → K u) : mw_Flow_lookAt K σ := by
  have hn := hP.1
  unfold mw_Flow_lookAt
  refine mm_findEdges hP (fun u1 m1 n1 a1 p1 => ?_)
  have S1 : Sm σ u1 := Sm_mf m1 (by decide)
  refine mm_findOrder (S1.pn hP) (fun u2 m2 o2 => ?_)
  have S2 : Sm u1 u2 := Sm_mf m2 (by decide)
  have n2' := next_mf m2 (by decide) (by decide) n1
  have a2' := alive_mf m2 (by decide) (by decide) a1
  have p2' := prev_mf m2 (by decide) (by decide) p1
  refine mm_findDominators (S2.pn (S1.pn hP)) n2' a2' (fun u3 m3 d3 => ?_)
  have S3 : Sm u2 u3 := Sm_mf m3 (by decide)
  have P3 : PN u3 n := S3.pn (S2.pn (S1.pn hP))
  have m13 : mf FW σ u3 := mf_tr (mf_tr (mf_mono m1 (by decide)) (mf_mono m2 (by decide))) (mf_mono m3 (by decide))
  have n3' := next_mf m3 (by decide) (by decide) n2'
  have a3' := alive_mf m3 (by decide) (by decide) a2'
  have p3' := prev_mf m3 (by decide) (by decide) p2'
  have o3' : ordOK u3 n := by
    unfold ordOK at o2 ⊢
    rw [Sm_out S3, m3 24 (by decide), m3 1006 (by decide)]
    exact o2
  refine lf1 (fun m x v => ∃ i, x = nI i ∧ i ≤ n ∧ m = n - i ∧ mf [26, 27] u3 v ∧ ∀ b, b < i → nearV u3 n b (v 26 b) ∧ ∀ c, bt (v 27 b) c = true ↔ c < n ∧ Fr u3 n b c) ?_ n 0 u3 ⟨0, rfl, by omega, rfl, mf_rf, fun b hb => absurd hb (by omega)⟩
  rintro m P14 x v ⟨i, rfl, hi, rfl, hv, hb⟩ hrec
  have Sv : Sm u3 v := Sm_mf hv (by decide)
  have Pv := Sv.pn P3
  unfold mw_Flow_lookAt_14
  rw [Pv.2.1]
  refine pk_le n i (fun hin => ?_) (fun hin => ?_)
  · have ei : i = n := by omega
    subst ei
    have nv := next_mf hv (by decide) (by decide) n3'
    have av := alive_mf hv (by decide) (by decide) a3'
    have pv := prev_mf hv (by decide) (by decide) p3'
    have dv := dom_mf hv (by decide) (by decide) d3
    have hf0 : mf [26, 27, 28] u3 (mz_fl v 28 10 0) := mf_tr (mf_mono hv (by decide)) (mf_fl (by decide))
    refine lf1 (fun m x w => ∃ j, x = nI j ∧ j ≤ i ∧ m = i - j ∧ mf [28] v w ∧ ∀ b, b < i → Al u3 i b → w 28 b = nI (dep u3 i b j)) ?_ i 0 _ ⟨0, rfl, by omega, rfl, mf_fl (by decide), fun b hb2 _ => by rw [fl_at (by omega)]; rfl⟩
    rintro m P51 x w ⟨j, rfl, hj, rfl, hw, hd⟩ hrec2
    have Sw : Sm v w := Sm_mf hw (by decide)
    have Pw := Sw.pn Pv
    have S3w : Sm u3 w := Sm_tr Sv Sw
    unfold mw_Flow_lookAt_51
    rw [Pw.2.1]
    refine pk_le i j (fun hij => ?_) (fun hij => ?_)
    · have ej : j = i := by omega
      subst ej
      have mw : mf [26, 27, 28] u3 w := mf_tr (mf_mono hv (by decide)) (mf_mono hw (by decide))
      refine h w (mf_tr m13 (mf_mono mw (by decide))) (next_mf hw (by decide) (by decide) nv) (alive_mf hw (by decide) (by decide) av) (prev_mf hw (by decide) (by decide) pv) ?_ (dom_mf hw (by decide) (by decide) dv) (fun b hb2 => ?_) (fun b hb2 c => ?_) (fun b hb2 hab => ?_)
      · unfold ordOK at o3' ⊢
        rw [Sm_out S3w, mw 24 (by decide), mw 1006 (by decide)]
        exact o3'
      · unfold nearV
        rw [Sm_Idm S3w, hw 26 (by decide)]
        exact (hb b hb2).1
      · rw [Sm_Fr S3w, hw 27 (by decide)]
        exact (hb b hb2).2 c
      · rw [Sm_dep S3w]
        rw [Sm_Al S3w] at hab
        exact hd b hb2 hab
    · refine mm_countLoop Pw (by omega) (next_mf hw (by decide) (by decide) nv) (alive_mf hw (by decide) (by decide) av) (dom_mf hw (by decide) (by decide) dv) (fun b hb2 hab => ?_) (fun y hy hd2 => ?_)
      · rw [Sm_dep S3w]
        rw [Sm_Al S3w] at hab
        exact hd b hb2 hab
      · rw [nI_k1]
        refine hrec2 (i - (j + 1)) _ y (by omega) ⟨j + 1, rfl, by omega, rfl, mf_tr hw hy, fun b hb2 hab => ?_⟩
        have := hd2 b hb2 (by rw [Sm_Al S3w]; exact hab)
        rw [Sm_dep S3w] at this
        exact this
  · refine mm_findNearest Pv (by omega) (dom_mf hv (by decide) (by decide) d3) (fun y hy ho hn2 => ?_)
    have Sy : Sm v y := Sm_mf hy (by decide)
    have S3y : Sm u3 y := Sm_tr Sv Sy
    have mvy : mf [26, 27] u3 y := mf_tr hv (mf_mono hy (by decide))
    refine mm_findFrontier (Sy.pn Pv) (by omega) (next_mf mvy (by decide) (by decide) n3') (dom_mf mvy (by decide) (by decide) d3) (fun z hz ho2 hf => ?_)
    rw [nI_k1]
    refine hrec (n - (i + 1)) _ z (by omega) ⟨i + 1, rfl, by omega, rfl, mf_tr mvy (mf_mono hz (by decide)), fun b hb2 => ?_⟩
    by_cases hbi : b = i
    · subst hbi
      refine ⟨?_, fun c => ?_⟩
      · rw [hz 26 (by decide)]
        unfold nearV at hn2 ⊢
        rw [Sm_Idm Sv] at hn2
        exact hn2
      · have := hf c
        rw [Sm_Fr S3y] at this
        exact this
    · refine ⟨?_, fun c => ?_⟩
      · rw [hz 26 (by decide), ho b hbi]
        exact (hb b (by omega)).1
      · rw [ho2 b hbi, hy 27 (by decide)]
        exact (hb b (by omega)).2 c
def LK (σ : mz_St) : Prop := σ 1000 0 = 0 ∨ (σ 1000 0 = 1 ∧ ∀ n, PN σ n → FlowOK σ n)
def LM (σ : mz_St) : Prop := LK σ ∧ (σ 1001 0 = -1 ∨ CO σ) ∧ σ 1012 0 = 0
theorem PN_u {σ : mz_St} {n m : Nat} (h : PN σ n) (h' : PN σ m) : n = m := by
  have e := h.2.1.symm.trans h'.2.1
  rw [nI_eq (by have := h.1; omega) (by have := h'.1; omega)] at e
  exact e
theorem mm_look {K : mz_St → Prop} {σ : mz_St} {n : Nat} (hP : PN σ n) (hL : LK σ) (h : ∀ u, mf LW σ u → FlowOK u n → u 1000 0 = 1 → K u) : mw_Mill_look K σ := by
  unfold mw_Mill_look
  refine ⟨fun _ => ?_, fun e => ?_⟩
  · refine mm_flowLook hP (fun u m1 h1 h2 h3 h4 h5 h6 h7 h8 => ?_)
    have S1 : Sm σ u := Sm_mf m1 (by decide)
    refine mm_livesLookAt (S1.pn hP) h2 h7 (fun v m2 g1 g2 g3 g4 => ?_)
    have S2 : Sm u v := Sm_mf m2 (by decide)
    have hm : mf LW σ (mz_up v 1000 0 1) := mf_tr (mf_tr (mf_mono m1 (by decide)) (mf_mono m2 (by decide))) (mf_up (by decide))
    refine h _ hm ?_ up_at
    have hu : FlowOK v n := by
      refine ⟨next_mf m2 (by decide) (by decide) h1, alive_mf m2 (by decide) (by decide) h2, prev_mf m2 (by decide) (by decide) h3, ?_, dom_mf m2 (by decide) (by decide) h5, ?_, fr_mf m2 (by decide) (by decide) h7, ?_, g1, g2, g3, g4⟩
      · unfold ordOK at h4 ⊢
        rw [Sm_out S2, m2 24 (by decide), m2 1006 (by decide)]
        exact h4
      · unfold nearOK nearV at h6 ⊢
        rw [Sm_Idm S2, m2 26 (by decide)]
        exact h6
      · unfold depOK at h8 ⊢
        rw [Sm_Al S2, Sm_dep S2, m2 28 (by decide)]
        exact h8
    exact Flow_congr (Sm_mf (W := [1000]) (mf_up (by decide)) (by decide)) (fun a ha => up_row (by rintro rfl; revert ha; decide)) hu
  · rcases hL with z | ⟨z1, z2⟩
    · exact absurd z e
    · exact h σ mf_rf (z2 n hP) z1
theorem look_inv {σ u : mz_St} {n : Nat} (hI : Inv LM σ) (hP : PN σ n) (hm : mf LW σ u) (hF : FlowOK u n) (h1 : u 1000 0 = 1) : Inv LM u := by
  have hS : Sm σ u := Sm_mf hm (by decide)
  obtain ⟨-, hT, hR, -, hM, hZ⟩ := hI
  refine ⟨⟨n, hS.pn hP⟩, TI_mf hm (by decide) (by decide) hT, RI_mf hm (by decide) hR, Or.inr ⟨h1, fun m hm2 => by rw [PN_u hm2 (hS.pn hP)]; exact hF⟩, ?_, by rw [hm 1012 (by decide)]; exact hZ⟩
  rw [hm 1001 (by decide)]
  exact hM.imp id (CO_congr hS (fun a ha => hm a (by revert ha; revert a; decide)))
theorem lk_nearest : Lk1 LM mw_Mill_nearest mw_Ref_nearest := by
  intro σ a0 K2 R hI hR hK
  obtain ⟨n, hP⟩ := hI.1
  have hn := hP.1
  unfold mw_Mill_nearest
  refine mm_look hP hI.2.2.2.1 (fun u hm hF h1 => ?_)
  have hIu := look_inv hI hP hm hF h1
  have hPu : PN u n := (Sm_mf hm (by decide) : Sm σ u).pn hP
  have fin : ∀ r, NearR u n a0 r → R r u := fun r hr => hR r u (mm_rNear hPu (fun r' hr' => by rw [NearR_u hn hr' hr]; exact hK r u hIu))
  refine mm_cAlive hPu hF.2.1 (bz_go (fun e => fin _ ?_) (fun e => ?_))
  · rw [tr_f] at e
    by_cases hx : ∃ b, b < n ∧ a0 = nI b
    · obtain ⟨b, hb, rfl⟩ := hx
      exact Or.inl ⟨b, hb, rfl, Or.inr ⟨fun a ha => e ⟨b, hb, rfl, ha.2.1.1⟩, rfl⟩⟩
    · exact Or.inr ⟨fun b hb z => hx ⟨b, hb, z⟩, rfl⟩
  · rw [tr_t] at e
    obtain ⟨b, hb, rfl, hab⟩ := e
    rw [mz_rdn (by omega)]
    exact ⟨vp_in_nI (by omega) (by decide), fin _ (Or.inl ⟨b, hb, rfl, hF.2.2.2.2.2.1 b hb⟩)⟩
theorem lk_depth : Lk1 LM mw_Mill_depth mw_Ref_depth := by
  intro σ a0 K2 R hI hR hK
  obtain ⟨n, hP⟩ := hI.1
  have hn := hP.1
  unfold mw_Mill_depth
  refine mm_look hP hI.2.2.2.1 (fun u hm hF h1 => ?_)
  have hIu := look_inv hI hP hm hF h1
  have hPu : PN u n := (Sm_mf hm (by decide) : Sm σ u).pn hP
  have fin : ∀ r, depR u n a0 r → R r u := fun r hr => hR r u (mm_rDep hPu (fun r' hr' => by rw [depR_u hn hr' hr]; exact hK r u hIu))
  refine mm_cAlive hPu hF.2.1 (bz_go (fun e => fin _ (Or.inr ⟨tr_f.mp e, rfl⟩)) (fun e => ?_))
  rw [tr_t] at e
  obtain ⟨b, hb, rfl, hab⟩ := e
  rw [mz_rdn (by omega)]
  exact ⟨vp_in_nI (by omega) (by decide), fin _ (Or.inl ⟨b, hab, rfl, hF.2.2.2.2.2.2.2.1 b hb hab⟩)⟩
theorem Fr_al {σ : mz_St} {n a c : Nat} (h : Fr σ n a c) : Al σ n a := by
  obtain ⟨⟨f, h2, h3⟩, -⟩ := h
  exact Dom_al h2
theorem lk_frontier : Lk2 LM mw_Mill_frontier mw_Ref_frontier := by
  intro σ a0 a1 K2 R hI hR hK
  obtain ⟨n, hP⟩ := hI.1
  have hn := hP.1
  unfold mw_Mill_frontier
  refine mm_look hP hI.2.2.2.1 (fun u hm hF h1 => ?_)
  have hIu := look_inv hI hP hm hF h1
  have hPu : PN u n := (Sm_mf hm (by decide) : Sm σ u).pn hP
  have fin : ∀ b : Bool, b = tr (FrI u n a0 a1) → R (bz b) u := fun b hb => hR _ u (mm_rFr hPu (by rw [← hb]; exact hK _ u hIu))
  refine mm_cAlive hPu hF.2.1 (bz_go (fun e => fin false (tr_f.mpr (fun ⟨a, c, ha, hc, e1, e2, z⟩ => (tr_f.mp e) ⟨a, ha, e1, Fr_al z⟩)).symm) (fun e => mm_cAlive hPu hF.2.1 (bz_go (fun e2 => fin false (tr_f.mpr (fun ⟨a, c, ha, hc, e1, e3, z⟩ => (tr_f.mp e2) ⟨c, hc, e3, (Fr_lt z).2⟩)).symm) (fun e2 => ?_))))
  rw [tr_t] at e e2
  obtain ⟨a, ha, rfl, haa⟩ := e
  obtain ⟨c, hc, rfl, hac⟩ := e2
  have hFI : FrI u n (nI a) (nI c) ↔ Fr u n a c := by
    constructor
    · rintro ⟨a', c', ha', hc', e5, e6, z2⟩
      rw [nI_eq (by omega) (by omega)] at e5 e6
      subst e5; subst e6; exact z2
    · intro z2; exact ⟨a, c, ha, hc, rfl, rfl, z2⟩
  have hfr := hF.2.2.2.2.2.2.1 a ha c
  rw [mz_rdn (by omega)]
  refine ⟨vp_in_nI (by omega) (by decide), mm_isIn (by omega) (bz_go (fun e => fin false (tr_f.mpr (fun z => (by rw [hfr.mpr ⟨hc, hFI.mp z⟩] at e; cases e))).symm) (fun e => fin true (tr_t.mpr (hFI.mpr (hfr.mp e).2)).symm))⟩
theorem lk_live : Lk2 LM mw_Mill_live mw_Ref_live := by
  intro σ a0 a1 K2 R hI hR hK
  obtain ⟨n, hP⟩ := hI.1
  have hn := hP.1
  unfold mw_Mill_live
  refine mm_look hP hI.2.2.2.1 (fun u hm hF h1 => ?_)
  have hIu := look_inv hI hP hm hF h1
  have hPu : PN u n := (Sm_mf hm (by decide) : Sm σ u).pn hP
  have fin : ∀ b : Bool, b = tr (LvI u n a0 a1) → R (bz b) u := fun b hb => hR _ u (mm_rLive hPu (by rw [← hb]; exact hK _ u hIu))
  refine mm_hasBlock hPu.2.1 (bz_go (fun e => fin false (tr_f.mpr (fun ⟨k, t, hk, ht, e1, e2, z⟩ => (by rw [e1, isblk_nI hn hk] at e; cases e))).symm) (fun e => mm_isTemp (bz_go (fun e2 => fin false (tr_f.mpr (fun ⟨k, t, hk, ht, e1, e3, z⟩ => (by rw [e3, istemp_nI ht] at e2; cases e2))).symm) (fun e2 => ?_))))
  obtain ⟨k, hk, rfl⟩ := isblk_of hn e
  obtain ⟨t, ht, rfl⟩ := istemp_of e2
  have hlv := hF.2.2.2.2.2.2.2.2.2.2.1 k hk t
  rw [mz_rdn (by omega)]
  refine ⟨vp_in_nI (by omega) (by decide), mm_isIn (by omega) (bz_go (fun e => fin false (tr_f.mpr (fun ⟨k', t', hk', ht', e5, e6, z⟩ => (by
    rw [nI_eq (by omega) (by omega)] at e5 e6
    subst e5; subst e6
    rw [hlv.mpr ⟨ht, z⟩] at e; cases e))).symm) (fun e => fin true (tr_t.mpr ⟨k, t, hk, ht, rfl, rfl, (hlv.mp e).2⟩).symm))⟩
theorem lk_phi : Lk2 LM mw_Mill_phi mw_Ref_phi := by
  intro σ a0 a1 K2 R hI hR hK
  obtain ⟨n, hP⟩ := hI.1
  have hn := hP.1
  unfold mw_Mill_phi
  refine mm_look hP hI.2.2.2.1 (fun u hm hF h1 => ?_)
  have hIu := look_inv hI hP hm hF h1
  have hPu : PN u n := (Sm_mf hm (by decide) : Sm σ u).pn hP
  have fin : ∀ b : Bool, b = tr (PhI u n a0 a1) → R (bz b) u := fun b hb => hR _ u (mm_rPhi hPu (by rw [← hb]; exact hK _ u hIu))
  refine mm_hasBlock hPu.2.1 (bz_go (fun e => fin false (tr_f.mpr (fun ⟨k, t, hk, ht, e1, e2, z⟩ => (by rw [e1, isblk_nI hn hk] at e; cases e))).symm) (fun e => mm_isTemp (bz_go (fun e2 => fin false (tr_f.mpr (fun ⟨k, t, hk, ht, e1, e3, z⟩ => (by rw [e3, istemp_nI ht] at e2; cases e2))).symm) (fun e2 => ?_))))
  obtain ⟨k, hk, rfl⟩ := isblk_of hn e
  obtain ⟨t, ht, rfl⟩ := istemp_of e2
  have hlv := hF.2.2.2.2.2.2.2.2.2.2.2 k hk t
  rw [mz_rdn (by omega)]
  refine ⟨vp_in_nI (by omega) (by decide), mm_isIn (by omega) (bz_go (fun e => fin false (tr_f.mpr (fun ⟨k', t', hk', ht', e5, e6, z⟩ => (by
    rw [nI_eq (by omega) (by omega)] at e5 e6
    subst e5; subst e6
    rw [hlv.mpr ⟨ht, z⟩] at e; cases e))).symm) (fun e => fin true (tr_t.mpr ⟨k, t, hk, ht, rfl, rfl, (hlv.mp e).2⟩).symm))⟩
theorem lk_order : Lk1 LM mw_Mill_order mw_Ref_order := by
  intro σ a0 K2 R hI hR hK
  obtain ⟨n, hP⟩ := hI.1
  have hn := hP.1
  unfold mw_Mill_order
  refine mm_look hP hI.2.2.2.1 (fun u hm hF h1 => ?_)
  have hIu := look_inv hI hP hm hF h1
  have hPu : PN u n := (Sm_mf hm (by decide) : Sm σ u).pn hP
  obtain ⟨o1, o2, o3, o4⟩ := hF.2.2.2.1
  generalize hc : (outL u n).length = c at o1 o3 o4
  -- the reference leaves its own three rows
  have key : ∀ r, (∀ v, mf [70, 71, 72] u v → Rep70 v (outL u n) → (a0 < 0 → r = -1) ∧ (¬ a0 < 0 → (nI c ≤ a0 → r = -1) ∧ (¬ nI c ≤ a0 → vp_in (nI c - 1 - a0) 10 ∧ r = mz_rd v 70 (nI c - 1 - a0)))) → R r u := by
    intro r hr
    refine hR r u ?_
    unfold mw_Ref_order
    refine mm_note hPu (fun v hv h70 => ?_)
    rw [hc]
    have hIv : Inv LM v := by
      have hS : Sm u v := Sm_mf hv (by decide)
      obtain ⟨-, hT, hRi, hLK, hM, hZ⟩ := hIu
      refine ⟨⟨n, hS.pn hPu⟩, TI_mf hv (by decide) (by decide) hT, RI_mf hv (by decide) hRi, ?_, ?_, by rw [hv 1012 (by decide)]; exact hZ⟩
      · unfold LK
        rw [hv 1000 (by decide)]
        exact hLK.imp id (fun z => ⟨z.1, fun m hm2 => Flow_congr hS (fun a ha => hv a (by revert ha; revert a; decide)) (by rw [PN_u hm2 (hS.pn hPu)]; exact hF)⟩)
      · rw [hv 1001 (by decide)]
        exact hM.imp id (CO_congr hS (fun a ha => hv a (by revert ha; revert a; decide)))
    have h3 := hr v hv h70
    refine ⟨fun z => ?_, fun z => ⟨fun z2 => ?_, fun z2 => ?_⟩⟩
    · rw [← h3.1 z]; exact hK _ v hIv
    · rw [← (h3.2 z).1 z2]; exact hK _ v hIv
    · have := (h3.2 z).2 z2
      refine ⟨this.1, ?_⟩
      rw [← this.2]; exact hK _ v hIv
  rw [o3]
  refine ⟨fun z => key _ (fun v _ _ => ⟨fun _ => rfl, fun q => absurd z q⟩), fun z => ⟨fun z2 => key _ (fun v _ _ => ⟨fun q => absurd q z, fun _ => ⟨fun _ => rfl, fun q => absurd z2 q⟩⟩), fun z2 => ?_⟩⟩
  rcases pk_ix a0 (n := c) (by omega) with q | q | ⟨k, hk, rfl⟩
  · exact absurd q z
  · exact absurd q z2
  have e1 : nI c - 1 - nI k = nI (c - 1 - k) := by
    rw [show (1 : Int32) = nI 1 from rfl, pk_sub (by omega), pk_sub (by omega)]
  rw [mz_rdn (by omega), o4 k hk]
  refine ⟨vp_in_nI (by omega) (by decide), key _ (fun v _ h70 => ⟨fun q => absurd q z, fun _ => ⟨fun q => absurd q z2, fun _ => ?_⟩⟩)⟩
  rw [e1, mz_rdn (by omega), h70 (c - 1 - k) (by omega)]
  exact ⟨vp_in_nI (by omega) (by decide), rfl⟩

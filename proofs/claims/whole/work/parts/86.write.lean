/-! a block's code, written -/
def Ext (u v : mz_St) (L L' : Nat) (P Q : Nat → Prop) : Prop := mf wW u v ∧ v 1011 0 = nI L' ∧ L ≤ L' ∧ low u v L ∧ (∀ s, ¬ P s → v 45 s = u 45 s ∧ v 46 s = u 46 s) ∧ (∀ j, ¬ Q j → v 52 j = u 52 j ∧ v 53 j = u 53 j) ∧ v 1012 0 = u 1012 0
theorem Ext_tr {u v w : mz_St} {L L' L'' : Nat} {P Q P' Q' : Nat → Prop} (h1 : Ext u v L L' P Q) (h2 : Ext v w L' L'' P' Q') : Ext u w L L'' (fun s => P s ∨ P' s) (fun s => Q s ∨ Q' s) := by
  obtain ⟨a1, a2, a3, a4, a5, a6, a7⟩ := h1
  obtain ⟨b1, b2, b3, b4, b5, b6, b7⟩ := h2
  refine ⟨mf_tr a1 b1, b2, by omega, low_tr a4 b4 a3, fun s hs => ?_, fun j hj => ?_, b7.trans a7⟩
  · have x1 := a5 s (fun z => hs (Or.inl z))
    have x2 := b5 s (fun z => hs (Or.inr z))
    exact ⟨x2.1.trans x1.1, x2.2.trans x1.2⟩
  · have x1 := a6 j (fun z => hj (Or.inl z))
    have x2 := b6 j (fun z => hj (Or.inr z))
    exact ⟨x2.1.trans x1.1, x2.2.trans x1.2⟩
theorem Ext_mono {u v : mz_St} {L L' : Nat} {P Q P' Q' : Nat → Prop} (h : Ext u v L L' P Q) (h1 : ∀ s, P s → P' s) (h2 : ∀ s, Q s → Q' s) : Ext u v L L' P' Q' := by
  obtain ⟨a1, a2, a3, a4, a5, a6, a7⟩ := h
  exact ⟨a1, a2, a3, a4, fun s hs => a5 s (fun z => hs (h1 s z)), fun j hj => a6 j (fun z => hj (h2 j z)), a7⟩
theorem Ext_ad {u v : mz_St} {L L' : Nat} (h : Ad u v L L') : Ext u v L L' (fun _ => False) (fun _ => False) := by
  obtain ⟨a1, a2, a3, a4, a5⟩ := h
  refine ⟨mf_mono a1 (by decide), a2, a3, a4, fun s _ => ?_, fun j _ => ?_, ?_⟩
  · rw [a1 45 (by decide), a1 46 (by decide)]; exact ⟨rfl, rfl⟩
  · rw [a1 52 (by decide), a1 53 (by decide)]; exact ⟨rfl, rfl⟩
  · rw [a1 1012 (by decide)]
/-- a section, from lo to hi -/
def Sct (u : mz_St) (s lo hi L : Nat) : Prop := u 45 s = nI lo ∧ u 46 s = nI hi ∧ lo ≤ hi ∧ hi ≤ L ∧ ∀ j, lo ≤ j → j < hi → cok u j
theorem Sct_ext {u v : mz_St} {L L' s lo hi : Nat} {P Q : Nat → Prop} (h : Ext u v L L' P Q) (hs : ¬ P s) (hS : Sct u s lo hi L) : Sct v s lo hi L' := by
  obtain ⟨a1, a2, a3, a4, a5, a6, a7⟩ := h
  obtain ⟨b1, b2, b3, b4, b5⟩ := hS
  refine ⟨(a5 s hs).1.trans b1, (a5 s hs).2.trans b2, b3, by omega, fun j q1 q2 => cok_loc (fun a ha => a4 a ha j (by omega)) (b5 j q1 q2)⟩
def FB (σ u : mz_St) (n b L : Nat) : Prop := ∃ lo hi, Sct u b lo hi L ∧ (u 53 b = 0 ∨ u 53 b = 1) ∧ (u 53 b = 0 → bdn (u 52 b) 230) ∧ ∀ z τ w cc lg, SimP σ n b 0 z τ →
  (ex u lo hi (z, w, cc, lg)).1 = (pbl σ (lenC σ b) (12 * b) (τ, w, cc, lg)).1 ∧ (ex u lo hi (z, w, cc, lg)).2.2 = (pbl σ (lenC σ b) (12 * b) (τ, w, cc, lg)).2.2 ∧
  ((pbl σ (lenC σ b) (12 * b) (τ, w, cc, lg)).1 = 0 → (σ 17 b ≠ 1 → shw u b (ex u lo hi (z, w, cc, lg)).2.1 = (pbl σ (lenC σ b) (12 * b) (τ, w, cc, lg)).2.1 (σ 18 b).toNatClampNeg) ∧ SimP σ n b (lenC σ b) (ex u lo hi (z, w, cc, lg)).2.1 (pbl σ (lenC σ b) (12 * b) (τ, w, cc, lg)).2.1)
theorem FB_ext {σ u v : mz_St} {n b L L' : Nat} {P Q : Nat → Prop} (h : Ext u v L L' P Q) (hP : ¬ P b) (hQ : ¬ Q b) (hF : FB σ u n b L) : FB σ v n b L' := by
  obtain ⟨lo, hi, f1, f2, f3, f4⟩ := hF
  obtain ⟨e1, e2⟩ := h.2.2.2.2.2.1 b hQ
  refine ⟨lo, hi, Sct_ext h hP f1, by rw [e2]; exact f2, by rw [e1, e2]; exact f3, fun z τ w cc lg hs => ?_⟩
  have hl : low u v hi := fun a ha j hj => h.2.2.2.1 a ha j (by have := f1.2.2.2.1; omega)
  have es : shw v b = shw u b := by funext z; unfold shw; rw [e1, e2]
  rw [ex_loc _ hl, es]
  exact f4 z τ w cc lg hs
/-- what holds of cells and temporaries where a block begins -/
def JJ (σ : mz_St) (n b : Nat) (z τ : Wd) : Prop := Al σ n b ∧ ∀ t, t < 10 → Lv σ n t b → vl σ (bf σ b t) z = τ t
def FR (σ u : mz_St) (n b e L : Nat) : Prop := ∃ lo hi, Sct u (10 + 2 * b + e) lo hi L ∧ ∀ z τ rr, SimP σ n b (lenC σ b) z τ → ∃ z', ex u lo hi (z, rr) = (0, (z', rr)) ∧ JJ σ n (eT σ b e) z' τ
theorem FR_ext {σ u v : mz_St} {n b e L L' : Nat} {P Q : Nat → Prop} (h : Ext u v L L' P Q) (hP : ¬ P (10 + 2 * b + e)) (hF : FR σ u n b e L) : FR σ v n b e L' := by
  obtain ⟨lo, hi, f1, f4⟩ := hF
  refine ⟨lo, hi, Sct_ext h hP f1, fun z τ rr hs => ?_⟩
  have hl : low u v hi := fun a ha j hj => h.2.2.2.1 a ha j (by have := f1.2.2.2.1; omega)
  rw [ex_loc _ hl]
  exact f4 z τ rr hs
section A1
variable {K : mz_St → Prop} {σ u : mz_St} {n c fs L : Nat} {o : Nat → Nat} {Zs : Nat → Prop}
theorem mm_writeEnd (hM : Mde σ n c o fs Zs) (hm : mf wW σ u) {k te : Nat} (hk : k < c) (hte : te < 10) (ete : σ 18 (o k) = nI te) (h11 : u 1011 0 = nI L) (hL : L < 1090) (h : ∀ v L', Ext u v L L' (fun _ => False) (fun j => j = o k) → L' ≤ L + 1 → (∀ j, L ≤ j → j < L' → cok v j) → (v 53 (o k) = 0 ∨ v 53 (o k) = 1) → (v 53 (o k) = 0 → bdn (v 52 (o k)) 230) → (∀ z rr, ∃ z', ex v L L' (z, rr) = (0, (z', rr)) ∧ (∀ q, ¬ Zs q → z' q = z q) ∧ (σ 17 (o k) ≠ 1 → shw v (o k) z' = vl σ (nx σ (o k) (lenC σ (o k)) te) z)) → K v) : mw_Writer_writeEnd K (nI (o k)) u := by
  obtain ⟨⟨hP, hO, hR, hI, hV⟩, hF, hS, hH, hZ⟩ := hM
  obtain ⟨ho, hl⟩ := o_lt hP hO hk
  have hSm : Sm σ u := Sm_mf hm (by decide)
  have hin : vp_in (nI (o k)) 10 := vp_in_nI ho (by decide)
  have hset : ∀ (y : mz_St) (L' : Nat) (a : Int32) (b : Bool), Ad u y L L' → L' ≤ L + 1 → (b = false → bdn a 230) → (∀ z rr, ∃ z', ex y L L' (z, rr) = (0, (z', rr)) ∧ (∀ q, ¬ Zs q → z' q = z q) ∧ (σ 17 (o k) ≠ 1 → sv b a z' = vl σ (nx σ (o k) (lenC σ (o k)) te) z)) → mw_Code_setEnd (fun u2 => K u2) (nI (o k)) a (bz b) y := by
    intro y L' a b hA hL' hb hsem
    unfold mw_Code_setEnd
    rw [mz_wrn (by omega), mz_wrn (by omega)]
    refine ⟨hin, ⟨hin, bz_01 b⟩, ?_⟩
    generalize hgv : mz_up (mz_up y 52 (o k) a) 53 (o k) (bz b) = v
    have hyv : mf [52, 53] y v := by rw [← hgv]; exact mf_tr (mf_up (by decide)) (mf_up (by decide))
    have v52 : v 52 (o k) = a := by rw [← hgv, up_row (by decide), up_at]
    have v53 : v 53 (o k) = bz b := by rw [← hgv, up_at]
    have hlo : ∀ M, low y v M := fun M => low_mf M hyv (by decide)
    have hE : Ext y v L' L' (fun _ => False) (fun j => j = o k) := by
      refine ⟨mf_mono hyv (by decide), by rw [hyv 1011 (by decide)]; exact hA.2.1, Nat.le_refl _, hlo _, fun s _ => ?_, fun j hj => ?_, by rw [hyv 1012 (by decide)]⟩
      · rw [hyv 45 (by decide), hyv 46 (by decide)]; exact ⟨rfl, rfl⟩
      · have hj : j ≠ o k := hj
        rw [← hgv, up_row (by decide), up_ot hj, up_ot hj, up_row (by decide)]; exact ⟨rfl, rfl⟩
    refine h v L' (Ext_mono (Ext_tr (Ext_ad hA) hE) (fun s z => z.elim id id) (fun s z => z.elim (fun f => f.elim) id)) hL' (fun j q1 q2 => cok_loc (fun a ha => hlo (j + 1) a ha j (by omega)) (hA.2.2.2.2 j q1 q2)) (by rw [v53]; exact bz_01 b) (fun z => ?_) (fun z rr => ?_)
    · rw [v52]
      exact hb (bz_0.mp (v53.symm.trans z))
    · obtain ⟨z', g1, g2, g3⟩ := hsem z rr
      refine ⟨z', by rw [ex_loc _ (hlo L')]; exact g1, g2, fun q => ?_⟩
      rw [← g3 q]
      unfold shw sv
      rw [v52, v53]
      cases b
      · rfl
      · rfl
  unfold mw_Writer_writeEnd
  refine mm_endTakesTemp ho ?_
  rw [hSm 17 (by decide)]
  refine bz_go (fun e => ?_) (fun e => ⟨hin, ?_⟩)
  · have e : σ 17 (o k) = 1 := by simpa using e
    exact hset u L 0 true (Ad_rf h11) (by omega) (fun z => by cases z) (fun z rr => ⟨z, ex_0, fun _ _ => rfl, fun q => absurd e q⟩)
  · have hpx := Pn_nx hP hO hI hk (Nat.le_refl _) hte
    have e35 : mz_rd u 35 (nI (o k)) = nI (nx σ (o k) (lenC σ (o k)) te) := by
      rw [mz_rdn (by omega), hm 35 (by decide), (hI k hk).2.2.2, ete, nI_clamp (by omega)]
      rfl
    rw [e35, hm 1008 (by decide)]
    refine mm_bring hP hO hS hZ hm h11 hL hte hpx (hZ.2.2.2.2.imp id (fun ⟨s, s1, s2, _⟩ => ⟨s, s1, by omega⟩)) (fun y L' r hA hL' hr hsem hcell => mm_isNumber (Pn_lt hP hO hte hpx) ?_)
    have hmy : mf wW σ y := mf_tr hm (mf_mono hA.1 (by decide))
    rw [hmy 37 (by decide)]
    refine hset y L' r (nu σ (nx σ (o k) (lenC σ (o k)) te)) hA hL' hr (fun z rr => ?_)
    obtain ⟨z', g1, g2, g3, g4⟩ := hsem z rr
    refine ⟨z', g1, fun q hq => ?_, fun _ => g2⟩
    rcases hZ.2.2.2.2 with zz | ⟨s, s1, s2, s3, s4⟩
    · rw [g3 zz]
    · refine g4 q (fun s' e1 e2 e3 => hq ?_)
      rw [s1, nI_eq (by omega) (by omega)] at e1
      rw [e3, ← e1]; exact s3
theorem mm_writeBlock (hM : Mde σ n c o fs Zs) (hm : mf wW σ u) {k : Nat} (hk : k < c) (h11 : u 1011 0 = nI L) (hL : L + 49 ≤ 1090) (h : ∀ v L', Ext u v L L' (fun s => s = o k) (fun j => j = o k) → L' ≤ L + 49 → FB σ v n (o k) L' → K v) : mw_Writer_writeBlock K (nI (o k)) u := by
  obtain ⟨⟨hP, hO, hR, hI, hV⟩, hF, hS, hH, hZ⟩ := id hM
  obtain ⟨ho, hl⟩ := o_lt hP hO hk
  have hl1 := (PN_len hP ho).1
  have hin : vp_in (nI (o k)) 10 := vp_in_nI ho (by decide)
  have hin30 : vp_in (nI (o k)) 30 := vp_in_nI (by omega) (by decide)
  unfold mw_Writer_writeBlock mw_Code_begin
  refine ⟨hin30, ?_⟩
  rw [mz_wrn (by omega), h11, nI_x12]
  have hE0 : Ext u (mz_up u 45 (o k) (nI L)) L L (fun s => s = o k) (fun j => j = o k) := by
    refine ⟨mf_up (by decide), by rw [up_row (by decide)]; exact h11, Nat.le_refl _, low_mf (W := [45]) L (mf_up (by decide)) (by decide), fun s hs => ?_, fun j _ => ?_, by rw [up_row (by decide)]⟩
    · have hs : s ≠ o k := hs
      rw [up_ot hs, up_row (by decide)]; exact ⟨rfl, rfl⟩
    · rw [up_row (by decide), up_row (by decide)]; exact ⟨rfl, rfl⟩
  have u45 : mz_up u 45 (o k) (nI L) 45 (o k) = nI L := up_at
  generalize mz_up u 45 (o k) (nI L) = u0 at hE0 u45 ⊢
  refine lf1 (fun m x v => ∃ i Li, x = nI (12 * o k + i) ∧ i ≤ lenC σ (o k) ∧ m = lenC σ (o k) - i ∧ Ext u v L Li (fun s => s = o k) (fun j => j = o k) ∧ v 45 (o k) = nI L ∧ Li ≤ L + 4 * i ∧ (∀ j, L ≤ j → j < Li → cok v j) ∧ ∀ z τ w cc lg, SimP σ n (o k) 0 z τ → (ex v L Li (z, w, cc, lg)).1 = (pbl σ i (12 * o k) (τ, w, cc, lg)).1 ∧ (ex v L Li (z, w, cc, lg)).2.2 = (pbl σ i (12 * o k) (τ, w, cc, lg)).2.2 ∧ ((pbl σ i (12 * o k) (τ, w, cc, lg)).1 = 0 → SimP σ n (o k) i (ex v L Li (z, w, cc, lg)).2.1 (pbl σ i (12 * o k) (τ, w, cc, lg)).2.1)) ?_ (lenC σ (o k)) _ u0 ⟨0, L, rfl, by omega, rfl, hE0, u45, by omega, fun j q1 q2 => absurd q2 (by omega), fun z τ w cc lg hs => ?_⟩
  · rintro m P13 x v ⟨i, Li, rfl, hi, rfl, hE, v45, hLi, hck, hsem⟩ hrec
    have hmv : mf wW σ v := mf_tr hm hE.1
    have v11 := hE.2.1
    have hLL := hE.2.2.1
    unfold mw_Writer_writeBlock_13
    rw [mz_rdn (show o k < 2 ^ 31 by omega), hmv 16 (by decide), hl1, ix12]
    refine ⟨hin, fun hle => ?_, fun hlt => ?_⟩
    · have ei : i = lenC σ (o k) := by rw [nI_leI (by omega) (by omega)] at hle; omega
      subst ei
      obtain ⟨len, e, -, -, -, hEE, -⟩ := hP.2.2.2 (o k) (by omega)
      obtain ⟨te, hte, ete⟩ := hEE.2.2.2.1
      refine mm_writeEnd hM hmv hk hte ete v11 (by omega) (fun y L' hEy hL' hcky y53 y52 hsemy => ?_)
      unfold mw_Code_finish
      refine ⟨hin30, ?_⟩
      rw [mz_wrn (by omega), hEy.2.1]
      have hyz : mf [46] y (mz_up y 46 (o k) (nI L')) := mf_up (by decide)
      have z46 : mz_up y 46 (o k) (nI L') 46 (o k) = nI L' := up_at
      have zo : ∀ s, s ≠ o k → mz_up y 46 (o k) (nI L') 46 s = y 46 s := fun s hs => up_ot hs
      generalize mz_up y 46 (o k) (nI L') = q at hyz z46 zo ⊢
      have hlq : ∀ M, low y q M := fun M => low_mf M hyz (by decide)
      have hEq : Ext y q L' L' (fun s => s = o k) (fun j => j = o k) := by
        refine ⟨mf_mono hyz (by decide), by rw [hyz 1011 (by decide)]; exact hEy.2.1, Nat.le_refl _, hlq _, fun s hs => ?_, fun j _ => ?_, by rw [hyz 1012 (by decide)]⟩
        · have hs : s ≠ o k := hs
          rw [hyz 45 (by decide), zo s hs]; exact ⟨rfl, rfl⟩
        · rw [hyz 52 (by decide), hyz 53 (by decide)]; exact ⟨rfl, rfl⟩
      have hll := hEy.2.2.1
      refine h q L' (Ext_mono (Ext_tr hE (Ext_tr hEy hEq)) (fun s z => by rcases z with z | z | z; exact z; exact z.elim; exact z) (fun s z => by rcases z with z | z | z <;> exact z)) (by omega) ⟨L, L', ⟨?_, z46, by omega, Nat.le_refl _, fun j q1 q2 => ?_⟩, by rw [hyz 53 (by decide)]; exact y53, by rw [hyz 53 (by decide), hyz 52 (by decide)]; exact y52, fun z τ w cc lg hs => ?_⟩
      · rw [hyz 45 (by decide), (hEy.2.2.2.2.1 (o k) id).1]; exact v45
      · refine cok_loc (fun a ha => hlq (j + 1) a ha j (by omega)) ?_
        rcases Nat.lt_or_ge j Li with q3 | q3
        · exact cok_loc (fun a ha => hEy.2.2.2.1 a ha j q3) (hck j q1 q3)
        · exact hcky j q3 q2
      · obtain ⟨g1, g2, g3⟩ := hsem z τ w cc lg hs
        rw [ex_loc _ (hlq L')]
        have es : shw q (o k) = shw y (o k) := by funext z; unfold shw; rw [hyz 52 (by decide), hyz 53 (by decide)]
        rw [es, ex_app hEy.2.2.2.1 hLL hll, g1]
        by_cases e0 : (pbl σ (lenC σ (o k)) (12 * o k) (τ, w, cc, lg)).1 = 0
        · rw [if_pos e0]
          have hsim := g3 e0
          generalize hX : ex v L Li (z, w, cc, lg) = X at *
          obtain ⟨z', f1, f2, f3⟩ := hsemy X.2.1 X.2.2
          have f1' : ex y Li L' X.2 = (0, (z', X.2.2)) := f1
          rw [f1']
          refine ⟨e0.symm, g2, fun _ => ⟨fun h17 => ?_, ?_⟩⟩
          · show shw y (o k) z' = _
            rw [f3 h17, ete, nI_clamp (by omega)]
            exact hsim te hte (LvA_e ⟨h17, ete⟩)
          · show SimP σ n (o k) (lenC σ (o k)) z' _
            intro t ht hLt
            rw [vl_ag hP hO hS hZ ht (Pn_nx hP hO hI hk (Nat.le_refl _) ht) f2]
            exact hsim t ht hLt
        · rw [if_neg e0]
          exact ⟨g1, g2, fun z => absurd z e0⟩
    · have hi2 : i < lenC σ (o k) := by rw [nI_leI (by omega) (by omega)] at hlt; omega
      refine mm_keepsOp ho (by omega) ?_
      rw [hmv 12 (by decide), hmv 37 (by decide), hmv 38 (by decide)]
      intro P47 hP47
      have nxt : ∀ y L', Ext v y Li L' (fun _ => False) (fun _ => False) → L' ≤ Li + 4 → (∀ j, Li ≤ j → j < L' → cok y j) → (∀ z τ w cc lg, SimP σ n (o k) i z τ → (ex y Li L' (z, w, cc, lg)).1 = (pst σ (12 * o k + i) (τ, w, cc, lg)).1 ∧ (ex y Li L' (z, w, cc, lg)).2.2 = (pst σ (12 * o k + i) (τ, w, cc, lg)).2.2 ∧ ((pst σ (12 * o k + i) (τ, w, cc, lg)).1 = 0 → SimP σ n (o k) (i + 1) (ex y Li L' (z, w, cc, lg)).2.1 (pst σ (12 * o k + i) (τ, w, cc, lg)).2.1)) → P47 y := by
        intro y L' hEy hL' hcky hst
        apply hP47
        unfold mw_Writer_writeBlock_47
        rw [nI_k1]
        have hll := hEy.2.2.1
        refine hrec (lenC σ (o k) - (i + 1)) _ y (by omega) ⟨i + 1, L', by rw [Nat.add_assoc], by omega, rfl, Ext_mono (Ext_tr hE hEy) (fun s z => z.elim id (fun f => f.elim)) (fun s z => z.elim id (fun f => f.elim)), by rw [(hEy.2.2.2.2.1 (o k) id).1]; exact v45, by omega, fun j q1 q2 => ?_, fun z τ w cc lg hs => ?_⟩
        · rcases Nat.lt_or_ge j Li with q3 | q3
          · exact cok_loc (fun a ha => hEy.2.2.2.1 a ha j q3) (hck j q1 q3)
          · exact hcky j q3 q2
        · obtain ⟨g1, g2, g3⟩ := hsem z τ w cc lg hs
          rw [ex_app hEy.2.2.2.1 hLL hll, pbl_last, g1]
          by_cases e0 : (pbl σ i (12 * o k) (τ, w, cc, lg)).1 = 0
          · rw [if_pos e0, if_pos e0]
            have hsim := g3 e0
            generalize ex v L Li (z, w, cc, lg) = X at *
            generalize pbl σ i (12 * o k) (τ, w, cc, lg) = Y at *
            have := hst X.2.1 Y.2.1 Y.2.2.1 Y.2.2.2.1 Y.2.2.2.2 hsim
            have eX : X.2 = (X.2.1, Y.2.2.1, Y.2.2.2.1, Y.2.2.2.2) := by
              show (X.2.1, X.2.2) = _
              rw [g2]
            rw [eX]
            exact this
          · rw [if_neg e0, if_neg e0]
            exact ⟨g1, g2, fun z => absurd z e0⟩
      refine bz_go (fun e => ?_) (fun e => ?_)
      · have e := of_decide_eq_false e
        refine nxt v Li (Ext_ad (Ad_rf v11)) (by omega) (fun j q1 q2 => absurd q2 (by omega)) (fun z τ w cc lg hs => ?_)
        obtain ⟨g1, g2, g3⟩ := sim_gone hM hk hi2 (fun z => e (Or.inl z)) (fun z => e (Or.inr z)) z τ w cc lg hs
        rw [ex_0]
        exact ⟨g1.symm, g2.symm, fun _ => g3⟩
      · have e := of_decide_eq_true e
        refine mm_writeOp ⟨hP, hO, hR, hI, hV⟩ hS hZ hk hi2 e hmv v11 (by omega) (fun y L' hA hL' hOp => ?_)
        exact nxt y L' (Ext_ad hA) hL' hA.2.2.2.2 (fun z τ w cc lg hs => sim_kept hM hk hi2 e hOp z τ w cc lg hs)
  · rw [ex_0]
    exact ⟨rfl, rfl, fun _ => hs⟩
end A1

/-! moves: the whole row -/
section W1
variable {K : mz_St → Prop} {σ : mz_St} {fs : Nat} {Zs : Nat → Prop} {m0 : Nat} {T0 : Nat → Nat} {S0 : Nat → Int32} {B0 : Nat → Bool}
/-- moves that may be left -/
def Gm (Zs : Nat → Prop) (m : Nat) (T : Nat → Nat) (S : Nat → Int32) (B : Nat → Bool) : Prop := (∀ i j, i < m → j < m → T i = T j → i = j) ∧ ∀ i, i < m → T i < 229 ∧ ¬ Zs (T i) ∧ (B i = false → ∃ q, S i = nI q ∧ q < 230 ∧ ¬ Zs q ∧ q ≠ T i)
/-- what is still to be done to z, so that V comes of it -/
def Dl (Zs : Nat → Prop) (m : Nat) (T : Nat → Nat) (S : Nat → Int32) (B : Nat → Bool) (z V : Wd) : Prop := (∀ i, i < m → sv (B i) (S i) z = V (T i)) ∧ ∀ c, c ≠ 229 → ¬ Zs c → (∀ i, i < m → T i ≠ c) → z c = V c
theorem V_ex (T : Nat → Nat) (S : Nat → Int32) (B : Nat → Bool) (m : Nat) (hT : ∀ i j, i < m → j < m → T i = T j → i = j) (z : Wd) : ∃ V : Wd, (∀ i, i < m → V (T i) = sv (B i) (S i) z) ∧ ∀ c, (∀ i, i < m → T i ≠ c) → V c = z c := by
  induction m with
  | zero => exact ⟨z, fun i hi => absurd hi (by omega), fun c _ => rfl⟩
  | succ m ih =>
    obtain ⟨V, h1, h2⟩ := ih (fun i j hi hj => hT i j (by omega) (by omega))
    refine ⟨upd V (T m) (sv (B m) (S m) z), fun i hi => ?_, fun c hc => ?_⟩
    · by_cases e : i = m
      · subst e; simp [upd]
      · have : T i ≠ T m := fun z => e (hT i m (by omega) (by omega) z)
        simp only [upd, this, if_false]
        exact h1 i (by omega)
    · have : c ≠ T m := fun z => hc m (by omega) z.symm
      simp only [upd, this, if_false]
      exact h2 c (fun i hi => hc i (by omega))
theorem mo_lt {A : Type} {f : Nat → A} {i0 m : Nat} {P : A → Prop} (h : ∀ i, i < m + 1 → i ≠ i0 → P (f i)) (hi : i0 < m + 1) : ∀ i, i < m → P (mo f i0 m i) := by
  intro i hi2
  unfold mo
  by_cases e : i = i0
  · rw [if_pos e]; exact h m (by omega) (by omega)
  · rw [if_neg e]; exact h i (by omega) e
/-- which one stands at i now -/
theorem mo_ix {i0 m : Nat} (hi : i0 < m + 1) : ∀ i, i < m → ∃ j, j < m + 1 ∧ j ≠ i0 ∧ ∀ {A : Type} (f : Nat → A), mo f i0 m i = f j := by
  intro i hi2
  by_cases e : i = i0
  · exact ⟨m, by omega, by omega, fun f => by unfold mo; rw [if_pos e]⟩
  · exact ⟨i, by omega, e, fun f => by unfold mo; rw [if_neg e]⟩
theorem mo_xi {i0 m : Nat} (hi : i0 < m + 1) : ∀ j, j < m + 1 → j ≠ i0 → ∃ i, i < m ∧ ∀ {A : Type} (f : Nat → A), mo f i0 m i = f j := by
  intro j hj hne
  by_cases e : j = m
  · subst e
    exact ⟨i0, by omega, fun f => by unfold mo; rw [if_pos rfl]⟩
  · exact ⟨j, by omega, fun f => by unfold mo; rw [if_neg hne]⟩
theorem Gm_out {m : Nat} {T : Nat → Nat} {S : Nat → Int32} {B : Nat → Bool} {i0 : Nat} (h : Gm Zs (m + 1) T S B) (hi : i0 < m + 1) : Gm Zs m (mo T i0 m) (mo S i0 m) (mo B i0 m) := by
  refine ⟨fun i j h1 h2 e => ?_, fun i h1 => ?_⟩
  · unfold mo at e
    by_cases e1 : i = i0
    · by_cases e2 : j = i0
      · omega
      · rw [if_pos e1, if_neg e2] at e
        have := h.1 m j (by omega) (by omega) e; omega
    · by_cases e2 : j = i0
      · rw [if_neg e1, if_pos e2] at e
        have := h.1 i m (by omega) (by omega) e; omega
      · rw [if_neg e1, if_neg e2] at e
        exact h.1 i j (by omega) (by omega) e
  · obtain ⟨j, j1, j2, j3⟩ := mo_ix hi i h1
    rw [j3 T, j3 S, j3 B]
    exact h.2 j j1
theorem Dl_out {m : Nat} {T : Nat → Nat} {S : Nat → Int32} {B : Nat → Bool} {i0 : Nat} {z z' V : Wd} (hg : Gm Zs (m + 1) T S B) (hi : i0 < m + 1) (hr : ¬ rdx (m + 1) S B (nI (T i0))) (h : Dl Zs (m + 1) T S B z V) (hz1 : z' (T i0) = sv (B i0) (S i0) z) (hz2 : ∀ c, c ≠ T i0 → ¬ Zs c → z' c = z c) : Dl Zs m (mo T i0 m) (mo S i0 m) (mo B i0 m) z' V := by
  refine ⟨fun i h1 => ?_, fun c hc hZ hT => ?_⟩
  · obtain ⟨j, j1, j2, j3⟩ := mo_ix hi i h1
    rw [j3 T, j3 S, j3 B, ← h.1 j j1]
    unfold sv
    cases e : B j
    · obtain ⟨q, q1, q2, q3, q4⟩ := (hg.2 j j1).2.2 e
      have hne : q ≠ T i0 := fun z => hr ⟨j, j1, e, by rw [q1, z]⟩
      rw [q1, nI_clamp (by omega)]
      exact hz2 q hne q3
    · rfl
  · by_cases e : c = T i0
    · rw [e, hz1]; exact h.1 i0 hi
    · rw [hz2 c e hZ]
      refine h.2 c hc hZ (fun j hj => ?_)
      by_cases e2 : j = i0
      · rw [e2]; exact fun z => e z.symm
      · obtain ⟨i, i1, i2⟩ := mo_xi hi j hj e2
        rw [← i2 T]
        exact hT i i1
/-- where none is ready, all of them go round among the targets -/
theorem ring {m : Nat} {T : Nat → Nat} {S : Nat → Int32} {B : Nat → Bool} (hg : Gm Zs m T S B) (hn : ∀ i, i < m → rdx m S B (nI (T i))) : ∀ j, j < m → B j = false ∧ ∃ i, i < m ∧ S j = nI (T i) := by
  have hf : ∃ f : Nat → Nat, ∀ i, i < m → f i < m ∧ B (f i) = false ∧ S (f i) = nI (T i) := by
    refine ⟨fun i => if h : ∃ j, j < m ∧ B j = false ∧ S j = nI (T i) then Classical.choose h else 0, fun i hi => ?_⟩
    have h := hn i hi
    show (dite _ _ _) < m ∧ B (dite _ _ _) = false ∧ S (dite _ _ _) = nI (T i)
    rw [dif_pos (show ∃ j, j < m ∧ B j = false ∧ S j = nI (T i) from h)]
    exact Classical.choose_spec h
  obtain ⟨f, hf⟩ := hf
  have hinj : ∀ a b, a < m → b < m → f a = f b → a = b := by
    intro a b ha hb e
    have e1 := (hf a ha).2.2
    have e2 := (hf b hb).2.2
    rw [e, e2] at e1
    have ta := (hg.2 a ha).1
    have tb := (hg.2 b hb).1
    rw [nI_eq (by omega) (by omega)] at e1
    exact hg.1 a b ha hb e1.symm
  intro j hj
  obtain ⟨i, i1, i2⟩ := ph_sur m f (fun i hi => (hf i hi).1) hinj j hj
  rw [← i2]
  exact ⟨(hf i i1).2.1, i, i1, (hf i i1).2.2⟩
theorem mm_mwrite {L0 : Nat} (h7 : σ 1007 0 = nI fs) (hf : fs ≤ 230) (h11 : σ 1011 0 = nI L0) (hL0 : L0 + 30 ≤ 1090) (hR : RM σ m0 T0 S0 B0) (hG : Gm Zs m0 T0 S0 B0) (hsp : ∀ i, i < m0 → B0 i = false → S0 i ≠ nI 229) (hZ : ¬ Zs 229) (hsc : (∀ i, i < m0 → T0 i < fs) ∨ NS σ Zs) (h : ∀ u L, AdX σ u L0 L → L ≤ L0 + 30 → u 1012 0 = 0 → (∀ z r, ∃ z', ex u L0 L (z, r) = (0, (z', r)) ∧ (∀ i, i < m0 → z' (T0 i) = sv (B0 i) (S0 i) z) ∧ ∀ c, c ≠ 229 → ¬ Zs c → (∀ i, i < m0 → T0 i ≠ c) → z' c = z c) → K u) : mw_Moves_write K σ := by
  have hm0 := hR.2.1
  unfold mw_Moves_write
  refine lf1 (fun w x u => ∃ (k m L : Nat) (T : Nat → Nat) (S : Nat → Int32) (B : Nat → Bool), x = nI k ∧ k ≤ 20 ∧ w = 20 - k ∧ AdX σ u L0 L ∧ RM u m T S B ∧ Gm Zs m T S B ∧ ((∀ i, i < m → T i < fs) ∨ NS σ Zs) ∧
    (∀ z r, ∃ z' V, ex u L0 L (z, r) = (0, (z', r)) ∧ (∀ i, i < m0 → V (T0 i) = sv (B0 i) (S0 i) z) ∧ (∀ c, (∀ i, i < m0 → T0 i ≠ c) → V c = z c) ∧ Dl Zs m T S B z' V) ∧
    ((¬ rdx m S B (nI 229) ∧ k + 2 * m ≤ 20 ∧ L + 3 * m ≤ L0 + 30) ∨ (rdx m S B (nI 229) ∧ (∀ i, i < m → B i = false → S i = nI 229 → rdx m S B (nI (T i))) ∧ k + 2 * m ≤ 21 ∧ L + 3 * m ≤ L0 + 32) ∨ (rdx m S B (nI 229) ∧ k + 2 * m ≤ 21 ∧ L + 3 * m ≤ L0 + 31))) ?_ 20 0 σ ⟨0, m0, L0, T0, S0, B0, rfl, by omega, rfl, AdX_rf h11, hR, hG, hsc, fun z r => ?_, Or.inl ⟨fun ⟨i, i1, i2, i3⟩ => hsp i i1 i2 i3, by omega, by omega⟩⟩
  · rintro w P2 x u ⟨k, m, L, T, S, B, rfl, hk, rfl, hA, hRu, hGu, hscu, hsem, hph⟩ hrec
    have u7 : u 1007 0 = nI fs := by rw [hA.1 1007 (by decide)]; exact h7
    have u8 : NS σ Zs → NS u Zs := fun ⟨s, a, b⟩ => ⟨s, by rw [hA.1 1008 (by decide)]; exact a, b⟩
    have hm10 := hRu.2.1
    have fin : m = 0 → K u := by
      intro e
      subst e
      refine h u L hA ?_ (by rw [hRu.1]; rfl) (fun z r => ?_)
      · rcases hph with z | z | z
        · omega
        · obtain ⟨⟨i, i1, -⟩, -⟩ := z; omega
        · obtain ⟨⟨i, i1, -⟩, -⟩ := z; omega
      · obtain ⟨z', V, e1, e2, e3, e4⟩ := hsem z r
        refine ⟨z', e1, fun i hi => ?_, fun c c1 c2 c3 => ?_⟩
        · rw [← e2 i hi]
          have := (hG.2 i hi).1
          exact e4.2 (T0 i) (by omega) (hG.2 i hi).2.1 (fun j hj => absurd hj (by omega))
        · rw [← e3 c c3]
          exact e4.2 c c1 c2 (fun j hj => absurd hj (by omega))
    unfold mw_Moves_write_2
    have e20 : (20 : Int32) ≤ nI k ↔ 20 ≤ k := by rw [show (20 : Int32) = nI 20 from rfl, nI_leI (by omega) (by omega)]
    have em : nI m ≤ 0 ↔ m = 0 := by rw [show (0 : Int32) = nI 0 from rfl, nI_leI (by omega) (by omega)]; omega
    rw [e20, hRu.1, em]
    refine ⟨fun hk20 => fin ?_, fun hk20 => ⟨fun e => fin e, fun hmz => ?_⟩⟩
    · rcases hph with z | z | z
      · omega
      · obtain ⟨⟨i, i1, -⟩, z1, z2⟩ := z; omega
      · obtain ⟨⟨i, i1, -⟩, z2⟩ := z; omega
    have hL2 : L + 2 ≤ 1090 := by
      rcases hph with z | ⟨⟨i, i1, i2, i3⟩, z1, z2⟩ | z
      · omega
      · -- two at least
        obtain ⟨j, j1, j2, j3⟩ := z1 i i1 i2 i3
        have : j ≠ i := fun e => by
          rw [e, i3] at j3
          have := (hGu.2 i i1).1
          rw [nI_eq (by omega) (by omega)] at j3
          omega
        omega
      · omega
    refine mm_firstReady hRu (fun hall P79 hP79 => ⟨fun q => absurd rfl q, fun _ => ?_⟩) (fun i0 hi0 hrdy P79 hP79 => ⟨fun _ => ?_, fun q => absurd q (ne_m1 (by omega))⟩)
    · -- a ring is opened
      have hring := ring hGu hall
      have hT0 := (hGu.2 0 (by omega))
      have hno : ¬ rdx m S B (nI 229) := by
        rintro ⟨i, i1, i2, i3⟩
        obtain ⟨-, j, j1, j2⟩ := hring i i1
        rw [i3] at j2
        have := (hGu.2 j j1).1
        rw [nI_eq (by omega) (by omega)] at j2
        omega
      have hphA : k + 2 * m ≤ 20 ∧ L + 3 * m ≤ L0 + 30 := by
        rcases hph with z | z | z
        · exact z.2
        · exact absurd z.1 hno
        · exact absurd z.1 hno
      have e54 : u 54 0 = nI (T 0) := (hRu.2.2 0 (by omega)).1
      have v0 : vp_in 0 10 := show vp_in (nI 0) 10 from vp_in_nI (by omega) (by decide)
      refine ⟨v0, ?_⟩
      have er : mz_rd u 54 0 = nI (T 0) := e54
      rw [er]
      show mw_Moves_writeMove _ (nI 229) (nI (T 0)) (bz false) u
      refine mm_writeMove (Zs := Zs) u7 hf hA.2.1 hL2 (by omega) (fun _ => ⟨T 0, by omega, rfl⟩) (fun _ hq => ?_) (fun y L' hA2 hL' hsem2 => ⟨v0, ?_⟩)
      · rcases hscu with z | z
        · exfalso
          rcases hq with q | ⟨q, q1, q2, q3⟩
          · cases q
          · rw [nI_eq (by omega) (by omega)] at q1
            have := z 0 (by omega)
            omega
        · exact u8 z
      · have hRy : RM y m T S B := RM_mf hA2.1 (by decide) hRu
        have ey : mz_rd y 54 0 = nI (T 0) := (hRy.2.2 0 (by omega)).1
        rw [ey]
        refine mm_readFromSpare hRy (fun w hmw hRw => ?_)
        apply hP79
        unfold mw_Moves_write_79
        rw [nI_k1]
        have hAy : AdX u y L L' := AdX_of hA2
        have hAw : AdX y w L' L' := AdX_mv (mf_mono hmw (by decide)) hA2.2.1
        have hll := hA2.2.2.1
        refine hrec (20 - (k + 1)) _ w (by omega) ⟨k + 1, m, L', T, _, B, rfl, by omega, rfl, AdX_tr hA (AdX_tr hAy hAw), hRw, ⟨hGu.1, fun i hi => ?_⟩, hscu, fun z r => ?_, Or.inr (Or.inl ⟨?_, fun i hi hb hs => ?_, by omega, by omega⟩)⟩
        · obtain ⟨g1, g2, g3⟩ := hGu.2 i hi
          refine ⟨g1, g2, fun hb => ?_⟩
          show ∃ q, (if B i = false ∧ S i = nI (T 0) then nI 229 else S i) = nI q ∧ _
          by_cases e : B i = false ∧ S i = nI (T 0)
          · rw [if_pos e]
            exact ⟨229, rfl, by omega, hZ, by omega⟩
          · rw [if_neg e]; exact g3 hb
        · obtain ⟨z1, V, e1, e2, e3, e4⟩ := hsem z r
          obtain ⟨z2, f1, f2, f3⟩ := hsem2 z1 r
          refine ⟨z2, V, ?_, e2, e3, fun i hi => ?_, fun c c1 c2 c3 => ?_⟩
          · rw [ex_loc _ hAw.2.2.2.1]
            exact ex_ok hA2.2.2.2.1 hA.2.2.1 hll e1 f1
          · rw [← e4.1 i hi]
            obtain ⟨g1, g2, g3⟩ := hGu.2 i hi
            obtain ⟨hb, j, j1, j2⟩ := hring i hi
            show sv (B i) (if B i = false ∧ S i = nI (T 0) then nI 229 else S i) z2 = sv (B i) (S i) z1
            by_cases e : S i = nI (T 0)
            · rw [if_pos ⟨hb, e⟩, hb, e]
              show z2 (nI 229).toNatClampNeg = z1 (nI (T 0)).toNatClampNeg
              rw [nI_clamp (by omega), nI_clamp (by omega), f2]
              show z1 (nI (T 0)).toNatClampNeg = _
              rw [nI_clamp (by omega)]
            · rw [if_neg (fun z => e z.2), hb, j2]
              have tj := hGu.2 j j1
              show z2 (nI (T j)).toNatClampNeg = z1 (nI (T j)).toNatClampNeg
              rw [nI_clamp (by omega)]
              exact f3 (T j) (by omega) tj.2.1
          · rw [f3 c c1 c2]
            exact e4.2 c c1 c2 c3
        · obtain ⟨j, j1, j2, j3⟩ := hall 0 (by omega)
          refine ⟨j, j1, j2, ?_⟩
          show (if B j = false ∧ S j = nI (T 0) then nI 229 else S j) = nI 229
          rw [if_pos ⟨j2, j3⟩]
        · have hs : (if B i = false ∧ S i = nI (T 0) then nI 229 else S i) = nI 229 := hs
          have hi0 : S i = nI (T 0) := by
            apply Classical.byContradiction
            intro q
            rw [if_neg (fun z => q z.2)] at hs
            exact hno ⟨i, hi, hb, hs⟩
          obtain ⟨j, j1, j2, j3⟩ := hall i hi
          refine ⟨j, j1, j2, ?_⟩
          show (if B j = false ∧ S j = nI (T 0) then nI 229 else S j) = nI (T i)
          rw [if_neg (fun z => ?_)]
          · exact j3
          · have z2 := z.2
            rw [j3] at z2
            have ti := (hGu.2 i hi)
            rw [nI_eq (by omega) (by omega)] at z2
            obtain ⟨q, q1, q2, q3, q4⟩ := ti.2.2 hb
            rw [hi0, nI_eq (by omega) (by omega)] at q1
            omega
    · -- one is ready
      obtain ⟨m', rfl⟩ : ∃ m', m = m' + 1 := ⟨m - 1, by omega⟩
      obtain ⟨r1, r2, r3⟩ := hRu.2.2 i0 hi0
      obtain ⟨g1, g2, g3⟩ := hGu.2 i0 hi0
      have hin : vp_in (nI i0) 10 := vp_in_nI (by omega) (by decide)
      rw [mz_rdn (by omega), mz_rdn (by omega), mz_rdn (by omega), r1, r2, r3]
      refine ⟨hin, hin, hin, mm_writeMove (Zs := Zs) u7 hf hA.2.1 hL2 (by omega) (fun hb => ?_) (fun hfs _ => ?_) (fun y L' hA2 hL' hsem2 => ?_)⟩
      · obtain ⟨q, q1, q2, -⟩ := g3 hb
        exact ⟨q, q2, q1⟩
      · rcases hscu with z | z
        · have := z i0 hi0; omega
        · exact u8 z
      · have hRy : RM y (m' + 1) T S B := RM_mf hA2.1 (by decide) hRu
        refine mm_takeOut hRy hi0 (fun w hmw hRw => ?_)
        apply hP79
        unfold mw_Moves_write_79
        rw [nI_k1]
        have hAw : AdX y w L' L' := AdX_mv hmw hA2.2.1
        have hll := hA2.2.2.1
        refine hrec (20 - (k + 1)) _ w (by omega) ⟨k + 1, m', L', _, _, _, rfl, by omega, rfl, AdX_tr hA (AdX_tr (AdX_of hA2) hAw), hRw, Gm_out hGu hi0, hscu.imp (fun z => mo_lt (P := fun t => t < fs) (fun i hi _ => z i hi) hi0) id, fun z r => ?_, ?_⟩
        · obtain ⟨z1, V, e1, e2, e3, e4⟩ := hsem z r
          obtain ⟨z2, f1, f2, f3⟩ := hsem2 z1 r
          refine ⟨z2, V, ?_, e2, e3, Dl_out hGu hi0 hrdy e4 f2 f3⟩
          rw [ex_loc _ hAw.2.2.2.1]
          exact ex_ok hA2.2.2.2.1 hA.2.2.1 hll e1 f1
        · -- who reads the spare cell
          have back : rdx m' (mo S i0 m') (mo B i0 m') (nI 229) → rdx (m' + 1) S B (nI 229) := by
            rintro ⟨i, i1, i2, i3⟩
            obtain ⟨j, j1, j2, j3⟩ := mo_ix hi0 i i1
            rw [j3 B] at i2
            rw [j3 S] at i3
            exact ⟨j, j1, i2, i3⟩
          rcases hph with ⟨z1, z2, z3⟩ | ⟨⟨i, i1, i2, i3⟩, z1, z2, z3⟩ | ⟨z1, z2, z3⟩
          · exact Or.inl ⟨fun q => z1 (back q), by omega, by omega⟩
          · have hne : i ≠ i0 := fun e => hrdy (by rw [← e]; exact z1 i i1 i2 i3)
            obtain ⟨j, j1, j2⟩ := mo_xi hi0 i i1 hne
            exact Or.inr (Or.inr ⟨⟨j, j1, by rw [j2 B]; exact i2, by rw [j2 S]; exact i3⟩, by omega, by omega⟩)
          · by_cases q : rdx m' (mo S i0 m') (mo B i0 m') (nI 229)
            · exact Or.inr (Or.inr ⟨q, by omega, by omega⟩)
            · exact Or.inl ⟨q, by omega, by omega⟩
  · obtain ⟨V, e1, e2⟩ := V_ex T0 S0 B0 m0 hG.1 z
    exact ⟨z, V, ex_0, e1, e2, fun i hi => (e1 i hi).symm, fun c _ _ hc => (e2 c hc).symm⟩
def apn {A : Type} (f : Nat → A) (m : Nat) (x : A) : Nat → A := fun i => if i = m then x else f i
theorem apn_at {A : Type} {f : Nat → A} {m : Nat} {x : A} : apn f m x m = x := by unfold apn; rw [if_pos rfl]
theorem apn_ot {A : Type} {f : Nat → A} {m i : Nat} {x : A} (h : i ≠ m) : apn f m x i = f i := by unfold apn; rw [if_neg h]
theorem mm_madd {m : Nat} {T : Nat → Nat} {S : Nat → Int32} {B : Nat → Bool} {t : Nat} {v : Int32} {b : Bool} (hR : RM σ m T S B) (hm : m < 10) (h1 : b = false → v = nI t → K σ) (h2 : ¬ (b = false ∧ v = nI t) → ∀ u, mf [54, 55, 56, 1012] σ u → RM u (m + 1) (apn T m t) (apn S m v) (apn B m b) → K u) : mw_Moves_add K (nI t) v (bz b) σ := by
  obtain ⟨h12, hm', hr⟩ := id hR
  unfold mw_Moves_add
  intro P14 hP14 P13 hP13
  have go : ¬ (b = false ∧ v = nI t) → P13 σ := by
    intro hne
    apply hP13
    unfold mw_Moves_add_13
    apply hP14
    unfold mw_Moves_add_14
    refine ⟨fun z => absurd rfl z, fun _ => ⟨fun _ => ?_, fun z => ?_⟩⟩
    · have vm : vp_in (nI m) 10 := vp_in_nI hm (by decide)
      rw [h12, mz_wrn (by omega)]
      rw [show mz_up σ 54 m (nI t) 1012 0 = nI m by rw [up_row (by decide)]; exact h12, mz_wrn (by omega)]
      rw [show mz_up (mz_up σ 54 m (nI t)) 55 m v 1012 0 = nI m by rw [up_row (by decide), up_row (by decide)]; exact h12, mz_wrn (by omega)]
      rw [show mz_up (mz_up (mz_up σ 54 m (nI t)) 55 m v) 56 m (bz b) 1012 0 = nI m by rw [up_row (by decide), up_row (by decide), up_row (by decide)]; exact h12, nI_k1]
      refine ⟨vm, vm, ⟨vm, bz_01 b⟩, h2 hne _ (mf_tr (mf_tr (mf_tr (mf_up (by decide)) (mf_up (by decide))) (mf_up (by decide))) (mf_up (by decide))) ⟨up_at, by omega, fun i hi => ?_⟩⟩
      by_cases e : i = m
      · subst e
        refine ⟨?_, ?_, ?_⟩
        · rw [up_row (by decide), up_row (by decide), up_row (by decide), up_at, apn_at]
        · rw [up_row (by decide), up_row (by decide), up_at, apn_at]
        · rw [up_row (by decide), up_at, apn_at]
      · obtain ⟨s1, s2, s3⟩ := hr i (by omega)
        refine ⟨?_, ?_, ?_⟩
        · rw [up_row (by decide), up_row (by decide), up_row (by decide), up_ot e, s1, apn_ot e]
        · rw [up_row (by decide), up_row (by decide), up_ot e, up_row (by decide), s2, apn_ot e]
        · rw [up_row (by decide), up_ot e, up_row (by decide), up_row (by decide), s3, apn_ot e]
    · rw [h12, show (10 : Int32) = nI 10 from rfl, nI_eq (by omega) (by omega)] at z
      omega
  refine bz_og (fun e => go (fun z => by rw [e] at z; cases z.1)) (fun e => ⟨fun q => go (fun z => q z.2.symm), fun q => ?_⟩)
  apply hP14
  unfold mw_Moves_add_14
  exact ⟨fun _ => h1 e q.symm, fun z => absurd z (by decide)⟩
end W1

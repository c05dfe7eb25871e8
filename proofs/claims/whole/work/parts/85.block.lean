/-! a block's code does what the block does -/
theorem pbl_app {σ : mz_St} {r2 : Nat} : ∀ r1 j X, pbl σ (r1 + r2) j X = if (pbl σ r1 j X).1 = 0 then pbl σ r2 (j + r1) (pbl σ r1 j X).2 else pbl σ r1 j X
  | 0, j, X => by
    rw [Nat.zero_add, Nat.add_zero]
    rfl
  | r1 + 1, j, X => by
    rw [show r1 + 1 + r2 = (r1 + r2) + 1 by omega, pbl_s, pbl_s]
    by_cases q : (pst σ j X).1 = 0
    · rw [if_pos q, if_pos q, pbl_app r1 (j + 1), show j + 1 + r1 = j + (r1 + 1) by omega]
    · rw [if_neg q, if_neg q, if_neg q]
theorem pbl_last {σ : mz_St} {i j : Nat} {X : Xs} : pbl σ (i + 1) j X = if (pbl σ i j X).1 = 0 then pst σ (j + i) (pbl σ i j X).2 else pbl σ i j X := by
  rw [pbl_app]
  by_cases q : (pbl σ i j X).1 = 0
  · rw [if_pos q, if_pos q, pbl_s]
    by_cases q2 : (pst σ (j + i) (pbl σ i j X).2).1 = 0
    · rw [if_pos q2]
      show (0, (pst σ (j + i) (pbl σ i j X).2).2) = _
      rw [← q2]
    · rw [if_neg q2]
  · rw [if_neg q, if_neg q]
/-- cells and temporaries agree at a point of a block -/
def SimP (σ : mz_St) (n b i : Nat) (z τ : Wd) : Prop := ∀ t, t < 10 → LvA σ n b i t → vl σ (nx σ b i t) z = τ t
/-- everything that was made -/
def Mde (σ : mz_St) (n c : Nat) (o : Nat → Nat) (fs : Nat) (Zs : Nat → Prop) : Prop := Bas σ n c o ∧ FlowOK σ n ∧ StOK σ n c o ∧ HmOK σ n c o ∧ Hz σ c o fs Zs
section Z1
variable {K : mz_St → Prop} {σ u : mz_St} {n c fs L : Nat} {o : Nat → Nat} {Zs : Nat → Prop}
theorem op_ab (hM : Mde σ n c o fs Zs) {k i : Nat} (hk : k < c) (hi : i < lenC σ (o k)) {z τ : Wd} (hs : SimP σ n (o k) i z τ) : opA σ (o k) i z = pA σ (12 * o k + i) τ ∧ opB σ (o k) i z = pB σ (12 * o k + i) τ := by
  obtain ⟨⟨hP, hO, hR, hI, hV⟩, -⟩ := hM
  refine ⟨?_, ?_⟩
  · unfold opA pA
    by_cases h0 : σ 12 (12 * o k + i) = 0
    · rw [if_pos h0, if_pos h0]
    · rw [if_neg h0, if_neg h0]
      obtain ⟨ta, hta, -, ea, ena⟩ := Pn_na hP hO hI hk hi h0
      have := hs ta hta (LvA_u hi (Or.inl ⟨h0, ea⟩))
      rw [ena, ea, nI_clamp (by omega)]
      exact this
  · unfold opB pB
    cases h0 : tr (tkB (σ 12 (12 * o k + i)))
    · rfl
    · rw [if_pos rfl, if_pos rfl]
      obtain ⟨tb, htb, -, eb, enb⟩ := Pn_nb hP hO hI hk hi (tr_t.mp h0)
      have := hs tb htb (LvA_u hi (Or.inr ⟨tr_t.mp h0, eb⟩))
      rw [enb, eb, nI_clamp (by omega)]
      exact this
theorem sim_kept (hM : Mde σ n c o fs Zs) {v : mz_St} {k i L' : Nat} (hk : k < c) (hi : i < lenC σ (o k)) (hkp : σ 12 (12 * o k + i) = 17 ∨ self σ (101 + 12 * o k + i)) (hOp : ∀ q, (σ 12 (12 * o k + i) ≠ 17 → σ 40 (101 + 12 * o k + i) = nI q ∧ q < 229) → OpD σ v Zs (o k) i q L L') (z τ w : Wd) (cc : Nat) (lg : Wd) (hs : SimP σ n (o k) i z τ) : (ex v L L' (z, w, cc, lg)).1 = (pst σ (12 * o k + i) (τ, w, cc, lg)).1 ∧ (ex v L L' (z, w, cc, lg)).2.2 = (pst σ (12 * o k + i) (τ, w, cc, lg)).2.2 ∧ ((pst σ (12 * o k + i) (τ, w, cc, lg)).1 = 0 → SimP σ n (o k) (i + 1) (ex v L L' (z, w, cc, lg)).2.1 (pst σ (12 * o k + i) (τ, w, cc, lg)).2.1) := by
  obtain ⟨eA, eB⟩ := op_ab hM hk hi hs
  obtain ⟨⟨hP, hO, hR, hI, hV⟩, hF, hS, hH, hZ⟩ := hM
  obtain ⟨-, -, -, -, -, -, hH4⟩ := hH
  have hq : ∃ q, (σ 12 (12 * o k + i) ≠ 17 → σ 40 (101 + 12 * o k + i) = nI q ∧ q < 229) := by
    by_cases h17 : σ 12 (12 * o k + i) = 17
    · exact ⟨0, fun z => absurd h17 z⟩
    · obtain ⟨td, htd, -, hpo⟩ := Pn_op hP hO hk hi h17
      obtain ⟨q, q1, q2, -⟩ := hZ.2.2.2.1 td _ _ htd hpo (hkp.resolve_left h17)
      exact ⟨q, fun _ => ⟨q1, q2⟩⟩
  obtain ⟨q, hq⟩ := hq
  obtain ⟨o1, o2, o3⟩ := hOp q hq z w cc lg
  rw [eA, eB] at o1 o2 o3
  unfold pst opX
  generalize hkd : σ 12 (12 * o k + i) = kd at *
  show _ = (if opE kd (pA σ (12 * o k + i) τ) (pB σ (12 * o k + i) τ) = 0 then _ else _ : Nat × Xs).1 ∧ _
  by_cases eE : opE kd (pA σ (12 * o k + i) τ) (pB σ (12 * o k + i) τ) = 0
  · rw [if_pos eE]
    obtain ⟨p1, p2, p3⟩ := o3 eE
    refine ⟨by rw [o1, eE], p1, fun _ => ?_⟩
    show SimP σ n (o k) (i + 1) _ (if kd = 17 then τ else upd τ _ _)
    intro t ht hL
    by_cases h17 : kd = 17
    · rw [if_pos h17]
      have nxo : nx σ (o k) (i + 1) t = nx σ (o k) i t := by unfold nx; rw [nm_s, if_neg (fun z => z.1 (by rw [hkd]; exact h17))]
      rw [nxo, vl_ag hP hO hS hZ ht (Pn_nx hP hO hI hk (Nat.le_of_lt hi) ht) (fun q' hq' => p3 q' hq' (fun z => absurd h17 z))]
      exact hs t ht (LvA_s hi hL (fun z => z.1 (by rw [hkd]; exact h17)))
    · rw [if_neg h17]
      have hself := hkp.resolve_left h17
      obtain ⟨q1, q2⟩ := hq h17
      obtain ⟨d, hd, ed, hpo⟩ := Pn_op hP hO hk hi (by rw [hkd]; exact h17)
      have hx221 := Pn_lt hP hO hd hpo
      rw [ed, nI_clamp (by omega)]
      by_cases etd : t = d
      · subst etd
        have nxd : nx σ (o k) (i + 1) t = 101 + 12 * o k + i := by unfold nx; rw [nm_s, if_pos ⟨by rw [hkd]; exact h17, ed⟩]
        have ev : ∀ z : Wd, vl σ (101 + 12 * o k + i) z = z q := fun z => by
          unfold vl
          rw [if_neg (by rw [hself.1]; decide), hself.2, nI_clamp (by omega), q1, nI_clamp (by omega)]
        rw [nxd, ev, p2 h17]
        simp [upd]
      · have nxo : nx σ (o k) (i + 1) t = nx σ (o k) i t := by
          unfold nx
          rw [nm_s, if_neg (fun z => etd (by have := z.2; rw [ed, nI_eq (by omega) (by omega)] at this; exact this.symm))]
        have hLi : LvA σ n (o k) i t := LvA_s hi hL (fun z => etd (by have := z.2; rw [ed, nI_eq (by omega) (by omega)] at this; exact this.symm))
        have := hs t ht hLi
        rw [nxo]
        simp only [upd, etd, if_false]
        rw [← this]
        have hpx := Pn_nx hP hO hI hk (Nat.le_of_lt hi) ht
        rcases nval hP hO hS hZ ht hpx with ⟨-, -, e⟩ | ⟨y, t', hh, ht', hy, hys, hyl, -, -, -, hst, h40, hh1, hh2, e⟩
        · rw [e, e]
        · rw [e, e]
          refine p3 hh hh2 (fun _ e2 => ?_)
          have hyx : y ≠ 101 + 12 * o k + i := fun e3 => by
            rw [e3] at hy
            have := (Pn_mad hP hO hk hi ht' hy).2
            omega
          refine hH4 k i hk hi (by rw [hkd]; exact h17) hself t y ht hL hyl (by rw [nxo]; exact hst) hyx ?_
          rw [h40, q1, e2]
  · rw [if_neg eE]
    exact ⟨o1, o2 eE, fun z => absurd z eE⟩
theorem sim_gone (hM : Mde σ n c o fs Zs) {k i : Nat} (hk : k < c) (hi : i < lenC σ (o k)) (h17 : σ 12 (12 * o k + i) ≠ 17) (hkp : ¬ self σ (101 + 12 * o k + i)) (z τ w : Wd) (cc : Nat) (lg : Wd) (hs : SimP σ n (o k) i z τ) : (pst σ (12 * o k + i) (τ, w, cc, lg)).1 = 0 ∧ (pst σ (12 * o k + i) (τ, w, cc, lg)).2.2 = (w, cc, lg) ∧ SimP σ n (o k) (i + 1) z (pst σ (12 * o k + i) (τ, w, cc, lg)).2.1 := by
  obtain ⟨eA, eB⟩ := op_ab hM hk hi hs
  obtain ⟨⟨hP, hO, hR, hI, hV⟩, hF, hS, hH, hZ⟩ := hM
  obtain ⟨d, hd, ed, hpo⟩ := Pn_op hP hO hk hi h17
  -- the value, and that nothing else happens
  have key : opE (σ 12 (12 * o k + i)) (pA σ (12 * o k + i) τ) (pB σ (12 * o k + i) τ) = 0 ∧ σ 12 (12 * o k + i) ≠ 16 ∧ σ 12 (12 * o k + i) ≠ 18 ∧ vl σ (101 + 12 * o k + i) z = rk (σ 12 (12 * o k + i)) (pA σ (12 * o k + i) τ) (pB σ (12 * o k + i) τ) := by
    rw [← eA, ← eB]
    rcases hS.2.2.1 k i hk hi h17 with q | ⟨q1, q2, q3⟩ | ⟨q1, q2, q3⟩ | ⟨q1, q2, q3, q4, q5, q6⟩
    · exact absurd q hkp
    · unfold opA vl
      rw [q1, if_pos rfl, q2, if_pos rfl, q3]
      refine ⟨?_, by decide, by decide, ?_⟩
      · unfold opE dvE adE; simp
      · unfold rk; simp
    · unfold opA
      rw [q1, if_neg (by decide)]
      refine ⟨?_, by decide, by decide, ?_⟩
      · unfold opE dvE adE; simp
      · have : rk 1 (vl σ (naO σ (o k) i) z) (opB σ (o k) i z) = vl σ (naO σ (o k) i) z := by unfold rk; simp
        rw [this]
        unfold vl
        rw [q2, q3]
    · have h0 : σ 12 (12 * o k + i) ≠ 0 := fun e => q1.1 (by rw [e]; decide)
      have hb : tr (tkB (σ 12 (12 * o k + i))) = true := tr_t.mpr (Or.inr q1)
      have a1 : opA σ (o k) i z = σ 38 (naO σ (o k) i) := by unfold opA vl; rw [if_neg h0, if_pos q2]
      have b1 : opB σ (o k) i z = σ 38 (nbO σ (o k) i) := by unfold opB vl; rw [if_pos hb, if_pos q3]
      have h16 : σ 12 (12 * o k + i) ≠ 16 := fun e => q1.2 (by rw [e]; decide)
      have h18 : σ 12 (12 * o k + i) ≠ 18 := fun e => q1.2 (by rw [e]; decide)
      rw [a1, b1]
      refine ⟨?_, h16, h18, ?_⟩
      · unfold opE adE
        rw [q4, decide_eq_false h16, decide_eq_false h17]
        rfl
      · unfold vl
        rw [if_pos q5, q6]
  obtain ⟨k1, k2, k3, k4⟩ := key
  unfold pst opX
  show (if opE (σ 12 (12 * o k + i)) (pA σ (12 * o k + i) τ) (pB σ (12 * o k + i) τ) = 0 then _ else _ : Nat × Xs).1 = 0 ∧ _
  rw [if_pos k1]
  refine ⟨rfl, ?_, ?_⟩
  · show (opW _ _ _ w, opC _ cc, opL _ _ _ cc lg) = (w, cc, lg)
    unfold opW opC opL
    rw [if_neg h17, if_neg k3, if_neg (fun z => k3 z.1)]
  · show SimP σ n (o k) (i + 1) z (if σ 12 (12 * o k + i) = 17 then τ else upd τ _ (opV _ _ _ w cc))
    rw [if_neg h17, ed, nI_clamp (by omega)]
    have ev : opV (σ 12 (12 * o k + i)) (pA σ (12 * o k + i) τ) (pB σ (12 * o k + i) τ) w cc = vl σ (101 + 12 * o k + i) z := by
      unfold opV
      rw [if_neg k2, if_neg k3, k4]
    intro t ht hL
    show _ = upd τ d (opV (σ 12 (12 * o k + i)) (pA σ (12 * o k + i) τ) (pB σ (12 * o k + i) τ) w cc) t
    rw [ev]
    by_cases etd : t = d
    · subst etd
      have nxd : nx σ (o k) (i + 1) t = 101 + 12 * o k + i := by unfold nx; rw [nm_s, if_pos ⟨h17, ed⟩]
      rw [nxd]
      simp [upd]
    · have nxo : nx σ (o k) (i + 1) t = nx σ (o k) i t := by
        unfold nx
        rw [nm_s, if_neg (fun z => etd (by have := z.2; rw [ed, nI_eq (by omega) (by omega)] at this; exact this.symm))]
      have hLi : LvA σ n (o k) i t := LvA_s hi hL (fun z => etd (by have := z.2; rw [ed, nI_eq (by omega) (by omega)] at this; exact this.symm))
      rw [nxo]
      simp only [upd, etd, if_false]
      exact hs t ht hLi
end Z1

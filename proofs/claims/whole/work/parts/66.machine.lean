/-! the class's machine: it follows code as code means -/
theorem ite_go {c : Prop} [Decidable c] {A B : Int32} {K : Int32 → Prop} (h : K (if c then A else B)) : (c → K A) ∧ (¬ c → K B) := ⟨fun e => by rwa [if_pos e] at h, fun e => by rwa [if_neg e] at h⟩
theorem mm_reckon {K : Int32 → mz_St → Prop} {σ : mz_St} {kd a b : Int32} (h : K (rk kd a b) σ) : mw_Mill_reckon K kd a b σ := by
  unfold rk at h
  unfold mw_Mill_reckon
  have h := ite_go (K := fun r => K r σ) h
  refine ⟨h.1, fun e => ?_⟩
  have h := ite_go (K := fun r => K r σ) (h.2 e)
  refine ⟨h.1, fun e => ?_⟩
  have h := ite_go (K := fun r => K r σ) (h.2 e)
  refine ⟨h.1, fun e => ?_⟩
  have h := ite_go (K := fun r => K r σ) (h.2 e)
  refine ⟨fun e5 => ?_, fun e => ?_⟩
  · have h := ite_go (K := fun r => K r σ) (h.1 e5)
    exact ⟨fun e => ⟨e, h.2 e⟩, h.1⟩
  have h := ite_go (K := fun r => K r σ) (h.2 e)
  refine ⟨fun e5 => ?_, fun e => ?_⟩
  · have h := ite_go (K := fun r => K r σ) (h.1 e5)
    exact ⟨fun e => ⟨e, h.2 e⟩, h.1⟩
  have h := ite_go (K := fun r => K r σ) (h.2 e)
  refine ⟨h.1, fun e => ?_⟩
  have h := ite_go (K := fun r => K r σ) (h.2 e)
  refine ⟨h.1, fun e => ?_⟩
  have h := ite_go (K := fun r => K r σ) (h.2 e)
  refine ⟨h.1, fun e => ?_⟩
  have h := ite_go (K := fun r => K r σ) (h.2 e)
  refine ⟨h.1, fun e => ?_⟩
  have h := ite_go (K := fun r => K r σ) (h.2 e)
  refine ⟨h.1, fun e => ?_⟩
  have h := ite_go (K := fun r => K r σ) (h.2 e)
  refine ⟨h.1, fun e => ?_⟩
  have h := ite_go (K := fun r => K r σ) (h.2 e)
  refine ⟨fun e5 => ?_, fun e => ?_⟩
  · have h := ite_go (K := fun r => K r σ) (h.1 e5)
    exact ⟨h.2, h.1⟩
  have h := ite_go (K := fun r => K r σ) (h.2 e)
  have ltle : ∀ x y : Int32, y ≤ x ↔ ¬ x < y := fun x y => by
    rw [Int32.lt_iff_toInt_lt, Int32.le_iff_toInt_le]; omega
  refine ⟨fun e5 => ?_, fun e => ?_⟩
  · have h := ite_go (K := fun r => K r σ) (h.1 e5)
    exact ⟨fun z => h.2 ((ltle _ _).mp z), fun z => h.1 (Classical.byContradiction fun q => z ((ltle _ _).mpr q))⟩
  have h := ite_go (K := fun r => K r σ) (h.2 e)
  refine ⟨fun e5 => ?_, fun e => h.2 e⟩
  have h := ite_go (K := fun r => K r σ) (h.1 e5)
  exact ⟨fun z => h.2 ((ltle _ _).mp z), fun z => h.1 (Classical.byContradiction fun q => z ((ltle _ _).mpr q))⟩
theorem mm_fails {K : Int32 → mz_St → Prop} {σ : mz_St} {kd a b : Int32} (h : K (bz (dvE kd a b)) σ) : mw_Mill_failsToDivide K kd a b σ := by
  unfold mw_Mill_failsToDivide
  intro P11 hP11
  have p11 : (kd = 5 ∨ kd = 6) → P11 σ := by
    intro hk
    have hk2 : (decide (kd = 5) || decide (kd = 6)) = true := by simpa using hk
    apply hP11
    unfold mw_Mill_failsToDivide_11
    intro P26 hP26
    have yes : (b = 0 ∨ (a = mnI ∧ b = -1)) → P26 σ := by
      intro z
      apply hP26
      unfold mw_Mill_failsToDivide_26
      have e : dvE kd a b = true := by unfold dvE; rw [hk2]; simpa using z
      rw [e] at h; exact h
    have no : ¬ (b = 0 ∨ (a = mnI ∧ b = -1)) → K 0 σ := by
      intro z
      have e : dvE kd a b = false := by
        unfold dvE; rw [hk2, Bool.true_and]
        cases e9 : (decide (b = 0) || decide (a = mnI) && decide (b = -1))
        · rfl
        · exact absurd (by simpa using e9) z
      rw [e] at h; exact h
    refine ⟨fun e => yes (Or.inl e), fun e => ⟨fun e1 => no (fun z => z.elim e (fun z => e1 z.1)), fun e1 => ⟨fun e2 => no (fun z => z.elim e (fun z => e2 z.2)), fun e2 => yes (Or.inr ⟨e1, e2⟩)⟩⟩⟩
  refine ⟨fun e => p11 (Or.inl e), fun e => ⟨fun e1 => ?_, fun e1 => p11 (Or.inr e1)⟩⟩
  have e9 : dvE kd a b = false := by unfold dvE; rw [decide_eq_false e, decide_eq_false e1]; rfl
  rw [e9] at h; exact h
def RepM (u : mz_St) (X : Xs) : Prop := u 57 = X.1 ∧ u 58 = X.2.1 ∧ u 1015 0 = nI X.2.2.1 ∧ u 59 = X.2.2.2
def mW : List Nat := [57, 58, 59, 1015]
theorem ge200 {c : Nat} (hc : c < 2 ^ 31) : (200 : Int32) ≤ nI c ↔ 200 ≤ c := by
  rw [show (200 : Int32) = nI 200 from rfl, nI_leI (by omega) hc]
theorem up_fun {σ : mz_St} {a i : Nat} {v : Int32} : mz_up σ a i v a = upd (σ a) i v := mz_up_eq
theorem mm_callOut {K : Int32 → mz_St → Prop} {σ : mz_St} {c : Nat} {a b : Int32} (h1 : σ 1015 0 = nI c) (hc : c < 2 ^ 30) (h : ∀ u, mf [59, 1015] σ u → u 1015 0 = nI (c + 1) → u 59 = opL 18 a b c (σ 59) → K (a * 31 + b + (7 : Int32) * nI c) u) : mw_Machine_callOut K b a σ := by
  unfold mw_Machine_callOut
  intro P65 hP65
  have fin : ∀ u, mf [59] σ u → u 59 = opL 18 a b c (σ 59) → P65 u := by
    intro u hm h59
    apply hP65
    unfold mw_Machine_callOut_65
    rw [hm 1015 (by decide), h1, nI_k1]
    exact h _ (mf_tr (mf_mono hm (by decide)) (mf_up (by decide))) up_at (by rw [up_row (by decide)]; exact h59)
  have e15 : ∀ i v, mz_wr σ 59 i v 1015 0 = nI c := fun i v => by unfold mz_wr; rw [up_row (by decide)]; exact h1
  have e15' : ∀ i v j w, mz_wr (mz_wr σ 59 i v) 59 j w 1015 0 = nI c := fun i v j w => by unfold mz_wr; rw [up_row (by decide), up_row (by decide)]; exact h1
  have e3 : nI c * 3 = nI (3 * c) := by rw [show (3 : Int32) = nI 3 from rfl, pk_mul, Nat.mul_comm]
  rw [e15, e15', h1, ge200 (by omega), e3, nI_1, nI_2]
  refine ⟨fun hge => fin σ mf_rf ?_, fun hlt => ⟨vp_in_nI (by omega) (by decide), vp_in_nI (by omega) (by decide), vp_in_nI (by omega) (by decide), fin _ ?_ ?_⟩⟩
  · unfold opL; rw [if_neg (by omega)]
  · exact mf_tr (mf_tr (mf_wr (by decide)) (mf_wr (by decide))) (mf_wr (by decide))
  · rw [mz_wrn (by omega), mz_wrn (by omega), mz_wrn (by omega)]
    unfold opL
    rw [if_pos ⟨rfl, by omega⟩, up_fun, up_fun, up_fun]
theorem mm_performOne {K : Int32 → mz_St → Prop} {σ : mz_St} {j : Nat} {X : Xs} (hj : j < 1090) (hok : cok σ j) (hR : RepM σ X) (hc : X.2.2.1 < 2 ^ 30) (h : ∀ u, mf mW σ u → RepM u (cst σ j X).2 → K (if (cst σ j X).1 = 0 then -1 else nI (cst σ j X).1) u) : mw_Machine_performOne K (nI j) σ := by
  obtain ⟨r57, r58, r15, r59⟩ := hR
  have hin : vp_in (nI j) 1090 := vp_in_nI hj (by decide)
  have rd : ∀ a, mz_rd σ a (nI j) = σ a j := fun a => mz_rdn (by omega)
  unfold mw_Machine_performOne
  refine ⟨hin, hin, hin, fun P46 hP46 => ?_⟩
  have p46 : P46 (cA σ j X.1) σ := by
    apply hP46
    unfold mw_Machine_performOne_46
    refine ⟨hin, fun P79 hP79 => ?_⟩
    have p79 : P79 (cB σ j X.1) σ := by
      apply hP79
      unfold mw_Machine_performOne_79
      rw [rd 47]
      generalize hA : cA σ j X.1 = A
      generalize hB : cB σ j X.1 = B
      have hcst : cst σ j X = opX (σ 47 j) A B (σ 48 j).toNatClampNeg X := by unfold cst; rw [hA, hB]
      rw [hcst] at h
      have err : ∀ e : Nat, e ≠ 0 → opE (σ 47 j) A B = e → K (nI e) σ := by
        intro e he0 he
        have e1 : opX (σ 47 j) A B (σ 48 j).toNatClampNeg X = (e, X) := by unfold opX; rw [he, if_neg he0]
        rw [e1] at h
        have := h σ mf_rf ⟨r57, r58, r15, r59⟩
        rw [if_neg he0] at this
        exact this
      refine mm_fails (bz_go (fun ed => ?_) (fun ed => ?_))
      · -- no failing division
        intro P108 hP108
        have bad : adE (σ 47 j) A B = true → K 2 σ := fun z => err 2 (by decide) (by unfold opE; rw [ed, z]; rfl)
        have good : adE (σ 47 j) A B = false → ∀ u, mf mW σ u → RepM u ((if σ 47 j = 17 then X.1 else upd X.1 (σ 48 j).toNatClampNeg (opV (σ 47 j) A B X.2.1 X.2.2.1)), opW (σ 47 j) A B X.2.1, opC (σ 47 j) X.2.2.1, opL (σ 47 j) A B X.2.2.1 X.2.2.2) → K (-1) u := by
          intro z u hm hRu
          have e0 : opE (σ 47 j) A B = 0 := by unfold opE; rw [ed, z]; rfl
          have e1 : opX (σ 47 j) A B (σ 48 j).toNatClampNeg X = (0, (if σ 47 j = 17 then X.1 else upd X.1 (σ 48 j).toNatClampNeg (opV (σ 47 j) A B X.2.1 X.2.2.1)), opW (σ 47 j) A B X.2.1, opC (σ 47 j) X.2.2.1, opL (σ 47 j) A B X.2.2.1 X.2.2.2) := by unfold opX; rw [if_pos e0]
          rw [e1] at h
          exact h u hm hRu
        have body : adE (σ 47 j) A B = false → ∀ P124 : mz_St → Prop, (∀ s, mw_Machine_performOne_124 K (nI j) σ A B s → P124 s) → P124 σ := by
          intro z P124 hP124
          apply hP124
          have zz := good z
          unfold mw_Machine_performOne_124
          rw [rd 47, rd 48]
          refine ⟨fun n16 => ⟨fun n17 => ?_, fun k17 => ?_⟩, fun k16 => ?_⟩
          · obtain ⟨d, hd, ed2⟩ := hok.2.2 n17
            rw [ed2, nI_clamp (by omega)] at zz
            rw [ed2]
            have hind : vp_in (nI d) 230 := vp_in_nI hd (by decide)
            refine ⟨fun n18 => mm_reckon ⟨hind, ?_⟩, fun k18 => mm_callOut r15 hc (fun u hm h15 h59 => ⟨hind, ?_⟩)⟩
            · rw [mz_wrn (by omega)]
              refine zz _ (mf_up (by decide)) ?_
              unfold opV opW opC opL
              rw [if_neg n17, if_neg n16, if_neg n18, if_neg n17, if_neg n18, if_neg (fun q => n18 q.1)]
              exact ⟨by rw [up_fun, r57], by rw [up_row (by decide)]; exact r58, by rw [up_row (by decide)]; exact r15, by rw [up_row (by decide)]; exact r59⟩
            · rw [mz_wrn (by omega)]
              refine zz _ (mf_tr (mf_mono hm (by decide)) (mf_up (by decide))) ?_
              rw [k18]
              unfold opV opW opC
              rw [if_neg (by decide), if_neg (by decide), if_pos rfl, if_neg (by decide), if_pos rfl]
              exact ⟨by rw [up_fun, hm 57 (by decide), r57], by rw [up_row (by decide), hm 58 (by decide)]; exact r58, by rw [up_row (by decide)]; exact h15, by rw [up_row (by decide), h59, r59]⟩
          · have hw : isword B = true := by
              cases e9 : isword B
              · unfold adE at z; rw [e9, decide_eq_true k17] at z; simp at z
              · rfl
            obtain ⟨b, hb, eb⟩ := isword_of hw
            rw [eb] at zz ⊢
            refine ⟨vp_in_nI hb (by decide), ?_⟩
            rw [mz_wrn (by omega)]
            refine zz _ (mf_up (by decide)) ?_
            unfold opW opC opL
            rw [k17, if_pos rfl, if_pos rfl, if_neg (by decide), if_neg (fun q => absurd q.1 (by decide)), nI_clamp (by omega)]
            exact ⟨by rw [up_row (by decide)]; exact r57, by rw [up_fun, r58], by rw [up_row (by decide)]; exact r15, by rw [up_row (by decide)]; exact r59⟩
          · have n17 : σ 47 j ≠ 17 := by rw [k16]; decide
            obtain ⟨d, hd, ed2⟩ := hok.2.2 n17
            have hw : isword A = true := by
              cases e9 : isword A
              · unfold adE at z; rw [e9, decide_eq_true k16] at z; simp at z
              · rfl
            obtain ⟨a, ha, ea⟩ := isword_of hw
            rw [ed2, nI_clamp (by omega), ea] at zz
            rw [ed2, ea]
            refine ⟨vp_in_nI ha (by decide), vp_in_nI hd (by decide), ?_⟩
            rw [mz_wrn (by omega), mz_rdn (by omega)]
            refine zz _ (mf_up (by decide)) ?_
            unfold opV opW opC opL
            rw [k16, if_neg (by decide), if_pos rfl, if_neg (by decide), if_neg (by decide), if_neg (fun q => absurd q.1 (by decide)), nI_clamp (by omega)]
            exact ⟨by rw [up_fun, r57, r58], by rw [up_row (by decide)]; exact r58, by rw [up_row (by decide)]; exact r15, by rw [up_row (by decide)]; exact r59⟩
        have p108 : (σ 47 j = 16 → isword A = true) → P108 σ := by
          intro hz
          apply hP108
          unfold mw_Machine_performOne_108
          intro P124 hP124
          rw [rd 47]
          have a16 : (decide (σ 47 j = 16) && !isword A) = false := by
            cases e9 : decide (σ 47 j = 16)
            · rfl
            · rw [hz (of_decide_eq_true e9)]; rfl
          refine ⟨fun n17 => body ?_ P124 hP124, fun k17 => mm_isWord (bz_og (fun e => body ?_ P124 hP124) (fun e => bad ?_))⟩
          · unfold adE; rw [a16, decide_eq_false n17]; rfl
          · unfold adE; rw [a16, e]; simp
          · unfold adE; rw [decide_eq_true k17, e]; simp
        refine ⟨fun n16 => p108 (fun z => absurd z n16), fun k16 => mm_isWord (bz_go (fun e => bad ?_) (fun e => p108 (fun _ => e)))⟩
        unfold adE; rw [decide_eq_true k16, e]; simp
      · exact err 1 (by decide) (by unfold opE; rw [ed]; rfl)
    rw [rd 50, rd 51]
    refine ⟨fun e => ?_, fun e => ?_⟩
    · obtain ⟨b, hb, eb⟩ := hok.2.1 e
      rw [eb, mz_rdn (by omega)]
      refine ⟨hin, vp_in_nI hb (by decide), ?_⟩
      have : cB σ j X.1 = σ 57 b := by unfold cB; rw [if_pos e, eb, nI_clamp (by omega), r57]
      rw [← this]; exact p79
    · refine ⟨hin, ?_⟩
      have : cB σ j X.1 = σ 50 j := by unfold cB; rw [if_neg e]
      rw [← this]; exact p79
  rw [rd 49, rd 51]
  refine ⟨fun e => ?_, fun e => ?_⟩
  · obtain ⟨a, ha, ea⟩ := hok.1 e
    rw [ea, mz_rdn (by omega)]
    refine ⟨hin, vp_in_nI ha (by decide), ?_⟩
    have : cA σ j X.1 = σ 57 a := by unfold cA; rw [if_pos e, ea, nI_clamp (by omega), r57]
    rw [← this]; exact p46
  · refine ⟨hin, ?_⟩
    have : cA σ j X.1 = σ 49 j := by unfold cA; rw [if_neg e]
    rw [← this]; exact p46

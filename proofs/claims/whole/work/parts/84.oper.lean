/-! an operation's code -/
theorem ex_one {w : mz_St} {L : Nat} {X : Xs} : ex w L (L + 1) X = cst w L X := by
  unfold ex
  rw [show L + 1 - L = 0 + 1 by omega, csc_s]
  by_cases e : (cst w L X).1 = 0
  · rw [if_pos e]
    show (0, (cst w L X).2) = cst w L X
    rw [← e]
  · rw [if_neg e]
noncomputable def opA (σ : mz_St) (b i : Nat) (z : Wd) : Int32 := if σ 12 (12 * b + i) = 0 then σ 14 (12 * b + i) else vl σ (naO σ b i) z
noncomputable def opB (σ : mz_St) (b i : Nat) (z : Wd) : Int32 := if tr (tkB (σ 12 (12 * b + i))) then vl σ (nbO σ b i) z else σ 15 (12 * b + i)
/-- code that does an operation, its value into cell h -/
def OpD (σ v : mz_St) (Zs : Nat → Prop) (b i h L L' : Nat) : Prop := ∀ z w cc lg,
  (ex v L L' (z, w, cc, lg)).1 = opE (σ 12 (12 * b + i)) (opA σ b i z) (opB σ b i z) ∧
  (opE (σ 12 (12 * b + i)) (opA σ b i z) (opB σ b i z) ≠ 0 → (ex v L L' (z, w, cc, lg)).2.2 = (w, cc, lg)) ∧
  (opE (σ 12 (12 * b + i)) (opA σ b i z) (opB σ b i z) = 0 →
    (ex v L L' (z, w, cc, lg)).2.2 = (opW (σ 12 (12 * b + i)) (opA σ b i z) (opB σ b i z) w, opC (σ 12 (12 * b + i)) cc, opL (σ 12 (12 * b + i)) (opA σ b i z) (opB σ b i z) cc lg) ∧
    (σ 12 (12 * b + i) ≠ 17 → (ex v L L' (z, w, cc, lg)).2.1 h = opV (σ 12 (12 * b + i)) (opA σ b i z) (opB σ b i z) w cc) ∧
    ∀ q, ¬ Zs q → (σ 12 (12 * b + i) ≠ 17 → q ≠ h) → (ex v L L' (z, w, cc, lg)).2.1 q = z q)
section Y1
variable {K : mz_St → Prop} {σ u : mz_St} {n c fs L : Nat} {o : Nat → Nat} {Zs : Nat → Prop}
noncomputable def isA (σ : mz_St) (b i : Nat) : Bool := decide (σ 12 (12 * b + i) = 0) || nu σ (naO σ b i)
noncomputable def isB (σ : mz_St) (b i : Nat) : Bool := !(tr (tkB (σ 12 (12 * b + i)))) || nu σ (nbO σ b i)
/-- operands are at hand -/
def Opn (σ y : mz_St) (Zs : Nat → Prop) (b i L L1 : Nat) (ra rb : Int32) : Prop := ∀ z rr, ∃ z1, ex y L L1 (z, rr) = (0, (z1, rr)) ∧ sv (isA σ b i) ra z1 = opA σ b i z ∧ sv (isB σ b i) rb z1 = opB σ b i z ∧ ∀ q, ¬ Zs q → z1 q = z q
theorem cst_op {w : mz_St} {b i d : Nat} {ra rb : Int32} (hd : d < 230) (e47 : w 47 L = σ 12 (12 * b + i)) (e48 : w 48 L = nI d) (e49 : w 49 L = ra) (e50 : w 50 L = rb) (e51 : w 51 L = fo2 (σ 12 (12 * b + i)) (nu σ (naO σ b i)) (nu σ (nbO σ b i))) (X : Xs) : cst w L X = opX (σ 12 (12 * b + i)) (sv (isA σ b i) ra X.1) (sv (isB σ b i) rb X.1) d X := by
  have eA : cA w L X.1 = sv (isA σ b i) ra X.1 := by
    unfold cA sv isA
    rw [e49, e51]
    by_cases q : σ 12 (12 * b + i) ≠ 0 ∧ nu σ (naO σ b i) = false
    · rw [if_pos ((fo_ab _ _ _).1.mpr q), decide_eq_false q.1, q.2]; rfl
    · rw [if_neg (fun z => q ((fo_ab _ _ _).1.mp z))]
      have : (decide (σ 12 (12 * b + i) = 0) || nu σ (naO σ b i)) = true := by
        by_cases q1 : σ 12 (12 * b + i) = 0
        · rw [decide_eq_true q1]; rfl
        · cases q2 : nu σ (naO σ b i)
          · exact absurd ⟨q1, q2⟩ q
          · rw [Bool.or_true]
      rw [this, if_pos rfl]
  have eB : cB w L X.1 = sv (isB σ b i) rb X.1 := by
    unfold cB sv isB
    rw [e50, e51]
    by_cases q : tr (tkB (σ 12 (12 * b + i))) = true ∧ nu σ (nbO σ b i) = false
    · rw [if_pos ((fo_ab _ _ _).2.mpr q), q.1, q.2]; rfl
    · rw [if_neg (fun z => q ((fo_ab _ _ _).2.mp z))]
      have : (!(tr (tkB (σ 12 (12 * b + i)))) || nu σ (nbO σ b i)) = true := by
        cases q1 : tr (tkB (σ 12 (12 * b + i)))
        · rfl
        · cases q2 : nu σ (nbO σ b i)
          · exact absurd ⟨q1, q2⟩ q
          · rfl
      rw [this, if_pos rfl]
  unfold cst
  rw [eA, eB, e47, e48, nI_clamp (by omega)]
theorem cok_op {w : mz_St} {b i d : Nat} {ra rb : Int32} (hd : d < 230) (e48 : w 48 L = nI d) (e49 : w 49 L = ra) (e50 : w 50 L = rb) (e51 : w 51 L = fo2 (σ 12 (12 * b + i)) (nu σ (naO σ b i)) (nu σ (nbO σ b i))) (ha : svok (isA σ b i) ra) (hb : svok (isB σ b i) rb) : cok w L := by
  unfold cok
  rw [e48, e49, e50, e51]
  refine ⟨fun z => ha ?_, fun z => hb ?_, fun _ => ⟨d, hd, rfl⟩⟩
  · obtain ⟨q1, q2⟩ := (fo_ab _ _ _).1.mp z
    unfold isA
    rw [decide_eq_false q1, q2]; rfl
  · obtain ⟨q1, q2⟩ := (fo_ab _ _ _).2.mp z
    unfold isB
    rw [q1, q2]; rfl
theorem mm_op160 (hP : PN σ n) (hO : Ord σ n c o) (hZ : Hz σ c o fs Zs) {y s0 : mz_St} {k i L1 : Nat} {ra rb : Int32} (hk : k < c) (hi : i < lenC σ (o k)) (hkp : σ 12 (12 * o k + i) = 17 ∨ self σ (101 + 12 * o k + i)) (hm : mf wW σ y) (hA : Ad u y L L1) (hL1 : L1 ≤ L + 2) (hL : L + 4 ≤ 1090) (ha : svok (isA σ (o k) i) ra) (hb : svok (isB σ (o k) i) rb) (hsem : Opn σ y Zs (o k) i L L1 ra rb) (hs0 : s0 12 (12 * o k + i) = σ 12 (12 * o k + i)) (h : ∀ v L', Ad u v L L' → L' ≤ L + 4 → (∀ q, (σ 12 (12 * o k + i) ≠ 17 → σ 40 (101 + 12 * o k + i) = nI q ∧ q < 229) → OpD σ v Zs (o k) i q L L') → K v) : mw_Writer_writeOperation_160 K (nI (12 * o k + i)) s0 ra (fo2 (σ 12 (12 * o k + i)) (nu σ (naO σ (o k) i)) (nu σ (nbO σ (o k) i))) rb y := by
  obtain ⟨ho, hl⟩ := o_lt hP hO hk
  have y11 := hA.2.1
  have hLL := hA.2.2.1
  generalize hkd : σ 12 (12 * o k + i) = kd at *
  have hs0' : mz_rd s0 12 (nI (12 * o k + i)) = kd := by rw [mz_rdn (by omega)]; exact hs0
  unfold mw_Writer_writeOperation_160
  refine mm_makesValue ho (by omega) ?_
  rw [hm 12 (by decide), hkd]
  -- one operation straight into a cell d
  have one : ∀ (w : mz_St) (d : Nat), d < 230 → mf cW y w → w 1011 0 = nI (L1 + 1) → low y w L1 → w 47 L1 = kd → w 48 L1 = nI d → w 49 L1 = ra → w 50 L1 = rb → w 51 L1 = fo2 kd (nu σ (naO σ (o k) i)) (nu σ (nbO σ (o k) i)) → Ad u w L (L1 + 1) ∧ ∀ z ww cc lg, ∃ z1, (∀ q, ¬ Zs q → z1 q = z q) ∧ ex w L (L1 + 1) (z, ww, cc, lg) = opX kd (opA σ (o k) i z) (opB σ (o k) i z) d (z1, ww, cc, lg) := by
    intro w d hd hmw w11 hlw e47 e48 e49 e50 e51
    rw [← hkd] at e47 e51
    refine ⟨Ad_tr hA ⟨hmw, w11, by omega, hlw, fun j q1 q2 => ?_⟩, fun z ww cc lg => ?_⟩
    · have : j = L1 := by omega
      subst this
      exact cok_op hd e48 e49 e50 e51 ha hb
    · obtain ⟨z1, g1, g2, g3, g4⟩ := hsem z (ww, cc, lg)
      refine ⟨z1, g4, ?_⟩
      rw [ex_ok hlw hLL (by omega) g1 rfl, ex_one, cst_op hd e47 e48 e49 e50 e51, hkd]
      show opX kd (sv _ ra z1) (sv _ rb z1) d (z1, ww, cc, lg) = _
      rw [g2, g3]
  refine bz_og (fun e => ?_) (fun e => ?_)
  · have h17 : kd ≠ 17 := by simpa using e
    have hself := hkp.resolve_left h17
    obtain ⟨td, htd, -, hpo⟩ := Pn_op hP hO hk hi (by rw [hkd]; exact h17)
    obtain ⟨hx, e40, hx1, hx2⟩ := hZ.2.2.2.1 td _ _ htd hpo hself
    unfold mw_Mill_madeName
    rw [ixmade, ← Nat.add_assoc]
    refine ⟨vp_in_nI (by omega) (by decide), ?_⟩
    have e40' : mz_rd y 40 (nI (101 + 12 * o k + i)) = nI hx := by rw [mz_rdn (by omega), hm 40 (by decide)]; exact e40
    rw [e40', hs0']
    have hq : ∀ q, σ 40 (101 + 12 * o k + i) = nI q → q < 229 → q = hx := fun q q1 q2 => by
      rw [e40, nI_eq (by omega) (by omega)] at q1; exact q1.symm
    refine mm_isSlot (by rw [hm 1007 (by decide)]; exact hZ.1) hZ.2.1 (by omega) (bz_go (fun _ => ?_) (fun e2 => ?_))
    · refine mm_add y11 (by omega) (fun w hmw w11 hlw e47 e48 e49 e50 e51 => ?_)
      obtain ⟨o1, o2⟩ := one w hx (by omega) hmw w11 hlw e47 e48 e49 e50 e51
      refine h w (L1 + 1) o1 (by omega) (fun q q0 => ?_)
      rw [hq q (q0 h17).1 (q0 h17).2]
      intro z ww cc lg
      rw [hkd]
      obtain ⟨z1, g1, g2⟩ := o2 z ww cc lg
      rw [g2]
      unfold opX
      by_cases eE : opE kd (opA σ (o k) i z) (opB σ (o k) i z) = 0
      · rw [if_pos eE]
        refine ⟨eE.symm, fun q => absurd eE q, fun _ => ⟨rfl, fun _ => ?_, fun q q1 q2 => ?_⟩⟩
        · show (if kd = 17 then z1 else upd z1 hx _) hx = _
          rw [if_neg h17]; simp [upd]
        · show (if kd = 17 then z1 else upd z1 hx _) q = _
          rw [if_neg h17]
          simp [upd, q2 h17]
          exact g1 q q1
      · rw [if_neg eE]
        exact ⟨rfl, fun _ => rfl, fun q => absurd q eE⟩
    · have e2 := of_decide_eq_true e2
      rcases hZ.2.2.2.2 with z | ⟨s, s1, s2, s3, s4⟩
      · have := z td _ _ hx htd hpo hself e40 hx1; omega
      · rw [hm 1008 (by decide), s1]
        refine mm_add y11 (by omega) (fun w hmw w11 hlw e47 e48 e49 e50 e51 => ?_)
        obtain ⟨o1, o2⟩ := one w s (by omega) hmw w11 hlw e47 e48 e49 e50 e51
        rw [hmw 1008 (by decide), hm 1008 (by decide), s1]
        refine mm_addMove (b := false) w11 (by omega) (by omega) (fun _ => ⟨s, by omega, rfl⟩) (fun v hA2 hsem2 => h v (L1 + 1 + 1) (Ad_tr o1 hA2) (by omega) (fun q q0 => ?_))
        rw [hq q (q0 h17).1 (q0 h17).2]
        intro z ww cc lg
        rw [hkd]
        obtain ⟨z1, g1, g2⟩ := o2 z ww cc lg
        rw [ex_app hA2.2.2.2.1 (by omega) (by omega), g2]
        unfold opX
        by_cases eE : opE kd (opA σ (o k) i z) (opB σ (o k) i z) = 0
        · rw [if_pos eE, if_pos rfl, hsem2]
          refine ⟨eE.symm, fun q => absurd eE q, fun _ => ⟨rfl, fun _ => ?_, fun q q1 q2 => ?_⟩⟩
          · show upd (if kd = 17 then z1 else upd z1 s _) hx (sv false (nI s) (if kd = 17 then z1 else upd z1 s _)) hx = _
            rw [if_neg h17]
            unfold sv
            rw [nI_clamp (by omega)]
            simp [upd]
          · show upd (if kd = 17 then z1 else upd z1 s _) hx _ q = _
            have hqs : q ≠ s := fun e => q1 (by rw [e]; exact s3)
            rw [if_neg h17]
            simp [upd, q2 h17, hqs]
            exact g1 q q1
        · rw [if_neg eE, if_neg eE]
          exact ⟨rfl, fun _ => rfl, fun q => absurd q eE⟩
  · have h17 : kd = 17 := by simpa using e
    rw [hs0']
    refine mm_add y11 (by omega) (fun w hmw w11 hlw e47 e48 e49 e50 e51 => ?_)
    obtain ⟨o1, o2⟩ := one w 0 (by omega) hmw w11 hlw e47 e48 e49 e50 e51
    refine h w (L1 + 1) o1 (by omega) (fun q _ => ?_)
    intro z ww cc lg
    rw [hkd]
    obtain ⟨z1, g1, g2⟩ := o2 z ww cc lg
    rw [g2]
    unfold opX
    by_cases eE : opE kd (opA σ (o k) i z) (opB σ (o k) i z) = 0
    · rw [if_pos eE]
      refine ⟨eE.symm, fun q => absurd eE q, fun _ => ⟨rfl, fun q => absurd h17 q, fun q q1 q2 => ?_⟩⟩
      show (if kd = 17 then z1 else upd z1 0 _) q = _
      rw [if_pos h17]
      exact g1 q q1
    · rw [if_neg eE]
      exact ⟨rfl, fun _ => rfl, fun q => absurd q eE⟩
theorem mm_writeOp (hB : Bas σ n c o) (hS : StOK σ n c o) (hZ : Hz σ c o fs Zs) {k i : Nat} (hk : k < c) (hi : i < lenC σ (o k)) (hkp : σ 12 (12 * o k + i) = 17 ∨ self σ (101 + 12 * o k + i)) (hm : mf wW σ u) (h11 : u 1011 0 = nI L) (hL : L + 4 ≤ 1090) (h : ∀ v L', Ad u v L L' → L' ≤ L + 4 → (∀ q, (σ 12 (12 * o k + i) ≠ 17 → σ 40 (101 + 12 * o k + i) = nI q ∧ q < 229) → OpD σ v Zs (o k) i q L L') → K v) : mw_Writer_writeOperation K (nI (12 * o k + i)) u := by
  obtain ⟨hP, hO, hR, hI, hV⟩ := id hB
  obtain ⟨ho, hl⟩ := o_lt hP hO hk
  have hSm : Sm σ u := Sm_mf hm (by decide)
  have hin : vp_in (nI (12 * o k + i)) 120 := vp_in_nI (by omega) (by decide)
  obtain ⟨n1, n2, n3, n4⟩ := (hI k hk).2.2.1 i hi
  have hscA : NSl σ c o fs ∨ ∃ q, σ 1008 0 = nI q ∧ q < 230 := hZ.2.2.2.2.imp id (fun ⟨s, s1, s2, _⟩ => ⟨s, s1, by omega⟩)
  have hscB : NSl σ c o fs ∨ ∃ q, σ 1008 0 + 1 = nI q ∧ q < 230 := hZ.2.2.2.2.imp id (fun ⟨s, s1, s2, _⟩ => ⟨s + 1, by rw [s1, nI_k1], by omega⟩)
  -- cells that are no scratch stay
  have frA : ∀ (z z' : Wd), (NSl σ c o fs → z' = z) → (∀ q, (∀ s, σ 1008 0 = nI s → s < 230 → q ≠ s) → z' q = z q) → ∀ q, ¬ Zs q → z' q = z q := by
    intro z z' h1 h2 q hq
    rcases hZ.2.2.2.2 with z | ⟨s, s1, s2, s3, s4⟩
    · rw [h1 z]
    · refine h2 q (fun s' e1 e2 e3 => hq ?_)
      rw [s1, nI_eq (by omega) (by omega)] at e1
      rw [e3, ← e1]; exact s3
  have frB : ∀ (z z' : Wd), (NSl σ c o fs → z' = z) → (∀ q, (∀ s, σ 1008 0 + 1 = nI s → s < 230 → q ≠ s) → z' q = z q) → ∀ q, (¬ Zs q ∨ (nI q = σ 1008 0 ∧ q < 230)) → z' q = z q := by
    intro z z' h1 h2 q hq
    rcases hZ.2.2.2.2 with z | ⟨s, s1, s2, s3, s4⟩
    · rw [h1 z]
    · refine h2 q (fun s' e1 e2 e3 => ?_)
      rw [s1, nI_k1, nI_eq (by omega) (by omega)] at e1
      rcases hq with hq | ⟨hq, hq2⟩
      · exact hq (by rw [e3, ← e1]; exact s4)
      · rw [s1, nI_eq (by omega) (by omega)] at hq
        omega
  have h12 : u 12 (12 * o k + i) = σ 12 (12 * o k + i) := by rw [hSm 12 (by decide)]
  -- with the first operand at hand
  have st98 : ∀ (y : mz_St) (L1 : Nat) (ra : Int32), Ad u y L L1 → L1 ≤ L + 1 → svok (isA σ (o k) i) ra → (∀ z rr, ∃ z1, ex y L L1 (z, rr) = (0, (z1, rr)) ∧ sv (isA σ (o k) i) ra z1 = opA σ (o k) i z ∧ ∀ q, ¬ Zs q → z1 q = z q) → (isA σ (o k) i = false → ∃ q, ra = nI q ∧ q < 230 ∧ (¬ Zs q ∨ ra = σ 1008 0)) → mw_Writer_writeOperation_98 K (nI (12 * o k + i)) u u (fo1 (σ 12 (12 * o k + i)) (nu σ (naO σ (o k) i))) ra y := by
    intro y L1 ra hA hL1 hra hsemA hcell
    have hmy : mf wW σ y := mf_tr hm (mf_mono hA.1 (by decide))
    unfold mw_Writer_writeOperation_98
    refine mm_takesB ho (by omega) ?_
    rw [hmy 12 (by decide)]
    intro P160 hP160
    refine bz_go (fun e => ?_) (fun e => ?_)
    · apply hP160
      rw [mz_rdn (by omega), hSm 15 (by decide)]
      have efo : fo1 (σ 12 (12 * o k + i)) (nu σ (naO σ (o k) i)) = fo2 (σ 12 (12 * o k + i)) (nu σ (naO σ (o k) i)) (nu σ (nbO σ (o k) i)) := by
        unfold fo2; rw [e]; rfl
      rw [efo]
      have eB : isB σ (o k) i = true := by unfold isB; rw [e]; rfl
      refine mm_op160 hP hO hZ hk hi hkp hmy hA (by omega) hL hra (fun z => by rw [eB] at z; cases z) (fun z rr => ?_) h12 h
      obtain ⟨z1, g1, g2, g3⟩ := hsemA z rr
      refine ⟨z1, g1, g2, ?_, g3⟩
      rw [eB]
      unfold opB
      rw [e]; rfl
    · obtain ⟨tb, htb, hnb, -, -⟩ := Pn_nb hP hO hI hk hi (tr_t.mp e)
      have e34 : ∀ s : mz_St, mf wW σ s → mz_rd s 34 (nI (12 * o k + i)) = nI (nbO σ (o k) i) := fun s hs => by rw [mz_rdn (by omega), hs 34 (by decide)]; exact n3 (tr_t.mp e)
      rw [e34 y hmy]
      refine ⟨hin, mm_isNumber (Pn_lt hP hO htb hnb) ?_⟩
      rw [hmy 37 (by decide)]
      intro P134 hP134
      have st134 : ∀ y0 : Int32, y0 = (if nu σ (nbO σ (o k) i) then 2 else 0) → P134 y0 (fo1 (σ 12 (12 * o k + i)) (nu σ (naO σ (o k) i))) y := by
        intro y0 hy0
        apply hP134
        unfold mw_Writer_writeOperation_134
        rw [e34 y hmy, hmy 1008 (by decide)]
        refine ⟨hin, mm_bring hP hO hS hZ hmy hA.2.1 (by omega) htb hnb hscB (fun v L' r hA2 hL' hr hsem2 hcell2 => ?_)⟩
        apply hP160
        have hmv : mf wW σ v := mf_tr hmy (mf_mono hA2.1 (by decide))
        have efo : fo1 (σ 12 (12 * o k + i)) (nu σ (naO σ (o k) i)) ||| y0 = fo2 (σ 12 (12 * o k + i)) (nu σ (naO σ (o k) i)) (nu σ (nbO σ (o k) i)) := by
          unfold fo2; rw [e, hy0]; rfl
        rw [efo]
        have eB : isB σ (o k) i = nu σ (nbO σ (o k) i) := by unfold isB; rw [e]; rfl
        have hll := hA2.2.2.1
        have hll1 := hA.2.2.1
        refine mm_op160 hP hO hZ hk hi hkp hmv (Ad_tr hA hA2) (by omega) hL hra (by rw [eB]; exact hr) (fun z rr => ?_) h12 h
        obtain ⟨z1, g1, g2, g3⟩ := hsemA z rr
        obtain ⟨z2, f1, f2, f3, f4⟩ := hsem2 z1 rr
        have fr := frB z1 z2 f3 f4
        refine ⟨z2, ex_ok hA2.2.2.2.1 hll1 hll g1 f1, ?_, ?_, fun q hq => ?_⟩
        · rw [← g2]
          cases ea : isA σ (o k) i
          · obtain ⟨q, q1, q2, q3⟩ := hcell ea
            rw [q1]
            show z2 (nI q).toNatClampNeg = z1 (nI q).toNatClampNeg
            rw [nI_clamp (by omega)]
            refine fr q (q3.imp id (fun z => ⟨by rw [← q1]; exact z, q2⟩))
          · rfl
        · rw [eB, f2]
          unfold opB
          rw [e, if_pos rfl]
          exact vl_ag hP hO hS hZ htb hnb g3
        · rw [fr q (Or.inl hq)]
          exact g3 q hq
      refine bz_go (fun e2 => st134 0 ?_) (fun e2 => st134 2 ?_)
      · have : nu σ (nbO σ (o k) i) = false := e2
        rw [this]; rfl
      · have : nu σ (nbO σ (o k) i) = true := e2
        rw [this]; rfl
  unfold mw_Writer_writeOperation
  refine ⟨hin, mm_plainForm ho (by omega) ⟨hin, hin, mm_takesA ho (by omega) ?_⟩⟩
  rw [hSm 12 (by decide)]
  intro P98 hP98
  refine bz_go (fun e => ?_) (fun e => ?_)
  · have h0 : σ 12 (12 * o k + i) = 0 := by simpa using e
    apply hP98
    have efo : fm (σ 12 (12 * o k + i)) = fo1 (σ 12 (12 * o k + i)) (nu σ (naO σ (o k) i)) := by
      unfold fo1; rw [if_pos h0]
    rw [efo, mz_rdn (by omega), hSm 14 (by decide)]
    have eA : isA σ (o k) i = true := by unfold isA; rw [decide_eq_true h0]; rfl
    refine st98 u L _ (Ad_rf h11) (by omega) (fun z => by rw [eA] at z; cases z) (fun z rr => ⟨z, ex_0, ?_, fun _ _ => rfl⟩) (fun z => by rw [eA] at z; cases z)
    rw [eA]
    unfold opA
    rw [if_pos h0]; rfl
  · have h0 : σ 12 (12 * o k + i) ≠ 0 := by simpa using e
    obtain ⟨ta, hta, hna, -, -⟩ := Pn_na hP hO hI hk hi h0
    have e33 : ∀ s : mz_St, mf wW σ s → mz_rd s 33 (nI (12 * o k + i)) = nI (naO σ (o k) i) := fun s hs => by rw [mz_rdn (by omega), hs 33 (by decide)]; exact n1 h0
    rw [e33 u hm]
    refine ⟨hin, mm_isNumber (Pn_lt hP hO hta hna) ?_⟩
    rw [hm 37 (by decide)]
    intro P74 hP74
    have st74 : ∀ y0 : Int32, y0 = bz (nu σ (naO σ (o k) i)) → P74 y0 (fm (σ 12 (12 * o k + i))) u := by
      intro y0 hy0
      apply hP74
      unfold mw_Writer_writeOperation_74
      rw [e33 u hm, hm 1008 (by decide)]
      refine ⟨hin, mm_bring hP hO hS hZ hm h11 (by omega) hta hna hscA (fun v L' r hA2 hL' hr hsem2 hcell2 => ?_)⟩
      apply hP98
      have efo : fm (σ 12 (12 * o k + i)) ||| y0 = fo1 (σ 12 (12 * o k + i)) (nu σ (naO σ (o k) i)) := by
        unfold fo1; rw [if_neg h0, hy0]
      rw [efo]
      have eA : isA σ (o k) i = nu σ (naO σ (o k) i) := by unfold isA; rw [decide_eq_false h0]; rfl
      refine st98 v L' r hA2 hL' (by rw [eA]; exact hr) (fun z rr => ?_) (by rw [eA]; exact hcell2)
      obtain ⟨z2, f1, f2, f3, f4⟩ := hsem2 z rr
      refine ⟨z2, f1, ?_, frA z z2 f3 f4⟩
      rw [eA, f2]
      unfold opA
      rw [if_neg h0]
    refine bz_go (fun e2 => st74 0 ?_) (fun e2 => st74 1 ?_)
    · have : nu σ (naO σ (o k) i) = false := e2
      rw [this]; rfl
    · have : nu σ (naO σ (o k) i) = true := e2
      rw [this]; rfl
end Y1

/-! homes: what is live at once lies apart -/
def LvA (σ : mz_St) (n b i t : Nat) : Prop := RdF σ b i t ∨ (¬ WrF σ b i t ∧ ∃ y, gX σ n b y ∧ Lv σ n t y)
section L1
variable {σ u v : mz_St} {n c b i t : Nat} {o : Nat → Nat}
theorem LvA_0 (h : Lv σ n t b) : LvA σ n b 0 t := Lv_inv h
theorem LvA_s (hi : i < lenC σ b) (h : LvA σ n b (i + 1) t) (hm : ¬ mOp σ b i t) : LvA σ n b i t := by
  rcases h with (⟨j, h1, h2, h3, h4⟩ | ⟨h1, h2⟩) | ⟨h1, h2⟩
  · refine Or.inl (Or.inl ⟨j, by omega, h2, h3, fun q q1 q2 => ?_⟩)
    by_cases e : q = i
    · rw [e]; exact hm
    · exact h4 q (by omega) q2
  · refine Or.inl (Or.inr ⟨h1, fun q q1 q2 => ?_⟩)
    by_cases e : q = i
    · rw [e]; exact hm
    · exact h2 q (by omega) q2
  · refine Or.inr ⟨fun ⟨q, q1, q2, q3⟩ => ?_, h2⟩
    by_cases e : q = i
    · rw [e] at q3; exact hm q3
    · exact h1 ⟨q, by omega, q2, q3⟩
theorem LvA_u (hi : i < lenC σ b) (h : uOp σ b i t) : LvA σ n b i t := Or.inl (Or.inl ⟨i, Nat.le_refl _, hi, h, fun q q1 q2 => absurd q2 (by omega)⟩)
theorem LvA_e (h : uEnd σ b t) : LvA σ n b (lenC σ b) t := Or.inl (Or.inr ⟨h, fun q q1 q2 => absurd q2 (by omega)⟩)
theorem LvA_o {y : Nat} (he : gX σ n b y) (h : Lv σ n t y) : LvA σ n b (lenC σ b) t := Or.inr ⟨fun ⟨q, q1, q2, _⟩ => absurd q2 (by omega), y, he, h⟩
theorem LvA_iff (hi : i < lenC σ b) : LvA σ n b i t ↔ (LvA σ n b (i + 1) t ∧ ¬ mOp σ b i t) ∨ uOp σ b i t := by
  constructor
  · rintro ((⟨j, h1, h2, h3, h4⟩ | ⟨h1, h2⟩) | ⟨h1, h2⟩)
    · by_cases e : j = i
      · subst e; exact Or.inr h3
      · exact Or.inl ⟨Or.inl (Or.inl ⟨j, by omega, h2, h3, fun q q1 q2 => h4 q (by omega) q2⟩), h4 i (Nat.le_refl _) (by omega)⟩
    · exact Or.inl ⟨Or.inl (Or.inr ⟨h1, fun q q1 q2 => h2 q (by omega) q2⟩), h2 i (Nat.le_refl _) hi⟩
    · exact Or.inl ⟨Or.inr ⟨fun ⟨q, q1, q2, q3⟩ => h1 ⟨q, by omega, q2, q3⟩, h2⟩, fun z => h1 ⟨i, Nat.le_refl _, hi, z⟩⟩
  · rintro (⟨h1, h2⟩ | h)
    · exact LvA_s hi h1 h2
    · exact LvA_u hi h
/-- live behind the last operation -/
theorem LvA_l : LvA σ n b (lenC σ b) t ↔ uEnd σ b t ∨ ∃ y, gX σ n b y ∧ Lv σ n t y := by
  constructor
  · rintro ((⟨j, h1, h2, -⟩ | ⟨h1, -⟩) | ⟨-, h2⟩)
    · omega
    · exact Or.inl h1
    · exact Or.inr h2
  · rintro (h | ⟨y, h1, h2⟩)
    · exact LvA_e h
    · exact LvA_o h1 h2
theorem nI_dn (j : Nat) : nI (j + 1) - 1 = nI j := by
  rw [← nI_1]
  exact Int32.add_sub_cancel ..
theorem nI_pm (j : Nat) : nI j + (-1) = nI j - 1 := by
  rw [Int32.sub_eq_add_neg]
theorem mm_findLiveBehind {K : mz_St → Prop} (hP : PN σ n) (hL : liveOK σ n) (hb : b < n) (h : ∀ v, mf [44] σ v → (∀ i, i < lenC σ b → ∀ t, t < 10 → (bt (v 44 i) t = true ↔ LvA σ n b (i + 1) t)) → K v) : mw_Homes_findLiveBehind K (nI b) σ := by
  have hn := hP.1
  obtain ⟨hl1, -, hl3, -⟩ := PN_len hP (show b < 10 by omega)
  unfold mw_Homes_findLiveBehind
  refine mm_liveBehind hP hb (fun r1 hr1 => mm_usedAtEnd hP (by omega) (fun r2 hr2 => ⟨vp_in_nI (by omega) (by decide), ?_⟩))
  rw [mz_rdn (by omega), hl1]
  refine lf2 (fun m x y v => ∃ j, y = nI j - 1 ∧ j ≤ lenC σ b ∧ m = j ∧ mf [44] σ v ∧ (∀ t, t < 10 → (bt x t = true ↔ LvA σ n b j t)) ∧ ∀ i, j ≤ i → i < lenC σ b → ∀ t, t < 10 → (bt (v 44 i) t = true ↔ LvA σ n b (i + 1) t)) ?_ (lenC σ b) _ _ σ ⟨lenC σ b, rfl, Nat.le_refl _, rfl, mf_rf, fun t ht => ?_, fun i h1 h2 => absurd h2 (by omega)⟩
  · rintro m P30 x y v ⟨j, rfl, hj, rfl, hm, hx, hv⟩ hrec
    have hS : Sm σ v := Sm_mf hm (by decide)
    unfold mw_Homes_findLiveBehind_30
    rcases Nat.eq_zero_or_pos m with z | z
    · subst z
      refine ⟨fun _ => h v hm (fun i hi t ht => hv i (by omega) hi t ht), fun q => absurd (by decide) q⟩
    · obtain ⟨j, rfl⟩ : ∃ j, m = j + 1 := ⟨m - 1, by omega⟩
      rw [nI_dn, ix12]
      refine ⟨fun q => absurd q (nlt0 (by omega)), fun _ => ⟨vp_in_nI (by omega) (by decide), ?_⟩⟩
      rw [mz_wrn (by omega)]
      have hm2 : mf [44] σ (mz_up v 44 j x) := mf_tr hm (mf_up (by decide))
      have hS2 : Sm σ (mz_up v 44 j x) := Sm_mf hm2 (by decide)
      have hP2 := hS2.pn hP
      have hl2 : lenC (mz_up v 44 j x) b = lenC σ b := by rw [Sm_lenC hS2]
      refine mm_madeSet hP2 (by omega) (by rw [hl2]; omega) (fun r3 hr3 => mm_usedSet hP2 (by omega) (by rw [hl2]; omega) (fun r4 hr4 => ?_))
      rw [nI_pm]
      refine hrec j _ _ _ (by omega) ⟨j, rfl, by omega, rfl, hm2, fun t ht => ?_, fun i h1 h2 t ht => ?_⟩
      · rw [b_or, b_wo, LvA_iff (by omega)]
        have e1 : bt r3 t = true ↔ mOp σ b j t := by
          rw [hr3 t]
          unfold mOp
          rw [hS2 12 (by decide), hS2 13 (by decide)]
          exact ⟨fun q => q.2, fun q => ⟨ht, q⟩⟩
        have e2 : bt r4 t = true ↔ uOp σ b j t := by
          rw [hr4 t]
          unfold uOp
          rw [hS2 12 (by decide), hS2 14 (by decide), hS2 15 (by decide)]
          exact ⟨fun q => q.2, fun q => ⟨ht, q⟩⟩
        rw [Bool.or_eq_true, Bool.and_eq_true, hx t ht, e2, Bool.not_eq_true', ← Bool.not_eq_true, e1]
      · by_cases e : i = j
        · subst e
          rw [up_at]; exact hx t ht
        · rw [up_ot e]; exact hv i (by omega) h2 t ht
  · rw [b_or, Bool.or_eq_true, hr1 t, hr2 t, LvA_l]
    constructor
    · rintro (⟨y, h1, h2⟩ | h1)
      · exact Or.inr ⟨y, h1, ((hL y h1.1 t).mp h2).2⟩
      · exact Or.inl h1.2
    · rintro (h1 | ⟨y, h1, h2⟩)
      · exact Or.inr ⟨ht, h1⟩
      · exact Or.inl ⟨y, h1, (hL y h1.1 t).mpr ⟨ht, h2⟩⟩
end L1
/-- the name that a name stands for, or -1 -/
def st (σ : mz_St) (x : Nat) : Int32 := if σ 37 x = 1 then σ 38 x else -1
def nx (σ : mz_St) (b i t : Nat) : Nat := nm σ b (bf σ b) i t
def Prs (σ u : mz_St) (N : Nat → Nat) (L : Nat → Prop) : Prop := ∀ t1 t2 y1 y2, t1 < 10 → t2 < 10 → L t1 → L t2 → y1 < 221 → y2 < 221 → st σ (N t1) = nI y1 → st σ (N t2) = nI y2 → y1 ≠ y2 → u 40 y1 ≠ u 40 y2
def HG (σ u : mz_St) (n c : Nat) (o : Nat → Nat) (rg R Q : Nat) : Prop :=
  (∀ t x, t < 10 → Pn σ c o t R x → self σ x → ∃ h, u 40 x = nI h ∧ (h < rg ∨ (h = 8 + x ∧ u 1010 0 = 1))) ∧
  (∀ t x R', t < 10 → Pn σ c o t R' x → ¬ Pn σ c o t R x → u 40 x = -1) ∧
  (∀ k i, k < c → i ≤ lenC σ (o k) → 11 + 22 * k + i ≤ Q → Prs σ u (nx σ (o k) i) (LvA σ n (o k) i)) ∧
  (∀ k i, k < c → i < lenC σ (o k) → 11 + 22 * k + i < R → σ 12 (12 * o k + i) ≠ 17 → self σ (101 + 12 * o k + i) → ∀ t y, t < 10 → LvA σ n (o k) (i + 1) t → y < 221 → st σ (nx σ (o k) (i + 1) t) = nI y → y ≠ 101 + 12 * o k + i → u 40 y ≠ u 40 (101 + 12 * o k + i)) ∧
  u 1009 0 = nI rg ∧ (u 1010 0 = 0 ∨ u 1010 0 = 1)
section L2
variable {σ u v : mz_St} {n c rg : Nat} {o : Nat → Nat}
theorem st_ok (hP : PN σ n) (hO : Ord σ n c o) (hS : StOK σ n c o) {t R x : Nat} (ht : t < 10) (h : Pn σ c o t R x) : st σ x = -1 ∨ ∃ y t', t' < 10 ∧ Pn σ c o t' R y ∧ st σ x = nI y ∧ self σ y ∧ y < 221 := by
  unfold st
  rcases hS.2.1 R t x ht h with q | ⟨q1, y, t', ht', hy, q2, q3⟩
  · rw [if_neg (by rw [q]; decide)]; exact Or.inl rfl
  · rw [if_pos q1]
    exact Or.inr ⟨y, t', ht', hy, q2, q3, Pn_lt hP hO ht' hy⟩
theorem st_of (hP : PN σ n) (hO : Ord σ n c o) (hS : StOK σ n c o) {t R x y : Nat} (ht : t < 10) (h : Pn σ c o t R x) (hy : y < 221) (e : st σ x = nI y) : ∃ t', t' < 10 ∧ Pn σ c o t' R y ∧ self σ y := by
  rcases st_ok hP hO hS ht h with q | ⟨y', t', ht', hy', q, q2, q3⟩
  · rw [q] at e; exact absurd e.symm (ne_m1 (by omega))
  · rw [e, nI_eq (by omega) (by omega)] at q
    subst q
    exact ⟨t', ht', hy', q2⟩
theorem Pn_nx (hP : PN σ n) (hO : Ord σ n c o) (hI : NI σ c o c) {k i t : Nat} (hk : k < c) (hi : i ≤ lenC σ (o k)) (ht : t < 10) : Pn σ c o t (11 + 22 * k + i) (nx σ (o k) i t) := Pn_nm hk (Pn_bf hk ((hI k hk).1 t ht) ht) i hi
theorem st_self {x : Nat} (h : self σ x) : st σ x = nI x := by unfold st; rw [if_pos h.1, h.2]
/-- homes that differ go on to differ -/
theorem HG_key (hrg : rg ≤ 8) {R Q x : Nat} (hG : HG σ u n c o rg R Q) (hx2 : ∀ t', t' < 10 → ¬ Pn σ c o t' R x) (hv : ∀ y, y ≠ x → v 40 y = u 40 y ∨ (v 40 y = nI (8 + y) ∧ u 40 y ≠ -1 ∧ y < 221 ∧ v 1010 0 = 1)) {y1 y2 t1 t2 : Nat} (h1 : t1 < 10) (h2 : t2 < 10) (p1 : Pn σ c o t1 R y1) (p2 : Pn σ c o t2 R y2) (s1 : self σ y1) (s2 : self σ y2) (l1 : y1 < 221) (l2 : y2 < 221) (hne : y1 ≠ y2) (hd : u 40 y1 ≠ u 40 y2) : v 40 y1 ≠ v 40 y2 := by
  have n1 : y1 ≠ x := fun z => hx2 t1 h1 (by rw [← z]; exact p1)
  have n2 : y2 ≠ x := fun z => hx2 t2 h2 (by rw [← z]; exact p2)
  obtain ⟨q1, e1, f1⟩ := hG.1 t1 y1 h1 p1 s1
  obtain ⟨q2, e2, f2⟩ := hG.1 t2 y2 h2 p2 s2
  rcases hv y1 n1 with a | ⟨a, -⟩ <;> rcases hv y2 n2 with b | ⟨b, -⟩
  · rw [a, b]; exact hd
  · rw [a, b, e1]
    intro z
    rw [nI_eq (by omega) (by omega)] at z
    omega
  · rw [a, b, e2]
    intro z
    rw [nI_eq (by omega) (by omega)] at z
    omega
  · rw [a, b]
    intro z
    rw [nI_eq (by omega) (by omega)] at z
    omega
theorem HG_step (hP : PN σ n) (hO : Ord σ n c o) (hI : NI σ c o c) (hS : StOK σ n c o) (hrg : rg ≤ 8) {R Q x : Nat} (hQ : Q ≤ R) (hG : HG σ u n c o rg R Q) (hx1 : ∀ t' z, t' < 10 → Pn σ c o t' (R + 1) z → z = x ∨ Pn σ c o t' R z) (hx2 : ∀ t', t' < 10 → ¬ Pn σ c o t' R x) (hpx : ∃ t', t' < 10 ∧ Pn σ c o t' (R + 1) x)
    (hv : ∀ y, y ≠ x → v 40 y = u 40 y ∨ (v 40 y = nI (8 + y) ∧ u 40 y ≠ -1 ∧ y < 221 ∧ v 1010 0 = 1)) (hvx : ∃ q, v 40 x = nI q ∧ (q < rg ∨ (q = 8 + x ∧ v 1010 0 = 1))) (h9 : v 1009 0 = u 1009 0) (h10 : v 1010 0 = u 1010 0 ∨ v 1010 0 = 1)
    (hcr : ∀ k i, k < c → i < lenC σ (o k) → 11 + 22 * k + i = R → σ 12 (12 * o k + i) ≠ 17 → self σ (101 + 12 * o k + i) → ∀ t y, t < 10 → LvA σ n (o k) (i + 1) t → y < 221 → st σ (nx σ (o k) (i + 1) t) = nI y → y ≠ 101 + 12 * o k + i → v 40 y ≠ v 40 (101 + 12 * o k + i)) : HG σ v n c o rg (R + 1) Q := by
  obtain ⟨g1, g2, g3, g4, g5, g6⟩ := id hG
  have ten : u 1010 0 = 1 → v 1010 0 = 1 := fun z => h10.elim (fun q => q.trans z) id
  refine ⟨fun t z ht hz hs => ?_, fun t z R' ht hz hnz => ?_, fun k i hk hi hQ' t1 t2 y1 y2 h1 h2 L1 L2 l1 l2 e1 e2 hne => ?_, fun k i hk hi hR' h17 hs t y ht hL hy e hne => ?_, h9.trans g5, ?_⟩
  · rcases hx1 t z ht hz with e | hzR
    · rw [e]
      exact hvx
    · have zx : z ≠ x := fun e => hx2 t ht (by rw [← e]; exact hzR)
      obtain ⟨q, e, f⟩ := g1 t z ht hzR hs
      rcases hv z zx with a | ⟨a, -, -, a2⟩
      · exact ⟨q, a.trans e, f.imp id (fun z => ⟨z.1, ten z.2⟩)⟩
      · exact ⟨8 + z, a, Or.inr ⟨rfl, a2⟩⟩
  · have hnR : ¬ Pn σ c o t R z := fun q => hnz (Pn_mono q (by omega))
    have zx : z ≠ x := fun e => by
      obtain ⟨t', ht', hpx⟩ := hpx
      apply hnz
      subst e
      rcases hz with q | ⟨j, h1, h2, h3, h4⟩ | ⟨j, i, h1, h2, h3, h4, h5⟩
      · exact Or.inl q
      · rw [h3] at hpx
        obtain ⟨e1, e2, e3⟩ := Pn_phi hP hO h1 ht ht' hpx
        exact Or.inr (Or.inl ⟨j, h1, h2, h3, e3⟩)
      · rw [h4] at hpx
        obtain ⟨e1, e2⟩ := Pn_mad hP hO h1 h2 ht' hpx
        exact Or.inr (Or.inr ⟨j, i, h1, h2, h3, h4, e2⟩)
    have := g2 t z R' ht hz hnR
    rcases hv z zx with a | ⟨-, a, -⟩
    · rw [a]; exact this
    · exact absurd this a
  · obtain ⟨t1', q1, q2, q3⟩ := st_of hP hO hS h1 (Pn_nx hP hO hI hk hi h1) l1 e1
    obtain ⟨t2', r1, r2, r3⟩ := st_of hP hO hS h2 (Pn_nx hP hO hI hk hi h2) l2 e2
    exact HG_key hrg hG hx2 hv q1 r1 (Pn_mono q2 (by omega)) (Pn_mono r2 (by omega)) q3 r3 l1 l2 hne (g3 k i hk hi hQ' t1 t2 y1 y2 h1 h2 L1 L2 l1 l2 e1 e2 hne)
  · rcases Nat.lt_or_ge (11 + 22 * k + i) R with q | q
    · obtain ⟨t1', q1, q2, q3⟩ := st_of hP hO hS ht (Pn_nx hP hO hI hk (show i + 1 ≤ lenC σ (o k) by omega) ht) hy e
      obtain ⟨td, htd, -, hpo⟩ := Pn_op hP hO hk hi h17
      exact HG_key hrg hG hx2 hv q1 htd (Pn_mono q2 (by omega)) (Pn_mono hpo (by omega)) q3 hs hy (Pn_lt hP hO htd hpo) hne (g4 k i hk hi q h17 hs t y ht hL hy e hne)
    · exact hcr k i hk hi (by omega) h17 hs t y ht hL hy e hne
  · rcases h10 with q | q
    · rw [q]; exact g6
    · exact Or.inr q
theorem HG_skip {R R' Q : Nat} (hG : HG σ u n c o rg R Q) (hRR : R ≤ R') (h40 : v 40 = u 40) (h9 : v 1009 = u 1009) (h10 : v 1010 = u 1010) (h1 : ∀ t' z, t' < 10 → Pn σ c o t' R' z → self σ z → Pn σ c o t' R z) (hcr : ∀ k i, k < c → i < lenC σ (o k) → 11 + 22 * k + i < R' → σ 12 (12 * o k + i) ≠ 17 → self σ (101 + 12 * o k + i) → 11 + 22 * k + i < R) : HG σ v n c o rg R' Q := by
  obtain ⟨g1, g2, g3, g4, g5, g6⟩ := hG
  unfold HG Prs
  rw [h40, h9, h10]
  exact ⟨fun t x ht hx hs => g1 t x ht (h1 t x ht hx hs) hs, fun t x R'' ht hx hnx => g2 t x R'' ht hx (fun q => hnx (Pn_mono q hRR)), g3, fun k i hk hi hR h17 hs => g4 k i hk hi (hcr k i hk hi hR h17 hs) h17 hs, g5, g6⟩
theorem HG_pt {R Q Q' : Nat} (hG : HG σ u n c o rg R Q) (hp : ∀ k i, k < c → i ≤ lenC σ (o k) → Q < 11 + 22 * k + i → 11 + 22 * k + i ≤ Q' → Prs σ u (nx σ (o k) i) (LvA σ n (o k) i)) : HG σ u n c o rg R Q' := by
  obtain ⟨g1, g2, g3, g4, g5⟩ := hG
  refine ⟨g1, g2, fun k i hk hi hQ => ?_, g4, g5⟩
  rcases Nat.lt_or_ge Q (11 + 22 * k + i) with q | q
  · exact hp k i hk hi q hQ
  · exact g3 k i hk hi q
end L2

/-! guessing what names stand for -/
def sW : List Nat := [37, 38, 39]
def GG (σ u : mz_St) (c : Nat) (o : Nat → Nat) (R : Nat) : Prop :=
  (u 37 0 = 2 ∧ u 38 0 = 0) ∧
  (∀ R' t x, R' ≤ R → t < 10 → Pn σ c o t R' x → Sd σ u c o R' x) ∧
  (∀ k i, k < c → i < lenC σ (o k) → σ 12 (12 * o k + i) ≠ 17 → 11 + 22 * k + i < R → opS σ u (o k) i) ∧
  (∀ k t, k < c → t < 10 → bt (σ 32 (o k)) t = true → 1 + 22 * k + t < R → (self u (1 + 10 * o k + t) ∨ phN σ u c o k t) ∧ (bt (u 39 (o k)) t = true → self u (1 + 10 * o k + t))) ∧
  (∀ t x R', t < 10 → Pn σ c o t R' x → ¬ Pn σ c o t R x → u 37 x = 0)
section G1
variable {σ u v : mz_St} {n c : Nat} {o : Nat → Nat}
theorem self_ag {x : Nat} (h : v 37 x = u 37 x ∧ v 38 x = u 38 x) (hs : self u x) : self v x := by
  unfold self at *
  rw [h.1, h.2]; exact hs
theorem GG_step (hP : PN σ n) (hO : Ord σ n c o) (hI : NI σ c o c) {R x : Nat} (hG : GG σ u c o R) (hx1 : ∀ t' z, t' < 10 → Pn σ c o t' (R + 1) z → z = x ∨ Pn σ c o t' R z) (hx2 : ∀ t', t' < 10 → ¬ Pn σ c o t' R x) (hv : ∀ z, z ≠ x → v 37 z = u 37 z ∧ v 38 z = u 38 z)
    (h39 : ∀ k t, k < c → t < 10 → 1 + 22 * k + t < R → bt (v 39 (o k)) t = bt (u 39 (o k)) t)
    (hsd : v 37 x = 2 ∨ (v 37 x = 1 ∧ (v 38 x = nI x ∨ ∃ y t', t' < 10 ∧ Pn σ c o t' R y ∧ v 38 x = nI y ∧ self u y))) (hpx : ∃ t', t' < 10 ∧ Pn σ c o t' (R + 1) x)
    (hop : ∀ k i, k < c → i < lenC σ (o k) → σ 12 (12 * o k + i) ≠ 17 → 11 + 22 * k + i = R → opS σ v (o k) i)
    (hph : ∀ k t, k < c → t < 10 → bt (σ 32 (o k)) t = true → 1 + 22 * k + t = R → (self v (1 + 10 * o k + t) ∨ phN σ v c o k t) ∧ (bt (v 39 (o k)) t = true → self v (1 + 10 * o k + t))) : GG σ v c o (R + 1) := by
  obtain ⟨g0, g1, g2, g3, g4⟩ := hG
  have hne : ∀ t' z, t' < 10 → Pn σ c o t' R z → z ≠ x := fun t' z h1 h2 h3 => hx2 t' h1 (by rw [← h3]; exact h2)
  have ag : ∀ t' z, t' < 10 → Pn σ c o t' R z → v 37 z = u 37 z ∧ v 38 z = u 38 z := fun t' z h1 h2 => hv z (hne t' z h1 h2)
  have ag0 := ag 0 0 (by omega) (Or.inl rfl)
  refine ⟨by rw [ag0.1, ag0.2]; exact g0, fun R' t z hR' ht hz => ?_, fun k i hk hi h17 hR' => ?_, fun k t hk ht hb hR' => ?_, fun t z R' ht hz hnz => ?_⟩
  · by_cases hzR : Pn σ c o t R z
    · have a := ag t z ht hzR
      have hmin := Pn_min hz hzR hP hO ht
      rcases g1 (min R' R) t z (by omega) ht hmin with q | ⟨q1, y, t', ht', hy, q2, q3⟩
      · exact Or.inl (by rw [a.1]; exact q)
      · refine Or.inr ⟨by rw [a.1]; exact q1, y, t', ht', Pn_mono hy (by omega), by rw [a.2]; exact q2, self_ag (ag t' y ht' (Pn_mono hy (by omega))) q3⟩
    · have hzx : z = x := (hx1 t z ht (Pn_mono hz (by omega))).resolve_right hzR
      subst hzx
      have hR2 : R' = R + 1 := by
        rcases Nat.lt_or_ge R' (R + 1) with q | q
        · exact absurd (Pn_mono hz (by omega)) hzR
        · omega
      subst hR2
      rcases hsd with q | ⟨q1, q | ⟨y, t', ht', hy, q2, q3⟩⟩
      · exact Or.inl q
      · exact Or.inr ⟨q1, z, t, ht, hz, q, q1, q⟩
      · exact Or.inr ⟨q1, y, t', ht', Pn_mono hy (by omega), q2, self_ag (ag t' y ht' hy) q3⟩
  · rcases Nat.lt_or_ge (11 + 22 * k + i) R with q | q
    · have h := g2 k i hk hi h17 q
      obtain ⟨t, ht, -, hpo⟩ := Pn_op hP hO hk hi h17
      have ax := ag t _ ht (Pn_mono hpo (by omega))
      unfold opS at h ⊢
      rcases h with z | ⟨z1, z2, z3⟩ | ⟨z1, z2, z3⟩ | ⟨z1, z2, z3, z4, z5, z6⟩
      · exact Or.inl (self_ag ax z)
      · exact Or.inr (Or.inl ⟨z1, by rw [ax.1]; exact z2, by rw [ax.2]; exact z3⟩)
      · obtain ⟨ta, hta, hna, -⟩ := Pn_na hP hO hI hk hi (by rw [z1]; decide)
        have aa := ag ta _ hta (Pn_mono hna (by omega))
        exact Or.inr (Or.inr (Or.inl ⟨z1, by rw [ax.1, aa.1]; exact z2, by rw [ax.2, aa.2]; exact z3⟩))
      · obtain ⟨ta, hta, hna, -⟩ := Pn_na hP hO hI hk hi (fun z0 => by rw [z0] at z1; exact z1.1 (by decide))
        obtain ⟨tb, htb, hnb, -⟩ := Pn_nb hP hO hI hk hi (Or.inr z1)
        have aa := ag ta _ hta (Pn_mono hna (by omega))
        have ab := ag tb _ htb (Pn_mono hnb (by omega))
        exact Or.inr (Or.inr (Or.inr ⟨z1, by rw [aa.1]; exact z2, by rw [ab.1]; exact z3, by rw [aa.2, ab.2]; exact z4, by rw [ax.1]; exact z5, by rw [ax.2, aa.2, ab.2]; exact z6⟩))
    · exact hop k i hk hi h17 (by omega)
  · rcases Nat.lt_or_ge (1 + 22 * k + t) R with q | q
    · obtain ⟨h1, h2⟩ := g3 k t hk ht hb q
      have ax := ag t (1 + 10 * o k + t) ht (Or.inr (Or.inl ⟨k, hk, hb, rfl, q⟩))
      refine ⟨?_, fun z => self_ag ax (h2 (by rw [← h39 k t hk ht q]; exact z))⟩
      rcases h1 with z | ⟨z1, z2⟩
      · exact Or.inl (self_ag ax z)
      · refine Or.inr ⟨fun k0 => by rw [ax.1, ax.2]; exact z1 k0, fun e => ?_⟩
        rw [ax.1] at e
        obtain ⟨y, t', ht', hy, e2, e3⟩ := z2 e
        exact ⟨y, t', ht', hy, by rw [ax.2]; exact e2, self_ag (ag t' y ht' (Pn_mono hy (by omega))) e3⟩
    · exact hph k t hk ht hb (by omega)
  · have hzx : z ≠ x := fun e => by
      obtain ⟨t', ht', hpx⟩ := hpx
      apply hnz
      subst e
      -- the name's temporary is its own
      rcases hz with q | ⟨j, h1, h2, h3, h4⟩ | ⟨j, i, h1, h2, h3, h4, h5⟩
      · exact Or.inl q
      · rw [h3] at hpx
        obtain ⟨e1, e2, e3⟩ := Pn_phi hP hO h1 ht ht' hpx
        exact Or.inr (Or.inl ⟨j, h1, h2, h3, e3⟩)
      · rw [h4] at hpx
        obtain ⟨e1, e2⟩ := Pn_mad hP hO h1 h2 ht' hpx
        exact Or.inr (Or.inr ⟨j, i, h1, h2, h3, h4, e2⟩)
    rw [(hv z hzx).1]
    exact g4 t z R' ht hz (fun q => hnz (Pn_mono q (by omega)))
theorem GG_skip {R R' : Nat} (hG : GG σ u c o R) (hRR : R ≤ R') (h1 : ∀ t' z, t' < 10 → Pn σ c o t' R' z → Pn σ c o t' R z) (hP : PN σ n) (hO : Ord σ n c o) (hop : ∀ k i, k < c → i < lenC σ (o k) → σ 12 (12 * o k + i) ≠ 17 → 11 + 22 * k + i < R' → 11 + 22 * k + i < R) (hph : ∀ k t, k < c → t < 10 → bt (σ 32 (o k)) t = true → 1 + 22 * k + t < R' → 1 + 22 * k + t < R) : GG σ u c o R' := by
  obtain ⟨g0, g1, g2, g3, g4⟩ := hG
  refine ⟨g0, fun R2 t z hR2 ht hz => ?_, fun k i hk hi h17 h => g2 k i hk hi h17 (hop k i hk hi h17 h), fun k t hk ht hb h => g3 k t hk ht hb (hph k t hk ht hb h), fun t z R2 ht hz hnz => g4 t z R2 ht hz (fun q => hnz (Pn_mono q hRR))⟩
  have hm := Pn_min hz (h1 t z ht (Pn_mono hz hR2)) hP hO ht
  rcases g1 (min R2 R) t z (by omega) ht hm with q | ⟨q1, y, t', ht', hy, q2⟩
  · exact Or.inl q
  · exact Or.inr ⟨q1, y, t', ht', Pn_mono hy (by omega), q2⟩
end G1
section G2
variable {K : Int32 → mz_St → Prop} {Kv : mz_St → Prop} {σ : mz_St} {x y : Nat}
theorem mm_letBe (hx : x < 221) (h : Kv (mz_up (mz_up σ 37 x 1) 38 x (nI x))) : mw_Stands_letBe Kv (nI x) σ := by
  unfold mw_Stands_letBe
  rw [mz_wrn (by omega), mz_wrn (by omega)]
  exact ⟨vp_in_nI hx (by decide), vp_in_nI hx (by decide), h⟩
theorem mm_letBeNumber {w : Int32} (hx : x < 221) (h : Kv (mz_up (mz_up σ 37 x 2) 38 x w)) : mw_Stands_letBeNumber Kv (nI x) w σ := by
  unfold mw_Stands_letBeNumber
  rw [mz_wrn (by omega), mz_wrn (by omega)]
  exact ⟨vp_in_nI hx (by decide), vp_in_nI hx (by decide), h⟩
theorem mm_standLike (hx : x < 221) (hy : y < 221) (h : Kv (mz_up (mz_up σ 37 x (σ 37 y)) 38 x (σ 38 y))) : mw_Stands_standLike Kv (nI x) (nI y) σ := by
  unfold mw_Stands_standLike
  rw [mz_rdn (by omega), mz_wrn (by omega), mz_rdn (by omega), mz_wrn (by omega), up_row (by decide)]
  exact ⟨vp_in_nI hy (by decide), vp_in_nI hx (by decide), vp_in_nI hy (by decide), vp_in_nI hx (by decide), h⟩
theorem mm_isNumber (hx : x < 221) (h : K (bz (decide (σ 37 x = 2))) σ) : mw_Stands_isNumber K (nI x) σ := by
  unfold mw_Stands_isNumber
  rw [mz_rdn (by omega)]
  refine ⟨vp_in_nI hx (by decide), fun e => ?_, fun e => ?_⟩
  · rw [decide_eq_false e] at h; exact h
  · rw [decide_eq_true e] at h; exact h
theorem mm_isItself (hx : x < 221) (h : K (bz (decide (σ 37 x = 1 ∧ σ 38 x = nI x))) σ) : mw_Stands_isItself K (nI x) σ := by
  unfold mw_Stands_isItself
  rw [mz_rdn (by omega), mz_rdn (by omega)]
  refine ⟨vp_in_nI hx (by decide), fun e => ?_, fun e => ⟨vp_in_nI hx (by decide), fun e2 => ?_, fun e2 => ?_⟩⟩
  · rw [decide_eq_false (fun z => e z.1)] at h; exact h
  · rw [decide_eq_false (fun z => e2 z.2)] at h; exact h
  · rw [decide_eq_true ⟨e, e2⟩] at h; exact h
theorem mm_nameFor (hx : x < 221) (h : K (if σ 37 x = 1 then σ 38 x else -1) σ) : mw_Stands_nameFor K (nI x) σ := by
  unfold mw_Stands_nameFor
  rw [mz_rdn (by omega), mz_rdn (by omega)]
  refine ⟨vp_in_nI hx (by decide), fun e => ?_, fun e => ⟨vp_in_nI hx (by decide), ?_⟩⟩
  · rw [if_neg e] at h; exact h
  · rw [if_pos e] at h; exact h
theorem mm_keepsPhi {b t : Nat} (hb : b < 10) (ht : t < 10) (h : K (bz (decide (bt (σ 32 b) t = true ∧ σ 37 (1 + 10 * b + t) = 1 ∧ σ 38 (1 + 10 * b + t) = nI (1 + 10 * b + t)))) σ) : mw_Stands_keepsPhi K (nI b) (nI t) σ := by
  unfold mw_Stands_keepsPhi mw_Mill_phiName
  rw [mz_rdn (by omega), ixphi]
  refine ⟨vp_in_nI hb (by decide), mm_isIn (by omega) (bz_go (fun e => ?_) (fun e => ?_))⟩
  · rw [decide_eq_false (fun z => by rw [e] at z; exact absurd z.1 (by decide))] at h
    exact h
  · refine mm_isItself (by omega) (bz_go (fun e2 => ?_) (fun e2 => ?_))
    · rw [decide_eq_false (fun z => by rw [decide_eq_true z.2] at e2; cases e2)] at h
      exact h
    · rw [decide_eq_true ⟨e, of_decide_eq_true e2⟩] at h
      exact h
theorem mm_keepsOp {b i : Nat} (hb : b < 10) (hi : i < 12) (h : K (bz (decide (σ 12 (12 * b + i) = 17 ∨ (σ 37 (101 + 12 * b + i) = 1 ∧ σ 38 (101 + 12 * b + i) = nI (101 + 12 * b + i))))) σ) : mw_Stands_keepsOperation K (nI (12 * b + i)) σ := by
  unfold mw_Stands_keepsOperation
  refine mm_makesValue hb hi (fun P22 hP22 => bz_go (fun e => ?_) (fun e => ?_))
  · have e : σ 12 (12 * b + i) = 17 := by simpa using e
    rw [decide_eq_true (Or.inl e)] at h
    exact hP22 _ h
  · have e : σ 12 (12 * b + i) ≠ 17 := by simpa using e
    unfold mw_Mill_madeName
    rw [ixmade, ← Nat.add_assoc]
    refine mm_isItself (by omega) (bz_go (fun e2 => ?_) (fun e2 => ?_))
    · rw [decide_eq_false (fun z => by rw [decide_eq_true (z.resolve_left e)] at e2; cases e2)] at h
      exact h
    · rw [decide_eq_true (Or.inr (of_decide_eq_true e2))] at h
      exact hP22 _ h
theorem mm_differ {a b : Nat} (ha : a < 221) (hb : b < 221) (h : K (bz (decide (σ 37 b ≠ 0 ∧ ¬ (σ 37 b = σ 37 a ∧ σ 38 b = σ 38 a)))) σ) : mw_Stands_differ K (nI a) (nI b) σ := by
  have va : vp_in (nI a) 221 := vp_in_nI ha (by decide)
  have vb : vp_in (nI b) 221 := vp_in_nI hb (by decide)
  unfold mw_Stands_differ
  rw [mz_rdn (by omega), mz_rdn (by omega), mz_rdn (by omega), mz_rdn (by omega)]
  refine ⟨vb, fun e => ?_, fun e => ⟨vb, va, fun P39 hP39 => ⟨fun e2 => ?_, fun e2 => ⟨vb, va, fun e3 => ?_, fun e3 => ?_⟩⟩⟩⟩
  · rw [decide_eq_false (fun z => z.1 e)] at h; exact h
  · apply hP39
    rw [decide_eq_true ⟨e, fun z => e2 z.1⟩] at h; exact h
  · rw [decide_eq_false (fun z => z.2 ⟨e2, e3⟩)] at h; exact h
  · apply hP39
    rw [decide_eq_true ⟨e, fun z => e3 z.2⟩] at h; exact h
end G2

/-! along an edge to a block without a phi the name stays; what a name stands for: the words -/
section E1
variable {σ : mz_St} {n c : Nat} {o : Nat → Nat}
theorem nm_no {b t : Nat} {B : Nat → Nat} : ∀ i, (∀ q, q < i → ¬ mOp σ b q t) → nm σ b B i t = B t
  | 0, _ => rfl
  | i + 1, h => by
    have q : ¬ (σ 12 (12 * b + i) ≠ 17 ∧ σ 13 (12 * b + i) = nI t) := h i (by omega)
    rw [nm_s, if_neg q]
    exact nm_no i (fun q hq => h q (by omega))
theorem edge_ok (hP : PN σ n) (hO : Ord σ n c o) (hN : nearOK σ n) (hF : phiOK σ n) (hI : NI σ c o c) {p k t : Nat} (hk : k < c) (hp : Al σ n p) (he : gX σ n p (o k)) (ht : t < 10) (hL : Lv σ n t (o k)) (hb : bt (σ 32 (o k)) t = false) : bh σ p t = bf σ (o k) t := by
  have hn := hP.1
  have hok := hO.2.2.2.1 k hk
  have hnM : ¬ Mt σ n t (o k) := by
    intro z
    rw [(hF (o k) hok.1 t).mpr ⟨ht, z, hL⟩] at hb
    cases hb
  unfold bf
  rw [if_neg (by rw [hb]; decide)]
  rcases near_ok hO hN hk with ⟨k0, z⟩ | ⟨j, j1, j2, j3⟩
  · exfalso
    subst k0
    have h00 := hO.2.2.1
    apply hnM
    refine Mt_s (Or.inl ⟨Al_0 (Al_pos hp), Or.inl rfl⟩) ⟨⟨p, ?_, he⟩, fun q => q.1 h00⟩
    refine ⟨hp, fun hr => ?_⟩
    exact hr (fun _ => False) (fun y hy hb => hb hy) (fun _ _ _ z _ _ => z)
  · have hoj := hO.2.2.2.1 j (by omega)
    rw [if_neg (by rw [j3]; exact ne_m1 (by omega)), j3, nI_clamp (by omega)]
    have walk : ∀ i, i < c → Dom σ n (o j) (o i) → Dom σ n (o i) p → bh σ (o i) t = bh σ (o j) t := by
      intro i
      induction i using Nat.strongRecOn with
      | ind i ih =>
        intro hi hd1 hd2
        by_cases e : o i = o j
        · rw [e]
        · have hoi := hO.2.2.2.1 i hi
          have hFr : Fr σ n (o i) (o k) := by
            refine ⟨⟨p, hd2, he⟩, fun q => e ?_⟩
            exact Dom_as (j2.2.2 (o i) (fun z => q.1 z.symm) q.2) hd1
          have nSrc : ¬ Src σ n t (o i) := fun z => hnM (Mt_s (Or.inl z) hFr)
          have nMt : ¬ Mt σ n t (o i) := fun z => hnM (Mt_s (Or.inr z) hFr)
          have nW : ∀ q, q < lenC σ (o i) → ¬ mOp σ (o i) q t := fun q hq z => nSrc ⟨hoi.2, Or.inr ⟨q, Nat.zero_le _, hq, z⟩⟩
          have nPhi : bt (σ 32 (o i)) t = false := by
            cases q : bt (σ 32 (o i)) t
            · rfl
            · exact absurd ((hF (o i) hoi.1 t).mp q).2.1 nMt
          rcases near_ok hO hN hi with ⟨i0, z⟩ | ⟨j', a1, a2, a3⟩
          · exfalso
            subst i0
            exact nSrc ⟨hoi.2, Or.inl hO.2.2.1⟩
          · have hoj' := hO.2.2.2.1 j' (by omega)
            have e1 : bh σ (o i) t = bh σ (o j') t := by
              rw [(NB_row hP hO hi ht (hI i hi)).2.2, nm_no _ nW]
              unfold bf
              rw [if_neg (by rw [nPhi]; decide), if_neg (by rw [a3]; exact ne_m1 (by omega)), a3, nI_clamp (by omega)]
            rw [e1]
            exact ih j' a1 (by omega) (a2.2.2 (o j) (fun z => e z.symm) hd1) (Dom_tr a2.2.1 hd2)
    obtain ⟨i, hi, ei⟩ := hO.2.2.2.2.2.1 p hp
    have := walk i hi (by rw [ei]; exact Dom_pred j2.2.1 j2.1 hp he) (by rw [ei]; exact Dom_rf hp)
    rw [ei] at this
    exact this
end E1
/-- a name that stands for itself -/
def self (u : mz_St) (x : Nat) : Prop := u 37 x = 1 ∧ u 38 x = nI x
/-- a name stands for a number, or for a name made no later that stands for itself -/
def Sd (σ u : mz_St) (c : Nat) (o : Nat → Nat) (R x : Nat) : Prop := u 37 x = 2 ∨ (u 37 x = 1 ∧ ∃ y t', t' < 10 ∧ Pn σ c o t' R y ∧ u 38 x = nI y ∧ self u y)
/-- what an operation takes, by name -/
def naO (σ : mz_St) (b i : Nat) : Nat := nm σ b (bf σ b) i (σ 14 (12 * b + i)).toNatClampNeg
def nbO (σ : mz_St) (b i : Nat) : Nat := nm σ b (bf σ b) i (σ 15 (12 * b + i)).toNatClampNeg
def opS (σ u : mz_St) (b i : Nat) : Prop := self u (101 + 12 * b + i) ∨ (σ 12 (12 * b + i) = 0 ∧ u 37 (101 + 12 * b + i) = 2 ∧ u 38 (101 + 12 * b + i) = σ 14 (12 * b + i)) ∨ (σ 12 (12 * b + i) = 1 ∧ u 37 (101 + 12 * b + i) = u 37 (naO σ b i) ∧ u 38 (101 + 12 * b + i) = u 38 (naO σ b i)) ∨ ((¬ σ 12 (12 * b + i) ≤ 1 ∧ ¬ 16 ≤ σ 12 (12 * b + i)) ∧ u 37 (naO σ b i) = 2 ∧ u 37 (nbO σ b i) = 2 ∧ dvE (σ 12 (12 * b + i)) (u 38 (naO σ b i)) (u 38 (nbO σ b i)) = false ∧ u 37 (101 + 12 * b + i) = 2 ∧ u 38 (101 + 12 * b + i) = rk (σ 12 (12 * b + i)) (u 38 (naO σ b i)) (u 38 (nbO σ b i)))
def phN (σ u : mz_St) (c : Nat) (o : Nat → Nat) (k t : Nat) : Prop := (k = 0 → u 37 (1 + 10 * o k + t) = 2 ∧ u 38 (1 + 10 * o k + t) = 0) ∧ (u 37 (1 + 10 * o k + t) = 1 → ∃ y t', t' < 10 ∧ Pn σ c o t' (1 + 22 * k) y ∧ u 38 (1 + 10 * o k + t) = nI y ∧ self u y)
def StOK (σ : mz_St) (n c : Nat) (o : Nat → Nat) : Prop :=
  ((σ 37 0 = 2 ∧ σ 38 0 = 0) ∨ self σ 0) ∧
  (∀ R t x, t < 10 → Pn σ c o t R x → Sd σ σ c o R x) ∧
  (∀ k i, k < c → i < lenC σ (o k) → σ 12 (12 * o k + i) ≠ 17 → opS σ σ (o k) i) ∧
  (∀ k t, k < c → t < 10 → bt (σ 32 (o k)) t = true → self σ (1 + 10 * o k + t) ∨ (phN σ σ c o k t ∧ ∀ p, Al σ n p → gX σ n p (o k) → σ 37 (1 + 10 * o k + t) = σ 37 (bh σ p t) ∧ σ 38 (1 + 10 * o k + t) = σ 38 (bh σ p t)))
section E2
variable {σ u v : mz_St} {n c : Nat} {o : Nat → Nat}
theorem o_lt (hP : PN σ n) (hO : Ord σ n c o) {k : Nat} (hk : k < c) : o k < 10 ∧ lenC σ (o k) ≤ 12 := by
  have hn := hP.1
  have := (hO.2.2.2.1 k hk).1
  exact ⟨by omega, (PN_len hP (show o k < 10 by omega)).2.2.1⟩
/-- the name at a time -/
theorem Pn_phi (hP : PN σ n) (hO : Ord σ n c o) {k t t' R : Nat} (hk : k < c) (ht : t < 10) (ht' : t' < 10) (h : Pn σ c o t' R (1 + 10 * o k + t)) : t' = t ∧ bt (σ 32 (o k)) t = true ∧ 1 + 22 * k + t < R := by
  have ho := (o_lt hP hO hk).1
  rcases h with z | ⟨j, h1, h2, h3, h4⟩ | ⟨j, i, h1, h2, h3, h4, h5⟩
  · omega
  · have hoj := (o_lt hP hO h1).1
    have e1 : o k = o j := by omega
    have := hO.2.2.2.2.1 k j hk h1 e1
    subst this
    have : t' = t := by omega
    subst this
    exact ⟨rfl, h2, by omega⟩
  · omega
theorem Pn_mad (hP : PN σ n) (hO : Ord σ n c o) {k i t' R : Nat} (hk : k < c) (hi : i < lenC σ (o k)) (ht' : t' < 10) (h : Pn σ c o t' R (101 + 12 * o k + i)) : mOp σ (o k) i t' ∧ 11 + 22 * k + i < R := by
  have ho := o_lt hP hO hk
  rcases h with z | ⟨j, h1, h2, h3, h4⟩ | ⟨j, i', h1, h2, h3, h4, h5⟩
  · omega
  · have hoj := (o_lt hP hO h1).1
    omega
  · have hoj := o_lt hP hO h1
    have e1 : o k = o j := by omega
    have := hO.2.2.2.2.1 k j hk h1 e1
    subst this
    have : i' = i := by omega
    subst this
    exact ⟨h3, by omega⟩
theorem Pn_sP (hP : PN σ n) (hO : Ord σ n c o) {k t t' z : Nat} (ht : t < 10) (ht' : t' < 10) (h : Pn σ c o t' (1 + 22 * k + t + 1) z) : (z = 1 + 10 * o k + t ∧ bt (σ 32 (o k)) t = true) ∨ Pn σ c o t' (1 + 22 * k + t) z := by
  rcases h with z | ⟨j, h1, h2, h3, h4⟩ | ⟨j, i, h1, h2, h3, h4, h5⟩
  · exact Or.inr (Or.inl z)
  · by_cases e : 1 + 22 * j + t' < 1 + 22 * k + t
    · exact Or.inr (Or.inr (Or.inl ⟨j, h1, h2, h3, e⟩))
    · have e1 : j = k := by omega
      have e2 : t' = t := by omega
      subst e1 e2
      exact Or.inl ⟨h3, h2⟩
  · have := (o_lt hP hO h1).2
    exact Or.inr (Or.inr (Or.inr ⟨j, i, h1, h2, h3, h4, by omega⟩))
theorem Pn_sM (hP : PN σ n) (hO : Ord σ n c o) {k i t' z : Nat} (hi : i < 12) (ht' : t' < 10) (h : Pn σ c o t' (11 + 22 * k + i + 1) z) : (z = 101 + 12 * o k + i ∧ mOp σ (o k) i t') ∨ Pn σ c o t' (11 + 22 * k + i) z := by
  rcases h with z | ⟨j, h1, h2, h3, h4⟩ | ⟨j, i', h1, h2, h3, h4, h5⟩
  · exact Or.inr (Or.inl z)
  · exact Or.inr (Or.inr (Or.inl ⟨j, h1, h2, h3, by omega⟩))
  · have := (o_lt hP hO h1).2
    by_cases e : 11 + 22 * j + i' < 11 + 22 * k + i
    · exact Or.inr (Or.inr (Or.inr ⟨j, i', h1, h2, h3, h4, e⟩))
    · have e1 : j = k := by omega
      have e2 : i' = i := by omega
      subst e1 e2
      exact Or.inl ⟨h4, h3⟩
theorem Pn_sE (hP : PN σ n) (hO : Ord σ n c o) {k t' z : Nat} (ht' : t' < 10) (h : Pn σ c o t' (1 + 22 * (k + 1)) z) : Pn σ c o t' (11 + 22 * k + lenC σ (o k)) z := by
  rcases h with z | ⟨j, h1, h2, h3, h4⟩ | ⟨j, i', h1, h2, h3, h4, h5⟩
  · exact Or.inl z
  · exact Or.inr (Or.inl ⟨j, h1, h2, h3, by omega⟩)
  · refine Or.inr (Or.inr ⟨j, i', h1, h2, h3, h4, ?_⟩)
    have := (o_lt hP hO h1).2
    by_cases e : j = k
    · subst e; omega
    · omega
/-- known before a phi is taken up: known before its block -/
theorem Pn_blk (hP : PN σ n) (hO : Ord σ n c o) {k t z : Nat} (ht : t < 10) (h : Pn σ c o t (1 + 22 * k + t) z) : Pn σ c o t (1 + 22 * k) z := by
  rcases h with z | ⟨j, h1, h2, h3, h4⟩ | ⟨j, i', h1, h2, h3, h4, h5⟩
  · exact Or.inl z
  · exact Or.inr (Or.inl ⟨j, h1, h2, h3, by omega⟩)
  · have := (o_lt hP hO h1).2
    exact Or.inr (Or.inr ⟨j, i', h1, h2, h3, h4, by omega⟩)
theorem Pn_end (hP : PN σ n) (hO : Ord σ n c o) {t R z : Nat} (ht : t < 10) (h : Pn σ c o t R z) : Pn σ c o t (1 + 22 * c) z := by
  rcases h with z | ⟨j, h1, h2, h3, h4⟩ | ⟨j, i', h1, h2, h3, h4, h5⟩
  · exact Or.inl z
  · exact Or.inr (Or.inl ⟨j, h1, h2, h3, by omega⟩)
  · have := (o_lt hP hO h1).2
    exact Or.inr (Or.inr ⟨j, i', h1, h2, h3, h4, by omega⟩)
theorem Pn_min {t R R' z : Nat} (h : Pn σ c o t R z) (h' : Pn σ c o t R' z) (hP : PN σ n) (hO : Ord σ n c o) (ht : t < 10) : Pn σ c o t (min R R') z := by
  rcases Nat.le_total R R' with q | q
  · rw [Nat.min_eq_left q]; exact h
  · rw [Nat.min_eq_right q]; exact h'
/-- what an operation takes and makes, in time -/
theorem Pn_na (hP : PN σ n) (hO : Ord σ n c o) (hI : NI σ c o c) {k i : Nat} (hk : k < c) (hi : i < lenC σ (o k)) (h0 : σ 12 (12 * o k + i) ≠ 0) : ∃ t, t < 10 ∧ Pn σ c o t (11 + 22 * k + i) (naO σ (o k) i) ∧ σ 14 (12 * o k + i) = nI t ∧ naO σ (o k) i = nm σ (o k) (bf σ (o k)) i t := by
  have ho := o_lt hP hO hk
  obtain ⟨-, -, -, hop⟩ := PN_len hP ho.1
  obtain ⟨t, ht, e⟩ := such_a (hop i hi).1 h0
  refine ⟨t, ht, ?_, e, ?_⟩
  · unfold naO
    rw [e, nI_clamp (by omega)]
    exact Pn_nm hk (Pn_bf hk ((hI k hk).1 t ht) ht) i (by omega)
  · unfold naO
    rw [e, nI_clamp (by omega)]
theorem Pn_nb (hP : PN σ n) (hO : Ord σ n c o) (hI : NI σ c o c) {k i : Nat} (hk : k < c) (hi : i < lenC σ (o k)) (h0 : tkB (σ 12 (12 * o k + i))) : ∃ t, t < 10 ∧ Pn σ c o t (11 + 22 * k + i) (nbO σ (o k) i) ∧ σ 15 (12 * o k + i) = nI t ∧ nbO σ (o k) i = nm σ (o k) (bf σ (o k)) i t := by
  have ho := o_lt hP hO hk
  obtain ⟨-, -, -, hop⟩ := PN_len hP ho.1
  obtain ⟨t, ht, e⟩ := such_b (hop i hi).1 h0
  refine ⟨t, ht, ?_, e, ?_⟩
  · unfold nbO
    rw [e, nI_clamp (by omega)]
    exact Pn_nm hk (Pn_bf hk ((hI k hk).1 t ht) ht) i (by omega)
  · unfold nbO
    rw [e, nI_clamp (by omega)]
theorem Pn_op (hP : PN σ n) (hO : Ord σ n c o) {k i : Nat} (hk : k < c) (hi : i < lenC σ (o k)) (h17 : σ 12 (12 * o k + i) ≠ 17) : ∃ t, t < 10 ∧ σ 13 (12 * o k + i) = nI t ∧ Pn σ c o t (11 + 22 * k + i + 1) (101 + 12 * o k + i) := by
  have ho := o_lt hP hO hk
  obtain ⟨-, -, -, hop⟩ := PN_len hP ho.1
  obtain ⟨t, ht, e⟩ := such_d (hop i hi).1 h17
  exact ⟨t, ht, e, Or.inr (Or.inr ⟨k, i, hk, hi, ⟨h17, e⟩, rfl, by omega⟩)⟩
end E2

/-! names -/
theorem ix10 {b t : Nat} : nI b * 10 + nI t = nI (10 * b + t) := by
  rw [show (10 : Int32) = nI 10 from rfl, pk_mul, nI_add, Nat.mul_comm]
theorem ixphi {b t : Nat} : (1 : Int32) + nI b * 10 + nI t = nI (1 + 10 * b + t) := by
  rw [show (10 : Int32) = nI 10 from rfl, show (1 : Int32) = nI 1 from rfl, pk_mul, nI_add, nI_add, Nat.mul_comm]
theorem ixmade {x : Nat} : (101 : Int32) + nI x = nI (101 + x) := by
  rw [show (101 : Int32) = nI 101 from rfl, nI_add]
theorem ne_m1 {m : Nat} (h : m < 2 ^ 31) : nI m ≠ -1 := by
  intro e
  have := congrArg Int32.toInt e
  rw [nI_toInt h, show (-1 : Int32).toInt = -1 by decide] at this
  omega
def bh (σ : mz_St) (b t : Nat) : Nat := (σ 36 (10 * b + t)).toNatClampNeg
def bf (σ : mz_St) (b t : Nat) : Nat := if bt (σ 32 b) t = true then 1 + 10 * b + t else if σ 26 b = -1 then 0 else bh σ (σ 26 b).toNatClampNeg t
def nm (σ : mz_St) (b : Nat) (B : Nat → Nat) : Nat → Nat → Nat
  | 0, t => B t
  | i + 1, t => if σ 12 (12 * b + i) ≠ 17 ∧ σ 13 (12 * b + i) = nI t then 101 + 12 * b + i else nm σ b B i t
theorem nm_s {σ : mz_St} {b i t : Nat} {B : Nat → Nat} : nm σ b B (i + 1) t = if σ 12 (12 * b + i) ≠ 17 ∧ σ 13 (12 * b + i) = nI t then 101 + 12 * b + i else nm σ b B i t := rfl
theorem nm_congr {σ u : mz_St} (h : Sm σ u) (b : Nat) (B : Nat → Nat) : ∀ i t, nm u b B i t = nm σ b B i t
  | 0, _ => rfl
  | i + 1, t => by rw [nm_s, nm_s, h 12 (by decide), h 13 (by decide), nm_congr h b B i t]
/-- the names of a temporary that are made before a time R -/
def Pn (σ : mz_St) (c : Nat) (o : Nat → Nat) (t R x : Nat) : Prop := x = 0 ∨ (∃ j, j < c ∧ bt (σ 32 (o j)) t = true ∧ x = 1 + 10 * o j + t ∧ 1 + 22 * j + t < R) ∨ (∃ j i, j < c ∧ i < lenC σ (o j) ∧ mOp σ (o j) i t ∧ x = 101 + 12 * o j + i ∧ 11 + 22 * j + i < R)
theorem Pn_mono {σ : mz_St} {c : Nat} {o : Nat → Nat} {t R R' x : Nat} (h : Pn σ c o t R x) (hR : R ≤ R') : Pn σ c o t R' x := by
  rcases h with z | ⟨j, h1, h2, h3, h4⟩ | ⟨j, i, h1, h2, h3, h4, h5⟩
  · exact Or.inl z
  · exact Or.inr (Or.inl ⟨j, h1, h2, h3, by omega⟩)
  · exact Or.inr (Or.inr ⟨j, i, h1, h2, h3, h4, by omega⟩)
theorem Pn_congr {σ u : mz_St} (h : Sm σ u) (h32 : u 32 = σ 32) (c : Nat) (o : Nat → Nat) (t R x : Nat) : Pn u c o t R x = Pn σ c o t R x := by
  unfold Pn lenC mOp
  rw [h32, h 12 (by decide), h 13 (by decide), h 16 (by decide)]
theorem Pn_lt {σ : mz_St} {n c : Nat} {o : Nat → Nat} {t R x : Nat} (hP : PN σ n) (hO : Ord σ n c o) (ht : t < 10) (h : Pn σ c o t R x) : x < 221 := by
  have hn := hP.1
  rcases h with z | ⟨j, h1, h2, h3, h4⟩ | ⟨j, i, h1, h2, h3, h4, h5⟩
  · omega
  · have := (hO.2.2.2.1 j h1).1; omega
  · have := (hO.2.2.2.1 j h1).1
    have := (PN_len hP (show o j < 10 by omega)).2.2.1
    omega
/-- a block's names are given -/
def NB (σ : mz_St) (c : Nat) (o : Nat → Nat) (k : Nat) : Prop :=
  (∀ t, t < 10 → (bt (σ 32 (o k)) t = false → Pn σ c o t (1 + 22 * k) (bf σ (o k) t))) ∧
  (∀ t, t < 10 → σ 36 (10 * o k + t) = nI (nm σ (o k) (bf σ (o k)) (lenC σ (o k)) t)) ∧
  (∀ i, i < lenC σ (o k) → (σ 12 (12 * o k + i) ≠ 0 → σ 33 (12 * o k + i) = nI (nm σ (o k) (bf σ (o k)) i (σ 14 (12 * o k + i)).toNatClampNeg)) ∧ (σ 12 (12 * o k + i) = 0 → σ 33 (12 * o k + i) = 0) ∧ (tkB (σ 12 (12 * o k + i)) → σ 34 (12 * o k + i) = nI (nm σ (o k) (bf σ (o k)) i (σ 15 (12 * o k + i)).toNatClampNeg)) ∧ (¬ tkB (σ 12 (12 * o k + i)) → σ 34 (12 * o k + i) = 0)) ∧
  σ 35 (o k) = nI (nm σ (o k) (bf σ (o k)) (lenC σ (o k)) (σ 18 (o k)).toNatClampNeg)
def NI (σ : mz_St) (c : Nat) (o : Nat → Nat) (m : Nat) : Prop := ∀ k, k < m → NB σ c o k
section N1
variable {σ : mz_St} {n c : Nat} {o : Nat → Nat}
theorem Pn_bf {k t : Nat} (hk : k < c) (h : bt (σ 32 (o k)) t = false → Pn σ c o t (1 + 22 * k) (bf σ (o k) t)) (ht : t < 10) : Pn σ c o t (11 + 22 * k) (bf σ (o k) t) := by
  by_cases e : bt (σ 32 (o k)) t = true
  · refine Or.inr (Or.inl ⟨k, hk, e, ?_, by omega⟩)
    unfold bf; rw [if_pos e]
  · exact Pn_mono (h (by simpa using e)) (by omega)
theorem Pn_nm {k t : Nat} {B : Nat → Nat} (hk : k < c) (hB : Pn σ c o t (11 + 22 * k) (B t)) : ∀ i, i ≤ lenC σ (o k) → Pn σ c o t (11 + 22 * k + i) (nm σ (o k) B i t)
  | 0, _ => hB
  | i + 1, hi => by
    rw [nm_s]
    split
    · rename_i h
      exact Or.inr (Or.inr ⟨k, i, hk, by omega, h, rfl, by omega⟩)
    · exact Pn_mono (Pn_nm hk hB i (by omega)) (by omega)
/-- what stands above a block -/
theorem near_ok (hO : Ord σ n c o) (hN : nearOK σ n) {k : Nat} (hk : k < c) : (k = 0 ∧ σ 26 (o k) = -1) ∨ ∃ j, j < k ∧ Idm σ n (o j) (o k) ∧ σ 26 (o k) = nI (o j) := by
  have h4 := hO.2.2.2.1 k hk
  rcases Nat.eq_zero_or_pos k with z | z
  · subst z
    left
    refine ⟨rfl, ?_⟩
    rcases hN (o 0) h4.1 with ⟨a, h1, -⟩ | ⟨-, h2⟩
    · exfalso
      obtain ⟨j, j1, j2⟩ := ord_dom hO 0 hk a h1.2.1
      have : j = 0 := by omega
      subst this
      exact h1.1 j2.symm
    · exact h2
  · right
    obtain ⟨j, j1, j2⟩ := Idm_ex hO hk z
    refine ⟨j, j1, j2, ?_⟩
    rcases hN (o k) h4.1 with ⟨a, h1, h2⟩ | ⟨h1, -⟩
    · rw [h2, Idm_u h1 j2]
    · exact absurd j2 (h1 _)
theorem NB_row {k t : Nat} (hP : PN σ n) (hO : Ord σ n c o) (hk : k < c) (ht : t < 10) (h : NB σ c o k) : σ 36 (10 * o k + t) = nI (bh σ (o k) t) ∧ Pn σ c o t (1 + 22 * (k + 1)) (bh σ (o k) t) ∧ bh σ (o k) t = nm σ (o k) (bf σ (o k)) (lenC σ (o k)) t := by
  have hn := hP.1
  have hb := (hO.2.2.2.1 k hk).1
  have hl := (PN_len hP (show o k < 10 by omega)).2.2.1
  have hp := Pn_nm hk (Pn_bf hk (h.1 t ht) ht) (lenC σ (o k)) (Nat.le_refl _)
  have hlt := Pn_lt hP hO ht hp
  have e : bh σ (o k) t = nm σ (o k) (bf σ (o k)) (lenC σ (o k)) t := by
    unfold bh; rw [h.2.1 t ht, nI_clamp (by omega)]
  rw [e]
  exact ⟨h.2.1 t ht, Pn_mono hp (by omega), rfl⟩
/-- the name before a block, where those before it have theirs -/
theorem bf_ok (hP : PN σ n) (hO : Ord σ n c o) (hN : nearOK σ n) {k t : Nat} (hk : k < c) (ht : t < 10) (hI : NI σ c o k) : bt (σ 32 (o k)) t = false → Pn σ c o t (1 + 22 * k) (bf σ (o k) t) := by
  intro e
  have hn := hP.1
  unfold bf
  rw [if_neg (by rw [e]; decide)]
  rcases near_ok hO hN hk with ⟨-, z⟩ | ⟨j, j1, j2, j3⟩
  · rw [if_pos z]; exact Or.inl rfl
  · have hb := (hO.2.2.2.1 j (by omega)).1
    rw [if_neg (by rw [j3]; exact ne_m1 (by omega)), j3, nI_clamp (by omega)]
    exact Pn_mono (NB_row hP hO (by omega) ht (hI j j1)).2.1 (by omega)
theorem mm_nameBefore {K : Int32 → mz_St → Prop} (hP : PN σ n) (hO : Ord σ n c o) (hN : nearOK σ n) {k t : Nat} (hk : k < c) (ht : t < 10) (hI : NI σ c o k) (h : K (nI (bf σ (o k) t)) σ) : mw_Names_nameBefore K (nI (o k)) (nI t) σ := by
  have hn := hP.1
  have hb := (hO.2.2.2.1 k hk).1
  have hin : vp_in (nI (o k)) 10 := vp_in_nI (by omega) (by decide)
  unfold mw_Names_nameBefore
  rw [mz_rdn (by omega)]
  refine ⟨hin, mm_isIn (by omega) (bz_go (fun e => ?_) (fun e => ?_))⟩
  · rw [mz_rdn (by omega)]
    unfold bf at h
    rw [if_neg (by rw [e]; decide)] at h
    rcases near_ok hO hN hk with ⟨-, z⟩ | ⟨j, j1, j2, j3⟩
    · rw [if_pos z] at h
      exact ⟨hin, fun q => absurd z q, fun _ => h⟩
    · have hj := (hO.2.2.2.1 j (by omega)).1
      have hne : nI (o j) ≠ -1 := ne_m1 (by omega)
      rw [j3, if_neg hne, nI_clamp (by omega)] at h
      refine ⟨hin, fun _ => ?_, fun q => absurd (j3.symm.trans q) hne⟩
      rw [j3, ix10, mz_rdn (by omega), (NB_row hP hO (by omega) ht (hI j j1)).1]
      exact ⟨vp_in_nI (by omega) (by decide), h⟩
  · unfold mw_Mill_phiName
    rw [ixphi]
    unfold bf at h
    rw [if_pos e] at h
    exact h
def nW : List Nat := [33, 34, 35, 36]
/-- rows of other blocks stay -/
def nO (σ u : mz_St) (b : Nat) : Prop := (∀ j, j < 10 * b ∨ 10 * b + 10 ≤ j → u 36 j = σ 36 j) ∧ (∀ j, j < 12 * b ∨ 12 * b + 12 ≤ j → u 33 j = σ 33 j ∧ u 34 j = σ 34 j) ∧ ∀ j, j ≠ b → u 35 j = σ 35 j
theorem nO_rf {b : Nat} : nO σ σ b := ⟨fun _ _ => rfl, fun _ _ => ⟨rfl, rfl⟩, fun _ _ => rfl⟩
theorem nO_tr {u v : mz_St} {b : Nat} (h1 : nO σ u b) (h2 : nO u v b) : nO σ v b := ⟨fun j hj => (h2.1 j hj).trans (h1.1 j hj), fun j hj => ⟨(h2.2.1 j hj).1.trans (h1.2.1 j hj).1, (h2.2.1 j hj).2.trans (h1.2.1 j hj).2⟩, fun j hj => (h2.2.2 j hj).trans (h1.2.2 j hj)⟩
theorem nO_36 {b j : Nat} {v : Int32} (hj : 10 * b ≤ j ∧ j < 10 * b + 10) : nO σ (mz_up σ 36 j v) b := ⟨fun i hi => up_ot (by omega), fun i _ => by rw [up_row (by decide), up_row (by decide)]; exact ⟨rfl, rfl⟩, fun i _ => by rw [up_row (by decide)]⟩
theorem nO_33 {b j : Nat} {v : Int32} (hj : 12 * b ≤ j ∧ j < 12 * b + 12) : nO σ (mz_up σ 33 j v) b := ⟨fun i hi => by rw [up_row (by decide)], fun i hi => by rw [up_ot (by omega), up_row (by decide)]; exact ⟨rfl, rfl⟩, fun i _ => by rw [up_row (by decide)]⟩
theorem nO_34 {b j : Nat} {v : Int32} (hj : 12 * b ≤ j ∧ j < 12 * b + 12) : nO σ (mz_up σ 34 j v) b := ⟨fun i hi => by rw [up_row (by decide)], fun i hi => by rw [up_row (by decide), up_ot (by omega)]; exact ⟨rfl, rfl⟩, fun i _ => by rw [up_row (by decide)]⟩
theorem nO_35 {b : Nat} {v : Int32} : nO σ (mz_up σ 35 b v) b := ⟨fun i hi => by rw [up_row (by decide)], fun i hi => by rw [up_row (by decide), up_row (by decide)]; exact ⟨rfl, rfl⟩, fun i hi => up_ot hi⟩
theorem bf_nO {u : mz_St} (hP : PN σ n) (hO : Ord σ n c o) (hN : nearOK σ n) (hm : mf nW σ u) {b k t : Nat} (hk : k < c) (ht : t < 10) (hb : ∀ j, j < k → o j ≠ b) (h : nO σ u b) : bf u (o k) t = bf σ (o k) t := by
  have hn := hP.1
  unfold bf
  rw [hm 32 (by decide), hm 26 (by decide)]
  by_cases e : bt (σ 32 (o k)) t = true
  · rw [if_pos e, if_pos e]
  · rw [if_neg e, if_neg e]
    rcases near_ok hO hN hk with ⟨-, z⟩ | ⟨j, j1, j2, j3⟩
    · rw [if_pos z, if_pos z]
    · have hj := (hO.2.2.2.1 j (by omega)).1
      have hne : nI (o j) ≠ -1 := ne_m1 (by omega)
      rw [j3, if_neg hne, if_neg hne, nI_clamp (by omega)]
      unfold bh
      have := hb j j1
      rw [h.1 (10 * o j + t) (by omega)]
theorem NB_nO {u : mz_St} (hP : PN σ n) (hO : Ord σ n c o) (hN : nearOK σ n) (hm : mf nW σ u) {b k : Nat} (hk : k < c) (hb : ∀ j, j ≤ k → o j ≠ b) (h : nO σ u b) (hB : NB σ c o k) : NB u c o k := by
  have hn := hP.1
  have hS : Sm σ u := Sm_mf hm (by decide)
  have hbk := hb k (Nat.le_refl _)
  have hok := (hO.2.2.2.1 k hk).1
  have hl := (PN_len hP (show o k < 10 by omega)).2.2.1
  have eb : ∀ t, t < 10 → bf u (o k) t = bf σ (o k) t := fun t ht => bf_nO hP hO hN hm hk ht (fun j hj => hb j (by omega)) h
  have en : ∀ i t, t < 10 → nm u (o k) (bf u (o k)) i t = nm σ (o k) (bf σ (o k)) i t := by
    intro i
    induction i with
    | zero => exact eb
    | succ i ih => intro t ht; rw [nm_s, nm_s, hS 12 (by decide), hS 13 (by decide), ih t ht]
  have el : lenC u = lenC σ := Sm_lenC hS
  obtain ⟨h1, h2, h3, h4⟩ := hB
  obtain ⟨-, -, -, hop⟩ := PN_len hP (show o k < 10 by omega)
  refine ⟨fun t ht e => ?_, fun t ht => ?_, fun i hi => ?_, ?_⟩
  · rw [hm 32 (by decide)] at e
    rw [Pn_congr hS (hm 32 (by decide)), eb t ht]
    exact h1 t ht e
  · rw [el, en _ t ht, h.1 _ (by omega)]; exact h2 t ht
  · rw [el] at hi
    have hsu := (hop i hi).1
    obtain ⟨g1, g2, g3, g4⟩ := h3 i hi
    obtain ⟨q1, q2⟩ := h.2.1 (12 * o k + i) (by omega)
    rw [hS 12 (by decide), hS 14 (by decide), hS 15 (by decide), q1, q2]
    refine ⟨fun z => ?_, g2, fun z => ?_, g4⟩
    · obtain ⟨t, ht, e⟩ := such_a hsu z
      rw [g1 z, e, nI_clamp (by omega), en i t ht]
    · obtain ⟨t, ht, e⟩ := such_b hsu z
      rw [g3 z, e, nI_clamp (by omega), en i t ht]
  · obtain ⟨len, e, -, -, -, hE, -⟩ := hP.2.2.2 (o k) (by omega)
    obtain ⟨t, ht, et⟩ := hE.2.2.2.1
    rw [hS 18 (by decide), el, h.2.2 _ hbk, h4, et, nI_clamp (by omega), en _ t ht]
theorem mm_nameOps {K : mz_St → Prop} (hP : PN σ n) (hO : Ord σ n c o) {k : Nat} (hk : k < c) {B : Nat → Nat} (hB : ∀ t, t < 10 → Pn σ c o t (11 + 22 * k) (B t)) (hrow : ∀ t, t < 10 → σ 36 (10 * o k + t) = nI (B t)) (h : ∀ u, mf nW σ u → nO σ u (o k) → (∀ t, t < 10 → u 36 (10 * o k + t) = nI (nm σ (o k) B (lenC σ (o k)) t)) → (∀ i, i < lenC σ (o k) → (σ 12 (12 * o k + i) ≠ 0 → u 33 (12 * o k + i) = nI (nm σ (o k) B i (σ 14 (12 * o k + i)).toNatClampNeg)) ∧ (σ 12 (12 * o k + i) = 0 → u 33 (12 * o k + i) = 0) ∧ (tkB (σ 12 (12 * o k + i)) → u 34 (12 * o k + i) = nI (nm σ (o k) B i (σ 15 (12 * o k + i)).toNatClampNeg)) ∧ (¬ tkB (σ 12 (12 * o k + i)) → u 34 (12 * o k + i) = 0)) → K u) : mw_Names_nameOperations K (nI (o k)) σ := by
  have hn := hP.1
  have hok := (hO.2.2.2.1 k hk).1
  generalize ho : o k = b at *
  obtain ⟨hl1, -, hl3, hop⟩ := PN_len hP (show b < 10 by omega)
  have hin : vp_in (nI b) 10 := vp_in_nI (by omega) (by decide)
  unfold mw_Names_nameOperations
  rw [nI_x12]
  refine lf1 (fun m x u => ∃ i, x = nI (12 * b + i) ∧ i ≤ lenC σ b ∧ m = lenC σ b - i ∧ mf nW σ u ∧ nO σ u b ∧ (∀ t, t < 10 → u 36 (10 * b + t) = nI (nm σ b B i t)) ∧ ∀ q, q < i → (σ 12 (12 * b + q) ≠ 0 → u 33 (12 * b + q) = nI (nm σ b B q (σ 14 (12 * b + q)).toNatClampNeg)) ∧ (σ 12 (12 * b + q) = 0 → u 33 (12 * b + q) = 0) ∧ (tkB (σ 12 (12 * b + q)) → u 34 (12 * b + q) = nI (nm σ b B q (σ 15 (12 * b + q)).toNatClampNeg)) ∧ (¬ tkB (σ 12 (12 * b + q)) → u 34 (12 * b + q) = 0)) ?_ (lenC σ b) _ σ ⟨0, rfl, by omega, rfl, mf_rf, nO_rf, hrow, fun q hq => absurd hq (by omega)⟩
  rintro m P10 x u ⟨i, rfl, hi, rfl, hm, hno, h36, hq⟩ hrec
  have hS : Sm σ u := Sm_mf hm (by decide)
  unfold mw_Names_nameOperations_10
  rw [mz_rdn (show b < 2 ^ 31 by omega), hS 16 (by decide), hl1, ix12]
  refine ⟨hin, fun hle => ?_, fun hlt => ?_⟩
  · have ei : i = lenC σ b := by rw [nI_leI (by omega) (by omega)] at hle; omega
    subst ei
    exact h u hm hno h36 hq
  · have hi2 : i < lenC σ b := by rw [nI_leI (by omega) (by omega)] at hlt; omega
    have hsu := (hop i hi2).1
    have hin2 : vp_in (nI (12 * b + i)) 120 := vp_in_nI (by omega) (by decide)
    -- the third step: what is made
    have st3 : ∀ v, mf nW σ v → nO σ v b → (∀ t, t < 10 → v 36 (10 * b + t) = nI (nm σ b B i t)) → (∀ q, q < i + 1 → (σ 12 (12 * b + q) ≠ 0 → v 33 (12 * b + q) = nI (nm σ b B q (σ 14 (12 * b + q)).toNatClampNeg)) ∧ (σ 12 (12 * b + q) = 0 → v 33 (12 * b + q) = 0) ∧ (tkB (σ 12 (12 * b + q)) → v 34 (12 * b + q) = nI (nm σ b B q (σ 15 (12 * b + q)).toNatClampNeg)) ∧ (¬ tkB (σ 12 (12 * b + q)) → v 34 (12 * b + q) = 0)) → mw_Program_makesValue (fun r3 u3 => (∀ P133 : mz_St → Prop, (∀ (s133 : mz_St), mw_Names_nameOperations_133 P10 (nI (12 * b + i)) s133 → P133 s133) → ((r3 = 0 → P133 u3) ∧ (¬ r3 = 0 → vp_in (nI (12 * b + i)) 120 ∧ mw_Mill_madeName (fun r4 u4 => vp_in ((nI b * 10) + (mz_rd u3 13 (nI (12 * b + i)))) 100 ∧ P133 (mz_wr u4 36 ((nI b * 10) + (mz_rd u3 13 (nI (12 * b + i)))) r4)) (nI (12 * b + i)) u3)))) (nI (12 * b + i)) v := by
      intro v hmv hnv h36v hqv
      have hSv : Sm σ v := Sm_mf hmv (by decide)
      refine mm_makesValue (by omega) (by omega) (fun P133 hP133 => bz_go (fun e => ?_) (fun e => ?_))
      · rw [hSv 12 (by decide)] at e
        have e : σ 12 (12 * b + i) = 17 := by simpa using e
        apply hP133
        unfold mw_Names_nameOperations_133
        rw [nI_k1]
        refine hrec (lenC σ b - (i + 1)) _ v (by omega) ⟨i + 1, by rw [Nat.add_assoc], by omega, rfl, hmv, hnv, fun t ht => ?_, hqv⟩
        rw [nm_s, if_neg (fun z => z.1 e)]
        exact h36v t ht
      · rw [hSv 12 (by decide)] at e
        have e : σ 12 (12 * b + i) ≠ 17 := by simpa using e
        obtain ⟨d, hd, ed⟩ := such_d hsu e
        unfold mw_Mill_madeName
        rw [ixmade, mz_rdn (by omega), hSv 13 (by decide), ed, ix10]
        refine ⟨hin2, vp_in_nI (by omega) (by decide), ?_⟩
        rw [mz_wrn (by omega)]
        apply hP133
        unfold mw_Names_nameOperations_133
        rw [nI_k1]
        refine hrec (lenC σ b - (i + 1)) _ _ (by omega) ⟨i + 1, by rw [Nat.add_assoc], by omega, rfl, mf_tr hmv (mf_up (by decide)), nO_tr hnv (nO_36 (by omega)), fun t ht => ?_, ?_⟩
        · rw [nm_s, up_any]
          by_cases q : t = d
          · rw [if_pos ⟨rfl, by omega⟩, if_pos ⟨e, by rw [ed, q]⟩, ← Nat.add_assoc]
          · rw [if_neg (fun z => q (by omega)), if_neg (fun z => q (by have := z.2; rw [ed, nI_eq (by omega) (by omega)] at this; exact this.symm))]
            exact h36v t ht
        · rw [up_row (by decide), up_row (by decide)]
          exact hqv
    -- the second step
    have st2 : ∀ (y : Int32) v, mf nW σ v → nO σ v b → (∀ t, t < 10 → v 36 (10 * b + t) = nI (nm σ b B i t)) → (∀ q, q < i → (σ 12 (12 * b + q) ≠ 0 → v 33 (12 * b + q) = nI (nm σ b B q (σ 14 (12 * b + q)).toNatClampNeg)) ∧ (σ 12 (12 * b + q) = 0 → v 33 (12 * b + q) = 0) ∧ (tkB (σ 12 (12 * b + q)) → v 34 (12 * b + q) = nI (nm σ b B q (σ 15 (12 * b + q)).toNatClampNeg)) ∧ (¬ tkB (σ 12 (12 * b + q)) → v 34 (12 * b + q) = 0)) → (σ 12 (12 * b + i) ≠ 0 → y = nI (nm σ b B i (σ 14 (12 * b + i)).toNatClampNeg)) → (σ 12 (12 * b + i) = 0 → y = 0) → mw_Names_nameOperations_64 (nI b) P10 (nI (12 * b + i)) y (nI (12 * b + i)) v := by
      intro y v hmv hnv h36v hqv hy1 hy2
      unfold mw_Names_nameOperations_64
      refine ⟨hin2, ?_⟩
      rw [mz_wrn (by omega)]
      have hmw : mf nW σ (mz_up v 33 (12 * b + i) y) := mf_tr hmv (mf_up (by decide))
      have hSw : Sm σ (mz_up v 33 (12 * b + i) y) := Sm_mf hmw (by decide)
      have fin : ∀ y2 : Int32, (tkB (σ 12 (12 * b + i)) → y2 = nI (nm σ b B i (σ 15 (12 * b + i)).toNatClampNeg)) → (¬ tkB (σ 12 (12 * b + i)) → y2 = 0) → mw_Names_nameOperations_101 (nI b) P10 (nI (12 * b + i)) y2 (nI (12 * b + i)) (mz_up v 33 (12 * b + i) y) := by
        intro y2 hz1 hz2
        unfold mw_Names_nameOperations_101
        refine ⟨hin2, ?_⟩
        rw [mz_wrn (by omega)]
        refine st3 _ (mf_tr hmw (mf_up (by decide))) (nO_tr (nO_tr hnv (nO_33 (by omega))) (nO_34 (by omega))) (fun t ht => by rw [up_row (by decide), up_row (by decide)]; exact h36v t ht) (fun q hq2 => ?_)
        by_cases e : q = i
        · subst e
          rw [up_row (by decide), up_at, up_at]
          exact ⟨hy1, hy2, hz1, hz2⟩
        · rw [up_row (by decide), up_ot (by omega), up_ot (by omega), up_row (by decide)]
          exact hqv q (by omega)
      refine mm_takesB (by omega) (by omega) (fun P101 hP101 => ?_)
      rw [hSw 12 (by decide)]
      refine bz_go (fun e => ?_) (fun e => ?_)
      · apply hP101
        exact fin 0 (fun z => absurd z (tr_f.mp e)) (fun _ => rfl)
      · obtain ⟨t, ht, et⟩ := such_b hsu (tr_t.mp e)
        rw [mz_rdn (by omega), hSw 15 (by decide), et, ix10, mz_rdn (by omega), up_row (by decide), h36v t ht]
        refine ⟨hin2, vp_in_nI (by omega) (by decide), ?_⟩
        apply hP101
        exact fin _ (fun _ => by rw [et, nI_clamp (by omega)]) (fun z => absurd (tr_t.mp e) z)
    refine mm_takesA (by omega) (by omega) (fun P64 hP64 => ?_)
    rw [hS 12 (by decide)]
    refine bz_go (fun e => ?_) (fun e => ?_)
    · have e : σ 12 (12 * b + i) = 0 := by simpa using e
      apply hP64
      exact st2 0 u hm hno h36 hq (fun z => absurd e z) (fun _ => rfl)
    · have e : σ 12 (12 * b + i) ≠ 0 := by simpa using e
      obtain ⟨t, ht, et⟩ := such_a hsu e
      rw [mz_rdn (by omega), hS 14 (by decide), et, ix10, mz_rdn (by omega), h36 t ht]
      refine ⟨hin2, vp_in_nI (by omega) (by decide), ?_⟩
      apply hP64
      exact st2 _ u hm hno h36 hq (fun _ => by rw [et, nI_clamp (by omega)]) (fun z => absurd z e)
def ordR (σ : mz_St) (c : Nat) (o : Nat → Nat) : Prop := σ 1006 0 = nI c ∧ ∀ i, i < c → σ 24 i = nI (o i)
theorem mm_giveNames {K : mz_St → Prop} (hP : PN σ n) (hO : Ord σ n c o) (hR : ordR σ c o) (hN : nearOK σ n) (h : ∀ u, mf nW σ u → NI u c o c → K u) : mw_Names_giveNames K σ := by
  have hn := hP.1
  have hc := hO.1
  unfold mw_Names_giveNames
  refine lf1 (fun m x u => ∃ k, x = nI k ∧ k ≤ c ∧ m = c - k ∧ mf nW σ u ∧ NI u c o k) ?_ c 0 σ ⟨0, rfl, by omega, rfl, mf_rf, fun k hk => absurd hk (by omega)⟩
  rintro m P2 x u ⟨k, rfl, hk, rfl, hm, hI⟩ hrec
  have hS : Sm σ u := Sm_mf hm (by decide)
  have hPu := hS.pn hP
  have hNu : nearOK u n := by
    unfold nearOK nearV at hN ⊢
    rw [Sm_Idm hS, hm 26 (by decide)]; exact hN
  have hOu : Ord u n c o := by
    unfold Ord at hO ⊢
    rw [Sm_Al hS, Sm_gX hS]; exact hO
  unfold mw_Names_giveNames_2
  rw [hm 1006 (by decide), hR.1]
  refine pk_le c k (fun hle => ?_) (fun hlt => ?_)
  · have ek : k = c := by omega
    subst ek
    exact h u hm hI
  · have hok := (hO.2.2.2.1 k hlt).1
    refine ⟨vp_in_nI (by omega) (by decide), ?_⟩
    have e24 : mz_rd u 24 (nI k) = nI (o k) := by rw [mz_rdn (by omega), hm 24 (by decide), hR.2 k hlt]
    have hinj : ∀ j, j < k → o j ≠ o k := fun j hj z => by have := hO.2.2.2.2.1 j k (by omega) hlt z; omega
    have hin : vp_in (nI (o k)) 10 := vp_in_nI (by omega) (by decide)
    refine lf1 (fun m x v => ∃ t, x = nI t ∧ t ≤ 10 ∧ m = 10 - t ∧ mf nW u v ∧ nO u v (o k) ∧ ∀ q, q < t → v 36 (10 * o k + q) = nI (bf u (o k) q)) ?_ 10 0 u ⟨0, rfl, by omega, rfl, mf_rf, nO_rf, fun q hq => absurd hq (by omega)⟩
    rintro m P25 x v ⟨t, rfl, ht, rfl, hmv, hnv, hqv⟩ hrec2
    have hSv : Sm u v := Sm_mf hmv (by decide)
    have hIv : NI v c o k := fun j hj => NB_nO hPu hOu hNu hmv (by omega) (fun i hi => hinj i (by omega)) hnv (hI j hj)
    have hPv := hSv.pn hPu
    have hOv : Ord v n c o := by
      unfold Ord at hOu ⊢
      rw [Sm_Al hSv, Sm_gX hSv]; exact hOu
    have hNv : nearOK v n := by
      unfold nearOK nearV at hNu ⊢
      rw [Sm_Idm hSv, hmv 26 (by decide)]; exact hNu
    unfold mw_Names_giveNames_25
    rw [e24, ge10 (by omega)]
    refine ⟨fun hle => ?_, fun hlt2 => ?_⟩
    · have et : t = 10 := by omega
      subst et
      have ebf : ∀ q, q < 10 → bf v (o k) q = bf u (o k) q := fun q hq => bf_nO hPu hOu hNu hmv hlt hq hinj hnv
      refine mm_nameOps (B := bf u (o k)) hPv hOv hlt (fun q hq => ?_) hqv (fun w hmw hnw h36 h334 => ?_)
      · rw [← ebf q hq]
        exact Pn_bf hlt (bf_ok hPv hOv hNv hlt hq hIv) hq
      · have hSw : Sm v w := Sm_mf hmw (by decide)
        obtain ⟨len, e, -, -, -, hE, -⟩ := hPv.2.2.2 (o k) (by omega)
        obtain ⟨te, hte, ete⟩ := hE.2.2.2.1
        rw [mz_rdn (show o k < 2 ^ 31 by omega), hSw 18 (by decide), ete, ix10, mz_rdn (by omega), mz_wrn (by omega), nI_k1]
        refine ⟨hin, vp_in_nI (by omega) (by decide), hin, ?_⟩
        have hmx : mf nW v (mz_up w 35 (o k) (w 36 (10 * o k + te))) := mf_tr hmw (mf_up (by decide))
        have hnx : nO v (mz_up w 35 (o k) (w 36 (10 * o k + te))) (o k) := nO_tr hnw nO_35
        generalize hgx : mz_up w 35 (o k) (w 36 (10 * o k + te)) = z at *
        have hSz : Sm v z := Sm_mf hmx (by decide)
        refine hrec (c - (k + 1)) _ z (by omega) ⟨k + 1, rfl, by omega, rfl, mf_tr hm (mf_tr hmv hmx), fun j hj => ?_⟩
        by_cases ejk : j = k
        · subst ejk
          have ebz : ∀ q, q < 10 → bf z (o j) q = bf u (o j) q := fun q hq => (bf_nO hPv hOv hNv hmx hlt hq hinj hnx).trans (ebf q hq)
          have enz : ∀ i q, q < 10 → nm z (o j) (bf z (o j)) i q = nm v (o j) (bf u (o j)) i q := by
            intro i
            induction i with
            | zero => exact ebz
            | succ i ih => intro q hq; rw [nm_s, nm_s, hSz 12 (by decide), hSz 13 (by decide), ih q hq]
          have elz : lenC z = lenC v := Sm_lenC hSz
          have z36 : ∀ q, z 36 q = w 36 q := fun q => by rw [← hgx, up_row (by decide)]
          have z33 : ∀ q, z 33 q = w 33 q := fun q => by rw [← hgx, up_row (by decide)]
          have z34 : ∀ q, z 34 q = w 34 q := fun q => by rw [← hgx, up_row (by decide)]
          have z35 : z 35 (o j) = w 36 (10 * o j + te) := by rw [← hgx, up_at]
          obtain ⟨-, -, -, hop⟩ := PN_len hPv (show o j < 10 by omega)
          refine ⟨fun q hq e => ?_, fun q hq => ?_, fun i hi => ?_, ?_⟩
          · rw [ebz q hq, ← ebf q hq, Pn_congr hSz (hmx 32 (by decide))]
            rw [hmx 32 (by decide)] at e
            exact bf_ok hPv hOv hNv hlt hq hIv e
          · rw [z36, h36 q hq, elz, enz _ q hq]
          · rw [elz] at hi
            have hsu := (hop i hi).1
            obtain ⟨g1, g2, g3, g4⟩ := h334 i hi
            rw [hSz 12 (by decide), hSz 14 (by decide), hSz 15 (by decide), z33, z34]
            refine ⟨fun q => ?_, g2, fun q => ?_, g4⟩
            · obtain ⟨t, ht, e⟩ := such_a hsu q
              rw [g1 q, e, nI_clamp (by omega), enz i t ht]
            · obtain ⟨t, ht, e⟩ := such_b hsu q
              rw [g3 q, e, nI_clamp (by omega), enz i t ht]
          · rw [z35, h36 te hte, hSz 18 (by decide), ete, nI_clamp (by omega), elz, enz _ te hte]
        · exact NB_nO hPv hOv hNv hmx (by omega) (fun i hi => hinj i (by omega)) hnx (hIv j (by omega))
    · refine mm_nameBefore hPv hOv hNv hlt (by omega) hIv ?_
      rw [ix10, mz_wrn (by omega), nI_k1]
      refine ⟨vp_in_nI (by omega) (by decide), ?_⟩
      refine hrec2 (10 - (t + 1)) _ _ (by omega) ⟨t + 1, rfl, by omega, rfl, mf_tr hmv (mf_up (by decide)), nO_tr hnv (nO_36 (by omega)), fun q hq => ?_⟩
      rw [up_any]
      by_cases e : q = t
      · rw [if_pos ⟨rfl, by omega⟩, e, bf_nO hPu hOu hNu hmv hlt (by omega) hinj hnv]
      · rw [if_neg (fun z => e (by omega))]
        exact hqv q (by omega)
end N1

/-! the graph of blocks: edges, counting in sets, what is reached -/
def cn (p : Nat → Bool) : Nat → Nat
  | 0 => 0
  | m + 1 => cn p m + (if p m then 1 else 0)
theorem cn_le (p : Nat → Bool) : ∀ m, cn p m ≤ m
  | 0 => Nat.le_refl _
  | m + 1 => by have := cn_le p m; unfold cn; split <;> omega
theorem cn_mono {p q : Nat → Bool} (h : ∀ i, p i = true → q i = true) : ∀ m, cn p m ≤ cn q m
  | 0 => Nat.le_refl _
  | m + 1 => by
    have := cn_mono h m
    unfold cn
    by_cases hp : p m = true
    · rw [if_pos hp, if_pos (h m hp)]; omega
    · rw [if_neg hp]; split <;> omega
theorem cn_lt {p q : Nat → Bool} (h : ∀ i, p i = true → q i = true) {j : Nat} (hj : q j = true) (hp : p j = false) : ∀ m, j < m → cn p m < cn q m
  | 0, h0 => by omega
  | m + 1, h0 => by
    unfold cn
    by_cases e : j = m
    · subst e
      have := cn_mono h j
      rw [hp, hj, if_neg (by decide), if_pos rfl]
      omega
    · have := cn_lt h hj hp m (by omega)
      by_cases hpm : p m = true
      · rw [if_pos hpm, if_pos (h m hpm)]; omega
      · rw [if_neg hpm]; split <;> omega
theorem cn_full {p : Nat → Bool} : ∀ m, m ≤ cn p m → ∀ i, i < m → p i = true
  | 0, _, i, hi => by omega
  | m + 1, h, i, hi => by
    unfold cn at h
    have h1 := cn_le p m
    by_cases e : p m = true
    · rw [if_pos e] at h
      by_cases hi2 : i = m
      · rw [hi2]; exact e
      · exact cn_full m (by omega) i (by omega)
    · rw [if_neg e] at h; omega
/-- two sets, one in the other, as many: the same -/
theorem cn_eq {p q : Nat → Bool} (h : ∀ i, p i = true → q i = true) {m : Nat} (hc : cn q m ≤ cn p m) : ∀ i, i < m → q i = true → p i = true := by
  intro i hi hq
  cases hp : p i
  · have := cn_lt h hq hp m hi; omega
  · rfl
/-- what is reached from s by ways that come by no barred one -/
def Rch (n : Nat) (E : Nat → Nat → Prop) (s b : Nat → Prop) (x : Nat) : Prop := ∀ C : Nat → Prop, (∀ y, s y → ¬ b y → C y) → (∀ y z, y < n → C y → E y z → ¬ b z → C z) → C x
theorem Rch_s {n : Nat} {E : Nat → Nat → Prop} {s b : Nat → Prop} {x : Nat} (h : s x) (hb : ¬ b x) : Rch n E s b x := fun _ h1 _ => h1 x h hb
theorem Rch_e {n : Nat} {E : Nat → Nat → Prop} {s b : Nat → Prop} {x y : Nat} (hx : x < n) (h : Rch n E s b x) (he : E x y) (hb : ¬ b y) : Rch n E s b y := fun C h1 h2 => h2 x y hx (h C h1 h2) he hb
theorem Rch_nb {n : Nat} {E : Nat → Nat → Prop} {s b : Nat → Prop} {x : Nat} (h : Rch n E s b x) : ¬ b x := h (fun y => ¬ b y) (fun _ _ hb => hb) (fun _ _ _ _ _ hb => hb)
theorem Rch_mono {n : Nat} {E : Nat → Nat → Prop} {s s' b b' : Nat → Prop} {x : Nat} (h : Rch n E s b x) (hs : ∀ y, s y → s' y) (hb : ∀ y, b' y → b y) : Rch n E s' b' x := fun C h1 h2 => h C (fun y hy hn => h1 y (hs y hy) (fun z => hn (hb y z))) (fun y z hy hc he hn => h2 y z hy hc he (fun w => hn (hb z w)))
theorem Rch_lt {n : Nat} {E : Nat → Nat → Prop} {s b : Nat → Prop} {x : Nat} (hs : ∀ y, s y → y < n) (hE : ∀ y z, y < n → E y z → z < n) (h : Rch n E s b x) : x < n := h (fun y => y < n) (fun y hy _ => hs y hy) (fun y z hy _ he _ => hE y z hy he)
/-- the edges, out of the class's rows -/
def gE (σ : mz_St) (a b : Nat) : Prop := (σ 17 a ≠ 0 ∧ σ 19 a = nI b) ∨ (σ 17 a = 2 ∧ σ 20 a = nI b)
theorem gE_lt {σ : mz_St} {n a b : Nat} (hP : PN σ n) (ha : a < n) (h : gE σ a b) (hb : b < 2 ^ 31) : b < n := by
  obtain ⟨hn, -, -, hB⟩ := hP
  obtain ⟨len, e, -, -, -, ⟨-, -, -, -, ⟨m1, q1, e1⟩, ⟨m2, q2, e2⟩, -⟩, -⟩ := hB a (by omega)
  rcases h with ⟨-, h⟩ | ⟨-, h⟩
  · rw [e1, nI_eq (by omega) hb] at h; omega
  · rw [e2, nI_eq (by omega) hb] at h; omega
theorem n2 {e : Nat} (he : e ≤ 2) : nI e = 2 ↔ e = 2 := by
  rw [show (2 : Int32) = nI 2 from rfl, nI_eq (by omega) (by omega)]
theorem n1 {e : Nat} (he : e ≤ 2) : nI e = 1 ↔ e = 1 := by
  rw [show (1 : Int32) = nI 1 from rfl, nI_eq (by omega) (by omega)]
theorem n0 {e : Nat} (he : e < 2 ^ 31) : nI e = 0 ↔ e = 0 := by
  rw [show (0 : Int32) = nI 0 from rfl, nI_eq (by omega) (by omega)]
section S5
variable {K : Int32 → mz_St → Prop} {Kv : mz_St → Prop} {a0 a1 a2 a3 a4 : Int32} {σ : mz_St} {n : Nat}
theorem mm_edges {a : Nat} (hP : PN σ n) (ha : a < n) (h : K (σ 17 a) σ) : mw_Program_edges K (nI a) σ := by
  have hn := hP.1
  obtain ⟨len, e, -, -, -, ⟨q1, -, q3, -⟩, -⟩ := hP.2.2.2 a (by omega)
  unfold mw_Program_edges
  rw [mz_rdn (by omega), q1, n0 (by omega), n1 q3]
  rw [q1] at h
  have hin : vp_in (nI a) 10 := vp_in_nI (by omega) (by decide)
  refine ⟨hin, fun h0 => ⟨hin, fun h1 => ?_, fun h1 => ?_⟩, fun h0 => ?_⟩
  · rw [show e = 2 by omega] at h; exact h
  · rw [h1] at h; exact h
  · rw [h0] at h; exact h
theorem mm_target {a j : Nat} (ha : a < 10) (hj : j < 2 ^ 31) (h : K (if j = 0 then σ 19 a else σ 20 a) σ) : mw_Program_target K (nI a) (nI j) σ := by
  unfold mw_Program_target
  rw [mz_rdn (by omega), mz_rdn (by omega), n0 hj]
  have hin : vp_in (nI a) 10 := vp_in_nI (by omega) (by decide)
  refine ⟨fun h0 => ⟨hin, ?_⟩, fun h0 => ⟨hin, ?_⟩⟩
  · rw [if_neg h0] at h; exact h
  · rw [if_pos h0] at h; exact h
end S5

theorem mm_hasEdge {K : Int32 → mz_St → Prop} {σ : mz_St} {n a b : Nat} (hP : PN σ n) (ha : a < n) (h : (gE σ a b → K 1 σ) ∧ (¬ gE σ a b → K 0 σ)) : mw_Ref_hasEdge K (nI a) (nI b) σ := by
  have hn := hP.1
  obtain ⟨len, e, -, -, -, ⟨q1, q2, q3, -, -, -, -, q8, q9⟩, -⟩ := hP.2.2.2 a (by omega)
  unfold mw_Ref_hasEdge
  have hin : vp_in (nI a) 10 := vp_in_nI (by omega) (by decide)
  refine ⟨hin, fun P39 hP39 P19 hP19 => ?_⟩
  have r62 : ∀ s : mz_St, mz_rd s 62 (nI a) = s 62 a := fun s => mz_rdn (by omega)
  have r64 : ∀ s : mz_St, mz_rd s 64 (nI a) = s 64 a := fun s => mz_rdn (by omega)
  have r65 : ∀ s : mz_St, mz_rd s 65 (nI a) = s 65 a := fun s => mz_rdn (by omega)
  rw [r62, r64, q2]
  have h39 : gE σ a b → P39 σ := fun g => hP39 σ (h.1 g)
  have h19 : (gE σ a b → (e = 2 ∧ σ 20 a = nI b)) → P19 σ := by
    intro hx
    apply hP19
    unfold mw_Ref_hasEdge_19
    rw [r62, r65, q2, n2 q3]
    refine ⟨hin, fun h2 => h.2 (fun g => h2 (hx g).1), fun h2 => ⟨hin, fun h3 => h.2 (fun g => h3 (by rw [q9 h2]; exact (hx g).2)), fun h3 => h39 (Or.inr ⟨by rw [q1, h2]; rfl, by rw [← q9 h2]; exact h3⟩)⟩⟩
  have e0 : nI e ≤ 0 ↔ e = 0 := by
    rw [show (0 : Int32) = nI 0 from rfl, nI_leI (by omega) (by omega)]; omega
  rw [e0]
  refine ⟨fun h0 => h19 (fun g => ?_), fun h0 => ⟨hin, fun h1 => h39 (Or.inl ⟨by rw [q1]; exact fun z => h0 ((n0 (by omega)).mp z), by rw [← q8 (by omega)]; exact h1⟩), fun h1 => h19 (fun g => ?_)⟩⟩
  · rcases g with ⟨g1, -⟩ | ⟨g1, -⟩
    · exact absurd (by rw [q1, h0]; rfl) g1
    · rw [q1, n2 q3] at g1; omega
  · rcases g with ⟨-, g2⟩ | ⟨g1, g2⟩
    · exact absurd (by rw [q8 (by omega)]; exact g2) h1
    · rw [q1, n2 q3] at g1; exact ⟨g1, g2⟩

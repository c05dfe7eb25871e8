/-! the value of a name; bringing it; an operation's code -/
def vl (σ : mz_St) (x : Nat) (z : Wd) : Int32 := if σ 37 x = 2 then σ 38 x else z (σ 40 (σ 38 x).toNatClampNeg).toNatClampNeg
def nu (σ : mz_St) (x : Nat) : Bool := decide (σ 37 x = 2)
def NSl (σ : mz_St) (c : Nat) (o : Nat → Nat) (fs : Nat) : Prop := ∀ t x R h, t < 10 → Pn σ c o t R x → self σ x → σ 40 x = nI h → h < 229 → h < fs
def Hz (σ : mz_St) (c : Nat) (o : Nat → Nat) (fs : Nat) (Zs : Nat → Prop) : Prop :=
  σ 1007 0 = nI fs ∧ fs ≤ 230 ∧ ¬ Zs 229 ∧ (∀ t x R, t < 10 → Pn σ c o t R x → self σ x → ∃ h, σ 40 x = nI h ∧ h < 229 ∧ ¬ Zs h) ∧
  (NSl σ c o fs ∨ ∃ s, σ 1008 0 = nI s ∧ s + 1 < 229 ∧ Zs s ∧ Zs (s + 1))
theorem Hz_of {σ : mz_St} {n c : Nat} {o : Nat → Nat} (h : HmOK σ n c o) : ∃ fs Zs, Hz σ c o fs Zs := by
  obtain ⟨fs, h1, h2, h3, h4, -⟩ := h
  rcases h4 with z | ⟨s, s1, s2, s3, s4⟩
  · refine ⟨fs, fun _ => False, h1, h2, id, fun t x R ht hx hs => ?_, Or.inl z⟩
    obtain ⟨q, q1, q2⟩ := h3 t x R ht hx hs
    exact ⟨q, q1, q2, id⟩
  · refine ⟨fs, fun c => c = s ∨ c = s + 1, h1, h2, by omega, fun t x R ht hx hs => ?_, Or.inr ⟨s, s1, by omega, Or.inl rfl, Or.inr rfl⟩⟩
    obtain ⟨q, q1, q2⟩ := h3 t x R ht hx hs
    have := s4 t x R q ht hx hs q1 q2
    exact ⟨q, q1, q2, by omega⟩
def wW : List Nat := [45, 46, 47, 48, 49, 50, 51, 52, 53, 54, 55, 56, 1011, 1012]
section X1
variable {K : mz_St → Prop} {K1 : Int32 → mz_St → Prop} {σ u : mz_St} {n c fs L : Nat} {o : Nat → Nat} {Zs : Nat → Prop}
theorem nval (hP : PN σ n) (hO : Ord σ n c o) (hS : StOK σ n c o) (hZ : Hz σ c o fs Zs) {t R x : Nat} (ht : t < 10) (hx : Pn σ c o t R x) : (nu σ x = true ∧ σ 37 x = 2 ∧ ∀ z, vl σ x z = σ 38 x) ∨ ∃ y t' h, t' < 10 ∧ Pn σ c o t' R y ∧ self σ y ∧ y < 221 ∧ nu σ x = false ∧ σ 37 x = 1 ∧ σ 38 x = nI y ∧ st σ x = nI y ∧ σ 40 y = nI h ∧ h < 229 ∧ ¬ Zs h ∧ ∀ z : Wd, vl σ x z = z h := by
  rcases hS.2.1 R t x ht hx with q | ⟨q1, y, t', ht', hy, q2, q3⟩
  · exact Or.inl ⟨by unfold nu; rw [decide_eq_true q], q, fun z => by unfold vl; rw [if_pos q]⟩
  · have hy' := Pn_lt hP hO ht' hy
    obtain ⟨h, h1, h2, h3⟩ := hZ.2.2.2.1 t' y R ht' hy q3
    have hne : σ 37 x ≠ 2 := by rw [q1]; decide
    refine Or.inr ⟨y, t', h, ht', hy, q3, hy', by unfold nu; rw [decide_eq_false hne], q1, q2, by unfold st; rw [if_pos q1, q2], h1, h2, h3, fun z => ?_⟩
    unfold vl
    rw [if_neg hne, q2, nI_clamp (by omega), h1, nI_clamp (by omega)]
/-- values stay where only the scratch changes -/
theorem vl_ag (hP : PN σ n) (hO : Ord σ n c o) (hS : StOK σ n c o) (hZ : Hz σ c o fs Zs) {t R x : Nat} {z z' : Wd} (ht : t < 10) (hx : Pn σ c o t R x) (h : ∀ q, ¬ Zs q → z' q = z q) : vl σ x z' = vl σ x z := by
  rcases nval hP hO hS hZ ht hx with ⟨-, -, q⟩ | ⟨y, t', q, -, -, -, -, -, -, -, -, -, -, hn, e⟩
  · rw [q, q]
  · rw [e, e]; exact h q hn
theorem mm_bring (hP : PN σ n) (hO : Ord σ n c o) (hS : StOK σ n c o) (hZ : Hz σ c o fs Zs) (hm : mf wW σ u) (h11 : u 1011 0 = nI L) (hL : L < 1090) {t R x : Nat} {a1 : Int32} (ht : t < 10) (hx : Pn σ c o t R x) (ha : NSl σ c o fs ∨ ∃ q, a1 = nI q ∧ q < 230) (h : ∀ v L' r, Ad u v L L' → L' ≤ L + 1 → svok (nu σ x) r → (∀ z rr, ∃ z', ex v L L' (z, rr) = (0, (z', rr)) ∧ sv (nu σ x) r z' = vl σ x z ∧ (NSl σ c o fs → z' = z) ∧ ∀ q, (∀ s, a1 = nI s → s < 230 → q ≠ s) → z' q = z q) → (nu σ x = false → ∃ q, r = nI q ∧ q < 230 ∧ (¬ Zs q ∨ r = a1)) → K1 r v) : mw_Writer_bring K1 (nI x) a1 u := by
  have hlt := Pn_lt hP hO ht hx
  unfold mw_Writer_bring
  refine ⟨vp_in_nI hlt (by decide), mm_isNumber hlt ?_⟩
  rw [hm 37 (by decide), mz_rdn (by omega), hm 38 (by decide)]
  rcases nval hP hO hS hZ ht hx with ⟨hnu, h37, hv⟩ | ⟨y, t', q, ht', hy, hs, hyl, hnu, h37, h38, -, h40, hq, hZq, hv⟩
  · rw [decide_eq_true h37]
    refine ⟨fun z => absurd z (by decide), fun _ => h u L _ (Ad_rf h11) (by omega) (fun z => by rw [hnu] at z; cases z) (fun z rr => ⟨z, ex_0, ?_, fun _ => rfl, fun _ _ => rfl⟩) (fun z => by rw [hnu] at z; cases z)⟩
    rw [hnu, hv]; rfl
  · rw [decide_eq_false (by rw [h37]; decide), h38]
    refine ⟨fun _ => ?_, fun z => absurd rfl z⟩
    rw [mz_rdn (by omega), hm 40 (by decide), h40]
    refine ⟨vp_in_nI hyl (by decide), mm_isSlot (by rw [hm 1007 (by decide)]; exact hZ.1) hZ.2.1 (by omega) (bz_og (fun e => ?_) (fun e => ?_))⟩
    · have e := of_decide_eq_true e
      rcases ha with z | ⟨s, rfl, hs2⟩
      · have := z t' y R q ht' hy hs h40 hq; omega
      · refine mm_addMove (b := false) h11 hL hs2 (fun _ => ⟨q, by omega, rfl⟩) (fun v hA hsem => h v (L + 1) (nI s) hA (by omega) (fun _ => ⟨s, hs2, rfl⟩) (fun z rr => ⟨_, hsem (z, rr), ?_, fun hN => ?_, fun r hr => ?_⟩) (fun _ => ⟨s, rfl, hs2, Or.inr rfl⟩))
        · rw [hnu, hv]
          show upd z s (z (nI q).toNatClampNeg) (nI s).toNatClampNeg = z q
          rw [nI_clamp (by omega), nI_clamp (by omega)]
          simp [upd]
        · have := hN t' y R q ht' hy hs h40 hq; omega
        · have : r ≠ s := hr s rfl hs2
          simp [upd, this]
    · refine h u L (nI q) (Ad_rf h11) (by omega) (fun _ => ⟨q, by omega, rfl⟩) (fun z rr => ⟨z, ex_0, ?_, fun _ => rfl, fun _ _ => rfl⟩) (fun _ => ⟨q, rfl, by omega, Or.inl hZq⟩)
      rw [hnu, hv]
      show z (nI q).toNatClampNeg = z q
      rw [nI_clamp (by omega)]
end X1
/-- the form of an operation's code -/
noncomputable def fo1 (kd : Int32) (na : Bool) : Int32 := if kd = 0 then fm kd else fm kd ||| bz na
noncomputable def fo2 (kd : Int32) (na nb : Bool) : Int32 := if tr (tkB kd) then fo1 kd na ||| (if nb then 2 else 0) else fo1 kd na
theorem tkB_0 {kd : Int32} (h : kd = 0) : tr (tkB kd) = false := by
  rw [tr_f, h]
  unfold tkB
  decide
theorem fo_ab (kd : Int32) (na nb : Bool) : (fo2 kd na nb &&& 1 = 0 ↔ kd ≠ 0 ∧ na = false) ∧ (fo2 kd na nb &&& 2 = 0 ↔ tr (tkB kd) = true ∧ nb = false) := by
  unfold fo2 fo1 fm
  by_cases h : kd = 0
  · rw [tkB_0 h, if_pos h]
    cases na <;> cases nb <;> simp [h] <;> decide
  · cases q : tr (tkB kd) <;> cases na <;> cases nb <;> simp [h, bz] <;> decide

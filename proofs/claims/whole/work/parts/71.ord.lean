/-! the order: every living block once, a way from the entry behind each, dominators before the dominated -/
def Sp (E : Nat → Nat → Prop) (R : Nat → Prop) : List Nat → Prop
  | [] => True
  | x :: l => (R x ∨ ∃ y, y ∈ l ∧ E y x) ∧ Sp E R l
def Nd : List Nat → Prop
  | [] => True
  | x :: l => x ∉ l ∧ Nd l
theorem Sp_app {E : Nat → Nat → Prop} {R : Nat → Prop} {l' : List Nat} (h' : Sp E R l') : ∀ l, Sp E R l → Sp E R (l ++ l')
  | [], _ => h'
  | x :: l, h => ⟨h.1.imp id (fun ⟨y, h1, h2⟩ => ⟨y, List.mem_append_left _ h1, h2⟩), Sp_app h' l h.2⟩
theorem Sp_snoc {E : Nat → Nat → Prop} {R R' : Nat → Prop} {k : Nat} (hk : R' k) (hR : ∀ x, R x → E k x) : ∀ l, Sp E R l → Sp E R' (l ++ [k])
  | [], _ => ⟨Or.inl hk, trivial⟩
  | x :: l, h => ⟨Or.inr (h.1.elim (fun z => ⟨k, List.mem_append_right _ (List.mem_singleton.mpr rfl), hR x z⟩) (fun ⟨y, h1, h2⟩ => ⟨y, List.mem_append_left _ h1, h2⟩)), Sp_snoc hk hR l h.2⟩
theorem Sp_mono {E : Nat → Nat → Prop} {R R' : Nat → Prop} (hR : ∀ x, R x → R' x) : ∀ l, Sp E R l → Sp E R' l
  | [], _ => trivial
  | _ :: l, h => ⟨h.1.imp (hR _) id, Sp_mono hR l h.2⟩
theorem Nd_app {l' : List Nat} (h' : Nd l') : ∀ l, Nd l → (∀ x, x ∈ l → x ∉ l') → Nd (l ++ l')
  | [], _, _ => h'
  | x :: l, h, hd => ⟨fun z => (List.mem_append.mp z).elim h.1 (hd x (List.mem_cons_self ..)), Nd_app h' l h.2 (fun y hy => hd y (List.mem_cons_of_mem _ hy))⟩
theorem gD_mem : ∀ (l : List Nat) p, p < l.length → l.getD p 0 ∈ l
  | x :: l, 0, _ => by simp
  | x :: l, p + 1, h => by
    have := gD_mem l p (by simpa using h)
    simp only [List.getD_cons_succ]
    exact List.mem_cons_of_mem _ this
theorem mem_gD : ∀ (l : List Nat) x, x ∈ l → ∃ p, p < l.length ∧ l.getD p 0 = x
  | y :: l, x, h => by
    rcases List.mem_cons.mp h with e | h
    · exact ⟨0, by simp, by simp [e]⟩
    · obtain ⟨p, h1, h2⟩ := mem_gD l x h
      exact ⟨p + 1, by simpa using h1, by simpa using h2⟩
theorem Nd_ix : ∀ (l : List Nat), Nd l → ∀ p q, p < q → q < l.length → l.getD p 0 ≠ l.getD q 0
  | x :: l, h, 0, q + 1, _, h2 => by
    simp only [List.getD_cons_zero, List.getD_cons_succ]
    intro e
    exact h.1 (by rw [e]; exact gD_mem l q (by simpa using h2))
  | x :: l, h, p + 1, q + 1, h1, h2 => by
    simp only [List.getD_cons_succ]
    exact Nd_ix l h.2 p q (by omega) (by simpa using h2)
theorem Sp_ix {E : Nat → Nat → Prop} {R : Nat → Prop} : ∀ (l : List Nat), Sp E R l → ∀ p, p < l.length → R (l.getD p 0) ∨ ∃ q, p < q ∧ q < l.length ∧ E (l.getD q 0) (l.getD p 0)
  | x :: l, h, 0, _ => by
    rcases h.1 with z | ⟨y, h1, h2⟩
    · exact Or.inl (by simpa using z)
    · obtain ⟨q, q1, q2⟩ := mem_gD l y h1
      exact Or.inr ⟨q + 1, by omega, by simpa using q1, by simp only [List.getD_cons_succ, List.getD_cons_zero]; rw [q2]; exact h2⟩
  | x :: l, h, p + 1, hp => by
    rcases Sp_ix l h.2 p (by simpa using hp) with z | ⟨q, q1, q2, q3⟩
    · exact Or.inl (by simpa using z)
    · exact Or.inr ⟨q + 1, by omega, by simpa using q2, by simpa using q3⟩
section O1
variable {σ : mz_St} {n : Nat}
/-- what going through from a state s to a state r has added -/
def Gn (σ : mz_St) (n : Nat) (R : Nat → Prop) (s r : Ds) (new : List Nat) : Prop := r.2 = s.2 ++ new ∧ (∀ x, bt r.1 x = true ↔ bt s.1 x = true ∨ x ∈ new) ∧ (∀ x, x ∈ new → bt s.1 x = false ∧ x < n) ∧ Nd new ∧ (∀ x, x ∈ new → ∀ y, gX σ n x y → bt r.1 y = true) ∧ Sp (gX σ n) R new
theorem Gn_rf {R : Nat → Prop} {s : Ds} : Gn σ n R s s [] := ⟨by simp, fun x => by simp, fun x h => absurd h (by simp), trivial, fun x h => absurd h (by simp), trivial⟩
theorem Gn_tr {R : Nat → Prop} {s r t : Ds} {l l' : List Nat} (h : Gn σ n R s r l) (h' : Gn σ n R r t l') : Gn σ n R s t (l ++ l') := by
  obtain ⟨a1, a2, a3, a4, a5, a6⟩ := h
  obtain ⟨b1, b2, b3, b4, b5, b6⟩ := h'
  refine ⟨by rw [b1, a1, List.append_assoc], fun x => ?_, fun x hx => ?_, Nd_app b4 _ a4 (fun x hx hx' => ?_), fun x hx y hy => ?_, Sp_app b6 _ a6⟩
  · rw [b2, a2, List.mem_append]; exact or_assoc
  · rcases List.mem_append.mp hx with z | z
    · exact a3 x z
    · obtain ⟨z1, z2⟩ := b3 x z
      refine ⟨?_, z2⟩
      cases e : bt s.1 x
      · rfl
      · rw [(a2 x).mpr (Or.inl e)] at z1; cases z1
  · have := (b3 x hx').1
    rw [(a2 x).mpr (Or.inr hx)] at this; cases this
  · rcases List.mem_append.mp hx with z | z
    · exact (b2 y).mpr (Or.inl (a5 x z y hy))
    · exact b5 x z y hy
theorem dgo_ok (hP : PN σ n) : ∀ f k s, k < n → 10 ≤ cb s.1 + f → ∃ new, Gn σ n (fun x => x = k) s (dgo σ f k s) new ∧ bt (dgo σ f k s).1 k = true ∧ (bt s.1 k = false → ∃ l, new = l ++ [k])
  | 0, k, s, hk, hf => by
    have hn := hP.1
    have := cn_full (p := fun i => bt s.1 i) 10 hf k (by omega)
    exact ⟨[], Gn_rf, this, fun z => by rw [show bt s.1 k = true from this] at z; cases z⟩
  | f + 1, k, s, hk, hf => by
    have hn := hP.1
    rw [dgo_s]
    by_cases hm : bt s.1 k = true
    · rw [if_pos hm]
      exact ⟨[], Gn_rf, hm, fun z => by rw [hm] at z; cases z⟩
    · rw [if_neg hm]
      have hm' : bt s.1 k = false := by simpa using hm
      have hcb : cb s.1 + 1 ≤ cb (mark k s).1 := cb_mark (by omega) hm'
      obtain ⟨eC1, eC2⟩ := PN_eC hP hk
      have hgx : ∀ y, gX σ n k y → (1 ≤ eC σ k ∧ y = eT σ k 0) ∨ (2 ≤ eC σ k ∧ y = eT σ k 1) := by
        intro y hy
        obtain ⟨g1, g2⟩ := (fst_all eC1 eC2).mp hy
        have t0 := (PN_eT hP hk 0).1
        have t1 := (PN_eT hP hk 1).1
        rw [if_pos rfl] at t0
        rw [if_neg (by decide)] at t1
        have l0 := (PN_eT hP hk 0).2
        have l1 := (PN_eT hP hk 1).2
        rcases g2 with ⟨z1, z2⟩ | ⟨z1, z2⟩
        · rw [t0, nI_eq (by omega) (by omega)] at z2; exact Or.inl ⟨z1, z2.symm⟩
        · rw [t1, nI_eq (by omega) (by omega)] at z2; exact Or.inr ⟨z1, z2.symm⟩
      have hx0 : 1 ≤ eC σ k → gX σ n k (eT σ k 0) := fun h1 => (fst_all eC1 eC2).mpr ⟨(PN_eT hP hk 0).2, Or.inl ⟨h1, by have := (PN_eT hP hk 0).1; rwa [if_pos rfl] at this⟩⟩
      have hx1 : 2 ≤ eC σ k → gX σ n k (eT σ k 1) := fun h1 => (fst_all eC1 eC2).mpr ⟨(PN_eT hP hk 1).2, Or.inr ⟨h1, by have := (PN_eT hP hk 1).1; rwa [if_neg (by decide)] at this⟩⟩
      have key : ∃ new, Gn σ n (fun x => gX σ n k x) (mark k s) (rsx (dgo σ f) (eC σ k) (eT σ k 0) (eT σ k 1) 0 (mark k s)) new ∧ ∀ y, gX σ n k y → bt (rsx (dgo σ f) (eC σ k) (eT σ k 0) (eT σ k 1) 0 (mark k s)).1 y = true := by
        obtain ⟨l0, g0, b0, -⟩ := dgo_ok hP f (eT σ k 0) (mark k s) (PN_eT hP hk 0).2 (by omega)
        have hc0 : cb (mark k s).1 ≤ cb (dgo σ f (eT σ k 0) (mark k s)).1 := cn_mono (fun i hi => (g0.2.1 i).mpr (Or.inl hi)) 10
        obtain ⟨l1, g1, b1, -⟩ := dgo_ok hP f (eT σ k 1) (dgo σ f (eT σ k 0) (mark k s)) (PN_eT hP hk 1).2 (by omega)
        have e3 : eC σ k = 0 ∨ eC σ k = 1 ∨ eC σ k = 2 := by omega
        rcases e3 with e | e | e
        · rw [e, rsx_e (by omega)]
          refine ⟨[], Gn_rf, fun y hy => ?_⟩
          rcases hgx y hy with ⟨z, -⟩ | ⟨z, -⟩ <;> omega
        · rw [e, rsx_s (by omega) (by omega), rsx_e (by omega), if_pos rfl]
          refine ⟨l0, ⟨g0.1, g0.2.1, g0.2.2.1, g0.2.2.2.1, g0.2.2.2.2.1, Sp_mono (fun x hx => by rw [hx]; exact hx0 (by omega)) _ g0.2.2.2.2.2⟩, fun y hy => ?_⟩
          rcases hgx y hy with ⟨z, rfl⟩ | ⟨z, -⟩
          · exact b0
          · omega
        · rw [e, rsx_s (by omega) (by omega), rsx_s (by omega) (by omega), rsx_e (by omega), if_pos rfl, if_neg (by omega)]
          refine ⟨l0 ++ l1, Gn_tr ⟨g0.1, g0.2.1, g0.2.2.1, g0.2.2.2.1, g0.2.2.2.2.1, Sp_mono (fun x hx => by rw [hx]; exact hx0 (by omega)) _ g0.2.2.2.2.2⟩ ⟨g1.1, g1.2.1, g1.2.2.1, g1.2.2.2.1, g1.2.2.2.2.1, Sp_mono (fun x hx => by rw [hx]; exact hx1 (by omega)) _ g1.2.2.2.2.2⟩, fun y hy => ?_⟩
          rcases hgx y hy with ⟨z, rfl⟩ | ⟨z, rfl⟩
          · exact (g1.2.1 _).mpr (Or.inl b0)
          · exact b1
      obtain ⟨new, ⟨a1, a2, a3, a4, a5, a6⟩, hsucc⟩ := key
      generalize rsx (dgo σ f) (eC σ k) (eT σ k 0) (eT σ k 1) 0 (mark k s) = r at *
      have hmk : ∀ x, bt (mark k s).1 x = true ↔ bt s.1 x = true ∨ x = k := by
        intro x
        show bt (s.1 ||| _) x = true ↔ _
        rw [b_or, b_one (by omega)]
        simp
      have hknew : k ∉ new := by
        intro z
        have := (a3 k z).1
        rw [(hmk k).mpr (Or.inr rfl)] at this; cases this
      refine ⟨new ++ [k], ⟨?_, fun x => ?_, fun x hx => ?_, ?_, fun x hx y hy => ?_, ?_⟩, ?_, fun _ => ⟨new, rfl⟩⟩
      · show r.2 ++ [k] = _
        rw [a1, List.append_assoc]; rfl
      · show bt r.1 x = true ↔ _
        rw [a2, hmk, List.mem_append, List.mem_singleton]
        constructor
        · rintro ((z | z) | z)
          · exact Or.inl z
          · exact Or.inr (Or.inr z)
          · exact Or.inr (Or.inl z)
        · rintro (z | z | z)
          · exact Or.inl (Or.inl z)
          · exact Or.inr z
          · exact Or.inl (Or.inr z)
      · rcases List.mem_append.mp hx with z | z
        · obtain ⟨z1, z2⟩ := a3 x z
          refine ⟨?_, z2⟩
          cases e : bt s.1 x
          · rfl
          · rw [(hmk x).mpr (Or.inl e)] at z1; cases z1
        · rw [List.mem_singleton] at z
          rw [z]; exact ⟨hm', hk⟩
      · exact Nd_app (l' := [k]) ⟨by simp, trivial⟩ _ a4 (fun x hx hx' => hknew (by rw [List.mem_singleton] at hx'; rw [← hx']; exact hx))
      · show bt r.1 y = true
        rcases List.mem_append.mp hx with z | z
        · exact a5 x z y hy
        · rw [List.mem_singleton] at z
          subst z
          exact hsucc y hy
      · exact Sp_snoc (R' := fun x => x = k) rfl (fun x hx => hx) _ a6
      · show bt r.1 k = true
        exact (a2 k).mpr (Or.inl ((hmk k).mpr (Or.inr rfl)))
end O1
noncomputable def oc (σ : mz_St) (n : Nat) : Nat := (outL σ n).length
noncomputable def oa (σ : mz_St) (n i : Nat) : Nat := (outL σ n).getD ((outL σ n).length - 1 - i) 0
/-- the order in full -/
def Ord (σ : mz_St) (n c : Nat) (o : Nat → Nat) : Prop := c ≤ 10 ∧ 0 < c ∧ o 0 = 0 ∧ (∀ i, i < c → o i < n ∧ Al σ n (o i)) ∧ (∀ i j, i < c → j < c → o i = o j → i = j) ∧ (∀ b, Al σ n b → ∃ i, i < c ∧ o i = b) ∧ ∀ i, i < c → 0 < i → ∃ j, j < i ∧ gX σ n (o j) (o i)
theorem ord_ok {σ : mz_St} {n : Nat} (hP : PN σ n) (hn0 : 0 < n) (h10 : (outL σ n).length ≤ 10) : Ord σ n (oc σ n) (oa σ n) := by
  have hn := hP.1
  obtain ⟨new, ⟨a1, a2, a3, a4, a5, a6⟩, hb0, hl⟩ := dgo_ok hP 10 0 (0, []) hn0 (by show 10 ≤ cb 0 + 10; omega)
  obtain ⟨l, hl⟩ := hl (b_0 0)
  have eo : outL σ n = new := by unfold outL; rw [if_neg (by omega), a1]; rfl
  have elen : new.length = l.length + 1 := by rw [hl]; simp
  have hgd : ∀ i, i < new.length → oa σ n i = new.getD (new.length - 1 - i) 0 := fun i _ => by unfold oa; rw [eo]
  have mem : ∀ x, bt (dgo σ 10 0 (0, [])).1 x = true ↔ x ∈ new := fun x => by
    rw [a2]
    exact ⟨fun z => z.elim (fun z => by rw [show bt ((0 : Int32), ([] : List Nat)).1 x = false from b_0 x] at z; cases z) id, Or.inr⟩
  have hal : ∀ b, Al σ n b → b ∈ new := by
    intro b hb
    refine hb.2 (fun x => x ∈ new) (fun y hy _ => ?_) (fun y z hy hc he _ => ?_)
    · rw [hy]; exact (mem 0).mp hb0
    · exact (mem z).mp (a5 y hc z he)
  have hpar : ∀ p, p < new.length → new.getD p 0 = 0 ∨ ∃ q, p < q ∧ q < new.length ∧ gX σ n (new.getD q 0) (new.getD p 0) := Sp_ix new a6
  have hlast : new.getD (new.length - 1) 0 = 0 := by
    rw [hl, getD_app, if_neg (by simp), if_pos (by simp)]
  have huniq : ∀ p q, p < new.length → q < new.length → new.getD p 0 = new.getD q 0 → p = q := by
    intro p q hp hq e
    rcases Nat.lt_trichotomy p q with z | z | z
    · exact absurd e (Nd_ix new a4 p q z hq)
    · exact z
    · exact absurd e.symm (Nd_ix new a4 q p z hp)
  have ec : oc σ n = new.length := by unfold oc; rw [eo]
  have halive : ∀ d p, p < new.length → new.length - p ≤ d → Al σ n (new.getD p 0) := by
    intro d
    induction d with
    | zero => intro p h1 h2; omega
    | succ d ih =>
      intro p h1 h2
      rcases hpar p h1 with z | ⟨q, q1, q2, q3⟩
      · rw [z]; exact Al_0 hn0
      · exact Al_e (ih q q2 (by omega)) q3
  rw [eo] at h10
  unfold Ord
  rw [ec]
  refine ⟨h10, by omega, ?_, fun i hi => ?_, fun i j hi hj e => ?_, fun b hb => ?_, fun i hi h0 => ?_⟩
  · rw [hgd 0 (by omega), Nat.sub_zero]; exact hlast
  · rw [hgd i hi]
    have := halive new.length (new.length - 1 - i) (by omega) (by omega)
    exact ⟨this.1, this⟩
  · rw [hgd i hi, hgd j hj] at e
    have := huniq _ _ (by omega) (by omega) e
    omega
  · obtain ⟨p, h1, h2⟩ := mem_gD new b (hal b hb)
    exact ⟨new.length - 1 - p, by omega, by rw [hgd _ (by omega), show new.length - 1 - (new.length - 1 - p) = p by omega]; exact h2⟩
  · rw [hgd i hi]
    rcases hpar (new.length - 1 - i) (by omega) with z | ⟨q, q1, q2, q3⟩
    · have := huniq _ _ (by omega) (by omega) (z.trans hlast.symm)
      omega
    · exact ⟨new.length - 1 - q, by omega, by rw [hgd _ (by omega), show new.length - 1 - (new.length - 1 - q) = q by omega]; exact q3⟩
section O2
variable {σ : mz_St} {n c : Nat} {o : Nat → Nat}
/-- dominators come before -/
theorem ord_dom (hO : Ord σ n c o) : ∀ i, i < c → ∀ d, Dom σ n d (o i) → ∃ j, j ≤ i ∧ o j = d := by
  obtain ⟨h1, h2, h3, h4, h5, h6, h7⟩ := hO
  intro i
  induction i using Nat.strongRecOn with
  | ind i ih =>
    intro hi d hd
    by_cases e : o i = d
    · exact ⟨i, Nat.le_refl _, e⟩
    · rcases Nat.eq_zero_or_pos i with z | z
      · subst z
        exfalso
        apply hd.2
        rw [h3]
        exact Rch_s rfl (fun z => e (by rw [h3]; exact z))
      · obtain ⟨j, j1, j2⟩ := h7 i hi z
        have hdj : Dom σ n d (o j) := by
          refine ⟨(h4 j (by omega)).2, fun hr => hd.2 ?_⟩
          exact Rch_e (h4 j (by omega)).1 hr j2 e
        obtain ⟨q, q1, q2⟩ := ih j j1 (by omega) d hdj
        exact ⟨q, by omega, q2⟩
theorem Dom_pred {d p b : Nat} (hd : Dom σ n d b) (hne : d ≠ b) (hp : Al σ n p) (he : gX σ n p b) : Dom σ n d p := ⟨hp, fun hr => hd.2 (Rch_e hp.1 hr he (fun z => hne z.symm))⟩
/-- of two dominators one dominates the other -/
theorem Dom_ln {d1 d2 b : Nat} (h1 : Dom σ n d1 b) (h2 : Dom σ n d2 b) : Dom σ n d1 d2 ∨ Dom σ n d2 d1 := by
  apply Classical.byContradiction
  intro hno
  have hno1 : ¬ Dom σ n d1 d2 := fun z => hno (Or.inl z)
  have hno2 : ¬ Dom σ n d2 d1 := fun z => hno (Or.inr z)
  have r1 : Rch n (gX σ n) (fun y => y = 0) (fun y => y = d1) d2 := by
    apply Classical.byContradiction
    exact fun z => hno1 ⟨Dom_al h2, z⟩
  have r2 : Rch n (gX σ n) (fun y => y = 0) (fun y => y = d2) d1 := by
    apply Classical.byContradiction
    exact fun z => hno2 ⟨Dom_al h1, z⟩
  have key := h1.1.2 (fun x => Rch n (gX σ n) (fun y => y = 0) (fun y => y = d1) x ∨ Rch n (gX σ n) (fun y => y = 0) (fun y => y = d2) x) (fun y hy _ => ?_) (fun y z hy hc he _ => ?_)
  · exact key.elim h1.2 h2.2
  · by_cases e : y = d1
    · rw [e]; exact Or.inr r2
    · exact Or.inl (Rch_s hy e)
  · by_cases e1 : z = d1
    · rw [e1]; exact Or.inr r2
    · by_cases e2 : z = d2
      · rw [e2]; exact Or.inl r1
      · exact hc.imp (fun q => Rch_e hy q he e1) (fun q => Rch_e hy q he e2)
/-- the nearest dominator is there, for every living block but the entry -/
theorem Idm_ex (hO : Ord σ n c o) {i : Nat} (hi : i < c) (h0 : 0 < i) : ∃ j, j < i ∧ Idm σ n (o j) (o i) := by
  obtain ⟨h1, h2, h3, h4, h5, h6, h7⟩ := id hO
  have hd0 : Dom σ n 0 (o i) := by
    refine ⟨(h4 i hi).2, fun hr => ?_⟩
    have : ∀ x, Rch n (gX σ n) (fun y => y = 0) (fun y => y = 0) x → False := fun x hx => hx (fun _ => False) (fun y hy hb => hb hy) (fun _ _ _ z _ _ => z)
    exact this _ hr
  -- the last strict dominator below m
  have last : ∀ m, m ≤ i → (∃ j, j < m ∧ Dom σ n (o j) (o i)) → ∃ j, j < m ∧ Dom σ n (o j) (o i) ∧ ∀ q, q < m → Dom σ n (o q) (o i) → q ≤ j := by
    intro m
    induction m with
    | zero => rintro _ ⟨j, hj, -⟩; omega
    | succ m ih =>
      rintro hm ⟨j, hj, hd⟩
      by_cases e : Dom σ n (o m) (o i)
      · exact ⟨m, by omega, e, fun q hq _ => by omega⟩
      · have hjm : j ≠ m := fun z => e (by rw [← z]; exact hd)
        obtain ⟨j', a1, a2, a3⟩ := ih (by omega) ⟨j, by omega, hd⟩
        refine ⟨j', by omega, a2, fun q hq hdq => ?_⟩
        have : q ≠ m := fun z => e (by rw [← z]; exact hdq)
        exact a3 q (by omega) hdq
  obtain ⟨j, a1, a2, a3⟩ := last i (Nat.le_refl _) ⟨0, h0, by rw [h3]; exact hd0⟩
  refine ⟨j, a1, fun z => ?_, a2, fun d hdb hd => ?_⟩
  · have := h5 j i (by omega) hi z; omega
  · obtain ⟨q, q1, q2⟩ := ord_dom hO i hi d hd
    have hqi : q ≠ i := fun z => hdb (by rw [← q2, z])
    have hqj : q ≤ j := a3 q (by omega) (by rw [q2]; exact hd)
    rcases Dom_ln hd a2 with z | z
    · exact z
    · rw [← q2] at z
      obtain ⟨p, p1, p2⟩ := ord_dom hO q (by omega) (o j) z
      have := h5 p j (by omega) (by omega) p2
      have : q = j := by omega
      rw [← q2, this]
      exact Dom_rf (h4 j (by omega)).2
end O2

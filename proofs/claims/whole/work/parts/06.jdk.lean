/-! the JDK's methods that the class calls: Arrays.fill (int[] and long[]), System.arraycopy of the told memory -/
def mz_fl (σ : mz_St) (a n : Nat) (v : Int32) : mz_St := fun b => if b = a then (fun j => if j < n then v else σ a j) else σ b
def mz_cp (σ : mz_St) : mz_St := fun b => if b = 58 then va_cpy (σ 21) (σ 58) 0 0 32 else σ b
set_option maxRecDepth 100000 in
set_option maxHeartbeats 4000000 in
theorem ms_Arrays_fillI (l : Launch) (E : mz_En) (hI : mz_Inj E) (a n : Nat) (ha : a < 1000) (hn : n < 2 ^ 31) (ho : a < mz_NC) (he : ∀ (σ : mz_St) (κ : Nat → Int64), mz_cel E σ κ a = .inl (E.2.2.1, n, .inl (σ a))) (K : mz_St → Prop) (v : Int32) (s0 : mz_St) (h : K (mz_fl s0 a n v)) : mz_Cv l E my_Arrays_fillI mb_Arrays_fillI 4 0 0 [.ref (E.2.1 a), .int v] s0 K := by
  refine mz_ctv hI (by decide +kernel) (Nat.le_of_ble_eq_true rfl) (fun X C R => ?_)
  show mz_G E X 4 0 [(0, .ref (E.2.1 a)), (1, .int v)] [] s0
  have loop : ∀ (k i : Nat) (τ : mz_St), k + i = n → (∀ b, b ≠ a → τ b = s0 b) → (∀ j, τ a j = if j < i then v else s0 a j) → mz_G E X 4 5 [(0, .ref (E.2.1 a)), (1, .int v), (2, .int (nI i)), (3, .int (nI n))] [] τ := by
    intro k
    induction k with
    | zero =>
      intro i τ hk h1 h2
      have hin : i = n := by omega
      subst hin
      refine mr_iload_n C 2 md_Arrays_fillI_5 rfl rfl ?_
      refine mr_iload_n C 3 md_Arrays_fillI_6 rfl rfl ?_
      refine mr_icmp_ge C md_Arrays_fillI_7 rfl (fun hc => ?_) (fun hc => absurd (nI_le (Nat.le_refl _) hn) hc)
      have e : τ = mz_fl s0 a i v := by
        funext b
        by_cases hb : b = a
        · subst hb
          funext j
          rw [h2 j]
          simp [mz_fl]
        · rw [h1 b hb]
          simp [mz_fl, hb]
      rw [← e] at h
      exact mr_vret C R h md_Arrays_fillI_20
    | succ k ih =>
      intro i τ hk h1 h2
      have hin : i < n := by omega
      refine mr_iload_n C 2 md_Arrays_fillI_5 rfl rfl ?_
      refine mr_iload_n C 3 md_Arrays_fillI_6 rfl rfl ?_
      refine mr_icmp_ge C md_Arrays_fillI_7 rfl (fun hc => absurd hc (nI_ge hin hn)) (fun hc => ?_)
      refine mr_aload_n C 0 md_Arrays_fillI_10 rfl rfl ?_
      refine mr_iload_n C 2 md_Arrays_fillI_11 rfl rfl ?_
      refine mr_iload_n C 1 md_Arrays_fillI_12 rfl rfl ?_
      refine mr_iast C a n ha ho he (vp_in_nI hin hn) md_Arrays_fillI_13 ?_
      refine mr_iinc C (L' := [(2, .int (nI i + 1)), (0, .ref (E.2.1 a)), (1, .int v), (3, .int (nI n))]) 2 md_Arrays_fillI_14 rfl (mk_inc mk_iconst_1) (Nat.le_of_ble_eq_true rfl) rfl ?_
      refine mr_goto C md_Arrays_fillI_17 rfl ?_
      refine mr_sub [1, 2, 0, 3] rfl ?_
      rw [nI_1]
      refine ih (i + 1) _ (by omega) (fun b hb => ?_) (fun j => ?_)
      · rw [← h1 b hb]
        exact mz_up_ne hb
      · show mz_up τ a (nI i).toNatClampNeg v a j = _
        rw [nI_clamp (by omega), mz_up_eq]
        unfold upd
        by_cases hj : j = i
        · subst hj
          simp
        · rw [if_neg hj, h2 j]
          by_cases hji : j < i
          · rw [if_pos hji, if_pos (by omega)]
          · rw [if_neg hji, if_neg (by omega)]
  refine mr_iconst C md_Arrays_fillI_0 mk_iconst_0 ?_
  refine mr_istore_n C (L' := [(2, .int 0), (0, .ref (E.2.1 a)), (1, .int v)]) md_Arrays_fillI_1 rfl (Nat.le_of_ble_eq_true rfl) rfl ?_
  refine mr_aload_n C 1 md_Arrays_fillI_2 rfl rfl ?_
  refine mr_alen C a 0 n ho (fun κ => ⟨_, he _ κ⟩) rfl rfl md_Arrays_fillI_3 ?_
  refine mr_istore_n C (L' := [(3, .int (Int32.ofNat n)), (2, .int 0), (0, .ref (E.2.1 a)), (1, .int v)]) md_Arrays_fillI_4 rfl (Nat.le_of_ble_eq_true rfl) rfl ?_
  refine mr_sub [2, 3, 1, 0] rfl ?_
  exact loop n 0 s0 (by omega) (fun b _ => rfl) (fun j => by simp)
set_option maxRecDepth 100000 in
set_option maxHeartbeats 4000000 in
theorem ms_Arrays_fillJ (l : Launch) (E : mz_En) (hI : mz_Inj E) (K : mz_St → Prop) (v : Int64) (s0 : mz_St) (h : K s0) : mz_Cv l E my_Arrays_fillJ mb_Arrays_fillJ 5 0 0 [.ref (E.2.1 41), .long v] s0 K := by
  refine mz_ctv hI (by decide +kernel) (Nat.le_of_ble_eq_true rfl) (fun X C R => ?_)
  show mz_G E X 5 0 [(0, .ref (E.2.1 41)), (1, .long v)] [] s0
  have loop : ∀ (k i : Nat), k + i = 221 → mz_G E X 5 6 [(0, .ref (E.2.1 41)), (1, .long v), (3, .int (nI i)), (4, .int (nI 221))] [] s0 := by
    intro k
    induction k with
    | zero =>
      intro i hk
      have hin : i = 221 := by omega
      subst hin
      refine mr_iload_n C 2 md_Arrays_fillJ_6 rfl rfl ?_
      refine mr_iload C 3 md_Arrays_fillJ_7 rfl ?_
      refine mr_icmp_ge C md_Arrays_fillJ_9 rfl (fun hc => ?_) (fun hc => absurd (nI_le (Nat.le_refl _) (by decide)) hc)
      exact mr_vret C R h md_Arrays_fillJ_22
    | succ k ih =>
      intro i hk
      have hin : i < 221 := by omega
      refine mr_iload_n C 2 md_Arrays_fillJ_6 rfl rfl ?_
      refine mr_iload C 3 md_Arrays_fillJ_7 rfl ?_
      refine mr_icmp_ge C md_Arrays_fillJ_9 rfl (fun hc => absurd hc (nI_ge hin (by decide))) (fun hc => ?_)
      refine mr_aload_n C 0 md_Arrays_fillJ_12 rfl rfl ?_
      refine mr_iload_n C 2 md_Arrays_fillJ_13 rfl rfl ?_
      refine mr_lload_n C 1 md_Arrays_fillJ_14 rfl rfl ?_
      refine mr_last C (vp_in_nI hin (by decide)) md_Arrays_fillJ_15 ?_
      refine mr_iinc C (L' := [(3, .int (nI i + 1)), (0, .ref (E.2.1 41)), (1, .long v), (4, .int (nI 221))]) 2 md_Arrays_fillJ_16 rfl (mk_inc mk_iconst_1) (Nat.le_of_ble_eq_true rfl) rfl ?_
      refine mr_goto C md_Arrays_fillJ_19 rfl ?_
      refine mr_sub [1, 2, 0, 3] rfl ?_
      rw [nI_1]
      exact ih (i + 1) (by omega)
  refine mr_iconst C md_Arrays_fillJ_0 mk_iconst_0 ?_
  refine mr_istore_n C (L' := [(3, .int 0), (0, .ref (E.2.1 41)), (1, .long v)]) md_Arrays_fillJ_1 rfl (Nat.le_of_ble_eq_true rfl) rfl ?_
  refine mr_aload_n C 1 md_Arrays_fillJ_2 rfl rfl ?_
  refine mr_alen C (v := nI 221) 41 1 221 (by decide) (fun κ => ⟨_, rfl⟩) rfl rfl md_Arrays_fillJ_3 ?_
  refine mr_istore C (L' := [(4, .int (nI 221)), (3, .int 0), (0, .ref (E.2.1 41)), (1, .long v)]) md_Arrays_fillJ_4 (Nat.le_of_ble_eq_true rfl) rfl ?_
  refine mr_sub [2, 3, 1, 0] rfl ?_
  exact loop 221 0 (by omega)
section MF
variable {E : mz_En} {X : mz_Cx} {cc : ByteArray} {own : String} {nL fr lo pc pc' : Nat} {L L' : List (Nat × Value)} {st rest : List Value} {σ : mz_St}
theorem mr_fill (C : mz_C E X cc own nL fr lo) (a n : Nat) {index : Nat} {v : Int32} (ha : a < 1000) (hn : n < 2 ^ 31) (ho : a < mz_NC) (he : ∀ (σ : mz_St) (κ : Nat → Int64), mz_cel E σ κ a = .inl (E.2.2.1, n, .inl (σ a))) (hr1 : 0 + 1 ≤ fr) (hr2 : 8 + (4 + 11) + 0 ≤ lo) (lk : Cond.methodLink own index my_Arrays_fillI ∈ mz_TB) (d : mz_d cc pc (.invokestatic index) 3 pc') (k : mz_G E X nL pc' L [] (mz_fl σ a n v)) : mz_G E X nL pc L [.int v, .ref (E.2.1 a)] σ :=
  mr_cSv C (As := [.ref (E.2.1 a), .int v]) (rest := []) (ms_Arrays_fillI _ E C.2.2.2.2.2.2.2.1 a n ha hn ho he (fun u => u = mz_fl σ a n v) v σ rfl) mo_Arrays_fillI mt_Arrays_fillI lk rfl rfl (Nat.le_of_ble_eq_true rfl) hr1 hr2 d (fun u h => by rw [h]; exact k)
theorem mr_fillJ (C : mz_C E X cc own nL fr lo) {index : Nat} {v : Int64} (hr1 : 0 + 1 ≤ fr) (hr2 : 8 + (5 + 11) + 0 ≤ lo) (lk : Cond.methodLink own index my_Arrays_fillJ ∈ mz_TB) (d : mz_d cc pc (.invokestatic index) 3 pc') (k : mz_G E X nL pc' L [] σ) : mz_G E X nL pc L [.long v, .ref (E.2.1 41)] σ :=
  mr_cSv C (As := [.ref (E.2.1 41), .long v]) (rest := []) (ms_Arrays_fillJ _ E C.2.2.2.2.2.2.2.1 (fun u => u = σ) v σ rfl) mo_Arrays_fillJ mt_Arrays_fillJ lk rfl rfl (Nat.le_of_ble_eq_true rfl) hr1 hr2 d (fun u h => by rw [h]; exact k)
theorem mr_copy (C : mz_C E X cc own nL fr lo) {index : Nat} (hr1 : 1 ≤ fr) (hr2 : 18 ≤ lo) (lk : Cond.methodLink own index arraycopyName ∈ mz_TB) (d : mz_d cc pc (.invokestatic index) 3 pc') (k : mz_G E X nL pc' L [] (mz_cp σ)) : mz_G E X nL pc L [.int 32, .int 0, .ref (E.2.1 58), .int 0, .ref (E.2.1 21)] σ := by
  obtain ⟨d, rfl⟩ := d
  intro κ H locs ls hP hS hl
  refine va_copyi C.1 C.2.1 (C.2.2.1.trans hl.1.symm) C.2.2.2.1 (C.2.2.2.2.1 _ lk) (C.2.2.2.2.1 _ mn_nat) (C.2.2.2.2.1 _ mn_sta) (C.2.2.2.2.1 _ mn_ini) C.2.2.2.2.2.2.1 hP (mz_ws_D C.2.2.2.2.2.2.2.1) hS 21 58 0 0 (mz_ws_get E σ κ (by decide)) (mz_ws_get E σ κ (by decide)) (ty := .int) rfl rfl rfl (by decide) (by decide) (by decide) (by decide) (by decide) (fun _ _ => rfl) (Nat.le_trans hr1 C.2.2.2.2.2.2.2.2.1.1) (Nat.le_trans (by decide) (Nat.le_trans hr2 C.2.2.2.2.2.2.2.2.1.2)) d (fun H1 locs1 hP1 _ hS1 => ?_)
  have e := mz_ws_set (E := E) (σ := σ) (κ := κ) (k := 58) (e := .inl (E.2.2.1, 32, .inl (va_cpy (σ 21) (σ 58) 0 0 32))) (σ' := mz_cp σ) (κ' := κ) (by decide) rfl (fun j _ hj => mz_cel_row (by simp [mz_cp, hj]) (fun b hb => by simp [mz_cp, show b ≠ 58 by omega]))
  have hP2 : va_P E.1 mz_CL ((mz_ws E σ κ).set 58 (E.2.1 58, .inl (E.2.2.1, 32, .inl (va_cpy (σ 21) (σ 58) 0 0 32)))) H1 := hP1
  rw [e] at hP2
  exact k κ H1 locs1 ls hP2 hS1 hl
end MF

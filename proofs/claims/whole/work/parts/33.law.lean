/-! BEGIN the law behind its constructors: printed -/
def mw_Law_law_654 (P18 : Int32 → mz_St → Prop) (x3_18 : Int32) (s654 : mz_St) : Prop :=
  P18 (x3_18 + 6) s654
def mw_Law_law_18 (xs : Nat → Int32) (Ln : Nat) (P18 : Int32 → mz_St → Prop) (x3_18 : Int32) (s18 : mz_St) : Prop :=
  ((((Int32.ofNat Ln) - 6) < x3_18 →
   (1 : Int32) = 1) ∧
  (¬ ((Int32.ofNat Ln) - 6) < x3_18 →
   vp_in x3_18 Ln ∧
   (∀ P654 : mz_St → Prop, (∀ (s654 : mz_St), mw_Law_law_654 P18 x3_18 s654 → P654 s654) →
   ((((xs x3_18.toNatClampNeg) &&& 31) = 0 →
    mw_Mill_block (fun r1 u1 =>
     mw_Ref_block (fun r2 u2 =>
      ((r1 = r2 →
       P654 u2) ∧
      (¬ r1 = r2 →
       (0 : Int32) = 1))) u1) s18) ∧
   (¬ ((xs x3_18.toNatClampNeg) &&& 31) = 0 →
   ((((xs x3_18.toNatClampNeg) &&& 31) = 1 →
    vp_in (x3_18 + 1) Ln ∧
    vp_in (x3_18 + 2) Ln ∧
    vp_in (x3_18 + 3) Ln ∧
    vp_in (x3_18 + 4) Ln ∧
    vp_in (x3_18 + 5) Ln ∧
    mw_Mill_op (fun r3 u3 =>
     vp_in (x3_18 + 1) Ln ∧
     vp_in (x3_18 + 2) Ln ∧
     vp_in (x3_18 + 3) Ln ∧
     vp_in (x3_18 + 4) Ln ∧
     vp_in (x3_18 + 5) Ln ∧
     mw_Ref_op (fun r4 u4 =>
      ((r3 = r4 →
       P654 u4) ∧
      (¬ r3 = r4 →
       (0 : Int32) = 1))) (xs (x3_18 + 1).toNatClampNeg) (xs (x3_18 + 2).toNatClampNeg) (xs (x3_18 + 3).toNatClampNeg) (xs (x3_18 + 4).toNatClampNeg) (xs (x3_18 + 5).toNatClampNeg) u3) (xs (x3_18 + 1).toNatClampNeg) (xs (x3_18 + 2).toNatClampNeg) (xs (x3_18 + 3).toNatClampNeg) (xs (x3_18 + 4).toNatClampNeg) (xs (x3_18 + 5).toNatClampNeg) s18) ∧
   (¬ ((xs x3_18.toNatClampNeg) &&& 31) = 1 →
   ((((xs x3_18.toNatClampNeg) &&& 31) = 2 →
    vp_in (x3_18 + 1) Ln ∧
    vp_in (x3_18 + 2) Ln ∧
    mw_Mill_jump (fun r5 u5 =>
     vp_in (x3_18 + 1) Ln ∧
     vp_in (x3_18 + 2) Ln ∧
     mw_Ref_jump (fun r6 u6 =>
      ((r5 = r6 →
       P654 u6) ∧
      (¬ r5 = r6 →
       (0 : Int32) = 1))) (xs (x3_18 + 1).toNatClampNeg) (xs (x3_18 + 2).toNatClampNeg) u5) (xs (x3_18 + 1).toNatClampNeg) (xs (x3_18 + 2).toNatClampNeg) s18) ∧
   (¬ ((xs x3_18.toNatClampNeg) &&& 31) = 2 →
   ((((xs x3_18.toNatClampNeg) &&& 31) = 3 →
    vp_in (x3_18 + 1) Ln ∧
    vp_in (x3_18 + 2) Ln ∧
    vp_in (x3_18 + 3) Ln ∧
    vp_in (x3_18 + 4) Ln ∧
    mw_Mill_branch (fun r7 u7 =>
     vp_in (x3_18 + 1) Ln ∧
     vp_in (x3_18 + 2) Ln ∧
     vp_in (x3_18 + 3) Ln ∧
     vp_in (x3_18 + 4) Ln ∧
     mw_Ref_branch (fun r8 u8 =>
      ((r7 = r8 →
       P654 u8) ∧
      (¬ r7 = r8 →
       (0 : Int32) = 1))) (xs (x3_18 + 1).toNatClampNeg) (xs (x3_18 + 2).toNatClampNeg) (xs (x3_18 + 3).toNatClampNeg) (xs (x3_18 + 4).toNatClampNeg) u7) (xs (x3_18 + 1).toNatClampNeg) (xs (x3_18 + 2).toNatClampNeg) (xs (x3_18 + 3).toNatClampNeg) (xs (x3_18 + 4).toNatClampNeg) s18) ∧
   (¬ ((xs x3_18.toNatClampNeg) &&& 31) = 3 →
   ((((xs x3_18.toNatClampNeg) &&& 31) = 4 →
    vp_in (x3_18 + 1) Ln ∧
    vp_in (x3_18 + 2) Ln ∧
    mw_Mill_ret (fun r9 u9 =>
     vp_in (x3_18 + 1) Ln ∧
     vp_in (x3_18 + 2) Ln ∧
     mw_Ref_ret (fun r10 u10 =>
      ((r9 = r10 →
       P654 u10) ∧
      (¬ r9 = r10 →
       (0 : Int32) = 1))) (xs (x3_18 + 1).toNatClampNeg) (xs (x3_18 + 2).toNatClampNeg) u9) (xs (x3_18 + 1).toNatClampNeg) (xs (x3_18 + 2).toNatClampNeg) s18) ∧
   (¬ ((xs x3_18.toNatClampNeg) &&& 31) = 4 →
   ((((xs x3_18.toNatClampNeg) &&& 31) = 5 →
    vp_in (x3_18 + 1) Ln ∧
    vp_in (x3_18 + 2) Ln ∧
    mw_Mill_memory (fun r11 u11 =>
     vp_in (x3_18 + 1) Ln ∧
     vp_in (x3_18 + 2) Ln ∧
     mw_Ref_memory (fun r12 u12 =>
      ((r11 = r12 →
       P654 u12) ∧
      (¬ r11 = r12 →
       (0 : Int32) = 1))) (xs (x3_18 + 1).toNatClampNeg) (xs (x3_18 + 2).toNatClampNeg) u11) (xs (x3_18 + 1).toNatClampNeg) (xs (x3_18 + 2).toNatClampNeg) s18) ∧
   (¬ ((xs x3_18.toNatClampNeg) &&& 31) = 5 →
   ((((xs x3_18.toNatClampNeg) &&& 31) = 6 →
    vp_in (x3_18 + 1) Ln ∧
    vp_in (x3_18 + 2) Ln ∧
    vp_in (x3_18 + 3) Ln ∧
    mw_Mill_run (fun r13 u13 =>
     vp_in (x3_18 + 1) Ln ∧
     vp_in (x3_18 + 2) Ln ∧
     vp_in (x3_18 + 3) Ln ∧
     mw_Ref_run (fun r14 u14 =>
      ((r13 = r14 →
       P654 u14) ∧
      (¬ r13 = r14 →
       (0 : Int32) = 1))) (xs (x3_18 + 1).toNatClampNeg) (xs (x3_18 + 2).toNatClampNeg) (xs (x3_18 + 3).toNatClampNeg) u13) (xs (x3_18 + 1).toNatClampNeg) (xs (x3_18 + 2).toNatClampNeg) (xs (x3_18 + 3).toNatClampNeg) s18) ∧
   (¬ ((xs x3_18.toNatClampNeg) &&& 31) = 6 →
   ((((xs x3_18.toNatClampNeg) &&& 31) = 7 →
    mw_Mill_value (fun r15 u15 =>
     mw_Ref_value (fun r16 u16 =>
      ((r15 = r16 →
       P654 u16) ∧
      (¬ r15 = r16 →
       (0 : Int32) = 1))) u15) s18) ∧
   (¬ ((xs x3_18.toNatClampNeg) &&& 31) = 7 →
   ((((xs x3_18.toNatClampNeg) &&& 31) = 8 →
    mw_Mill_entered (fun r17 u17 =>
     mw_Ref_entered (fun r18 u18 =>
      ((r17 = r18 →
       P654 u18) ∧
      (¬ r17 = r18 →
       (0 : Int32) = 1))) u17) s18) ∧
   (¬ ((xs x3_18.toNatClampNeg) &&& 31) = 8 →
   ((((xs x3_18.toNatClampNeg) &&& 31) = 9 →
    vp_in (x3_18 + 1) Ln ∧
    mw_Mill_word (fun r19 u19 =>
     vp_in (x3_18 + 1) Ln ∧
     mw_Ref_word (fun r20 u20 =>
      ((r19 = r20 →
       P654 u20) ∧
      (¬ r19 = r20 →
       (0 : Int32) = 1))) (xs (x3_18 + 1).toNatClampNeg) u19) (xs (x3_18 + 1).toNatClampNeg) s18) ∧
   (¬ ((xs x3_18.toNatClampNeg) &&& 31) = 9 →
   ((((xs x3_18.toNatClampNeg) &&& 31) = 10 →
    mw_Mill_calls (fun r21 u21 =>
     mw_Ref_calls (fun r22 u22 =>
      ((r21 = r22 →
       P654 u22) ∧
      (¬ r21 = r22 →
       (0 : Int32) = 1))) u21) s18) ∧
   (¬ ((xs x3_18.toNatClampNeg) &&& 31) = 10 →
   ((((xs x3_18.toNatClampNeg) &&& 31) = 11 →
    vp_in (x3_18 + 1) Ln ∧
    vp_in (x3_18 + 2) Ln ∧
    mw_Mill_call (fun r23 u23 =>
     vp_in (x3_18 + 1) Ln ∧
     vp_in (x3_18 + 2) Ln ∧
     mw_Ref_call2 (fun r24 u24 =>
      ((r23 = r24 →
       P654 u24) ∧
      (¬ r23 = r24 →
       (0 : Int32) = 1))) (xs (x3_18 + 1).toNatClampNeg) (xs (x3_18 + 2).toNatClampNeg) u23) (xs (x3_18 + 1).toNatClampNeg) (xs (x3_18 + 2).toNatClampNeg) s18) ∧
   (¬ ((xs x3_18.toNatClampNeg) &&& 31) = 11 →
   ((((xs x3_18.toNatClampNeg) &&& 31) = 12 →
    vp_in (x3_18 + 1) Ln ∧
    mw_Mill_order (fun r25 u25 =>
     vp_in (x3_18 + 1) Ln ∧
     mw_Ref_order (fun r26 u26 =>
      ((r25 = r26 →
       P654 u26) ∧
      (¬ r25 = r26 →
       (0 : Int32) = 1))) (xs (x3_18 + 1).toNatClampNeg) u25) (xs (x3_18 + 1).toNatClampNeg) s18) ∧
   (¬ ((xs x3_18.toNatClampNeg) &&& 31) = 12 →
   ((((xs x3_18.toNatClampNeg) &&& 31) = 13 →
    vp_in (x3_18 + 1) Ln ∧
    mw_Mill_nearest (fun r27 u27 =>
     vp_in (x3_18 + 1) Ln ∧
     mw_Ref_nearest (fun r28 u28 =>
      ((r27 = r28 →
       P654 u28) ∧
      (¬ r27 = r28 →
       (0 : Int32) = 1))) (xs (x3_18 + 1).toNatClampNeg) u27) (xs (x3_18 + 1).toNatClampNeg) s18) ∧
   (¬ ((xs x3_18.toNatClampNeg) &&& 31) = 13 →
   ((((xs x3_18.toNatClampNeg) &&& 31) = 14 →
    vp_in (x3_18 + 1) Ln ∧
    vp_in (x3_18 + 2) Ln ∧
    mw_Mill_frontier (fun r29 u29 =>
     vp_in (x3_18 + 1) Ln ∧
     vp_in (x3_18 + 2) Ln ∧
     mw_Ref_frontier (fun r30 u30 =>
      ((r29 = r30 →
       P654 u30) ∧
      (¬ r29 = r30 →
       (0 : Int32) = 1))) (xs (x3_18 + 1).toNatClampNeg) (xs (x3_18 + 2).toNatClampNeg) u29) (xs (x3_18 + 1).toNatClampNeg) (xs (x3_18 + 2).toNatClampNeg) s18) ∧
   (¬ ((xs x3_18.toNatClampNeg) &&& 31) = 14 →
   ((((xs x3_18.toNatClampNeg) &&& 31) = 15 →
    vp_in (x3_18 + 1) Ln ∧
    vp_in (x3_18 + 2) Ln ∧
    mw_Mill_live (fun r31 u31 =>
     vp_in (x3_18 + 1) Ln ∧
     vp_in (x3_18 + 2) Ln ∧
     mw_Ref_live (fun r32 u32 =>
      ((r31 = r32 →
       P654 u32) ∧
      (¬ r31 = r32 →
       (0 : Int32) = 1))) (xs (x3_18 + 1).toNatClampNeg) (xs (x3_18 + 2).toNatClampNeg) u31) (xs (x3_18 + 1).toNatClampNeg) (xs (x3_18 + 2).toNatClampNeg) s18) ∧
   (¬ ((xs x3_18.toNatClampNeg) &&& 31) = 15 →
   ((((xs x3_18.toNatClampNeg) &&& 31) = 16 →
    vp_in (x3_18 + 1) Ln ∧
    vp_in (x3_18 + 2) Ln ∧
    mw_Mill_phi (fun r33 u33 =>
     vp_in (x3_18 + 1) Ln ∧
     vp_in (x3_18 + 2) Ln ∧
     mw_Ref_phi (fun r34 u34 =>
      ((r33 = r34 →
       P654 u34) ∧
      (¬ r33 = r34 →
       (0 : Int32) = 1))) (xs (x3_18 + 1).toNatClampNeg) (xs (x3_18 + 2).toNatClampNeg) u33) (xs (x3_18 + 1).toNatClampNeg) (xs (x3_18 + 2).toNatClampNeg) s18) ∧
   (¬ ((xs x3_18.toNatClampNeg) &&& 31) = 16 →
   ((((xs x3_18.toNatClampNeg) &&& 31) = 17 →
    vp_in (x3_18 + 1) Ln ∧
    mw_Mill_depth (fun r35 u35 =>
     vp_in (x3_18 + 1) Ln ∧
     mw_Ref_depth (fun r36 u36 =>
      ((r35 = r36 →
       P654 u36) ∧
      (¬ r35 = r36 →
       (0 : Int32) = 1))) (xs (x3_18 + 1).toNatClampNeg) u35) (xs (x3_18 + 1).toNatClampNeg) s18) ∧
   (¬ ((xs x3_18.toNatClampNeg) &&& 31) = 17 →
   P654 s18)))))))))))))))))))))))))))))))))))))))
/-- the law behind its two constructors: what must hold of script and picture -/
def mw_Law_law (xs : Nat → Int32) (Ln : Nat) (s0 : mz_St) : Prop :=
  (∀ P18 : Int32 → mz_St → Prop, (∀ (x3_18 : Int32) (s18 : mz_St), mw_Law_law_18 xs Ln P18 x3_18 s18 → P18 x3_18 s18) →
  P18 0 s0)
set_option maxRecDepth 100000 in
set_option maxHeartbeats 8000000 in
theorem ms_Law_law (E : mz_En) (X : mz_Cx) (hI : mz_Inj E) (b Ln : Nat) (xs : Nat → Int32) (s0 : mz_St) (C : mz_C E X code "ValueMillLaw" 4 18 406) (hX : va_X b Ln xs (mx_s X) (mx_s X).heap) (hbl : b < (mx_s X).heap.size) (hbA : ¬ mz_AA E b) (hA : ∀ k, k < mz_NC → (mx_s X).heap.size ≤ E.2.1 k) (RL : mr_L X b) (h : mw_Law_law xs Ln s0) : mz_G E X 4 16 [(2, .ref (E.2.1 11)), (1, .ref (E.2.1 0)), (0, .ref b)] [] s0 := by
  unfold mw_Law_law at h
  refine mr_iconst C md_Law_law_16 mk_iconst_0 ?_
  refine mr_istore_n C (L' := [(3, .int 0), (2, .ref (E.2.1 11)), (1, .ref (E.2.1 0)), (0, .ref b)]) md_Law_law_17 rfl (Nat.le_of_ble_eq_true rfl) rfl ?_
  refine mr_sub [3, 2, 1, 0] rfl ?_
  refine h (fun (x3_18 : Int32) (s18 : mz_St) => mz_G E X 4 18 [(0, .ref b), (1, .ref (E.2.1 0)), (2, .ref (E.2.1 11)), (3, .int x3_18)] [] s18) (fun x3_18 s18 h => ?_)
  unfold mw_Law_law_18 at h
  refine mr_iload_n C 3 md_Law_law_18 rfl rfl ?_
  refine mr_aload_n C 0 md_Law_law_19 rfl rfl ?_
  refine mr_slen C hX hbl hbA md_Law_law_20 ?_
  refine mr_bipush C md_Law_law_21 mk_bipush_6 ?_
  refine mr_isub C md_Law_law_23 ?_
  refine mr_icmp_gt C md_Law_law_24 rfl (fun hc => ?_) (fun hc => ?_)
  · replace h := h.1 hc
    refine mr_iconst C md_Law_law_660 mk_iconst_1 ?_
    exact mr_lret C hA RL h md_Law_law_661
  replace h := h.2 hc
  refine mr_aload_n C 0 md_Law_law_27 rfl rfl ?_
  refine mr_iload_n C 3 md_Law_law_28 rfl rfl ?_
  refine mr_sld C hX hbl hbA h.1 md_Law_law_29 ?_
  replace h := h.2
  refine mr_bipush C md_Law_law_30 mk_bipush_31 ?_
  refine mr_iand C md_Law_law_32 ?_
  refine mj (h (fun (s654 : mz_St) => mz_G E X 4 654 [(0, .ref b), (1, .ref (E.2.1 0)), (2, .ref (E.2.1 11)), (3, .int x3_18)] [] s654) (fun s654 h => ?_)) (fun h => ?_)
  · unfold mw_Law_law_654 at h
    refine mr_iinc C (L' := [(3, .int (x3_18 + 6)), (0, .ref b), (1, .ref (E.2.1 0)), (2, .ref (E.2.1 11))]) 3 md_Law_law_654 rfl (mk_inc mk_iconst_6) (Nat.le_of_ble_eq_true rfl) rfl ?_
    refine mr_goto C md_Law_law_657 rfl ?_
    refine mr_sub [1, 2, 3, 0] rfl ?_
    exact h
  by_cases hc0 : ((xs x3_18.toNatClampNeg) &&& 31) = 0
  · replace h := h.1 hc0
    refine mr_tabIn C 0 (87) hc0 md_Law_law_33 (by decide) (by decide) (by decide) rfl ?_
    refine mr_aload_n C 1 md_Law_law_120 rfl rfl ?_
    refine mr_cVi C (As := []) (rest := []) 0 (ms_Mill_block _ E hI _  _ h) mo_Mill_block mi_Mill_block mc_Mill_cls ml_463 (by decide) (fun _ => rfl) rfl rfl (Nat.le_of_ble_eq_true rfl) (Nat.le_of_ble_eq_true rfl) (Nat.le_of_ble_eq_true rfl) md_Law_law_121 (fun r1 u1 h => ?_)
    refine mr_aload_n C 2 md_Law_law_124 rfl rfl ?_
    refine mr_cVi C (As := []) (rest := [.int r1]) 11 (ms_Ref_block _ E hI _  _ h) mo_Ref_block mi_Ref_block mc_Ref_cls ml_1068 (by decide) (fun _ => rfl) rfl rfl (Nat.le_of_ble_eq_true rfl) (Nat.le_of_ble_eq_true rfl) (Nat.le_of_ble_eq_true rfl) md_Law_law_125 (fun r2 u2 h => ?_)
    refine mr_icmp_eq C md_Law_law_128 rfl (fun hc => ?_) (fun hc => ?_)
    · replace h := h.1 hc
      exact h
    replace h := h.2 hc
    refine mr_iconst C md_Law_law_131 mk_iconst_0 ?_
    exact mr_lret C hA RL h md_Law_law_132
  replace h := h.2 hc0
  by_cases hc1 : ((xs x3_18.toNatClampNeg) &&& 31) = 1
  · replace h := h.1 hc1
    refine mr_tabIn C 1 (100) hc1 md_Law_law_33 (by decide) (by decide) (by decide) rfl ?_
    refine mr_aload_n C 1 md_Law_law_133 rfl rfl ?_
    refine mr_aload_n C 0 md_Law_law_134 rfl rfl ?_
    refine mr_iload_n C 3 md_Law_law_135 rfl rfl ?_
    refine mr_iconst C md_Law_law_136 mk_iconst_1 ?_
    refine mr_iadd C md_Law_law_137 ?_
    refine mr_sld C hX hbl hbA h.1 md_Law_law_138 ?_
    replace h := h.2
    refine mr_aload_n C 0 md_Law_law_139 rfl rfl ?_
    refine mr_iload_n C 3 md_Law_law_140 rfl rfl ?_
    refine mr_iconst C md_Law_law_141 mk_iconst_2 ?_
    refine mr_iadd C md_Law_law_142 ?_
    refine mr_sld C hX hbl hbA h.1 md_Law_law_143 ?_
    replace h := h.2
    refine mr_aload_n C 0 md_Law_law_144 rfl rfl ?_
    refine mr_iload_n C 3 md_Law_law_145 rfl rfl ?_
    refine mr_iconst C md_Law_law_146 mk_iconst_3 ?_
    refine mr_iadd C md_Law_law_147 ?_
    refine mr_sld C hX hbl hbA h.1 md_Law_law_148 ?_
    replace h := h.2
    refine mr_aload_n C 0 md_Law_law_149 rfl rfl ?_
    refine mr_iload_n C 3 md_Law_law_150 rfl rfl ?_
    refine mr_iconst C md_Law_law_151 mk_iconst_4 ?_
    refine mr_iadd C md_Law_law_152 ?_
    refine mr_sld C hX hbl hbA h.1 md_Law_law_153 ?_
    replace h := h.2
    refine mr_aload_n C 0 md_Law_law_154 rfl rfl ?_
    refine mr_iload_n C 3 md_Law_law_155 rfl rfl ?_
    refine mr_iconst C md_Law_law_156 mk_iconst_5 ?_
    refine mr_iadd C md_Law_law_157 ?_
    refine mr_sld C hX hbl hbA h.1 md_Law_law_158 ?_
    replace h := h.2
    refine mr_cVi C (As := [.int (xs (x3_18 + 1).toNatClampNeg), .int (xs (x3_18 + 2).toNatClampNeg), .int (xs (x3_18 + 3).toNatClampNeg), .int (xs (x3_18 + 4).toNatClampNeg), .int (xs (x3_18 + 5).toNatClampNeg)]) (rest := []) 0 (ms_Mill_op _ E hI _ (xs (x3_18 + 1).toNatClampNeg) (xs (x3_18 + 2).toNatClampNeg) (xs (x3_18 + 3).toNatClampNeg) (xs (x3_18 + 4).toNatClampNeg) (xs (x3_18 + 5).toNatClampNeg) _ h) mo_Mill_op mi_Mill_op mc_Mill_cls ml_471 (by decide) (fun _ => rfl) rfl rfl (Nat.le_of_ble_eq_true rfl) (Nat.le_of_ble_eq_true rfl) (Nat.le_of_ble_eq_true rfl) md_Law_law_159 (fun r3 u3 h => ?_)
    refine mr_aload_n C 2 md_Law_law_162 rfl rfl ?_
    refine mr_aload_n C 0 md_Law_law_163 rfl rfl ?_
    refine mr_iload_n C 3 md_Law_law_164 rfl rfl ?_
    refine mr_iconst C md_Law_law_165 mk_iconst_1 ?_
    refine mr_iadd C md_Law_law_166 ?_
    refine mr_sld C hX hbl hbA h.1 md_Law_law_167 ?_
    replace h := h.2
    refine mr_aload_n C 0 md_Law_law_168 rfl rfl ?_
    refine mr_iload_n C 3 md_Law_law_169 rfl rfl ?_
    refine mr_iconst C md_Law_law_170 mk_iconst_2 ?_
    refine mr_iadd C md_Law_law_171 ?_
    refine mr_sld C hX hbl hbA h.1 md_Law_law_172 ?_
    replace h := h.2
    refine mr_aload_n C 0 md_Law_law_173 rfl rfl ?_
    refine mr_iload_n C 3 md_Law_law_174 rfl rfl ?_
    refine mr_iconst C md_Law_law_175 mk_iconst_3 ?_
    refine mr_iadd C md_Law_law_176 ?_
    refine mr_sld C hX hbl hbA h.1 md_Law_law_177 ?_
    replace h := h.2
    refine mr_aload_n C 0 md_Law_law_178 rfl rfl ?_
    refine mr_iload_n C 3 md_Law_law_179 rfl rfl ?_
    refine mr_iconst C md_Law_law_180 mk_iconst_4 ?_
    refine mr_iadd C md_Law_law_181 ?_
    refine mr_sld C hX hbl hbA h.1 md_Law_law_182 ?_
    replace h := h.2
    refine mr_aload_n C 0 md_Law_law_183 rfl rfl ?_
    refine mr_iload_n C 3 md_Law_law_184 rfl rfl ?_
    refine mr_iconst C md_Law_law_185 mk_iconst_5 ?_
    refine mr_iadd C md_Law_law_186 ?_
    refine mr_sld C hX hbl hbA h.1 md_Law_law_187 ?_
    replace h := h.2
    refine mr_cVi C (As := [.int (xs (x3_18 + 1).toNatClampNeg), .int (xs (x3_18 + 2).toNatClampNeg), .int (xs (x3_18 + 3).toNatClampNeg), .int (xs (x3_18 + 4).toNatClampNeg), .int (xs (x3_18 + 5).toNatClampNeg)]) (rest := [.int r3]) 11 (ms_Ref_op _ E hI _ (xs (x3_18 + 1).toNatClampNeg) (xs (x3_18 + 2).toNatClampNeg) (xs (x3_18 + 3).toNatClampNeg) (xs (x3_18 + 4).toNatClampNeg) (xs (x3_18 + 5).toNatClampNeg) _ h) mo_Ref_op mi_Ref_op mc_Ref_cls ml_1072 (by decide) (fun _ => rfl) rfl rfl (Nat.le_of_ble_eq_true rfl) (Nat.le_of_ble_eq_true rfl) (Nat.le_of_ble_eq_true rfl) md_Law_law_188 (fun r4 u4 h => ?_)
    refine mr_icmp_eq C md_Law_law_191 rfl (fun hc => ?_) (fun hc => ?_)
    · replace h := h.1 hc
      exact h
    replace h := h.2 hc
    refine mr_iconst C md_Law_law_194 mk_iconst_0 ?_
    exact mr_lret C hA RL h md_Law_law_195
  replace h := h.2 hc1
  by_cases hc2 : ((xs x3_18.toNatClampNeg) &&& 31) = 2
  · replace h := h.1 hc2
    refine mr_tabIn C 2 (163) hc2 md_Law_law_33 (by decide) (by decide) (by decide) rfl ?_
    refine mr_aload_n C 1 md_Law_law_196 rfl rfl ?_
    refine mr_aload_n C 0 md_Law_law_197 rfl rfl ?_
    refine mr_iload_n C 3 md_Law_law_198 rfl rfl ?_
    refine mr_iconst C md_Law_law_199 mk_iconst_1 ?_
    refine mr_iadd C md_Law_law_200 ?_
    refine mr_sld C hX hbl hbA h.1 md_Law_law_201 ?_
    replace h := h.2
    refine mr_aload_n C 0 md_Law_law_202 rfl rfl ?_
    refine mr_iload_n C 3 md_Law_law_203 rfl rfl ?_
    refine mr_iconst C md_Law_law_204 mk_iconst_2 ?_
    refine mr_iadd C md_Law_law_205 ?_
    refine mr_sld C hX hbl hbA h.1 md_Law_law_206 ?_
    replace h := h.2
    refine mr_cVi C (As := [.int (xs (x3_18 + 1).toNatClampNeg), .int (xs (x3_18 + 2).toNatClampNeg)]) (rest := []) 0 (ms_Mill_jump _ E hI _ (xs (x3_18 + 1).toNatClampNeg) (xs (x3_18 + 2).toNatClampNeg) _ h) mo_Mill_jump mi_Mill_jump mc_Mill_cls ml_489 (by decide) (fun _ => rfl) rfl rfl (Nat.le_of_ble_eq_true rfl) (Nat.le_of_ble_eq_true rfl) (Nat.le_of_ble_eq_true rfl) md_Law_law_207 (fun r5 u5 h => ?_)
    refine mr_aload_n C 2 md_Law_law_210 rfl rfl ?_
    refine mr_aload_n C 0 md_Law_law_211 rfl rfl ?_
    refine mr_iload_n C 3 md_Law_law_212 rfl rfl ?_
    refine mr_iconst C md_Law_law_213 mk_iconst_1 ?_
    refine mr_iadd C md_Law_law_214 ?_
    refine mr_sld C hX hbl hbA h.1 md_Law_law_215 ?_
    replace h := h.2
    refine mr_aload_n C 0 md_Law_law_216 rfl rfl ?_
    refine mr_iload_n C 3 md_Law_law_217 rfl rfl ?_
    refine mr_iconst C md_Law_law_218 mk_iconst_2 ?_
    refine mr_iadd C md_Law_law_219 ?_
    refine mr_sld C hX hbl hbA h.1 md_Law_law_220 ?_
    replace h := h.2
    refine mr_cVi C (As := [.int (xs (x3_18 + 1).toNatClampNeg), .int (xs (x3_18 + 2).toNatClampNeg)]) (rest := [.int r5]) 11 (ms_Ref_jump _ E hI _ (xs (x3_18 + 1).toNatClampNeg) (xs (x3_18 + 2).toNatClampNeg) _ h) mo_Ref_jump mi_Ref_jump mc_Ref_cls ml_1086 (by decide) (fun _ => rfl) rfl rfl (Nat.le_of_ble_eq_true rfl) (Nat.le_of_ble_eq_true rfl) (Nat.le_of_ble_eq_true rfl) md_Law_law_221 (fun r6 u6 h => ?_)
    refine mr_icmp_eq C md_Law_law_224 rfl (fun hc => ?_) (fun hc => ?_)
    · replace h := h.1 hc
      exact h
    replace h := h.2 hc
    refine mr_iconst C md_Law_law_227 mk_iconst_0 ?_
    exact mr_lret C hA RL h md_Law_law_228
  replace h := h.2 hc2
  by_cases hc3 : ((xs x3_18.toNatClampNeg) &&& 31) = 3
  · replace h := h.1 hc3
    refine mr_tabIn C 3 (196) hc3 md_Law_law_33 (by decide) (by decide) (by decide) rfl ?_
    refine mr_aload_n C 1 md_Law_law_229 rfl rfl ?_
    refine mr_aload_n C 0 md_Law_law_230 rfl rfl ?_
    refine mr_iload_n C 3 md_Law_law_231 rfl rfl ?_
    refine mr_iconst C md_Law_law_232 mk_iconst_1 ?_
    refine mr_iadd C md_Law_law_233 ?_
    refine mr_sld C hX hbl hbA h.1 md_Law_law_234 ?_
    replace h := h.2
    refine mr_aload_n C 0 md_Law_law_235 rfl rfl ?_
    refine mr_iload_n C 3 md_Law_law_236 rfl rfl ?_
    refine mr_iconst C md_Law_law_237 mk_iconst_2 ?_
    refine mr_iadd C md_Law_law_238 ?_
    refine mr_sld C hX hbl hbA h.1 md_Law_law_239 ?_
    replace h := h.2
    refine mr_aload_n C 0 md_Law_law_240 rfl rfl ?_
    refine mr_iload_n C 3 md_Law_law_241 rfl rfl ?_
    refine mr_iconst C md_Law_law_242 mk_iconst_3 ?_
    refine mr_iadd C md_Law_law_243 ?_
    refine mr_sld C hX hbl hbA h.1 md_Law_law_244 ?_
    replace h := h.2
    refine mr_aload_n C 0 md_Law_law_245 rfl rfl ?_
    refine mr_iload_n C 3 md_Law_law_246 rfl rfl ?_
    refine mr_iconst C md_Law_law_247 mk_iconst_4 ?_
    refine mr_iadd C md_Law_law_248 ?_
    refine mr_sld C hX hbl hbA h.1 md_Law_law_249 ?_
    replace h := h.2
    refine mr_cVi C (As := [.int (xs (x3_18 + 1).toNatClampNeg), .int (xs (x3_18 + 2).toNatClampNeg), .int (xs (x3_18 + 3).toNatClampNeg), .int (xs (x3_18 + 4).toNatClampNeg)]) (rest := []) 0 (ms_Mill_branch _ E hI _ (xs (x3_18 + 1).toNatClampNeg) (xs (x3_18 + 2).toNatClampNeg) (xs (x3_18 + 3).toNatClampNeg) (xs (x3_18 + 4).toNatClampNeg) _ h) mo_Mill_branch mi_Mill_branch mc_Mill_cls ml_501 (by decide) (fun _ => rfl) rfl rfl (Nat.le_of_ble_eq_true rfl) (Nat.le_of_ble_eq_true rfl) (Nat.le_of_ble_eq_true rfl) md_Law_law_250 (fun r7 u7 h => ?_)
    refine mr_aload_n C 2 md_Law_law_253 rfl rfl ?_
    refine mr_aload_n C 0 md_Law_law_254 rfl rfl ?_
    refine mr_iload_n C 3 md_Law_law_255 rfl rfl ?_
    refine mr_iconst C md_Law_law_256 mk_iconst_1 ?_
    refine mr_iadd C md_Law_law_257 ?_
    refine mr_sld C hX hbl hbA h.1 md_Law_law_258 ?_
    replace h := h.2
    refine mr_aload_n C 0 md_Law_law_259 rfl rfl ?_
    refine mr_iload_n C 3 md_Law_law_260 rfl rfl ?_
    refine mr_iconst C md_Law_law_261 mk_iconst_2 ?_
    refine mr_iadd C md_Law_law_262 ?_
    refine mr_sld C hX hbl hbA h.1 md_Law_law_263 ?_
    replace h := h.2
    refine mr_aload_n C 0 md_Law_law_264 rfl rfl ?_
    refine mr_iload_n C 3 md_Law_law_265 rfl rfl ?_
    refine mr_iconst C md_Law_law_266 mk_iconst_3 ?_
    refine mr_iadd C md_Law_law_267 ?_
    refine mr_sld C hX hbl hbA h.1 md_Law_law_268 ?_
    replace h := h.2
    refine mr_aload_n C 0 md_Law_law_269 rfl rfl ?_
    refine mr_iload_n C 3 md_Law_law_270 rfl rfl ?_
    refine mr_iconst C md_Law_law_271 mk_iconst_4 ?_
    refine mr_iadd C md_Law_law_272 ?_
    refine mr_sld C hX hbl hbA h.1 md_Law_law_273 ?_
    replace h := h.2
    refine mr_cVi C (As := [.int (xs (x3_18 + 1).toNatClampNeg), .int (xs (x3_18 + 2).toNatClampNeg), .int (xs (x3_18 + 3).toNatClampNeg), .int (xs (x3_18 + 4).toNatClampNeg)]) (rest := [.int r7]) 11 (ms_Ref_branch _ E hI _ (xs (x3_18 + 1).toNatClampNeg) (xs (x3_18 + 2).toNatClampNeg) (xs (x3_18 + 3).toNatClampNeg) (xs (x3_18 + 4).toNatClampNeg) _ h) mo_Ref_branch mi_Ref_branch mc_Ref_cls ml_1090 (by decide) (fun _ => rfl) rfl rfl (Nat.le_of_ble_eq_true rfl) (Nat.le_of_ble_eq_true rfl) (Nat.le_of_ble_eq_true rfl) md_Law_law_274 (fun r8 u8 h => ?_)
    refine mr_icmp_eq C md_Law_law_277 rfl (fun hc => ?_) (fun hc => ?_)
    · replace h := h.1 hc
      exact h
    replace h := h.2 hc
    refine mr_iconst C md_Law_law_280 mk_iconst_0 ?_
    exact mr_lret C hA RL h md_Law_law_281
  replace h := h.2 hc3
  by_cases hc4 : ((xs x3_18.toNatClampNeg) &&& 31) = 4
  · replace h := h.1 hc4
    refine mr_tabIn C 4 (249) hc4 md_Law_law_33 (by decide) (by decide) (by decide) rfl ?_
    refine mr_aload_n C 1 md_Law_law_282 rfl rfl ?_
    refine mr_aload_n C 0 md_Law_law_283 rfl rfl ?_
    refine mr_iload_n C 3 md_Law_law_284 rfl rfl ?_
    refine mr_iconst C md_Law_law_285 mk_iconst_1 ?_
    refine mr_iadd C md_Law_law_286 ?_
    refine mr_sld C hX hbl hbA h.1 md_Law_law_287 ?_
    replace h := h.2
    refine mr_aload_n C 0 md_Law_law_288 rfl rfl ?_
    refine mr_iload_n C 3 md_Law_law_289 rfl rfl ?_
    refine mr_iconst C md_Law_law_290 mk_iconst_2 ?_
    refine mr_iadd C md_Law_law_291 ?_
    refine mr_sld C hX hbl hbA h.1 md_Law_law_292 ?_
    replace h := h.2
    refine mr_cVi C (As := [.int (xs (x3_18 + 1).toNatClampNeg), .int (xs (x3_18 + 2).toNatClampNeg)]) (rest := []) 0 (ms_Mill_ret _ E hI _ (xs (x3_18 + 1).toNatClampNeg) (xs (x3_18 + 2).toNatClampNeg) _ h) mo_Mill_ret mi_Mill_ret mc_Mill_cls ml_505 (by decide) (fun _ => rfl) rfl rfl (Nat.le_of_ble_eq_true rfl) (Nat.le_of_ble_eq_true rfl) (Nat.le_of_ble_eq_true rfl) md_Law_law_293 (fun r9 u9 h => ?_)
    refine mr_aload_n C 2 md_Law_law_296 rfl rfl ?_
    refine mr_aload_n C 0 md_Law_law_297 rfl rfl ?_
    refine mr_iload_n C 3 md_Law_law_298 rfl rfl ?_
    refine mr_iconst C md_Law_law_299 mk_iconst_1 ?_
    refine mr_iadd C md_Law_law_300 ?_
    refine mr_sld C hX hbl hbA h.1 md_Law_law_301 ?_
    replace h := h.2
    refine mr_aload_n C 0 md_Law_law_302 rfl rfl ?_
    refine mr_iload_n C 3 md_Law_law_303 rfl rfl ?_
    refine mr_iconst C md_Law_law_304 mk_iconst_2 ?_
    refine mr_iadd C md_Law_law_305 ?_
    refine mr_sld C hX hbl hbA h.1 md_Law_law_306 ?_
    replace h := h.2
    refine mr_cVi C (As := [.int (xs (x3_18 + 1).toNatClampNeg), .int (xs (x3_18 + 2).toNatClampNeg)]) (rest := [.int r9]) 11 (ms_Ref_ret _ E hI _ (xs (x3_18 + 1).toNatClampNeg) (xs (x3_18 + 2).toNatClampNeg) _ h) mo_Ref_ret mi_Ref_ret mc_Ref_cls ml_1094 (by decide) (fun _ => rfl) rfl rfl (Nat.le_of_ble_eq_true rfl) (Nat.le_of_ble_eq_true rfl) (Nat.le_of_ble_eq_true rfl) md_Law_law_307 (fun r10 u10 h => ?_)
    refine mr_icmp_eq C md_Law_law_310 rfl (fun hc => ?_) (fun hc => ?_)
    · replace h := h.1 hc
      exact h
    replace h := h.2 hc
    refine mr_iconst C md_Law_law_313 mk_iconst_0 ?_
    exact mr_lret C hA RL h md_Law_law_314
  replace h := h.2 hc4
  by_cases hc5 : ((xs x3_18.toNatClampNeg) &&& 31) = 5
  · replace h := h.1 hc5
    refine mr_tabIn C 5 (282) hc5 md_Law_law_33 (by decide) (by decide) (by decide) rfl ?_
    refine mr_aload_n C 1 md_Law_law_315 rfl rfl ?_
    refine mr_aload_n C 0 md_Law_law_316 rfl rfl ?_
    refine mr_iload_n C 3 md_Law_law_317 rfl rfl ?_
    refine mr_iconst C md_Law_law_318 mk_iconst_1 ?_
    refine mr_iadd C md_Law_law_319 ?_
    refine mr_sld C hX hbl hbA h.1 md_Law_law_320 ?_
    replace h := h.2
    refine mr_aload_n C 0 md_Law_law_321 rfl rfl ?_
    refine mr_iload_n C 3 md_Law_law_322 rfl rfl ?_
    refine mr_iconst C md_Law_law_323 mk_iconst_2 ?_
    refine mr_iadd C md_Law_law_324 ?_
    refine mr_sld C hX hbl hbA h.1 md_Law_law_325 ?_
    replace h := h.2
    refine mr_cVi C (As := [.int (xs (x3_18 + 1).toNatClampNeg), .int (xs (x3_18 + 2).toNatClampNeg)]) (rest := []) 0 (ms_Mill_memory _ E hI _ (xs (x3_18 + 1).toNatClampNeg) (xs (x3_18 + 2).toNatClampNeg) _ h) mo_Mill_memory mi_Mill_memory mc_Mill_cls ml_509 (by decide) (fun _ => rfl) rfl rfl (Nat.le_of_ble_eq_true rfl) (Nat.le_of_ble_eq_true rfl) (Nat.le_of_ble_eq_true rfl) md_Law_law_326 (fun r11 u11 h => ?_)
    refine mr_aload_n C 2 md_Law_law_329 rfl rfl ?_
    refine mr_aload_n C 0 md_Law_law_330 rfl rfl ?_
    refine mr_iload_n C 3 md_Law_law_331 rfl rfl ?_
    refine mr_iconst C md_Law_law_332 mk_iconst_1 ?_
    refine mr_iadd C md_Law_law_333 ?_
    refine mr_sld C hX hbl hbA h.1 md_Law_law_334 ?_
    replace h := h.2
    refine mr_aload_n C 0 md_Law_law_335 rfl rfl ?_
    refine mr_iload_n C 3 md_Law_law_336 rfl rfl ?_
    refine mr_iconst C md_Law_law_337 mk_iconst_2 ?_
    refine mr_iadd C md_Law_law_338 ?_
    refine mr_sld C hX hbl hbA h.1 md_Law_law_339 ?_
    replace h := h.2
    refine mr_cVi C (As := [.int (xs (x3_18 + 1).toNatClampNeg), .int (xs (x3_18 + 2).toNatClampNeg)]) (rest := [.int r11]) 11 (ms_Ref_memory _ E hI _ (xs (x3_18 + 1).toNatClampNeg) (xs (x3_18 + 2).toNatClampNeg) _ h) mo_Ref_memory mi_Ref_memory mc_Ref_cls ml_1098 (by decide) (fun _ => rfl) rfl rfl (Nat.le_of_ble_eq_true rfl) (Nat.le_of_ble_eq_true rfl) (Nat.le_of_ble_eq_true rfl) md_Law_law_340 (fun r12 u12 h => ?_)
    refine mr_icmp_eq C md_Law_law_343 rfl (fun hc => ?_) (fun hc => ?_)
    · replace h := h.1 hc
      exact h
    replace h := h.2 hc
    refine mr_iconst C md_Law_law_346 mk_iconst_0 ?_
    exact mr_lret C hA RL h md_Law_law_347
  replace h := h.2 hc5
  by_cases hc6 : ((xs x3_18.toNatClampNeg) &&& 31) = 6
  · replace h := h.1 hc6
    refine mr_tabIn C 6 (315) hc6 md_Law_law_33 (by decide) (by decide) (by decide) rfl ?_
    refine mr_aload_n C 1 md_Law_law_348 rfl rfl ?_
    refine mr_aload_n C 0 md_Law_law_349 rfl rfl ?_
    refine mr_iload_n C 3 md_Law_law_350 rfl rfl ?_
    refine mr_iconst C md_Law_law_351 mk_iconst_1 ?_
    refine mr_iadd C md_Law_law_352 ?_
    refine mr_sld C hX hbl hbA h.1 md_Law_law_353 ?_
    replace h := h.2
    refine mr_aload_n C 0 md_Law_law_354 rfl rfl ?_
    refine mr_iload_n C 3 md_Law_law_355 rfl rfl ?_
    refine mr_iconst C md_Law_law_356 mk_iconst_2 ?_
    refine mr_iadd C md_Law_law_357 ?_
    refine mr_sld C hX hbl hbA h.1 md_Law_law_358 ?_
    replace h := h.2
    refine mr_aload_n C 0 md_Law_law_359 rfl rfl ?_
    refine mr_iload_n C 3 md_Law_law_360 rfl rfl ?_
    refine mr_iconst C md_Law_law_361 mk_iconst_3 ?_
    refine mr_iadd C md_Law_law_362 ?_
    refine mr_sld C hX hbl hbA h.1 md_Law_law_363 ?_
    replace h := h.2
    refine mr_cVi C (As := [.int (xs (x3_18 + 1).toNatClampNeg), .int (xs (x3_18 + 2).toNatClampNeg), .int (xs (x3_18 + 3).toNatClampNeg)]) (rest := []) 0 (ms_Mill_run _ E hI _ (xs (x3_18 + 1).toNatClampNeg) (xs (x3_18 + 2).toNatClampNeg) (xs (x3_18 + 3).toNatClampNeg) _ h) mo_Mill_run mi_Mill_run mc_Mill_cls ml_516 (by decide) (fun _ => rfl) rfl rfl (Nat.le_of_ble_eq_true rfl) (Nat.le_of_ble_eq_true rfl) (Nat.le_of_ble_eq_true rfl) md_Law_law_364 (fun r13 u13 h => ?_)
    refine mr_aload_n C 2 md_Law_law_367 rfl rfl ?_
    refine mr_aload_n C 0 md_Law_law_368 rfl rfl ?_
    refine mr_iload_n C 3 md_Law_law_369 rfl rfl ?_
    refine mr_iconst C md_Law_law_370 mk_iconst_1 ?_
    refine mr_iadd C md_Law_law_371 ?_
    refine mr_sld C hX hbl hbA h.1 md_Law_law_372 ?_
    replace h := h.2
    refine mr_aload_n C 0 md_Law_law_373 rfl rfl ?_
    refine mr_iload_n C 3 md_Law_law_374 rfl rfl ?_
    refine mr_iconst C md_Law_law_375 mk_iconst_2 ?_
    refine mr_iadd C md_Law_law_376 ?_
    refine mr_sld C hX hbl hbA h.1 md_Law_law_377 ?_
    replace h := h.2
    refine mr_aload_n C 0 md_Law_law_378 rfl rfl ?_
    refine mr_iload_n C 3 md_Law_law_379 rfl rfl ?_
    refine mr_iconst C md_Law_law_380 mk_iconst_3 ?_
    refine mr_iadd C md_Law_law_381 ?_
    refine mr_sld C hX hbl hbA h.1 md_Law_law_382 ?_
    replace h := h.2
    refine mr_cVi C (As := [.int (xs (x3_18 + 1).toNatClampNeg), .int (xs (x3_18 + 2).toNatClampNeg), .int (xs (x3_18 + 3).toNatClampNeg)]) (rest := [.int r13]) 11 (ms_Ref_run _ E hI _ (xs (x3_18 + 1).toNatClampNeg) (xs (x3_18 + 2).toNatClampNeg) (xs (x3_18 + 3).toNatClampNeg) _ h) mo_Ref_run mi_Ref_run mc_Ref_cls ml_1102 (by decide) (fun _ => rfl) rfl rfl (Nat.le_of_ble_eq_true rfl) (Nat.le_of_ble_eq_true rfl) (Nat.le_of_ble_eq_true rfl) md_Law_law_383 (fun r14 u14 h => ?_)
    refine mr_icmp_eq C md_Law_law_386 rfl (fun hc => ?_) (fun hc => ?_)
    · replace h := h.1 hc
      exact h
    replace h := h.2 hc
    refine mr_iconst C md_Law_law_389 mk_iconst_0 ?_
    exact mr_lret C hA RL h md_Law_law_390
  replace h := h.2 hc6
  by_cases hc7 : ((xs x3_18.toNatClampNeg) &&& 31) = 7
  · replace h := h.1 hc7
    refine mr_tabIn C 7 (358) hc7 md_Law_law_33 (by decide) (by decide) (by decide) rfl ?_
    refine mr_aload_n C 1 md_Law_law_391 rfl rfl ?_
    refine mr_cVi C (As := []) (rest := []) 0 (ms_Mill_value _ E hI _  _ h) mo_Mill_value mi_Mill_value mc_Mill_cls ml_953 (by decide) (fun _ => rfl) rfl rfl (Nat.le_of_ble_eq_true rfl) (Nat.le_of_ble_eq_true rfl) (Nat.le_of_ble_eq_true rfl) md_Law_law_392 (fun r15 u15 h => ?_)
    refine mr_aload_n C 2 md_Law_law_395 rfl rfl ?_
    refine mr_cVi C (As := []) (rest := [.int r15]) 11 (ms_Ref_value _ E hI _  _ h) mo_Ref_value mi_Ref_value mc_Ref_cls ml_1125 (by decide) (fun _ => rfl) rfl rfl (Nat.le_of_ble_eq_true rfl) (Nat.le_of_ble_eq_true rfl) (Nat.le_of_ble_eq_true rfl) md_Law_law_396 (fun r16 u16 h => ?_)
    refine mr_icmp_eq C md_Law_law_399 rfl (fun hc => ?_) (fun hc => ?_)
    · replace h := h.1 hc
      exact h
    replace h := h.2 hc
    refine mr_iconst C md_Law_law_402 mk_iconst_0 ?_
    exact mr_lret C hA RL h md_Law_law_403
  replace h := h.2 hc7
  by_cases hc8 : ((xs x3_18.toNatClampNeg) &&& 31) = 8
  · replace h := h.1 hc8
    refine mr_tabIn C 8 (371) hc8 md_Law_law_33 (by decide) (by decide) (by decide) rfl ?_
    refine mr_aload_n C 1 md_Law_law_404 rfl rfl ?_
    refine mr_cVi C (As := []) (rest := []) 0 (ms_Mill_entered _ E hI _  _ h) mo_Mill_entered mi_Mill_entered mc_Mill_cls ml_957 (by decide) (fun _ => rfl) rfl rfl (Nat.le_of_ble_eq_true rfl) (Nat.le_of_ble_eq_true rfl) (Nat.le_of_ble_eq_true rfl) md_Law_law_405 (fun r17 u17 h => ?_)
    refine mr_aload_n C 2 md_Law_law_408 rfl rfl ?_
    refine mr_cVi C (As := []) (rest := [.int r17]) 11 (ms_Ref_entered _ E hI _  _ h) mo_Ref_entered mi_Ref_entered mc_Ref_cls ml_1129 (by decide) (fun _ => rfl) rfl rfl (Nat.le_of_ble_eq_true rfl) (Nat.le_of_ble_eq_true rfl) (Nat.le_of_ble_eq_true rfl) md_Law_law_409 (fun r18 u18 h => ?_)
    refine mr_icmp_eq C md_Law_law_412 rfl (fun hc => ?_) (fun hc => ?_)
    · replace h := h.1 hc
      exact h
    replace h := h.2 hc
    refine mr_iconst C md_Law_law_415 mk_iconst_0 ?_
    exact mr_lret C hA RL h md_Law_law_416
  replace h := h.2 hc8
  by_cases hc9 : ((xs x3_18.toNatClampNeg) &&& 31) = 9
  · replace h := h.1 hc9
    refine mr_tabIn C 9 (384) hc9 md_Law_law_33 (by decide) (by decide) (by decide) rfl ?_
    refine mr_aload_n C 1 md_Law_law_417 rfl rfl ?_
    refine mr_aload_n C 0 md_Law_law_418 rfl rfl ?_
    refine mr_iload_n C 3 md_Law_law_419 rfl rfl ?_
    refine mr_iconst C md_Law_law_420 mk_iconst_1 ?_
    refine mr_iadd C md_Law_law_421 ?_
    refine mr_sld C hX hbl hbA h.1 md_Law_law_422 ?_
    replace h := h.2
    refine mr_cVi C (As := [.int (xs (x3_18 + 1).toNatClampNeg)]) (rest := []) 0 (ms_Mill_word _ E hI _ (xs (x3_18 + 1).toNatClampNeg) _ h) mo_Mill_word mi_Mill_word mc_Mill_cls ml_961 (by decide) (fun _ => rfl) rfl rfl (Nat.le_of_ble_eq_true rfl) (Nat.le_of_ble_eq_true rfl) (Nat.le_of_ble_eq_true rfl) md_Law_law_423 (fun r19 u19 h => ?_)
    refine mr_aload_n C 2 md_Law_law_426 rfl rfl ?_
    refine mr_aload_n C 0 md_Law_law_427 rfl rfl ?_
    refine mr_iload_n C 3 md_Law_law_428 rfl rfl ?_
    refine mr_iconst C md_Law_law_429 mk_iconst_1 ?_
    refine mr_iadd C md_Law_law_430 ?_
    refine mr_sld C hX hbl hbA h.1 md_Law_law_431 ?_
    replace h := h.2
    refine mr_cVi C (As := [.int (xs (x3_18 + 1).toNatClampNeg)]) (rest := [.int r19]) 11 (ms_Ref_word _ E hI _ (xs (x3_18 + 1).toNatClampNeg) _ h) mo_Ref_word mi_Ref_word mc_Ref_cls ml_1133 (by decide) (fun _ => rfl) rfl rfl (Nat.le_of_ble_eq_true rfl) (Nat.le_of_ble_eq_true rfl) (Nat.le_of_ble_eq_true rfl) md_Law_law_432 (fun r20 u20 h => ?_)
    refine mr_icmp_eq C md_Law_law_435 rfl (fun hc => ?_) (fun hc => ?_)
    · replace h := h.1 hc
      exact h
    replace h := h.2 hc
    refine mr_iconst C md_Law_law_438 mk_iconst_0 ?_
    exact mr_lret C hA RL h md_Law_law_439
  replace h := h.2 hc9
  by_cases hc10 : ((xs x3_18.toNatClampNeg) &&& 31) = 10
  · replace h := h.1 hc10
    refine mr_tabIn C 10 (407) hc10 md_Law_law_33 (by decide) (by decide) (by decide) rfl ?_
    refine mr_aload_n C 1 md_Law_law_440 rfl rfl ?_
    refine mr_cVi C (As := []) (rest := []) 0 (ms_Mill_calls _ E hI _  _ h) mo_Mill_calls mi_Mill_calls mc_Mill_cls ml_965 (by decide) (fun _ => rfl) rfl rfl (Nat.le_of_ble_eq_true rfl) (Nat.le_of_ble_eq_true rfl) (Nat.le_of_ble_eq_true rfl) md_Law_law_441 (fun r21 u21 h => ?_)
    refine mr_aload_n C 2 md_Law_law_444 rfl rfl ?_
    refine mr_cVi C (As := []) (rest := [.int r21]) 11 (ms_Ref_calls _ E hI _  _ h) mo_Ref_calls mi_Ref_calls mc_Ref_cls ml_1137 (by decide) (fun _ => rfl) rfl rfl (Nat.le_of_ble_eq_true rfl) (Nat.le_of_ble_eq_true rfl) (Nat.le_of_ble_eq_true rfl) md_Law_law_445 (fun r22 u22 h => ?_)
    refine mr_icmp_eq C md_Law_law_448 rfl (fun hc => ?_) (fun hc => ?_)
    · replace h := h.1 hc
      exact h
    replace h := h.2 hc
    refine mr_iconst C md_Law_law_451 mk_iconst_0 ?_
    exact mr_lret C hA RL h md_Law_law_452
  replace h := h.2 hc10
  by_cases hc11 : ((xs x3_18.toNatClampNeg) &&& 31) = 11
  · replace h := h.1 hc11
    refine mr_tabIn C 11 (420) hc11 md_Law_law_33 (by decide) (by decide) (by decide) rfl ?_
    refine mr_aload_n C 1 md_Law_law_453 rfl rfl ?_
    refine mr_aload_n C 0 md_Law_law_454 rfl rfl ?_
    refine mr_iload_n C 3 md_Law_law_455 rfl rfl ?_
    refine mr_iconst C md_Law_law_456 mk_iconst_1 ?_
    refine mr_iadd C md_Law_law_457 ?_
    refine mr_sld C hX hbl hbA h.1 md_Law_law_458 ?_
    replace h := h.2
    refine mr_aload_n C 0 md_Law_law_459 rfl rfl ?_
    refine mr_iload_n C 3 md_Law_law_460 rfl rfl ?_
    refine mr_iconst C md_Law_law_461 mk_iconst_2 ?_
    refine mr_iadd C md_Law_law_462 ?_
    refine mr_sld C hX hbl hbA h.1 md_Law_law_463 ?_
    replace h := h.2
    refine mr_cVi C (As := [.int (xs (x3_18 + 1).toNatClampNeg), .int (xs (x3_18 + 2).toNatClampNeg)]) (rest := []) 0 (ms_Mill_call _ E hI _ (xs (x3_18 + 1).toNatClampNeg) (xs (x3_18 + 2).toNatClampNeg) _ h) mo_Mill_call mi_Mill_call mc_Mill_cls ml_969 (by decide) (fun _ => rfl) rfl rfl (Nat.le_of_ble_eq_true rfl) (Nat.le_of_ble_eq_true rfl) (Nat.le_of_ble_eq_true rfl) md_Law_law_464 (fun r23 u23 h => ?_)
    refine mr_aload_n C 2 md_Law_law_467 rfl rfl ?_
    refine mr_aload_n C 0 md_Law_law_468 rfl rfl ?_
    refine mr_iload_n C 3 md_Law_law_469 rfl rfl ?_
    refine mr_iconst C md_Law_law_470 mk_iconst_1 ?_
    refine mr_iadd C md_Law_law_471 ?_
    refine mr_sld C hX hbl hbA h.1 md_Law_law_472 ?_
    replace h := h.2
    refine mr_aload_n C 0 md_Law_law_473 rfl rfl ?_
    refine mr_iload_n C 3 md_Law_law_474 rfl rfl ?_
    refine mr_iconst C md_Law_law_475 mk_iconst_2 ?_
    refine mr_iadd C md_Law_law_476 ?_
    refine mr_sld C hX hbl hbA h.1 md_Law_law_477 ?_
    replace h := h.2
    refine mr_cVi C (As := [.int (xs (x3_18 + 1).toNatClampNeg), .int (xs (x3_18 + 2).toNatClampNeg)]) (rest := [.int r23]) 11 (ms_Ref_call2 _ E hI _ (xs (x3_18 + 1).toNatClampNeg) (xs (x3_18 + 2).toNatClampNeg) _ h) mo_Ref_call2 mi_Ref_call2 mc_Ref_cls ml_1141 (by decide) (fun _ => rfl) rfl rfl (Nat.le_of_ble_eq_true rfl) (Nat.le_of_ble_eq_true rfl) (Nat.le_of_ble_eq_true rfl) md_Law_law_478 (fun r24 u24 h => ?_)
    refine mr_icmp_eq C md_Law_law_481 rfl (fun hc => ?_) (fun hc => ?_)
    · replace h := h.1 hc
      exact h
    replace h := h.2 hc
    refine mr_iconst C md_Law_law_484 mk_iconst_0 ?_
    exact mr_lret C hA RL h md_Law_law_485
  replace h := h.2 hc11
  by_cases hc12 : ((xs x3_18.toNatClampNeg) &&& 31) = 12
  · replace h := h.1 hc12
    refine mr_tabIn C 12 (453) hc12 md_Law_law_33 (by decide) (by decide) (by decide) rfl ?_
    refine mr_aload_n C 1 md_Law_law_486 rfl rfl ?_
    refine mr_aload_n C 0 md_Law_law_487 rfl rfl ?_
    refine mr_iload_n C 3 md_Law_law_488 rfl rfl ?_
    refine mr_iconst C md_Law_law_489 mk_iconst_1 ?_
    refine mr_iadd C md_Law_law_490 ?_
    refine mr_sld C hX hbl hbA h.1 md_Law_law_491 ?_
    replace h := h.2
    refine mr_cVi C (As := [.int (xs (x3_18 + 1).toNatClampNeg)]) (rest := []) 0 (ms_Mill_order _ E hI _ (xs (x3_18 + 1).toNatClampNeg) _ h) mo_Mill_order mi_Mill_order mc_Mill_cls ml_977 (by decide) (fun _ => rfl) rfl rfl (Nat.le_of_ble_eq_true rfl) (Nat.le_of_ble_eq_true rfl) (Nat.le_of_ble_eq_true rfl) md_Law_law_492 (fun r25 u25 h => ?_)
    refine mr_aload_n C 2 md_Law_law_495 rfl rfl ?_
    refine mr_aload_n C 0 md_Law_law_496 rfl rfl ?_
    refine mr_iload_n C 3 md_Law_law_497 rfl rfl ?_
    refine mr_iconst C md_Law_law_498 mk_iconst_1 ?_
    refine mr_iadd C md_Law_law_499 ?_
    refine mr_sld C hX hbl hbA h.1 md_Law_law_500 ?_
    replace h := h.2
    refine mr_cVi C (As := [.int (xs (x3_18 + 1).toNatClampNeg)]) (rest := [.int r25]) 11 (ms_Ref_order _ E hI _ (xs (x3_18 + 1).toNatClampNeg) _ h) mo_Ref_order mi_Ref_order mc_Ref_cls ml_1145 (by decide) (fun _ => rfl) rfl rfl (Nat.le_of_ble_eq_true rfl) (Nat.le_of_ble_eq_true rfl) (Nat.le_of_ble_eq_true rfl) md_Law_law_501 (fun r26 u26 h => ?_)
    refine mr_icmp_eq C md_Law_law_504 rfl (fun hc => ?_) (fun hc => ?_)
    · replace h := h.1 hc
      exact h
    replace h := h.2 hc
    refine mr_iconst C md_Law_law_507 mk_iconst_0 ?_
    exact mr_lret C hA RL h md_Law_law_508
  replace h := h.2 hc12
  by_cases hc13 : ((xs x3_18.toNatClampNeg) &&& 31) = 13
  · replace h := h.1 hc13
    refine mr_tabIn C 13 (476) hc13 md_Law_law_33 (by decide) (by decide) (by decide) rfl ?_
    refine mr_aload_n C 1 md_Law_law_509 rfl rfl ?_
    refine mr_aload_n C 0 md_Law_law_510 rfl rfl ?_
    refine mr_iload_n C 3 md_Law_law_511 rfl rfl ?_
    refine mr_iconst C md_Law_law_512 mk_iconst_1 ?_
    refine mr_iadd C md_Law_law_513 ?_
    refine mr_sld C hX hbl hbA h.1 md_Law_law_514 ?_
    replace h := h.2
    refine mr_cVi C (As := [.int (xs (x3_18 + 1).toNatClampNeg)]) (rest := []) 0 (ms_Mill_nearest _ E hI _ (xs (x3_18 + 1).toNatClampNeg) _ h) mo_Mill_nearest mi_Mill_nearest mc_Mill_cls ml_981 (by decide) (fun _ => rfl) rfl rfl (Nat.le_of_ble_eq_true rfl) (Nat.le_of_ble_eq_true rfl) (Nat.le_of_ble_eq_true rfl) md_Law_law_515 (fun r27 u27 h => ?_)
    refine mr_aload_n C 2 md_Law_law_518 rfl rfl ?_
    refine mr_aload_n C 0 md_Law_law_519 rfl rfl ?_
    refine mr_iload_n C 3 md_Law_law_520 rfl rfl ?_
    refine mr_iconst C md_Law_law_521 mk_iconst_1 ?_
    refine mr_iadd C md_Law_law_522 ?_
    refine mr_sld C hX hbl hbA h.1 md_Law_law_523 ?_
    replace h := h.2
    refine mr_cVi C (As := [.int (xs (x3_18 + 1).toNatClampNeg)]) (rest := [.int r27]) 11 (ms_Ref_nearest _ E hI _ (xs (x3_18 + 1).toNatClampNeg) _ h) mo_Ref_nearest mi_Ref_nearest mc_Ref_cls ml_1153 (by decide) (fun _ => rfl) rfl rfl (Nat.le_of_ble_eq_true rfl) (Nat.le_of_ble_eq_true rfl) (Nat.le_of_ble_eq_true rfl) md_Law_law_524 (fun r28 u28 h => ?_)
    refine mr_icmp_eq C md_Law_law_527 rfl (fun hc => ?_) (fun hc => ?_)
    · replace h := h.1 hc
      exact h
    replace h := h.2 hc
    refine mr_iconst C md_Law_law_530 mk_iconst_0 ?_
    exact mr_lret C hA RL h md_Law_law_531
  replace h := h.2 hc13
  by_cases hc14 : ((xs x3_18.toNatClampNeg) &&& 31) = 14
  · replace h := h.1 hc14
    refine mr_tabIn C 14 (499) hc14 md_Law_law_33 (by decide) (by decide) (by decide) rfl ?_
    refine mr_aload_n C 1 md_Law_law_532 rfl rfl ?_
    refine mr_aload_n C 0 md_Law_law_533 rfl rfl ?_
    refine mr_iload_n C 3 md_Law_law_534 rfl rfl ?_
    refine mr_iconst C md_Law_law_535 mk_iconst_1 ?_
    refine mr_iadd C md_Law_law_536 ?_
    refine mr_sld C hX hbl hbA h.1 md_Law_law_537 ?_
    replace h := h.2
    refine mr_aload_n C 0 md_Law_law_538 rfl rfl ?_
    refine mr_iload_n C 3 md_Law_law_539 rfl rfl ?_
    refine mr_iconst C md_Law_law_540 mk_iconst_2 ?_
    refine mr_iadd C md_Law_law_541 ?_
    refine mr_sld C hX hbl hbA h.1 md_Law_law_542 ?_
    replace h := h.2
    refine mr_cVi C (As := [.int (xs (x3_18 + 1).toNatClampNeg), .int (xs (x3_18 + 2).toNatClampNeg)]) (rest := []) 0 (ms_Mill_frontier _ E hI _ (xs (x3_18 + 1).toNatClampNeg) (xs (x3_18 + 2).toNatClampNeg) _ h) mo_Mill_frontier mi_Mill_frontier mc_Mill_cls ml_990 (by decide) (fun _ => rfl) rfl rfl (Nat.le_of_ble_eq_true rfl) (Nat.le_of_ble_eq_true rfl) (Nat.le_of_ble_eq_true rfl) md_Law_law_543 (fun r29 u29 h => ?_)
    refine mr_aload_n C 2 md_Law_law_546 rfl rfl ?_
    refine mr_aload_n C 0 md_Law_law_547 rfl rfl ?_
    refine mr_iload_n C 3 md_Law_law_548 rfl rfl ?_
    refine mr_iconst C md_Law_law_549 mk_iconst_1 ?_
    refine mr_iadd C md_Law_law_550 ?_
    refine mr_sld C hX hbl hbA h.1 md_Law_law_551 ?_
    replace h := h.2
    refine mr_aload_n C 0 md_Law_law_552 rfl rfl ?_
    refine mr_iload_n C 3 md_Law_law_553 rfl rfl ?_
    refine mr_iconst C md_Law_law_554 mk_iconst_2 ?_
    refine mr_iadd C md_Law_law_555 ?_
    refine mr_sld C hX hbl hbA h.1 md_Law_law_556 ?_
    replace h := h.2
    refine mr_cVi C (As := [.int (xs (x3_18 + 1).toNatClampNeg), .int (xs (x3_18 + 2).toNatClampNeg)]) (rest := [.int r29]) 11 (ms_Ref_frontier _ E hI _ (xs (x3_18 + 1).toNatClampNeg) (xs (x3_18 + 2).toNatClampNeg) _ h) mo_Ref_frontier mi_Ref_frontier mc_Ref_cls ml_1173 (by decide) (fun _ => rfl) rfl rfl (Nat.le_of_ble_eq_true rfl) (Nat.le_of_ble_eq_true rfl) (Nat.le_of_ble_eq_true rfl) md_Law_law_557 (fun r30 u30 h => ?_)
    refine mr_icmp_eq C md_Law_law_560 rfl (fun hc => ?_) (fun hc => ?_)
    · replace h := h.1 hc
      exact h
    replace h := h.2 hc
    refine mr_iconst C md_Law_law_563 mk_iconst_0 ?_
    exact mr_lret C hA RL h md_Law_law_564
  replace h := h.2 hc14
  by_cases hc15 : ((xs x3_18.toNatClampNeg) &&& 31) = 15
  · replace h := h.1 hc15
    refine mr_tabIn C 15 (532) hc15 md_Law_law_33 (by decide) (by decide) (by decide) rfl ?_
    refine mr_aload_n C 1 md_Law_law_565 rfl rfl ?_
    refine mr_aload_n C 0 md_Law_law_566 rfl rfl ?_
    refine mr_iload_n C 3 md_Law_law_567 rfl rfl ?_
    refine mr_iconst C md_Law_law_568 mk_iconst_1 ?_
    refine mr_iadd C md_Law_law_569 ?_
    refine mr_sld C hX hbl hbA h.1 md_Law_law_570 ?_
    replace h := h.2
    refine mr_aload_n C 0 md_Law_law_571 rfl rfl ?_
    refine mr_iload_n C 3 md_Law_law_572 rfl rfl ?_
    refine mr_iconst C md_Law_law_573 mk_iconst_2 ?_
    refine mr_iadd C md_Law_law_574 ?_
    refine mr_sld C hX hbl hbA h.1 md_Law_law_575 ?_
    replace h := h.2
    refine mr_cVi C (As := [.int (xs (x3_18 + 1).toNatClampNeg), .int (xs (x3_18 + 2).toNatClampNeg)]) (rest := []) 0 (ms_Mill_live _ E hI _ (xs (x3_18 + 1).toNatClampNeg) (xs (x3_18 + 2).toNatClampNeg) _ h) mo_Mill_live mi_Mill_live mc_Mill_cls ml_995 (by decide) (fun _ => rfl) rfl rfl (Nat.le_of_ble_eq_true rfl) (Nat.le_of_ble_eq_true rfl) (Nat.le_of_ble_eq_true rfl) md_Law_law_576 (fun r31 u31 h => ?_)
    refine mr_aload_n C 2 md_Law_law_579 rfl rfl ?_
    refine mr_aload_n C 0 md_Law_law_580 rfl rfl ?_
    refine mr_iload_n C 3 md_Law_law_581 rfl rfl ?_
    refine mr_iconst C md_Law_law_582 mk_iconst_1 ?_
    refine mr_iadd C md_Law_law_583 ?_
    refine mr_sld C hX hbl hbA h.1 md_Law_law_584 ?_
    replace h := h.2
    refine mr_aload_n C 0 md_Law_law_585 rfl rfl ?_
    refine mr_iload_n C 3 md_Law_law_586 rfl rfl ?_
    refine mr_iconst C md_Law_law_587 mk_iconst_2 ?_
    refine mr_iadd C md_Law_law_588 ?_
    refine mr_sld C hX hbl hbA h.1 md_Law_law_589 ?_
    replace h := h.2
    refine mr_cVi C (As := [.int (xs (x3_18 + 1).toNatClampNeg), .int (xs (x3_18 + 2).toNatClampNeg)]) (rest := [.int r31]) 11 (ms_Ref_live _ E hI _ (xs (x3_18 + 1).toNatClampNeg) (xs (x3_18 + 2).toNatClampNeg) _ h) mo_Ref_live mi_Ref_live mc_Ref_cls ml_1177 (by decide) (fun _ => rfl) rfl rfl (Nat.le_of_ble_eq_true rfl) (Nat.le_of_ble_eq_true rfl) (Nat.le_of_ble_eq_true rfl) md_Law_law_590 (fun r32 u32 h => ?_)
    refine mr_icmp_eq C md_Law_law_593 rfl (fun hc => ?_) (fun hc => ?_)
    · replace h := h.1 hc
      exact h
    replace h := h.2 hc
    refine mr_iconst C md_Law_law_596 mk_iconst_0 ?_
    exact mr_lret C hA RL h md_Law_law_597
  replace h := h.2 hc15
  by_cases hc16 : ((xs x3_18.toNatClampNeg) &&& 31) = 16
  · replace h := h.1 hc16
    refine mr_tabIn C 16 (565) hc16 md_Law_law_33 (by decide) (by decide) (by decide) rfl ?_
    refine mr_aload_n C 1 md_Law_law_598 rfl rfl ?_
    refine mr_aload_n C 0 md_Law_law_599 rfl rfl ?_
    refine mr_iload_n C 3 md_Law_law_600 rfl rfl ?_
    refine mr_iconst C md_Law_law_601 mk_iconst_1 ?_
    refine mr_iadd C md_Law_law_602 ?_
    refine mr_sld C hX hbl hbA h.1 md_Law_law_603 ?_
    replace h := h.2
    refine mr_aload_n C 0 md_Law_law_604 rfl rfl ?_
    refine mr_iload_n C 3 md_Law_law_605 rfl rfl ?_
    refine mr_iconst C md_Law_law_606 mk_iconst_2 ?_
    refine mr_iadd C md_Law_law_607 ?_
    refine mr_sld C hX hbl hbA h.1 md_Law_law_608 ?_
    replace h := h.2
    refine mr_cVi C (As := [.int (xs (x3_18 + 1).toNatClampNeg), .int (xs (x3_18 + 2).toNatClampNeg)]) (rest := []) 0 (ms_Mill_phi _ E hI _ (xs (x3_18 + 1).toNatClampNeg) (xs (x3_18 + 2).toNatClampNeg) _ h) mo_Mill_phi mi_Mill_phi mc_Mill_cls ml_999 (by decide) (fun _ => rfl) rfl rfl (Nat.le_of_ble_eq_true rfl) (Nat.le_of_ble_eq_true rfl) (Nat.le_of_ble_eq_true rfl) md_Law_law_609 (fun r33 u33 h => ?_)
    refine mr_aload_n C 2 md_Law_law_612 rfl rfl ?_
    refine mr_aload_n C 0 md_Law_law_613 rfl rfl ?_
    refine mr_iload_n C 3 md_Law_law_614 rfl rfl ?_
    refine mr_iconst C md_Law_law_615 mk_iconst_1 ?_
    refine mr_iadd C md_Law_law_616 ?_
    refine mr_sld C hX hbl hbA h.1 md_Law_law_617 ?_
    replace h := h.2
    refine mr_aload_n C 0 md_Law_law_618 rfl rfl ?_
    refine mr_iload_n C 3 md_Law_law_619 rfl rfl ?_
    refine mr_iconst C md_Law_law_620 mk_iconst_2 ?_
    refine mr_iadd C md_Law_law_621 ?_
    refine mr_sld C hX hbl hbA h.1 md_Law_law_622 ?_
    replace h := h.2
    refine mr_cVi C (As := [.int (xs (x3_18 + 1).toNatClampNeg), .int (xs (x3_18 + 2).toNatClampNeg)]) (rest := [.int r33]) 11 (ms_Ref_phi _ E hI _ (xs (x3_18 + 1).toNatClampNeg) (xs (x3_18 + 2).toNatClampNeg) _ h) mo_Ref_phi mi_Ref_phi mc_Ref_cls ml_1188 (by decide) (fun _ => rfl) rfl rfl (Nat.le_of_ble_eq_true rfl) (Nat.le_of_ble_eq_true rfl) (Nat.le_of_ble_eq_true rfl) md_Law_law_623 (fun r34 u34 h => ?_)
    refine mr_icmp_eq C md_Law_law_626 rfl (fun hc => ?_) (fun hc => ?_)
    · replace h := h.1 hc
      exact h
    replace h := h.2 hc
    refine mr_iconst C md_Law_law_629 mk_iconst_0 ?_
    exact mr_lret C hA RL h md_Law_law_630
  replace h := h.2 hc16
  by_cases hc17 : ((xs x3_18.toNatClampNeg) &&& 31) = 17
  · replace h := h.1 hc17
    refine mr_tabIn C 17 (598) hc17 md_Law_law_33 (by decide) (by decide) (by decide) rfl ?_
    refine mr_aload_n C 1 md_Law_law_631 rfl rfl ?_
    refine mr_aload_n C 0 md_Law_law_632 rfl rfl ?_
    refine mr_iload_n C 3 md_Law_law_633 rfl rfl ?_
    refine mr_iconst C md_Law_law_634 mk_iconst_1 ?_
    refine mr_iadd C md_Law_law_635 ?_
    refine mr_sld C hX hbl hbA h.1 md_Law_law_636 ?_
    replace h := h.2
    refine mr_cVi C (As := [.int (xs (x3_18 + 1).toNatClampNeg)]) (rest := []) 0 (ms_Mill_depth _ E hI _ (xs (x3_18 + 1).toNatClampNeg) _ h) mo_Mill_depth mi_Mill_depth mc_Mill_cls ml_1003 (by decide) (fun _ => rfl) rfl rfl (Nat.le_of_ble_eq_true rfl) (Nat.le_of_ble_eq_true rfl) (Nat.le_of_ble_eq_true rfl) md_Law_law_637 (fun r35 u35 h => ?_)
    refine mr_aload_n C 2 md_Law_law_640 rfl rfl ?_
    refine mr_aload_n C 0 md_Law_law_641 rfl rfl ?_
    refine mr_iload_n C 3 md_Law_law_642 rfl rfl ?_
    refine mr_iconst C md_Law_law_643 mk_iconst_1 ?_
    refine mr_iadd C md_Law_law_644 ?_
    refine mr_sld C hX hbl hbA h.1 md_Law_law_645 ?_
    replace h := h.2
    refine mr_cVi C (As := [.int (xs (x3_18 + 1).toNatClampNeg)]) (rest := [.int r35]) 11 (ms_Ref_depth _ E hI _ (xs (x3_18 + 1).toNatClampNeg) _ h) mo_Ref_depth mi_Ref_depth mc_Ref_cls ml_1198 (by decide) (fun _ => rfl) rfl rfl (Nat.le_of_ble_eq_true rfl) (Nat.le_of_ble_eq_true rfl) (Nat.le_of_ble_eq_true rfl) md_Law_law_646 (fun r36 u36 h => ?_)
    refine mr_icmp_eq C md_Law_law_649 rfl (fun hc => ?_) (fun hc => ?_)
    · replace h := h.1 hc
      exact h
    replace h := h.2 hc
    refine mr_iconst C md_Law_law_652 mk_iconst_0 ?_
    exact mr_lret C hA RL h md_Law_law_653
  replace h := h.2 hc17
  have hout : ((xs x3_18.toNatClampNeg) &&& 31).toInt < 0 ∨ 17 < ((xs x3_18.toNatClampNeg) &&& 31).toInt := by
    have hq0 := lv_neT hc0 (show (0 : Int32).toInt = 0 by decide)
    have hq1 := lv_neT hc1 (show (1 : Int32).toInt = 1 by decide)
    have hq2 := lv_neT hc2 (show (2 : Int32).toInt = 2 by decide)
    have hq3 := lv_neT hc3 (show (3 : Int32).toInt = 3 by decide)
    have hq4 := lv_neT hc4 (show (4 : Int32).toInt = 4 by decide)
    have hq5 := lv_neT hc5 (show (5 : Int32).toInt = 5 by decide)
    have hq6 := lv_neT hc6 (show (6 : Int32).toInt = 6 by decide)
    have hq7 := lv_neT hc7 (show (7 : Int32).toInt = 7 by decide)
    have hq8 := lv_neT hc8 (show (8 : Int32).toInt = 8 by decide)
    have hq9 := lv_neT hc9 (show (9 : Int32).toInt = 9 by decide)
    have hq10 := lv_neT hc10 (show (10 : Int32).toInt = 10 by decide)
    have hq11 := lv_neT hc11 (show (11 : Int32).toInt = 11 by decide)
    have hq12 := lv_neT hc12 (show (12 : Int32).toInt = 12 by decide)
    have hq13 := lv_neT hc13 (show (13 : Int32).toInt = 13 by decide)
    have hq14 := lv_neT hc14 (show (14 : Int32).toInt = 14 by decide)
    have hq15 := lv_neT hc15 (show (15 : Int32).toInt = 15 by decide)
    have hq16 := lv_neT hc16 (show (16 : Int32).toInt = 16 by decide)
    have hq17 := lv_neT hc17 (show (17 : Int32).toInt = 17 by decide)
    omega
  refine mr_tabOut C hout md_Law_law_33 rfl ?_
  exact h

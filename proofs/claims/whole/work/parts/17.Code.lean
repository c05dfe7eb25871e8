/-! BEGIN Code: its instructions, what each method does (mw_), that its bytecode does it (ms_): printed -/
theorem md_Code_clear_0 : mz_d mb_Code_clear 0 (.aload_n 0) 1 1 := ⟨by decide +kernel, rfl⟩
theorem md_Code_clear_1 : mz_d mb_Code_clear 1 (.iconst 0) 1 2 := ⟨by decide +kernel, rfl⟩
theorem md_Code_clear_2 : mz_d mb_Code_clear 2 (.putfield 40) 3 5 := ⟨by decide +kernel, rfl⟩
theorem md_Code_clear_5 : mz_d mb_Code_clear 5 (.aload_n 0) 1 6 := ⟨by decide +kernel, rfl⟩
theorem md_Code_clear_6 : mz_d mb_Code_clear 6 (.getfield 9) 3 9 := ⟨by decide +kernel, rfl⟩
theorem md_Code_clear_9 : mz_d mb_Code_clear 9 (.iconst 0) 1 10 := ⟨by decide +kernel, rfl⟩
theorem md_Code_clear_10 : mz_d mb_Code_clear 10 (.invokestatic 44) 3 13 := ⟨by decide +kernel, rfl⟩
theorem md_Code_clear_13 : mz_d mb_Code_clear 13 (.aload_n 0) 1 14 := ⟨by decide +kernel, rfl⟩
theorem md_Code_clear_14 : mz_d mb_Code_clear 14 (.getfield 15) 3 17 := ⟨by decide +kernel, rfl⟩
theorem md_Code_clear_17 : mz_d mb_Code_clear 17 (.iconst 0) 1 18 := ⟨by decide +kernel, rfl⟩
theorem md_Code_clear_18 : mz_d mb_Code_clear 18 (.invokestatic 44) 3 21 := ⟨by decide +kernel, rfl⟩
theorem md_Code_clear_21 : mz_d mb_Code_clear 21 (.return_) 1 22 := ⟨by decide +kernel, rfl⟩
theorem md_Code_begin_0 : mz_d mb_Code_begin 0 (.aload_n 0) 1 1 := ⟨by decide +kernel, rfl⟩
theorem md_Code_begin_1 : mz_d mb_Code_begin 1 (.getfield 9) 3 4 := ⟨by decide +kernel, rfl⟩
theorem md_Code_begin_4 : mz_d mb_Code_begin 4 (.iload_n 1) 1 5 := ⟨by decide +kernel, rfl⟩
theorem md_Code_begin_5 : mz_d mb_Code_begin 5 (.aload_n 0) 1 6 := ⟨by decide +kernel, rfl⟩
theorem md_Code_begin_6 : mz_d mb_Code_begin 6 (.getfield 40) 3 9 := ⟨by decide +kernel, rfl⟩
theorem md_Code_begin_9 : mz_d mb_Code_begin 9 (.iastore) 1 10 := ⟨by decide +kernel, rfl⟩
theorem md_Code_begin_10 : mz_d mb_Code_begin 10 (.return_) 1 11 := ⟨by decide +kernel, rfl⟩
theorem md_Code_finish_0 : mz_d mb_Code_finish 0 (.aload_n 0) 1 1 := ⟨by decide +kernel, rfl⟩
theorem md_Code_finish_1 : mz_d mb_Code_finish 1 (.getfield 15) 3 4 := ⟨by decide +kernel, rfl⟩
theorem md_Code_finish_4 : mz_d mb_Code_finish 4 (.iload_n 1) 1 5 := ⟨by decide +kernel, rfl⟩
theorem md_Code_finish_5 : mz_d mb_Code_finish 5 (.aload_n 0) 1 6 := ⟨by decide +kernel, rfl⟩
theorem md_Code_finish_6 : mz_d mb_Code_finish 6 (.getfield 40) 3 9 := ⟨by decide +kernel, rfl⟩
theorem md_Code_finish_9 : mz_d mb_Code_finish 9 (.iastore) 1 10 := ⟨by decide +kernel, rfl⟩
theorem md_Code_finish_10 : mz_d mb_Code_finish 10 (.return_) 1 11 := ⟨by decide +kernel, rfl⟩
theorem md_Code_add_0 : mz_d mb_Code_add 0 (.aload_n 0) 1 1 := ⟨by decide +kernel, rfl⟩
theorem md_Code_add_1 : mz_d mb_Code_add 1 (.getfield 40) 3 4 := ⟨by decide +kernel, rfl⟩
theorem md_Code_add_4 : mz_d mb_Code_add 4 (.sipush 1090) 3 7 := ⟨by decide +kernel, rfl⟩
theorem md_Code_add_7 : mz_d mb_Code_add 7 (.if_icmp .ne 4) 3 10 := ⟨by decide +kernel, rfl⟩
theorem md_Code_add_10 : mz_d mb_Code_add 10 (.return_) 1 11 := ⟨by decide +kernel, rfl⟩
theorem md_Code_add_11 : mz_d mb_Code_add 11 (.aload_n 0) 1 12 := ⟨by decide +kernel, rfl⟩
theorem md_Code_add_12 : mz_d mb_Code_add 12 (.getfield 18) 3 15 := ⟨by decide +kernel, rfl⟩
theorem md_Code_add_15 : mz_d mb_Code_add 15 (.aload_n 0) 1 16 := ⟨by decide +kernel, rfl⟩
theorem md_Code_add_16 : mz_d mb_Code_add 16 (.getfield 40) 3 19 := ⟨by decide +kernel, rfl⟩
theorem md_Code_add_19 : mz_d mb_Code_add 19 (.iload_n 1) 1 20 := ⟨by decide +kernel, rfl⟩
theorem md_Code_add_20 : mz_d mb_Code_add 20 (.iastore) 1 21 := ⟨by decide +kernel, rfl⟩
theorem md_Code_add_21 : mz_d mb_Code_add 21 (.aload_n 0) 1 22 := ⟨by decide +kernel, rfl⟩
theorem md_Code_add_22 : mz_d mb_Code_add 22 (.getfield 21) 3 25 := ⟨by decide +kernel, rfl⟩
theorem md_Code_add_25 : mz_d mb_Code_add 25 (.aload_n 0) 1 26 := ⟨by decide +kernel, rfl⟩
theorem md_Code_add_26 : mz_d mb_Code_add 26 (.getfield 40) 3 29 := ⟨by decide +kernel, rfl⟩
theorem md_Code_add_29 : mz_d mb_Code_add 29 (.iload_n 2) 1 30 := ⟨by decide +kernel, rfl⟩
theorem md_Code_add_30 : mz_d mb_Code_add 30 (.iastore) 1 31 := ⟨by decide +kernel, rfl⟩
theorem md_Code_add_31 : mz_d mb_Code_add 31 (.aload_n 0) 1 32 := ⟨by decide +kernel, rfl⟩
theorem md_Code_add_32 : mz_d mb_Code_add 32 (.getfield 24) 3 35 := ⟨by decide +kernel, rfl⟩
theorem md_Code_add_35 : mz_d mb_Code_add 35 (.aload_n 0) 1 36 := ⟨by decide +kernel, rfl⟩
theorem md_Code_add_36 : mz_d mb_Code_add 36 (.getfield 40) 3 39 := ⟨by decide +kernel, rfl⟩
theorem md_Code_add_39 : mz_d mb_Code_add 39 (.iload_n 3) 1 40 := ⟨by decide +kernel, rfl⟩
theorem md_Code_add_40 : mz_d mb_Code_add 40 (.iastore) 1 41 := ⟨by decide +kernel, rfl⟩
theorem md_Code_add_41 : mz_d mb_Code_add 41 (.aload_n 0) 1 42 := ⟨by decide +kernel, rfl⟩
theorem md_Code_add_42 : mz_d mb_Code_add 42 (.getfield 27) 3 45 := ⟨by decide +kernel, rfl⟩
theorem md_Code_add_45 : mz_d mb_Code_add 45 (.aload_n 0) 1 46 := ⟨by decide +kernel, rfl⟩
theorem md_Code_add_46 : mz_d mb_Code_add 46 (.getfield 40) 3 49 := ⟨by decide +kernel, rfl⟩
theorem md_Code_add_49 : mz_d mb_Code_add 49 (.iload 4) 2 51 := ⟨by decide +kernel, rfl⟩
theorem md_Code_add_51 : mz_d mb_Code_add 51 (.iastore) 1 52 := ⟨by decide +kernel, rfl⟩
theorem md_Code_add_52 : mz_d mb_Code_add 52 (.aload_n 0) 1 53 := ⟨by decide +kernel, rfl⟩
theorem md_Code_add_53 : mz_d mb_Code_add 53 (.getfield 30) 3 56 := ⟨by decide +kernel, rfl⟩
theorem md_Code_add_56 : mz_d mb_Code_add 56 (.aload_n 0) 1 57 := ⟨by decide +kernel, rfl⟩
theorem md_Code_add_57 : mz_d mb_Code_add 57 (.getfield 40) 3 60 := ⟨by decide +kernel, rfl⟩
theorem md_Code_add_60 : mz_d mb_Code_add 60 (.iload 5) 2 62 := ⟨by decide +kernel, rfl⟩
theorem md_Code_add_62 : mz_d mb_Code_add 62 (.iastore) 1 63 := ⟨by decide +kernel, rfl⟩
theorem md_Code_add_63 : mz_d mb_Code_add 63 (.aload_n 0) 1 64 := ⟨by decide +kernel, rfl⟩
theorem md_Code_add_64 : mz_d mb_Code_add 64 (.dup) 1 65 := ⟨by decide +kernel, rfl⟩
theorem md_Code_add_65 : mz_d mb_Code_add 65 (.getfield 40) 3 68 := ⟨by decide +kernel, rfl⟩
theorem md_Code_add_68 : mz_d mb_Code_add 68 (.iconst 1) 1 69 := ⟨by decide +kernel, rfl⟩
theorem md_Code_add_69 : mz_d mb_Code_add 69 (.iadd) 1 70 := ⟨by decide +kernel, rfl⟩
theorem md_Code_add_70 : mz_d mb_Code_add 70 (.putfield 40) 3 73 := ⟨by decide +kernel, rfl⟩
theorem md_Code_add_73 : mz_d mb_Code_add 73 (.return_) 1 74 := ⟨by decide +kernel, rfl⟩
theorem md_Code_addMove_0 : mz_d mb_Code_addMove 0 (.aload_n 0) 1 1 := ⟨by decide +kernel, rfl⟩
theorem md_Code_addMove_1 : mz_d mb_Code_addMove 1 (.iconst 1) 1 2 := ⟨by decide +kernel, rfl⟩
theorem md_Code_addMove_2 : mz_d mb_Code_addMove 2 (.iload_n 1) 1 3 := ⟨by decide +kernel, rfl⟩
theorem md_Code_addMove_3 : mz_d mb_Code_addMove 3 (.iload_n 2) 1 4 := ⟨by decide +kernel, rfl⟩
theorem md_Code_addMove_4 : mz_d mb_Code_addMove 4 (.iconst 0) 1 5 := ⟨by decide +kernel, rfl⟩
theorem md_Code_addMove_5 : mz_d mb_Code_addMove 5 (.iconst 2) 1 6 := ⟨by decide +kernel, rfl⟩
theorem md_Code_addMove_6 : mz_d mb_Code_addMove 6 (.iload_n 3) 1 7 := ⟨by decide +kernel, rfl⟩
theorem md_Code_addMove_7 : mz_d mb_Code_addMove 7 (.ifCond .eq 7) 3 10 := ⟨by decide +kernel, rfl⟩
theorem md_Code_addMove_10 : mz_d mb_Code_addMove 10 (.iconst 1) 1 11 := ⟨by decide +kernel, rfl⟩
theorem md_Code_addMove_11 : mz_d mb_Code_addMove 11 (.goto 4) 3 14 := ⟨by decide +kernel, rfl⟩
theorem md_Code_addMove_14 : mz_d mb_Code_addMove 14 (.iconst 0) 1 15 := ⟨by decide +kernel, rfl⟩
theorem md_Code_addMove_15 : mz_d mb_Code_addMove 15 (.ior) 1 16 := ⟨by decide +kernel, rfl⟩
theorem md_Code_addMove_16 : mz_d mb_Code_addMove 16 (.invokevirtual 50) 3 19 := ⟨by decide +kernel, rfl⟩
theorem md_Code_addMove_19 : mz_d mb_Code_addMove 19 (.return_) 1 20 := ⟨by decide +kernel, rfl⟩
theorem md_Code_setEnd_0 : mz_d mb_Code_setEnd 0 (.aload_n 0) 1 1 := ⟨by decide +kernel, rfl⟩
theorem md_Code_setEnd_1 : mz_d mb_Code_setEnd 1 (.getfield 33) 3 4 := ⟨by decide +kernel, rfl⟩
theorem md_Code_setEnd_4 : mz_d mb_Code_setEnd 4 (.iload_n 1) 1 5 := ⟨by decide +kernel, rfl⟩
theorem md_Code_setEnd_5 : mz_d mb_Code_setEnd 5 (.iload_n 2) 1 6 := ⟨by decide +kernel, rfl⟩
theorem md_Code_setEnd_6 : mz_d mb_Code_setEnd 6 (.iastore) 1 7 := ⟨by decide +kernel, rfl⟩
theorem md_Code_setEnd_7 : mz_d mb_Code_setEnd 7 (.aload_n 0) 1 8 := ⟨by decide +kernel, rfl⟩
theorem md_Code_setEnd_8 : mz_d mb_Code_setEnd 8 (.getfield 36) 3 11 := ⟨by decide +kernel, rfl⟩
theorem md_Code_setEnd_11 : mz_d mb_Code_setEnd 11 (.iload_n 1) 1 12 := ⟨by decide +kernel, rfl⟩
theorem md_Code_setEnd_12 : mz_d mb_Code_setEnd 12 (.iload_n 3) 1 13 := ⟨by decide +kernel, rfl⟩
theorem md_Code_setEnd_13 : mz_d mb_Code_setEnd 13 (.bastore) 1 14 := ⟨by decide +kernel, rfl⟩
theorem md_Code_setEnd_14 : mz_d mb_Code_setEnd 14 (.return_) 1 15 := ⟨by decide +kernel, rfl⟩
/-- ValueMill$Code.clear()V: what it does, as a transformer of what must hold behind it -/
def mw_Code_clear (K : mz_St → Prop) (s0 : mz_St) : Prop :=
  K (mz_fl (mz_fl (mz_up s0 1011 0 0) 45 30 0) 46 30 0)
set_option maxRecDepth 100000 in
set_option maxHeartbeats 4000000 in
theorem ms_Code_clear (l : Launch) (E : mz_En) (hI : mz_Inj E) (K : mz_St → Prop) (s0 : mz_St) (h : mw_Code_clear K s0) : mz_Cv l E my_Code_clear mb_Code_clear 1 (1) (24) [.ref (E.2.1 7)] s0 K := by
  refine mz_ctv hI (by decide +kernel) (Nat.le_of_ble_eq_true rfl) (fun X C R => ?_)
  show mz_G E X 1 0 [(0, .ref (E.2.1 7))] [] s0
  unfold mw_Code_clear at h
  refine mr_aload_n C 0 md_Code_clear_0 rfl rfl ?_
  refine mr_iconst C md_Code_clear_1 mk_iconst_0 ?_
  refine mr_put C (t0 := .int) 7 9 1011 mc_Code_cls ml_321 rfl (by decide) (by decide) (fun _ => rfl) rfl (by decide +kernel) rfl rfl (Nat.le_of_ble_eq_true rfl) (fun _ => rfl) (mp_1011 E _) md_Code_clear_2 ?_
  refine mr_aload_n C 0 md_Code_clear_5 rfl rfl ?_
  refine mr_get C 7 0 mc_Code_cls ml_303 rfl (by decide) (by decide) (fun _ => rfl) rfl md_Code_clear_6 ?_
  refine mr_iconst C md_Code_clear_9 mk_iconst_0 ?_
  refine mr_fill C 45 30 (by decide) (by decide) (by decide) (fun _ _ => rfl) (Nat.le_of_ble_eq_true rfl) (Nat.le_of_ble_eq_true rfl) ml_532 md_Code_clear_10 ?_
  refine mr_aload_n C 0 md_Code_clear_13 rfl rfl ?_
  refine mr_get C 7 1 mc_Code_cls ml_305 rfl (by decide) (by decide) (fun _ => rfl) rfl md_Code_clear_14 ?_
  refine mr_iconst C md_Code_clear_17 mk_iconst_0 ?_
  refine mr_fill C 46 30 (by decide) (by decide) (by decide) (fun _ _ => rfl) (Nat.le_of_ble_eq_true rfl) (Nat.le_of_ble_eq_true rfl) ml_532 md_Code_clear_18 ?_
  exact mr_vret C R h md_Code_clear_21
/-- ValueMill$Code.begin(I)V: what it does, as a transformer of what must hold behind it -/
def mw_Code_begin (K : mz_St → Prop) (a0 : Int32) (s0 : mz_St) : Prop :=
  vp_in a0 30 ∧
  K (mz_wr s0 45 a0 (s0 1011 0))
set_option maxRecDepth 100000 in
set_option maxHeartbeats 4000000 in
theorem ms_Code_begin (l : Launch) (E : mz_En) (hI : mz_Inj E) (K : mz_St → Prop) (a0 : Int32) (s0 : mz_St) (h : mw_Code_begin K a0 s0) : mz_Cv l E my_Code_begin mb_Code_begin 2 (0) (0) [.ref (E.2.1 7), .int a0] s0 K := by
  refine mz_ctv hI (by decide +kernel) (Nat.le_of_ble_eq_true rfl) (fun X C R => ?_)
  show mz_G E X 2 0 [(0, .ref (E.2.1 7)), (1, .int a0)] [] s0
  unfold mw_Code_begin at h
  refine mr_aload_n C 0 md_Code_begin_0 rfl rfl ?_
  refine mr_get C 7 0 mc_Code_cls ml_303 rfl (by decide) (by decide) (fun _ => rfl) rfl md_Code_begin_1 ?_
  refine mr_iload_n C 1 md_Code_begin_4 rfl rfl ?_
  refine mr_aload_n C 0 md_Code_begin_5 rfl rfl ?_
  refine mr_get C 7 9 mc_Code_cls ml_321 rfl (by decide) (by decide) (fun _ => rfl) rfl md_Code_begin_6 ?_
  refine mr_iast C 45 30 (by decide) (by decide) (fun _ _ => rfl) h.1 md_Code_begin_9 ?_
  replace h := h.2
  exact mr_vret C R h md_Code_begin_10
/-- ValueMill$Code.finish(I)V: what it does, as a transformer of what must hold behind it -/
def mw_Code_finish (K : mz_St → Prop) (a0 : Int32) (s0 : mz_St) : Prop :=
  vp_in a0 30 ∧
  K (mz_wr s0 46 a0 (s0 1011 0))
set_option maxRecDepth 100000 in
set_option maxHeartbeats 4000000 in
theorem ms_Code_finish (l : Launch) (E : mz_En) (hI : mz_Inj E) (K : mz_St → Prop) (a0 : Int32) (s0 : mz_St) (h : mw_Code_finish K a0 s0) : mz_Cv l E my_Code_finish mb_Code_finish 2 (0) (0) [.ref (E.2.1 7), .int a0] s0 K := by
  refine mz_ctv hI (by decide +kernel) (Nat.le_of_ble_eq_true rfl) (fun X C R => ?_)
  show mz_G E X 2 0 [(0, .ref (E.2.1 7)), (1, .int a0)] [] s0
  unfold mw_Code_finish at h
  refine mr_aload_n C 0 md_Code_finish_0 rfl rfl ?_
  refine mr_get C 7 1 mc_Code_cls ml_305 rfl (by decide) (by decide) (fun _ => rfl) rfl md_Code_finish_1 ?_
  refine mr_iload_n C 1 md_Code_finish_4 rfl rfl ?_
  refine mr_aload_n C 0 md_Code_finish_5 rfl rfl ?_
  refine mr_get C 7 9 mc_Code_cls ml_321 rfl (by decide) (by decide) (fun _ => rfl) rfl md_Code_finish_6 ?_
  refine mr_iast C 46 30 (by decide) (by decide) (fun _ _ => rfl) h.1 md_Code_finish_9 ?_
  replace h := h.2
  exact mr_vret C R h md_Code_finish_10
/-- ValueMill$Code.add(IIIII)V: what it does, as a transformer of what must hold behind it -/
def mw_Code_add (K : mz_St → Prop) (a0 : Int32) (a1 : Int32) (a2 : Int32) (a3 : Int32) (a4 : Int32) (s0 : mz_St) : Prop :=
  ((¬ (s0 1011 0) = 1090 →
   vp_in (s0 1011 0) 1090 ∧
   vp_in ((mz_wr s0 47 (s0 1011 0) a0) 1011 0) 1090 ∧
   vp_in ((mz_wr (mz_wr s0 47 (s0 1011 0) a0) 48 ((mz_wr s0 47 (s0 1011 0) a0) 1011 0) a1) 1011 0) 1090 ∧
   vp_in ((mz_wr (mz_wr (mz_wr s0 47 (s0 1011 0) a0) 48 ((mz_wr s0 47 (s0 1011 0) a0) 1011 0) a1) 49 ((mz_wr (mz_wr s0 47 (s0 1011 0) a0) 48 ((mz_wr s0 47 (s0 1011 0) a0) 1011 0) a1) 1011 0) a2) 1011 0) 1090 ∧
   vp_in ((mz_wr (mz_wr (mz_wr (mz_wr s0 47 (s0 1011 0) a0) 48 ((mz_wr s0 47 (s0 1011 0) a0) 1011 0) a1) 49 ((mz_wr (mz_wr s0 47 (s0 1011 0) a0) 48 ((mz_wr s0 47 (s0 1011 0) a0) 1011 0) a1) 1011 0) a2) 50 ((mz_wr (mz_wr (mz_wr s0 47 (s0 1011 0) a0) 48 ((mz_wr s0 47 (s0 1011 0) a0) 1011 0) a1) 49 ((mz_wr (mz_wr s0 47 (s0 1011 0) a0) 48 ((mz_wr s0 47 (s0 1011 0) a0) 1011 0) a1) 1011 0) a2) 1011 0) a3) 1011 0) 1090 ∧
   K (mz_up (mz_wr (mz_wr (mz_wr (mz_wr (mz_wr s0 47 (s0 1011 0) a0) 48 ((mz_wr s0 47 (s0 1011 0) a0) 1011 0) a1) 49 ((mz_wr (mz_wr s0 47 (s0 1011 0) a0) 48 ((mz_wr s0 47 (s0 1011 0) a0) 1011 0) a1) 1011 0) a2) 50 ((mz_wr (mz_wr (mz_wr s0 47 (s0 1011 0) a0) 48 ((mz_wr s0 47 (s0 1011 0) a0) 1011 0) a1) 49 ((mz_wr (mz_wr s0 47 (s0 1011 0) a0) 48 ((mz_wr s0 47 (s0 1011 0) a0) 1011 0) a1) 1011 0) a2) 1011 0) a3) 51 ((mz_wr (mz_wr (mz_wr (mz_wr s0 47 (s0 1011 0) a0) 48 ((mz_wr s0 47 (s0 1011 0) a0) 1011 0) a1) 49 ((mz_wr (mz_wr s0 47 (s0 1011 0) a0) 48 ((mz_wr s0 47 (s0 1011 0) a0) 1011 0) a1) 1011 0) a2) 50 ((mz_wr (mz_wr (mz_wr s0 47 (s0 1011 0) a0) 48 ((mz_wr s0 47 (s0 1011 0) a0) 1011 0) a1) 49 ((mz_wr (mz_wr s0 47 (s0 1011 0) a0) 48 ((mz_wr s0 47 (s0 1011 0) a0) 1011 0) a1) 1011 0) a2) 1011 0) a3) 1011 0) a4) 1011 0 (((mz_wr (mz_wr (mz_wr (mz_wr (mz_wr s0 47 (s0 1011 0) a0) 48 ((mz_wr s0 47 (s0 1011 0) a0) 1011 0) a1) 49 ((mz_wr (mz_wr s0 47 (s0 1011 0) a0) 48 ((mz_wr s0 47 (s0 1011 0) a0) 1011 0) a1) 1011 0) a2) 50 ((mz_wr (mz_wr (mz_wr s0 47 (s0 1011 0) a0) 48 ((mz_wr s0 47 (s0 1011 0) a0) 1011 0) a1) 49 ((mz_wr (mz_wr s0 47 (s0 1011 0) a0) 48 ((mz_wr s0 47 (s0 1011 0) a0) 1011 0) a1) 1011 0) a2) 1011 0) a3) 51 ((mz_wr (mz_wr (mz_wr (mz_wr s0 47 (s0 1011 0) a0) 48 ((mz_wr s0 47 (s0 1011 0) a0) 1011 0) a1) 49 ((mz_wr (mz_wr s0 47 (s0 1011 0) a0) 48 ((mz_wr s0 47 (s0 1011 0) a0) 1011 0) a1) 1011 0) a2) 50 ((mz_wr (mz_wr (mz_wr s0 47 (s0 1011 0) a0) 48 ((mz_wr s0 47 (s0 1011 0) a0) 1011 0) a1) 49 ((mz_wr (mz_wr s0 47 (s0 1011 0) a0) 48 ((mz_wr s0 47 (s0 1011 0) a0) 1011 0) a1) 1011 0) a2) 1011 0) a3) 1011 0) a4) 1011 0) + 1))) ∧
  ((s0 1011 0) = 1090 →
   K s0))
set_option maxRecDepth 100000 in
set_option maxHeartbeats 4000000 in
theorem ms_Code_add (l : Launch) (E : mz_En) (hI : mz_Inj E) (K : mz_St → Prop) (a0 : Int32) (a1 : Int32) (a2 : Int32) (a3 : Int32) (a4 : Int32) (s0 : mz_St) (h : mw_Code_add K a0 a1 a2 a3 a4 s0) : mz_Cv l E my_Code_add mb_Code_add 6 (0) (0) [.ref (E.2.1 7), .int a0, .int a1, .int a2, .int a3, .int a4] s0 K := by
  refine mz_ctv hI (by decide +kernel) (Nat.le_of_ble_eq_true rfl) (fun X C R => ?_)
  show mz_G E X 6 0 [(0, .ref (E.2.1 7)), (1, .int a0), (2, .int a1), (3, .int a2), (4, .int a3), (5, .int a4)] [] s0
  unfold mw_Code_add at h
  refine mr_aload_n C 0 md_Code_add_0 rfl rfl ?_
  refine mr_get C 7 9 mc_Code_cls ml_321 rfl (by decide) (by decide) (fun _ => rfl) rfl md_Code_add_1 ?_
  refine mr_sipush C md_Code_add_4 mk_sipush_1090 ?_
  refine mr_icmp_ne C md_Code_add_7 rfl (fun hc => ?_) (fun hc => ?_)
  · replace h := h.1 hc
    refine mr_aload_n C 0 md_Code_add_11 rfl rfl ?_
    refine mr_get C 7 2 mc_Code_cls ml_307 rfl (by decide) (by decide) (fun _ => rfl) rfl md_Code_add_12 ?_
    refine mr_aload_n C 0 md_Code_add_15 rfl rfl ?_
    refine mr_get C 7 9 mc_Code_cls ml_321 rfl (by decide) (by decide) (fun _ => rfl) rfl md_Code_add_16 ?_
    refine mr_iload_n C 1 md_Code_add_19 rfl rfl ?_
    refine mr_iast C 47 1090 (by decide) (by decide) (fun _ _ => rfl) h.1 md_Code_add_20 ?_
    replace h := h.2
    refine mr_aload_n C 0 md_Code_add_21 rfl rfl ?_
    refine mr_get C 7 3 mc_Code_cls ml_309 rfl (by decide) (by decide) (fun _ => rfl) rfl md_Code_add_22 ?_
    refine mr_aload_n C 0 md_Code_add_25 rfl rfl ?_
    refine mr_get C 7 9 mc_Code_cls ml_321 rfl (by decide) (by decide) (fun _ => rfl) rfl md_Code_add_26 ?_
    refine mr_iload_n C 2 md_Code_add_29 rfl rfl ?_
    refine mr_iast C 48 1090 (by decide) (by decide) (fun _ _ => rfl) h.1 md_Code_add_30 ?_
    replace h := h.2
    refine mr_aload_n C 0 md_Code_add_31 rfl rfl ?_
    refine mr_get C 7 4 mc_Code_cls ml_311 rfl (by decide) (by decide) (fun _ => rfl) rfl md_Code_add_32 ?_
    refine mr_aload_n C 0 md_Code_add_35 rfl rfl ?_
    refine mr_get C 7 9 mc_Code_cls ml_321 rfl (by decide) (by decide) (fun _ => rfl) rfl md_Code_add_36 ?_
    refine mr_iload_n C 3 md_Code_add_39 rfl rfl ?_
    refine mr_iast C 49 1090 (by decide) (by decide) (fun _ _ => rfl) h.1 md_Code_add_40 ?_
    replace h := h.2
    refine mr_aload_n C 0 md_Code_add_41 rfl rfl ?_
    refine mr_get C 7 5 mc_Code_cls ml_313 rfl (by decide) (by decide) (fun _ => rfl) rfl md_Code_add_42 ?_
    refine mr_aload_n C 0 md_Code_add_45 rfl rfl ?_
    refine mr_get C 7 9 mc_Code_cls ml_321 rfl (by decide) (by decide) (fun _ => rfl) rfl md_Code_add_46 ?_
    refine mr_iload C 4 md_Code_add_49 rfl ?_
    refine mr_iast C 50 1090 (by decide) (by decide) (fun _ _ => rfl) h.1 md_Code_add_51 ?_
    replace h := h.2
    refine mr_aload_n C 0 md_Code_add_52 rfl rfl ?_
    refine mr_get C 7 6 mc_Code_cls ml_315 rfl (by decide) (by decide) (fun _ => rfl) rfl md_Code_add_53 ?_
    refine mr_aload_n C 0 md_Code_add_56 rfl rfl ?_
    refine mr_get C 7 9 mc_Code_cls ml_321 rfl (by decide) (by decide) (fun _ => rfl) rfl md_Code_add_57 ?_
    refine mr_iload C 5 md_Code_add_60 rfl ?_
    refine mr_iast C 51 1090 (by decide) (by decide) (fun _ _ => rfl) h.1 md_Code_add_62 ?_
    replace h := h.2
    refine mr_aload_n C 0 md_Code_add_63 rfl rfl ?_
    refine mr_dup C md_Code_add_64 rfl ?_
    refine mr_get C 7 9 mc_Code_cls ml_321 rfl (by decide) (by decide) (fun _ => rfl) rfl md_Code_add_65 ?_
    refine mr_iconst C md_Code_add_68 mk_iconst_1 ?_
    refine mr_iadd C md_Code_add_69 ?_
    refine mr_put C (t0 := .int) 7 9 1011 mc_Code_cls ml_321 rfl (by decide) (by decide) (fun _ => rfl) rfl (by decide +kernel) rfl rfl (Nat.le_of_ble_eq_true rfl) (fun _ => rfl) (mp_1011 E _) md_Code_add_70 ?_
    exact mr_vret C R h md_Code_add_73
  replace h := h.2 hc
  exact mr_vret C R h md_Code_add_10
def mw_Code_addMove_15 (K : mz_St → Prop) (y0_15 : Int32) (y1_15 : Int32) (y2_15 : Int32) (y3_15 : Int32) (y4_15 : Int32) (y5_15 : Int32) (s15 : mz_St) : Prop :=
  mw_Code_add (fun u1 =>
   K u1) y5_15 y4_15 y3_15 y2_15 (y1_15 ||| y0_15) s15
/-- ValueMill$Code.addMove(IIZ)V: what it does, as a transformer of what must hold behind it -/
def mw_Code_addMove (K : mz_St → Prop) (a0 : Int32) (a1 : Int32) (a2 : Int32) (s0 : mz_St) : Prop :=
  (∀ P15 : Int32 → Int32 → Int32 → Int32 → Int32 → Int32 → mz_St → Prop, (∀ (y0_15 : Int32) (y1_15 : Int32) (y2_15 : Int32) (y3_15 : Int32) (y4_15 : Int32) (y5_15 : Int32) (s15 : mz_St), mw_Code_addMove_15 K y0_15 y1_15 y2_15 y3_15 y4_15 y5_15 s15 → P15 y0_15 y1_15 y2_15 y3_15 y4_15 y5_15 s15) →
  ((a2 = 0 →
   P15 0 2 0 a1 a0 1 s0) ∧
  (¬ a2 = 0 →
   P15 1 2 0 a1 a0 1 s0)))
set_option maxRecDepth 100000 in
set_option maxHeartbeats 4000000 in
theorem ms_Code_addMove (l : Launch) (E : mz_En) (hI : mz_Inj E) (K : mz_St → Prop) (a0 : Int32) (a1 : Int32) (a2 : Int32) (s0 : mz_St) (h : mw_Code_addMove K a0 a1 a2 s0) : mz_Cv l E my_Code_addMove mb_Code_addMove 4 (1) (25) [.ref (E.2.1 7), .int a0, .int a1, .int a2] s0 K := by
  refine mz_ctv hI (by decide +kernel) (Nat.le_of_ble_eq_true rfl) (fun X C R => ?_)
  show mz_G E X 4 0 [(0, .ref (E.2.1 7)), (1, .int a0), (2, .int a1), (3, .int a2)] [] s0
  unfold mw_Code_addMove at h
  refine mr_aload_n C 0 md_Code_addMove_0 rfl rfl ?_
  refine mr_iconst C md_Code_addMove_1 mk_iconst_1 ?_
  refine mr_iload_n C 1 md_Code_addMove_2 rfl rfl ?_
  refine mr_iload_n C 2 md_Code_addMove_3 rfl rfl ?_
  refine mr_iconst C md_Code_addMove_4 mk_iconst_0 ?_
  refine mr_iconst C md_Code_addMove_5 mk_iconst_2 ?_
  refine mr_iload_n C 3 md_Code_addMove_6 rfl rfl ?_
  refine mj (h (fun (y0_15 : Int32) (y1_15 : Int32) (y2_15 : Int32) (y3_15 : Int32) (y4_15 : Int32) (y5_15 : Int32) (s15 : mz_St) => mz_G E X 4 15 [] [.int y0_15, .int y1_15, .int y2_15, .int y3_15, .int y4_15, .int y5_15, .ref (E.2.1 7)] s15) (fun y0_15 y1_15 y2_15 y3_15 y4_15 y5_15 s15 h => ?_)) (fun h => ?_)
  · unfold mw_Code_addMove_15 at h
    refine mr_ior C md_Code_addMove_15 ?_
    refine mr_cVv C (As := [.int y5_15, .int y4_15, .int y3_15, .int y2_15, .int (y1_15 ||| y0_15)]) (rest := []) 7 (ms_Code_add _ E hI _ y5_15 y4_15 y3_15 y2_15 (y1_15 ||| y0_15) _ h) mo_Code_add mi_Code_add mc_Code_cls ml_870 (by decide) (fun _ => rfl) rfl rfl (Nat.le_of_ble_eq_true rfl) (Nat.le_of_ble_eq_true rfl) (Nat.le_of_ble_eq_true rfl) md_Code_addMove_16 (fun u1 h => ?_)
    exact mr_vret C R h md_Code_addMove_19
  refine mr_if_eq C md_Code_addMove_7 rfl (fun hc => ?_) (fun hc => ?_)
  · replace h := h.1 hc
    refine mr_iconst C md_Code_addMove_14 mk_iconst_0 ?_
    refine mr_sub [] rfl ?_
    exact h
  replace h := h.2 hc
  refine mr_iconst C md_Code_addMove_10 mk_iconst_1 ?_
  refine mr_goto C md_Code_addMove_11 rfl ?_
  refine mr_sub [] rfl ?_
  exact h
/-- ValueMill$Code.setEnd(IIZ)V: what it does, as a transformer of what must hold behind it -/
def mw_Code_setEnd (K : mz_St → Prop) (a0 : Int32) (a1 : Int32) (a2 : Int32) (s0 : mz_St) : Prop :=
  vp_in a0 10 ∧
  (vp_in a0 10 ∧ (a2 = 0 ∨ a2 = 1)) ∧
  K (mz_wr (mz_wr s0 52 a0 a1) 53 a0 a2)
set_option maxRecDepth 100000 in
set_option maxHeartbeats 4000000 in
theorem ms_Code_setEnd (l : Launch) (E : mz_En) (hI : mz_Inj E) (K : mz_St → Prop) (a0 : Int32) (a1 : Int32) (a2 : Int32) (s0 : mz_St) (h : mw_Code_setEnd K a0 a1 a2 s0) : mz_Cv l E my_Code_setEnd mb_Code_setEnd 4 (0) (0) [.ref (E.2.1 7), .int a0, .int a1, .int a2] s0 K := by
  refine mz_ctv hI (by decide +kernel) (Nat.le_of_ble_eq_true rfl) (fun X C R => ?_)
  show mz_G E X 4 0 [(0, .ref (E.2.1 7)), (1, .int a0), (2, .int a1), (3, .int a2)] [] s0
  unfold mw_Code_setEnd at h
  refine mr_aload_n C 0 md_Code_setEnd_0 rfl rfl ?_
  refine mr_get C 7 7 mc_Code_cls ml_317 rfl (by decide) (by decide) (fun _ => rfl) rfl md_Code_setEnd_1 ?_
  refine mr_iload_n C 1 md_Code_setEnd_4 rfl rfl ?_
  refine mr_iload_n C 2 md_Code_setEnd_5 rfl rfl ?_
  refine mr_iast C 52 10 (by decide) (by decide) (fun _ _ => rfl) h.1 md_Code_setEnd_6 ?_
  replace h := h.2
  refine mr_aload_n C 0 md_Code_setEnd_7 rfl rfl ?_
  refine mr_get C 7 8 mc_Code_cls ml_319 rfl (by decide) (by decide) (fun _ => rfl) rfl md_Code_setEnd_8 ?_
  refine mr_iload_n C 1 md_Code_setEnd_11 rfl rfl ?_
  refine mr_iload_n C 3 md_Code_setEnd_12 rfl rfl ?_
  refine mr_zast C 53 10 (by decide) (by decide) (fun _ _ => rfl) h.1.1 h.1.2 md_Code_setEnd_13 ?_
  replace h := h.2
  exact mr_vret C R h md_Code_setEnd_14

/-! BEGIN the start: the tables, the two constructors, the first picture: printed -/
/-- the first picture -/
def mz_s0 : mz_St := fun a => match a with
  | 1001 => fun _ => -1
  | 1002 => fun _ => -1
  | _ => fun _ => 0
theorem mz_known {s : State} {args : Array Value} (hts : ∀ w ∈ mz_TB, w.before args s = true) : ∃ (D : va_G) (cI cJ cZ : ClassId), va_K D mz_CL [(cI, .int), (cJ, .long), (cZ, .boolean)] s := by
  obtain ⟨c0, i0, h0⟩ := u_known (T := mz_TMill) (N := 12) hts mc_Mill_cls.2.1 (hts _ ml_16)
  obtain ⟨c1, i1, h1⟩ := u_known (T := mz_TProgram) (N := 11) hts mc_Program_cls.2.1 (hts _ ml_24)
  obtain ⟨c2, i2, h2⟩ := u_known (T := mz_TFlow) (N := 11) hts mc_Flow_cls.2.1 (hts _ ml_91)
  obtain ⟨c3, i3, h3⟩ := u_known (T := mz_TLives) (N := 6) hts mc_Lives_cls.2.1 (hts _ ml_149)
  obtain ⟨c4, i4, h4⟩ := u_known (T := mz_TNames) (N := 7) hts mc_Names_cls.2.1 (hts _ ml_179)
  obtain ⟨c5, i5, h5⟩ := u_known (T := mz_TStands) (N := 7) hts mc_Stands_cls.2.1 (hts _ ml_215)
  obtain ⟨c6, i6, h6⟩ := u_known (T := mz_THomes) (N := 14) hts mc_Homes_cls.2.1 (hts _ ml_245)
  obtain ⟨c7, i7, h7⟩ := u_known (T := mz_TCode) (N := 10) hts mc_Code_cls.2.1 (hts _ ml_298)
  obtain ⟨c8, i8, h8⟩ := u_known (T := mz_TMoves) (N := 6) hts mc_Moves_cls.2.1 (hts _ ml_351)
  obtain ⟨c9, i9, h9⟩ := u_known (T := mz_TWriter) (N := 7) hts mc_Writer_cls.2.1 (hts _ ml_345)
  obtain ⟨c10, i10, h10⟩ := u_known (T := mz_TMachine) (N := 6) hts mc_Machine_cls.2.1 (hts _ ml_398)
  obtain ⟨c11, i11, h11⟩ := u_known (T := mz_TRef) (N := 18) hts mc_Ref_cls.2.1 (hts _ ml_1008)
  obtain ⟨cI, kI, pI, aI, bI, eI⟩ := Cond.arrayClass_spec (hts _ mn_acI)
  obtain ⟨cJ, kJ, pJ, aJ, bJ, eJ⟩ := Cond.arrayClass_spec (hts _ mn_acJ)
  obtain ⟨cZ, kZ, pZ, aZ, bZ, eZ⟩ := Cond.arrayClass_spec (hts _ mn_acZ)
  refine ⟨(fun k => match k with | 0 => c0 | 1 => c1 | 2 => c2 | 3 => c3 | 4 => c4 | 5 => c5 | 6 => c6 | 7 => c7 | 8 => c8 | 9 => c9 | 10 => c10 | 11 => c11 | _ => 0, fun k => match k with | 0 => i0 | 1 => i1 | 2 => i2 | 3 => i3 | 4 => i4 | 5 => i5 | 6 => i6 | 7 => i7 | 8 => i8 | 9 => i9 | 10 => i10 | 11 => i11 | _ => fun _ => 0), cI, cJ, cZ, fun c q hq => ?_, fun k q hq => ?_⟩
  · match c, hq with
    | 0, hq => cases hq; exact h0
    | 1, hq => cases hq; exact h1
    | 2, hq => cases hq; exact h2
    | 3, hq => cases hq; exact h3
    | 4, hq => cases hq; exact h4
    | 5, hq => cases hq; exact h5
    | 6, hq => cases hq; exact h6
    | 7, hq => cases hq; exact h7
    | 8, hq => cases hq; exact h8
    | 9, hq => cases hq; exact h9
    | 10, hq => cases hq; exact h10
    | 11, hq => cases hq; exact h11
    | k + 12, hq => simp [mz_CL] at hq
  · match k, hq with
    | 0, hq => cases hq; exact ⟨fun n z => ⟨fun k h => (by cases h), kI, bI, pI, eI⟩, aI⟩
    | 1, hq => cases hq; exact ⟨fun n z => ⟨fun k h => (by cases h), kJ, bJ, pJ, eJ⟩, aJ⟩
    | 2, hq => cases hq; exact ⟨fun n z => ⟨fun k h => (by cases h), kZ, bZ, pZ, eZ⟩, aZ⟩
    | k + 3, hq => simp at hq
def mz_adr (q0 r0 : Nat) (u v : Nat → Nat) : Nat → Nat := fun k => match k with
  | 0 => q0
  | 1 => (u 0)
  | 2 => (u 11)
  | 3 => (u 19)
  | 4 => (u 24)
  | 5 => (u 29)
  | 6 => (u 33)
  | 7 => (u 39)
  | 8 => (u 50)
  | 9 => (u 49)
  | 10 => (u 54)
  | 11 => r0
  | 12 => (u 1)
  | 13 => (u 2)
  | 14 => (u 3)
  | 15 => (u 4)
  | 16 => (u 5)
  | 17 => (u 6)
  | 18 => (u 7)
  | 19 => (u 8)
  | 20 => (u 9)
  | 21 => (u 10)
  | 22 => (u 12)
  | 23 => (u 13)
  | 24 => (u 14)
  | 25 => (u 15)
  | 26 => (u 16)
  | 27 => (u 17)
  | 28 => (u 18)
  | 29 => (u 20)
  | 30 => (u 21)
  | 31 => (u 22)
  | 32 => (u 23)
  | 33 => (u 25)
  | 34 => (u 26)
  | 35 => (u 27)
  | 36 => (u 28)
  | 37 => (u 30)
  | 38 => (u 31)
  | 39 => (u 32)
  | 40 => (u 34)
  | 41 => (u 35)
  | 42 => (u 36)
  | 43 => (u 37)
  | 44 => (u 38)
  | 45 => (u 40)
  | 46 => (u 41)
  | 47 => (u 42)
  | 48 => (u 43)
  | 49 => (u 44)
  | 50 => (u 45)
  | 51 => (u 46)
  | 52 => (u 47)
  | 53 => (u 48)
  | 54 => (u 51)
  | 55 => (u 52)
  | 56 => (u 53)
  | 57 => (u 55)
  | 58 => (u 56)
  | 59 => (u 57)
  | 60 => (v 0)
  | 61 => (v 1)
  | 62 => (v 2)
  | 63 => (v 3)
  | 64 => (v 4)
  | 65 => (v 5)
  | 66 => (v 6)
  | 67 => (v 7)
  | 68 => (v 8)
  | 69 => (v 9)
  | 70 => (v 10)
  | 71 => (v 11)
  | 72 => (v 12)
  | _ => 0
def mz_perm : List Nat := [0, 1, 12, 20, 25, 30, 34, 40, 51, 50, 55, 59, 2, 3, 4, 5, 6, 7, 8, 9, 10, 11, 13, 14, 15, 16, 17, 18, 19, 21, 22, 23, 24, 26, 27, 28, 29, 31, 32, 33, 35, 36, 37, 38, 39, 41, 42, 43, 44, 45, 46, 47, 48, 49, 52, 53, 54, 56, 57, 58, 60, 61, 62, 63, 64, 65, 66, 67, 68, 69, 70, 71, 72]
def mz_w2 (E : mz_En) (q0 r0 : Nat) (u v : Nat → Nat) : va_W := mq_w_Mill_init E q0 u ++ mq_w_Ref_init E r0 v
set_option maxRecDepth 100000 in
set_option maxHeartbeats 4000000 in
theorem mz_w2_ws (D : va_G) (cI cJ cZ : ClassId) (g : Nat → Nat) (q0 r0 : Nat) (u v : Nat → Nat) : mz_perm.map (fun i => (mz_w2 (D, g, cI, cJ, cZ) q0 r0 u v)[i]?) = (mz_ws (D, mz_adr q0 r0 u v, cI, cJ, cZ) mz_s0 (fun _ => 0)).map some := by
  rfl
theorem mz_w2_ws' (D : va_G) (cI cJ cZ : ClassId) (g : Nat → Nat) (q0 r0 : Nat) (u v : Nat → Nat) : mz_perm.filterMap (fun i => (mz_w2 (D, g, cI, cJ, cZ) q0 r0 u v)[i]?) = mz_ws (D, mz_adr q0 r0 u v, cI, cJ, cZ) mz_s0 (fun _ => 0) := by
  have h := mz_w2_ws D cI cJ cZ g q0 r0 u v
  have key : ∀ (l : List Nat) (f : Nat → Option (Nat × va_E)) (w : va_W), l.map f = w.map some → l.filterMap f = w := by
    intro l f
    induction l with
    | nil =>
      intro w hw
      cases w with
      | nil => rfl
      | cons a w => simp at hw
    | cons a l ih =>
      intro w hw
      cases w with
      | nil => simp at hw
      | cons b w =>
        simp only [List.map_cons, List.cons.injEq] at hw
        rw [List.filterMap_cons, hw.1]
        simp only [ih w hw.2]
  exact key _ _ _ h
theorem mz_perm_nd : va_nd mz_perm = true := by decide +kernel
set_option maxRecDepth 100000 in
set_option maxHeartbeats 8000000 in
/-- the law from its entry, over what must hold behind its constructors -/
theorem mz_start {p : Program} {e : Env} {s : State} {m : MethodId} {below : List Frame} {meth : Method} {c : Code} (l : Launch) {b L : Nat} {xs : Nat → Int32} (C0 : lw_At p s m meth c b L xs) (h : mw_Law_law xs L mz_s0) : W p l e room_1 s m #[Value.ref b] below meth c s.heap [] 0 0 (lw_Z below #[Value.ref b] s) (entryFrame m ([Value.ref b] : List Value).toArray 4) := by
  obtain ⟨hx, hb, hr, hml, hown, hts0, hX, hbl, hlk, hgv⟩ := C0
  have hts : ∀ w ∈ mz_TB, w.before #[Value.ref b] s = true := fun w hw => hts0 w (List.mem_filter.mp hw).1
  have hNW : ∀ w ∈ mz_NW, va_Nw w s := by
    intro w hw
    obtain ⟨h1, h2⟩ := List.mem_filter.mp hw
    have h3 := hts0 w h1
    cases w <;> first | exact va_Nw.of rfl h3 | cases h2
  obtain ⟨D, cI, cJ, cZ, hK⟩ := mz_known hts
  let E : mz_En := (D, fun _ => 0, cI, cJ, cZ)
  let A : Nat → Prop := fun q => s.heap.size ≤ q
  let X : mz_Cx := (p, l, e, room_1, s, m, #[Value.ref b], below, meth, c, lw_Z below #[Value.ref b] s, 73, 9717)
  have C : mq_C E A X code "ValueMillLaw" 4 2048 84000 600000 7302250 := ⟨hx, hb, hml, hown, hts, hNW, hK, fun q h => h, ⟨Nat.le_refl _, Nat.le_refl _⟩, ⟨Nat.le_refl _, Nat.le_refl _⟩⟩
  have hl := lv_entry ([.ref b]) (n := 4) (Nat.le_of_ble_eq_true rfl)
  rw [lg_entry_eq]
  generalize (lg_sl ([.ref b]) ++ List.replicate (4 - (lg_sl ([.ref b])).length) Slot.unset).toArray = ls at hl ⊢
  have hl : lv_has ls 4 [(0, .ref b)] := hl
  suffices hG : mq_G E A X 4 0 [(0, .ref b)] [] [] 0 0 by
    exact hG s.heap [] ls (fun k q hk => by simp at hk) ⟨fun i j p q hi => by simp at hi, fun k q hk => by simp at hk⟩ va_S.rf hl
  refine mq_new C [.null, .null, .null, .null, .null, .null, .null, .null, .null, .int 0, .int 0, .int 0] mc_Mill_cls ml_15 ml_16 ml_1 (by decide +kernel) (Nat.le_of_ble_eq_true rfl) (Nat.le_of_ble_eq_true rfl) md_Law_law_0 (fun q0 => ?_)
  refine mq_dup C md_Law_law_3 rfl ?_
  refine mq_callI C (As := []) (rest := [.ref q0]) (mq_Mill_init _ E q0) mo_Mill_init (by decide) mh_Mill_init ml_17 0 [] [] rfl rfl (by decide) (by decide) rfl rfl (Nat.le_of_ble_eq_true rfl) (Nat.le_of_ble_eq_true rfl) (Nat.le_of_ble_eq_true rfl) (Nat.le_of_ble_eq_true rfl) (Nat.le_of_ble_eq_true rfl) md_Law_law_4 (fun u => ?_)
  refine mq_astore_n C (L' := [(1, .ref q0), (0, .ref b)]) md_Law_law_7 rfl (Nat.le_of_ble_eq_true rfl) rfl ?_
  refine mq_new C [.int 0, .null, .null, .null, .null, .null, .null, .null, .int 0, .int 0, .int 0, .null, .null, .int 0, .null, .null, .null, .null] mc_Ref_cls ml_1007 ml_1008 ml_12 (by decide +kernel) (Nat.le_of_ble_eq_true rfl) (Nat.le_of_ble_eq_true rfl) md_Law_law_8 (fun r0 => ?_)
  refine mq_dup C md_Law_law_11 rfl ?_
  refine mq_callI C (As := []) (rest := [.ref r0]) (mq_Ref_init _ E r0) mo_Ref_init (by decide) mh_Ref_init ml_1009 59 [0, 1, 2, 3, 4, 5, 6, 7, 8, 9, 10, 11, 12, 13, 14, 15, 16, 17, 18, 19, 20, 21, 22, 23, 24, 25, 26, 27, 28, 29, 30, 31, 32, 33, 34, 35, 36, 37, 38, 39, 40, 41, 42, 43, 44, 45, 46, 47, 48, 49, 50, 51, 52, 53, 54, 55, 56, 57, 58] (mq_w_Mill_init E q0 u) rfl rfl (by decide) (by decide) rfl rfl (Nat.le_of_ble_eq_true rfl) (Nat.le_of_ble_eq_true rfl) (Nat.le_of_ble_eq_true rfl) (Nat.le_of_ble_eq_true rfl) (Nat.le_of_ble_eq_true rfl) md_Law_law_12 (fun v => ?_)
  refine mq_astore_n C (L' := [(2, .ref r0), (1, .ref q0), (0, .ref b)]) md_Law_law_15 rfl (Nat.le_of_ble_eq_true rfl) rfl ?_
  show mq_G E A X 4 16 [(2, .ref r0), (1, .ref q0), (0, .ref b)] [] (mz_w2 E q0 r0 u v) 73 9717
  intro H locs ls hP hD hS hl
  refine va_forget (fun q hq => hS.2.2 q hq) ?_
  have hP' : va_P D mz_CL (mz_ws (D, mz_adr q0 r0 u v, cI, cJ, cZ) mz_s0 (fun _ => 0)) H := hP.sub mz_perm (mz_w2_ws' D cI cJ cZ _ q0 r0 u v)
  have hD' : va_D A (mz_ws (D, mz_adr q0 r0 u v, cI, cJ, cZ) mz_s0 (fun _ => 0)) := hD.sub mz_perm mz_perm_nd (mz_w2_ws D cI cJ cZ _ q0 r0 u v)
  have hI : mz_Inj (D, mz_adr q0 r0 u v, cI, cJ, cZ) := fun i j hi hj hij => hD'.1 i j _ _ (mz_ws_get _ _ _ hi) (mz_ws_get _ _ _ hj) hij
  have hAA : ∀ k, k < mz_NC → s.heap.size ≤ mz_adr q0 r0 u v k := fun k hk => hD'.2 k _ (mz_ws_get _ _ _ hk)
  have hS' : va_S (mz_AA (D, mz_adr q0 r0 u v, cI, cJ, cZ)) s.heap H [] := ⟨hS.1, fun q h1 h2 => hS.2.1 q h1 (fun h => absurd h1 (Nat.not_lt.mpr h)), fun _ h => by cases h⟩
  exact ms_Law_law (D, mz_adr q0 r0 u v, cI, cJ, cZ) X hI b L xs mz_s0 ⟨hx, hb, hml, hown, hts, hNW, hK, hI, ⟨Nat.le_of_ble_eq_true rfl, Nat.le_of_ble_eq_true rfl⟩, ⟨Nat.le_of_ble_eq_true rfl, Nat.le_of_ble_eq_true rfl⟩⟩ hX hbl (fun ⟨k, hk, e⟩ => absurd hbl (Nat.not_lt.mpr (by rw [e]; exact hAA k hk))) hAA ⟨rfl, rfl, rfl, hr, hlk, Nat.le_of_ble_eq_true rfl, Nat.le_of_ble_eq_true rfl⟩ h (fun _ => 0) H [] ls hP' hS' hl

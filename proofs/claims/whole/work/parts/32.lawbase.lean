/-! THE CLAIM OUT OF ONE WALK OF THE LAW'S BODY. Your part is whole_start (and what it stands on); all else here is the same for every law, but numbers. -/
def R_law : String := "ValueMillLaw"
def lw_P (b : Addr) (xs : List Int32) (args : Array Value) (s : State) : Prop := args = #[.ref b] ∧ s.IntsAt b xs ∧ xs.length ≤ 3072 ∧ (Jvm.Cond.and given_1 narrow_1).before args s = true
def lw_Q (_ : Array Value) (s : State) (o : Outcome) (t : State) : Prop := o = .returned (some (.int 1)) ∧ Framed s o t [] 600000 7302250
def lw_Z (below : List Frame) (a : Array Value) (s : State) : State → Prop := fun t => ∃ o, t.status = .running ∧ Ended t below o ∧ lw_Q a s o t
/-- the law's own end, with 1 on the stack, nothing written that was there before, its room as the claim has it -/
theorem lw_ret {p : Program} {l : Launch} {e : Env} {s : State} {m : MethodId} {below : List Frame} {meth : Method} {c : Code} {b : Nat} (hx : p.tables.exec = Jvm.exec) (hb : c.code = code) (hr : meth.sig.returnType = ret) (hlocks : meth.locks = false) {pc : Nat} {H : Heap} {ls : Array Slot} (hdg : decode code pc = .ok (.ireturn, 1)) : W p l e room_1 s m #[Value.ref b] below meth c H [] 600000 7302250 (lw_Z below #[Value.ref b] s) (F0 m pc ls [.int 1]) := by
  intro T hT X
  obtain ⟨fs, hret, hrun, hended, hW, hframe⟩ := X.leave (v := some (.int 1)) (hlocks := hlocks) (fun h => by rw [hr] at h; cases h)
  have hmeth' : T.vm.method? m = some meth := X.method'
  refine ⟨T.setFrames fs, ?_, .returned (some (.int 1)), hrun, hended, rfl, ⟨_, rfl⟩, hW, hframe⟩
  jvm_step X.here [X.here.top, hx, hb, hdg, hmeth', hr, ret, narrow_b1]
  (try refine ⟨rfl, ?_⟩); (try refine ⟨rfl, ?_⟩)
  first | (intro acts; rw [hret _ acts rfl rfl rfl]) | rw [hret _ _ rfl rfl rfl]
  exact Steps.refl _
/-- what holds at the law's entry: the machine, the code, the tables' words (any of lw_tbl by 'hts w (by decide +kernel)'), the script of L ints xs at the cell b, what the Statement gives of the start (any of its parts by flat_of_before) -/
def lw_At (p : Program) (s : State) (m : MethodId) (meth : Method) (c : Code) (b L : Nat) (xs : Nat → Int32) : Prop :=
  p.tables.exec = Jvm.exec ∧ c.code = code ∧ meth.sig.returnType = ret ∧ c.maxLocals = 4 ∧ s.vm.findClass R_law = some m.cls ∧ (∀ w ∈ lw_tbl, w.before #[Value.ref b] s = true) ∧ va_X b L xs s s.heap ∧ b < s.heap.size ∧ meth.locks = false ∧ (Jvm.Cond.and given_1 narrow_1).before #[Value.ref b] s = true

/-! the law's own rows: the script, its end -/
def mr_L (X : mz_Cx) (b : Nat) : Prop := mx_R X = room_1 ∧ mx_a X = #[Value.ref b] ∧ mx_Q X = lw_Z (mx_b X) #[Value.ref b] (mx_s X) ∧ (mx_h X).sig.returnType = ret ∧ (mx_h X).locks = false ∧ mx_k X ≤ 600000 ∧ mx_n X ≤ 7302250
section ML
variable {E : mz_En} {X : mz_Cx} {cc : ByteArray} {own : String} {nL fr lo pc pc' : Nat} {L L' : List (Nat × Value)} {st rest : List Value} {σ : mz_St}
theorem mr_sld (C : mz_C E X cc own nL fr lo) {b Ln : Nat} {xs : Nat → Int32} (hX : va_X b Ln xs (mx_s X) (mx_s X).heap) (hbl : b < (mx_s X).heap.size) (hbA : ¬ mz_AA E b) {i : Int32} (hin : vp_in i Ln) (d : mz_d cc pc (.iaload) 1 pc') (k : mz_G E X nL pc' L (.int (xs i.toNatClampNeg) :: st) σ) : mz_G E X nL pc L (.int i :: .ref b :: st) σ := by
  obtain ⟨d, rfl⟩ := d
  exact fun κ H locs ls hP hS hl => va_sld C.1 C.2.1 hX hbl hbA hS hin d (k κ H locs ls hP hS hl)
theorem mr_slen (C : mz_C E X cc own nL fr lo) {b Ln : Nat} {xs : Nat → Int32} (hX : va_X b Ln xs (mx_s X) (mx_s X).heap) (hbl : b < (mx_s X).heap.size) (hbA : ¬ mz_AA E b) (d : mz_d cc pc (.arraylength) 1 pc') (k : mz_G E X nL pc' L (.int (Int32.ofNat Ln) :: st) σ) : mz_G E X nL pc L (.ref b :: st) σ := by
  obtain ⟨d, rfl⟩ := d
  exact fun κ H locs ls hP hS hl => va_slen C.1 C.2.1 hX hbl hbA hS d (k κ H locs ls hP hS hl)
theorem mr_lret {b : Nat} (C : mz_C E X code own nL fr lo) (hA : ∀ k, k < mz_NC → (mx_s X).heap.size ≤ E.2.1 k) (RL : mr_L X b) {v : Int32} (h : v = 1) (d : mz_d code pc (.ireturn) 1 pc') : mz_G E X nL pc L [.int v] σ := by
  obtain ⟨d, rfl⟩ := d
  subst h
  intro κ H locs ls hP hS hl
  obtain ⟨hR, ha, hQ, hr, hlk, h1, h2⟩ := RL
  unfold mz_W
  refine va_forget (fun q hq => ?_) ?_
  · obtain ⟨k, hk, e⟩ := hS.2.2 q hq
    rw [e]
    exact hA k hk
  · refine W.widen h1 h2 ?_
    rw [hQ, ha, hR]
    exact lw_ret C.1 C.2.1 hr hlk d
end ML
abbrev mb_Law_law : ByteArray := code
theorem mk_iconst_6 : Int32.ofInt 6 = 6 := by decide
theorem ml_1 : (Jvm.Cond.initialized "ValueMill") ∈ mz_TB := mz_in (i := 108) (by decide +kernel) (by decide +kernel)
theorem ml_12 : (Jvm.Cond.initialized "ValueMillModel") ∈ mz_TB := mz_in (i := 119) (by decide +kernel) (by decide +kernel)
theorem ml_15 : (Jvm.Cond.classLink "ValueMillLaw" (7 : Nat) "ValueMill") ∈ mz_TB := mz_in (i := 122) (by decide +kernel) (by decide +kernel)
theorem ml_16 : (Jvm.Cond.instantiable "ValueMill" (12 : Nat)) ∈ mz_TB := mz_in (i := 123) (by decide +kernel) (by decide +kernel)
theorem ml_17 : (Jvm.Cond.methodLink "ValueMillLaw" (9 : Nat) ({ cls := "ValueMill", name := "<init>", desc := "()V" } : Jvm.MethodName)) ∈ mz_TB := mz_in (i := 124) (by decide +kernel) (by decide +kernel)
theorem ml_463 : (Jvm.Cond.methodLink "ValueMillLaw" (13 : Nat) ({ cls := "ValueMill", name := "block", desc := "()I" } : Jvm.MethodName)) ∈ mz_TB := mz_in (i := 570) (by decide +kernel) (by decide +kernel)
theorem ml_471 : (Jvm.Cond.methodLink "ValueMillLaw" (18 : Nat) ({ cls := "ValueMill", name := "op", desc := "(IIIII)Z" } : Jvm.MethodName)) ∈ mz_TB := mz_in (i := 578) (by decide +kernel) (by decide +kernel)
theorem ml_489 : (Jvm.Cond.methodLink "ValueMillLaw" (23 : Nat) ({ cls := "ValueMill", name := "jump", desc := "(II)Z" } : Jvm.MethodName)) ∈ mz_TB := mz_in (i := 596) (by decide +kernel) (by decide +kernel)
theorem ml_501 : (Jvm.Cond.methodLink "ValueMillLaw" (28 : Nat) ({ cls := "ValueMill", name := "branch", desc := "(IIII)Z" } : Jvm.MethodName)) ∈ mz_TB := mz_in (i := 608) (by decide +kernel) (by decide +kernel)
theorem ml_505 : (Jvm.Cond.methodLink "ValueMillLaw" (33 : Nat) ({ cls := "ValueMill", name := "ret", desc := "(II)Z" } : Jvm.MethodName)) ∈ mz_TB := mz_in (i := 612) (by decide +kernel) (by decide +kernel)
theorem ml_509 : (Jvm.Cond.methodLink "ValueMillLaw" (37 : Nat) ({ cls := "ValueMill", name := "memory", desc := "(II)Z" } : Jvm.MethodName)) ∈ mz_TB := mz_in (i := 616) (by decide +kernel) (by decide +kernel)
theorem ml_516 : (Jvm.Cond.methodLink "ValueMillLaw" (41 : Nat) ({ cls := "ValueMill", name := "run", desc := "(III)I" } : Jvm.MethodName)) ∈ mz_TB := mz_in (i := 623) (by decide +kernel) (by decide +kernel)
theorem ml_953 : (Jvm.Cond.methodLink "ValueMillLaw" (46 : Nat) ({ cls := "ValueMill", name := "value", desc := "()I" } : Jvm.MethodName)) ∈ mz_TB := mz_in (i := 1060) (by decide +kernel) (by decide +kernel)
theorem ml_957 : (Jvm.Cond.methodLink "ValueMillLaw" (50 : Nat) ({ cls := "ValueMill", name := "entered", desc := "()I" } : Jvm.MethodName)) ∈ mz_TB := mz_in (i := 1064) (by decide +kernel) (by decide +kernel)
theorem ml_961 : (Jvm.Cond.methodLink "ValueMillLaw" (54 : Nat) ({ cls := "ValueMill", name := "word", desc := "(I)I" } : Jvm.MethodName)) ∈ mz_TB := mz_in (i := 1068) (by decide +kernel) (by decide +kernel)
theorem ml_965 : (Jvm.Cond.methodLink "ValueMillLaw" (59 : Nat) ({ cls := "ValueMill", name := "calls", desc := "()I" } : Jvm.MethodName)) ∈ mz_TB := mz_in (i := 1072) (by decide +kernel) (by decide +kernel)
theorem ml_969 : (Jvm.Cond.methodLink "ValueMillLaw" (63 : Nat) ({ cls := "ValueMill", name := "call", desc := "(II)I" } : Jvm.MethodName)) ∈ mz_TB := mz_in (i := 1076) (by decide +kernel) (by decide +kernel)
theorem ml_977 : (Jvm.Cond.methodLink "ValueMillLaw" (68 : Nat) ({ cls := "ValueMill", name := "order", desc := "(I)I" } : Jvm.MethodName)) ∈ mz_TB := mz_in (i := 1084) (by decide +kernel) (by decide +kernel)
theorem ml_981 : (Jvm.Cond.methodLink "ValueMillLaw" (72 : Nat) ({ cls := "ValueMill", name := "nearest", desc := "(I)I" } : Jvm.MethodName)) ∈ mz_TB := mz_in (i := 1088) (by decide +kernel) (by decide +kernel)
theorem ml_990 : (Jvm.Cond.methodLink "ValueMillLaw" (76 : Nat) ({ cls := "ValueMill", name := "frontier", desc := "(II)Z" } : Jvm.MethodName)) ∈ mz_TB := mz_in (i := 1097) (by decide +kernel) (by decide +kernel)
theorem ml_995 : (Jvm.Cond.methodLink "ValueMillLaw" (80 : Nat) ({ cls := "ValueMill", name := "live", desc := "(II)Z" } : Jvm.MethodName)) ∈ mz_TB := mz_in (i := 1102) (by decide +kernel) (by decide +kernel)
theorem ml_999 : (Jvm.Cond.methodLink "ValueMillLaw" (84 : Nat) ({ cls := "ValueMill", name := "phi", desc := "(II)Z" } : Jvm.MethodName)) ∈ mz_TB := mz_in (i := 1106) (by decide +kernel) (by decide +kernel)
theorem ml_1003 : (Jvm.Cond.methodLink "ValueMillLaw" (88 : Nat) ({ cls := "ValueMill", name := "depth", desc := "(I)I" } : Jvm.MethodName)) ∈ mz_TB := mz_in (i := 1110) (by decide +kernel) (by decide +kernel)
theorem ml_1007 : (Jvm.Cond.classLink "ValueMillLaw" (10 : Nat) "ValueMillModel") ∈ mz_TB := mz_in (i := 1114) (by decide +kernel) (by decide +kernel)
theorem ml_1008 : (Jvm.Cond.instantiable "ValueMillModel" (18 : Nat)) ∈ mz_TB := mz_in (i := 1115) (by decide +kernel) (by decide +kernel)
theorem ml_1009 : (Jvm.Cond.methodLink "ValueMillLaw" (12 : Nat) ({ cls := "ValueMillModel", name := "<init>", desc := "()V" } : Jvm.MethodName)) ∈ mz_TB := mz_in (i := 1116) (by decide +kernel) (by decide +kernel)
theorem ml_1068 : (Jvm.Cond.methodLink "ValueMillLaw" (17 : Nat) ({ cls := "ValueMillModel", name := "block", desc := "()I" } : Jvm.MethodName)) ∈ mz_TB := mz_in (i := 1175) (by decide +kernel) (by decide +kernel)
theorem ml_1072 : (Jvm.Cond.methodLink "ValueMillLaw" (22 : Nat) ({ cls := "ValueMillModel", name := "op", desc := "(IIIII)Z" } : Jvm.MethodName)) ∈ mz_TB := mz_in (i := 1179) (by decide +kernel) (by decide +kernel)
theorem ml_1086 : (Jvm.Cond.methodLink "ValueMillLaw" (27 : Nat) ({ cls := "ValueMillModel", name := "jump", desc := "(II)Z" } : Jvm.MethodName)) ∈ mz_TB := mz_in (i := 1193) (by decide +kernel) (by decide +kernel)
theorem ml_1090 : (Jvm.Cond.methodLink "ValueMillLaw" (32 : Nat) ({ cls := "ValueMillModel", name := "branch", desc := "(IIII)Z" } : Jvm.MethodName)) ∈ mz_TB := mz_in (i := 1197) (by decide +kernel) (by decide +kernel)
theorem ml_1094 : (Jvm.Cond.methodLink "ValueMillLaw" (36 : Nat) ({ cls := "ValueMillModel", name := "ret", desc := "(II)Z" } : Jvm.MethodName)) ∈ mz_TB := mz_in (i := 1201) (by decide +kernel) (by decide +kernel)
theorem ml_1098 : (Jvm.Cond.methodLink "ValueMillLaw" (40 : Nat) ({ cls := "ValueMillModel", name := "memory", desc := "(II)Z" } : Jvm.MethodName)) ∈ mz_TB := mz_in (i := 1205) (by decide +kernel) (by decide +kernel)
theorem ml_1102 : (Jvm.Cond.methodLink "ValueMillLaw" (45 : Nat) ({ cls := "ValueMillModel", name := "run", desc := "(III)I" } : Jvm.MethodName)) ∈ mz_TB := mz_in (i := 1209) (by decide +kernel) (by decide +kernel)
theorem ml_1125 : (Jvm.Cond.methodLink "ValueMillLaw" (49 : Nat) ({ cls := "ValueMillModel", name := "value", desc := "()I" } : Jvm.MethodName)) ∈ mz_TB := mz_in (i := 1232) (by decide +kernel) (by decide +kernel)
theorem ml_1129 : (Jvm.Cond.methodLink "ValueMillLaw" (53 : Nat) ({ cls := "ValueMillModel", name := "entered", desc := "()I" } : Jvm.MethodName)) ∈ mz_TB := mz_in (i := 1236) (by decide +kernel) (by decide +kernel)
theorem ml_1133 : (Jvm.Cond.methodLink "ValueMillLaw" (58 : Nat) ({ cls := "ValueMillModel", name := "word", desc := "(I)I" } : Jvm.MethodName)) ∈ mz_TB := mz_in (i := 1240) (by decide +kernel) (by decide +kernel)
theorem ml_1137 : (Jvm.Cond.methodLink "ValueMillLaw" (62 : Nat) ({ cls := "ValueMillModel", name := "calls", desc := "()I" } : Jvm.MethodName)) ∈ mz_TB := mz_in (i := 1244) (by decide +kernel) (by decide +kernel)
theorem ml_1141 : (Jvm.Cond.methodLink "ValueMillLaw" (67 : Nat) ({ cls := "ValueMillModel", name := "call", desc := "(II)I" } : Jvm.MethodName)) ∈ mz_TB := mz_in (i := 1248) (by decide +kernel) (by decide +kernel)
theorem ml_1145 : (Jvm.Cond.methodLink "ValueMillLaw" (71 : Nat) ({ cls := "ValueMillModel", name := "order", desc := "(I)I" } : Jvm.MethodName)) ∈ mz_TB := mz_in (i := 1252) (by decide +kernel) (by decide +kernel)
theorem ml_1153 : (Jvm.Cond.methodLink "ValueMillLaw" (75 : Nat) ({ cls := "ValueMillModel", name := "nearest", desc := "(I)I" } : Jvm.MethodName)) ∈ mz_TB := mz_in (i := 1260) (by decide +kernel) (by decide +kernel)
theorem ml_1173 : (Jvm.Cond.methodLink "ValueMillLaw" (79 : Nat) ({ cls := "ValueMillModel", name := "frontier", desc := "(II)Z" } : Jvm.MethodName)) ∈ mz_TB := mz_in (i := 1280) (by decide +kernel) (by decide +kernel)
theorem ml_1177 : (Jvm.Cond.methodLink "ValueMillLaw" (83 : Nat) ({ cls := "ValueMillModel", name := "live", desc := "(II)Z" } : Jvm.MethodName)) ∈ mz_TB := mz_in (i := 1284) (by decide +kernel) (by decide +kernel)
theorem ml_1188 : (Jvm.Cond.methodLink "ValueMillLaw" (87 : Nat) ({ cls := "ValueMillModel", name := "phi", desc := "(II)Z" } : Jvm.MethodName)) ∈ mz_TB := mz_in (i := 1295) (by decide +kernel) (by decide +kernel)
theorem ml_1198 : (Jvm.Cond.methodLink "ValueMillLaw" (91 : Nat) ({ cls := "ValueMillModel", name := "depth", desc := "(I)I" } : Jvm.MethodName)) ∈ mz_TB := mz_in (i := 1305) (by decide +kernel) (by decide +kernel)
theorem md_Law_law_0 : mz_d mb_Law_law 0 (.new 7) 3 3 := ⟨by decide +kernel, rfl⟩
theorem md_Law_law_3 : mz_d mb_Law_law 3 (.dup) 1 4 := ⟨by decide +kernel, rfl⟩
theorem md_Law_law_4 : mz_d mb_Law_law 4 (.invokespecial 9) 3 7 := ⟨by decide +kernel, rfl⟩
theorem md_Law_law_7 : mz_d mb_Law_law 7 (.astore_n 1) 1 8 := ⟨by decide +kernel, rfl⟩
theorem md_Law_law_8 : mz_d mb_Law_law 8 (.new 10) 3 11 := ⟨by decide +kernel, rfl⟩
theorem md_Law_law_11 : mz_d mb_Law_law 11 (.dup) 1 12 := ⟨by decide +kernel, rfl⟩
theorem md_Law_law_12 : mz_d mb_Law_law 12 (.invokespecial 12) 3 15 := ⟨by decide +kernel, rfl⟩
theorem md_Law_law_15 : mz_d mb_Law_law 15 (.astore_n 2) 1 16 := ⟨by decide +kernel, rfl⟩
theorem md_Law_law_16 : mz_d mb_Law_law 16 (.iconst 0) 1 17 := ⟨by decide +kernel, rfl⟩
theorem md_Law_law_17 : mz_d mb_Law_law 17 (.istore_n 3) 1 18 := ⟨by decide +kernel, rfl⟩
theorem md_Law_law_18 : mz_d mb_Law_law 18 (.iload_n 3) 1 19 := ⟨by decide +kernel, rfl⟩
theorem md_Law_law_19 : mz_d mb_Law_law 19 (.aload_n 0) 1 20 := ⟨by decide +kernel, rfl⟩
theorem md_Law_law_20 : mz_d mb_Law_law 20 (.arraylength) 1 21 := ⟨by decide +kernel, rfl⟩
theorem md_Law_law_21 : mz_d mb_Law_law 21 (.bipush 6) 2 23 := ⟨by decide +kernel, rfl⟩
theorem md_Law_law_23 : mz_d mb_Law_law 23 (.isub) 1 24 := ⟨by decide +kernel, rfl⟩
theorem md_Law_law_24 : mz_d mb_Law_law 24 (.if_icmp .gt 636) 3 27 := ⟨by decide +kernel, rfl⟩
theorem md_Law_law_27 : mz_d mb_Law_law 27 (.aload_n 0) 1 28 := ⟨by decide +kernel, rfl⟩
theorem md_Law_law_28 : mz_d mb_Law_law 28 (.iload_n 3) 1 29 := ⟨by decide +kernel, rfl⟩
theorem md_Law_law_29 : mz_d mb_Law_law 29 (.iaload) 1 30 := ⟨by decide +kernel, rfl⟩
theorem md_Law_law_30 : mz_d mb_Law_law 30 (.bipush 31) 2 32 := ⟨by decide +kernel, rfl⟩
theorem md_Law_law_32 : mz_d mb_Law_law 32 (.iand) 1 33 := ⟨by decide +kernel, rfl⟩
theorem md_Law_law_33 : mz_d mb_Law_law 33 (.tableswitch 621 0 17 #[87, 100, 163, 196, 249, 282, 315, 358, 371, 384, 407, 420, 453, 476, 499, 532, 565, 598]) 87 120 := ⟨by decide +kernel, rfl⟩
theorem md_Law_law_120 : mz_d mb_Law_law 120 (.aload_n 1) 1 121 := ⟨by decide +kernel, rfl⟩
theorem md_Law_law_121 : mz_d mb_Law_law 121 (.invokevirtual 13) 3 124 := ⟨by decide +kernel, rfl⟩
theorem md_Law_law_124 : mz_d mb_Law_law 124 (.aload_n 2) 1 125 := ⟨by decide +kernel, rfl⟩
theorem md_Law_law_125 : mz_d mb_Law_law 125 (.invokevirtual 17) 3 128 := ⟨by decide +kernel, rfl⟩
theorem md_Law_law_128 : mz_d mb_Law_law 128 (.if_icmp .eq 526) 3 131 := ⟨by decide +kernel, rfl⟩
theorem md_Law_law_131 : mz_d mb_Law_law 131 (.iconst 0) 1 132 := ⟨by decide +kernel, rfl⟩
theorem md_Law_law_132 : mz_d mb_Law_law 132 (.ireturn) 1 133 := ⟨by decide +kernel, rfl⟩
theorem md_Law_law_133 : mz_d mb_Law_law 133 (.aload_n 1) 1 134 := ⟨by decide +kernel, rfl⟩
theorem md_Law_law_134 : mz_d mb_Law_law 134 (.aload_n 0) 1 135 := ⟨by decide +kernel, rfl⟩
theorem md_Law_law_135 : mz_d mb_Law_law 135 (.iload_n 3) 1 136 := ⟨by decide +kernel, rfl⟩
theorem md_Law_law_136 : mz_d mb_Law_law 136 (.iconst 1) 1 137 := ⟨by decide +kernel, rfl⟩
theorem md_Law_law_137 : mz_d mb_Law_law 137 (.iadd) 1 138 := ⟨by decide +kernel, rfl⟩
theorem md_Law_law_138 : mz_d mb_Law_law 138 (.iaload) 1 139 := ⟨by decide +kernel, rfl⟩
theorem md_Law_law_139 : mz_d mb_Law_law 139 (.aload_n 0) 1 140 := ⟨by decide +kernel, rfl⟩
theorem md_Law_law_140 : mz_d mb_Law_law 140 (.iload_n 3) 1 141 := ⟨by decide +kernel, rfl⟩
theorem md_Law_law_141 : mz_d mb_Law_law 141 (.iconst 2) 1 142 := ⟨by decide +kernel, rfl⟩
theorem md_Law_law_142 : mz_d mb_Law_law 142 (.iadd) 1 143 := ⟨by decide +kernel, rfl⟩
theorem md_Law_law_143 : mz_d mb_Law_law 143 (.iaload) 1 144 := ⟨by decide +kernel, rfl⟩
theorem md_Law_law_144 : mz_d mb_Law_law 144 (.aload_n 0) 1 145 := ⟨by decide +kernel, rfl⟩
theorem md_Law_law_145 : mz_d mb_Law_law 145 (.iload_n 3) 1 146 := ⟨by decide +kernel, rfl⟩
theorem md_Law_law_146 : mz_d mb_Law_law 146 (.iconst 3) 1 147 := ⟨by decide +kernel, rfl⟩
theorem md_Law_law_147 : mz_d mb_Law_law 147 (.iadd) 1 148 := ⟨by decide +kernel, rfl⟩
theorem md_Law_law_148 : mz_d mb_Law_law 148 (.iaload) 1 149 := ⟨by decide +kernel, rfl⟩
theorem md_Law_law_149 : mz_d mb_Law_law 149 (.aload_n 0) 1 150 := ⟨by decide +kernel, rfl⟩
theorem md_Law_law_150 : mz_d mb_Law_law 150 (.iload_n 3) 1 151 := ⟨by decide +kernel, rfl⟩
theorem md_Law_law_151 : mz_d mb_Law_law 151 (.iconst 4) 1 152 := ⟨by decide +kernel, rfl⟩
theorem md_Law_law_152 : mz_d mb_Law_law 152 (.iadd) 1 153 := ⟨by decide +kernel, rfl⟩
theorem md_Law_law_153 : mz_d mb_Law_law 153 (.iaload) 1 154 := ⟨by decide +kernel, rfl⟩
theorem md_Law_law_154 : mz_d mb_Law_law 154 (.aload_n 0) 1 155 := ⟨by decide +kernel, rfl⟩
theorem md_Law_law_155 : mz_d mb_Law_law 155 (.iload_n 3) 1 156 := ⟨by decide +kernel, rfl⟩
theorem md_Law_law_156 : mz_d mb_Law_law 156 (.iconst 5) 1 157 := ⟨by decide +kernel, rfl⟩
theorem md_Law_law_157 : mz_d mb_Law_law 157 (.iadd) 1 158 := ⟨by decide +kernel, rfl⟩
theorem md_Law_law_158 : mz_d mb_Law_law 158 (.iaload) 1 159 := ⟨by decide +kernel, rfl⟩
theorem md_Law_law_159 : mz_d mb_Law_law 159 (.invokevirtual 18) 3 162 := ⟨by decide +kernel, rfl⟩
theorem md_Law_law_162 : mz_d mb_Law_law 162 (.aload_n 2) 1 163 := ⟨by decide +kernel, rfl⟩
theorem md_Law_law_163 : mz_d mb_Law_law 163 (.aload_n 0) 1 164 := ⟨by decide +kernel, rfl⟩
theorem md_Law_law_164 : mz_d mb_Law_law 164 (.iload_n 3) 1 165 := ⟨by decide +kernel, rfl⟩
theorem md_Law_law_165 : mz_d mb_Law_law 165 (.iconst 1) 1 166 := ⟨by decide +kernel, rfl⟩
theorem md_Law_law_166 : mz_d mb_Law_law 166 (.iadd) 1 167 := ⟨by decide +kernel, rfl⟩
theorem md_Law_law_167 : mz_d mb_Law_law 167 (.iaload) 1 168 := ⟨by decide +kernel, rfl⟩
theorem md_Law_law_168 : mz_d mb_Law_law 168 (.aload_n 0) 1 169 := ⟨by decide +kernel, rfl⟩
theorem md_Law_law_169 : mz_d mb_Law_law 169 (.iload_n 3) 1 170 := ⟨by decide +kernel, rfl⟩
theorem md_Law_law_170 : mz_d mb_Law_law 170 (.iconst 2) 1 171 := ⟨by decide +kernel, rfl⟩
theorem md_Law_law_171 : mz_d mb_Law_law 171 (.iadd) 1 172 := ⟨by decide +kernel, rfl⟩
theorem md_Law_law_172 : mz_d mb_Law_law 172 (.iaload) 1 173 := ⟨by decide +kernel, rfl⟩
theorem md_Law_law_173 : mz_d mb_Law_law 173 (.aload_n 0) 1 174 := ⟨by decide +kernel, rfl⟩
theorem md_Law_law_174 : mz_d mb_Law_law 174 (.iload_n 3) 1 175 := ⟨by decide +kernel, rfl⟩
theorem md_Law_law_175 : mz_d mb_Law_law 175 (.iconst 3) 1 176 := ⟨by decide +kernel, rfl⟩
theorem md_Law_law_176 : mz_d mb_Law_law 176 (.iadd) 1 177 := ⟨by decide +kernel, rfl⟩
theorem md_Law_law_177 : mz_d mb_Law_law 177 (.iaload) 1 178 := ⟨by decide +kernel, rfl⟩
theorem md_Law_law_178 : mz_d mb_Law_law 178 (.aload_n 0) 1 179 := ⟨by decide +kernel, rfl⟩
theorem md_Law_law_179 : mz_d mb_Law_law 179 (.iload_n 3) 1 180 := ⟨by decide +kernel, rfl⟩
theorem md_Law_law_180 : mz_d mb_Law_law 180 (.iconst 4) 1 181 := ⟨by decide +kernel, rfl⟩
theorem md_Law_law_181 : mz_d mb_Law_law 181 (.iadd) 1 182 := ⟨by decide +kernel, rfl⟩
theorem md_Law_law_182 : mz_d mb_Law_law 182 (.iaload) 1 183 := ⟨by decide +kernel, rfl⟩
theorem md_Law_law_183 : mz_d mb_Law_law 183 (.aload_n 0) 1 184 := ⟨by decide +kernel, rfl⟩
theorem md_Law_law_184 : mz_d mb_Law_law 184 (.iload_n 3) 1 185 := ⟨by decide +kernel, rfl⟩
theorem md_Law_law_185 : mz_d mb_Law_law 185 (.iconst 5) 1 186 := ⟨by decide +kernel, rfl⟩
theorem md_Law_law_186 : mz_d mb_Law_law 186 (.iadd) 1 187 := ⟨by decide +kernel, rfl⟩
theorem md_Law_law_187 : mz_d mb_Law_law 187 (.iaload) 1 188 := ⟨by decide +kernel, rfl⟩
theorem md_Law_law_188 : mz_d mb_Law_law 188 (.invokevirtual 22) 3 191 := ⟨by decide +kernel, rfl⟩
theorem md_Law_law_191 : mz_d mb_Law_law 191 (.if_icmp .eq 463) 3 194 := ⟨by decide +kernel, rfl⟩
theorem md_Law_law_194 : mz_d mb_Law_law 194 (.iconst 0) 1 195 := ⟨by decide +kernel, rfl⟩
theorem md_Law_law_195 : mz_d mb_Law_law 195 (.ireturn) 1 196 := ⟨by decide +kernel, rfl⟩
theorem md_Law_law_196 : mz_d mb_Law_law 196 (.aload_n 1) 1 197 := ⟨by decide +kernel, rfl⟩
theorem md_Law_law_197 : mz_d mb_Law_law 197 (.aload_n 0) 1 198 := ⟨by decide +kernel, rfl⟩
theorem md_Law_law_198 : mz_d mb_Law_law 198 (.iload_n 3) 1 199 := ⟨by decide +kernel, rfl⟩
theorem md_Law_law_199 : mz_d mb_Law_law 199 (.iconst 1) 1 200 := ⟨by decide +kernel, rfl⟩
theorem md_Law_law_200 : mz_d mb_Law_law 200 (.iadd) 1 201 := ⟨by decide +kernel, rfl⟩
theorem md_Law_law_201 : mz_d mb_Law_law 201 (.iaload) 1 202 := ⟨by decide +kernel, rfl⟩
theorem md_Law_law_202 : mz_d mb_Law_law 202 (.aload_n 0) 1 203 := ⟨by decide +kernel, rfl⟩
theorem md_Law_law_203 : mz_d mb_Law_law 203 (.iload_n 3) 1 204 := ⟨by decide +kernel, rfl⟩
theorem md_Law_law_204 : mz_d mb_Law_law 204 (.iconst 2) 1 205 := ⟨by decide +kernel, rfl⟩
theorem md_Law_law_205 : mz_d mb_Law_law 205 (.iadd) 1 206 := ⟨by decide +kernel, rfl⟩
theorem md_Law_law_206 : mz_d mb_Law_law 206 (.iaload) 1 207 := ⟨by decide +kernel, rfl⟩
theorem md_Law_law_207 : mz_d mb_Law_law 207 (.invokevirtual 23) 3 210 := ⟨by decide +kernel, rfl⟩
theorem md_Law_law_210 : mz_d mb_Law_law 210 (.aload_n 2) 1 211 := ⟨by decide +kernel, rfl⟩
theorem md_Law_law_211 : mz_d mb_Law_law 211 (.aload_n 0) 1 212 := ⟨by decide +kernel, rfl⟩
theorem md_Law_law_212 : mz_d mb_Law_law 212 (.iload_n 3) 1 213 := ⟨by decide +kernel, rfl⟩
theorem md_Law_law_213 : mz_d mb_Law_law 213 (.iconst 1) 1 214 := ⟨by decide +kernel, rfl⟩
theorem md_Law_law_214 : mz_d mb_Law_law 214 (.iadd) 1 215 := ⟨by decide +kernel, rfl⟩
theorem md_Law_law_215 : mz_d mb_Law_law 215 (.iaload) 1 216 := ⟨by decide +kernel, rfl⟩
theorem md_Law_law_216 : mz_d mb_Law_law 216 (.aload_n 0) 1 217 := ⟨by decide +kernel, rfl⟩
theorem md_Law_law_217 : mz_d mb_Law_law 217 (.iload_n 3) 1 218 := ⟨by decide +kernel, rfl⟩
theorem md_Law_law_218 : mz_d mb_Law_law 218 (.iconst 2) 1 219 := ⟨by decide +kernel, rfl⟩
theorem md_Law_law_219 : mz_d mb_Law_law 219 (.iadd) 1 220 := ⟨by decide +kernel, rfl⟩
theorem md_Law_law_220 : mz_d mb_Law_law 220 (.iaload) 1 221 := ⟨by decide +kernel, rfl⟩
theorem md_Law_law_221 : mz_d mb_Law_law 221 (.invokevirtual 27) 3 224 := ⟨by decide +kernel, rfl⟩
theorem md_Law_law_224 : mz_d mb_Law_law 224 (.if_icmp .eq 430) 3 227 := ⟨by decide +kernel, rfl⟩
theorem md_Law_law_227 : mz_d mb_Law_law 227 (.iconst 0) 1 228 := ⟨by decide +kernel, rfl⟩
theorem md_Law_law_228 : mz_d mb_Law_law 228 (.ireturn) 1 229 := ⟨by decide +kernel, rfl⟩
theorem md_Law_law_229 : mz_d mb_Law_law 229 (.aload_n 1) 1 230 := ⟨by decide +kernel, rfl⟩
theorem md_Law_law_230 : mz_d mb_Law_law 230 (.aload_n 0) 1 231 := ⟨by decide +kernel, rfl⟩
theorem md_Law_law_231 : mz_d mb_Law_law 231 (.iload_n 3) 1 232 := ⟨by decide +kernel, rfl⟩
theorem md_Law_law_232 : mz_d mb_Law_law 232 (.iconst 1) 1 233 := ⟨by decide +kernel, rfl⟩
theorem md_Law_law_233 : mz_d mb_Law_law 233 (.iadd) 1 234 := ⟨by decide +kernel, rfl⟩
theorem md_Law_law_234 : mz_d mb_Law_law 234 (.iaload) 1 235 := ⟨by decide +kernel, rfl⟩
theorem md_Law_law_235 : mz_d mb_Law_law 235 (.aload_n 0) 1 236 := ⟨by decide +kernel, rfl⟩
theorem md_Law_law_236 : mz_d mb_Law_law 236 (.iload_n 3) 1 237 := ⟨by decide +kernel, rfl⟩
theorem md_Law_law_237 : mz_d mb_Law_law 237 (.iconst 2) 1 238 := ⟨by decide +kernel, rfl⟩
theorem md_Law_law_238 : mz_d mb_Law_law 238 (.iadd) 1 239 := ⟨by decide +kernel, rfl⟩
theorem md_Law_law_239 : mz_d mb_Law_law 239 (.iaload) 1 240 := ⟨by decide +kernel, rfl⟩
theorem md_Law_law_240 : mz_d mb_Law_law 240 (.aload_n 0) 1 241 := ⟨by decide +kernel, rfl⟩
theorem md_Law_law_241 : mz_d mb_Law_law 241 (.iload_n 3) 1 242 := ⟨by decide +kernel, rfl⟩
theorem md_Law_law_242 : mz_d mb_Law_law 242 (.iconst 3) 1 243 := ⟨by decide +kernel, rfl⟩
theorem md_Law_law_243 : mz_d mb_Law_law 243 (.iadd) 1 244 := ⟨by decide +kernel, rfl⟩
theorem md_Law_law_244 : mz_d mb_Law_law 244 (.iaload) 1 245 := ⟨by decide +kernel, rfl⟩
theorem md_Law_law_245 : mz_d mb_Law_law 245 (.aload_n 0) 1 246 := ⟨by decide +kernel, rfl⟩
theorem md_Law_law_246 : mz_d mb_Law_law 246 (.iload_n 3) 1 247 := ⟨by decide +kernel, rfl⟩
theorem md_Law_law_247 : mz_d mb_Law_law 247 (.iconst 4) 1 248 := ⟨by decide +kernel, rfl⟩
theorem md_Law_law_248 : mz_d mb_Law_law 248 (.iadd) 1 249 := ⟨by decide +kernel, rfl⟩
theorem md_Law_law_249 : mz_d mb_Law_law 249 (.iaload) 1 250 := ⟨by decide +kernel, rfl⟩
theorem md_Law_law_250 : mz_d mb_Law_law 250 (.invokevirtual 28) 3 253 := ⟨by decide +kernel, rfl⟩
theorem md_Law_law_253 : mz_d mb_Law_law 253 (.aload_n 2) 1 254 := ⟨by decide +kernel, rfl⟩
theorem md_Law_law_254 : mz_d mb_Law_law 254 (.aload_n 0) 1 255 := ⟨by decide +kernel, rfl⟩
theorem md_Law_law_255 : mz_d mb_Law_law 255 (.iload_n 3) 1 256 := ⟨by decide +kernel, rfl⟩
theorem md_Law_law_256 : mz_d mb_Law_law 256 (.iconst 1) 1 257 := ⟨by decide +kernel, rfl⟩
theorem md_Law_law_257 : mz_d mb_Law_law 257 (.iadd) 1 258 := ⟨by decide +kernel, rfl⟩
theorem md_Law_law_258 : mz_d mb_Law_law 258 (.iaload) 1 259 := ⟨by decide +kernel, rfl⟩
theorem md_Law_law_259 : mz_d mb_Law_law 259 (.aload_n 0) 1 260 := ⟨by decide +kernel, rfl⟩
theorem md_Law_law_260 : mz_d mb_Law_law 260 (.iload_n 3) 1 261 := ⟨by decide +kernel, rfl⟩
theorem md_Law_law_261 : mz_d mb_Law_law 261 (.iconst 2) 1 262 := ⟨by decide +kernel, rfl⟩
theorem md_Law_law_262 : mz_d mb_Law_law 262 (.iadd) 1 263 := ⟨by decide +kernel, rfl⟩
theorem md_Law_law_263 : mz_d mb_Law_law 263 (.iaload) 1 264 := ⟨by decide +kernel, rfl⟩
theorem md_Law_law_264 : mz_d mb_Law_law 264 (.aload_n 0) 1 265 := ⟨by decide +kernel, rfl⟩
theorem md_Law_law_265 : mz_d mb_Law_law 265 (.iload_n 3) 1 266 := ⟨by decide +kernel, rfl⟩
theorem md_Law_law_266 : mz_d mb_Law_law 266 (.iconst 3) 1 267 := ⟨by decide +kernel, rfl⟩
theorem md_Law_law_267 : mz_d mb_Law_law 267 (.iadd) 1 268 := ⟨by decide +kernel, rfl⟩
theorem md_Law_law_268 : mz_d mb_Law_law 268 (.iaload) 1 269 := ⟨by decide +kernel, rfl⟩
theorem md_Law_law_269 : mz_d mb_Law_law 269 (.aload_n 0) 1 270 := ⟨by decide +kernel, rfl⟩
theorem md_Law_law_270 : mz_d mb_Law_law 270 (.iload_n 3) 1 271 := ⟨by decide +kernel, rfl⟩
theorem md_Law_law_271 : mz_d mb_Law_law 271 (.iconst 4) 1 272 := ⟨by decide +kernel, rfl⟩
theorem md_Law_law_272 : mz_d mb_Law_law 272 (.iadd) 1 273 := ⟨by decide +kernel, rfl⟩
theorem md_Law_law_273 : mz_d mb_Law_law 273 (.iaload) 1 274 := ⟨by decide +kernel, rfl⟩
theorem md_Law_law_274 : mz_d mb_Law_law 274 (.invokevirtual 32) 3 277 := ⟨by decide +kernel, rfl⟩
theorem md_Law_law_277 : mz_d mb_Law_law 277 (.if_icmp .eq 377) 3 280 := ⟨by decide +kernel, rfl⟩
theorem md_Law_law_280 : mz_d mb_Law_law 280 (.iconst 0) 1 281 := ⟨by decide +kernel, rfl⟩
theorem md_Law_law_281 : mz_d mb_Law_law 281 (.ireturn) 1 282 := ⟨by decide +kernel, rfl⟩
theorem md_Law_law_282 : mz_d mb_Law_law 282 (.aload_n 1) 1 283 := ⟨by decide +kernel, rfl⟩
theorem md_Law_law_283 : mz_d mb_Law_law 283 (.aload_n 0) 1 284 := ⟨by decide +kernel, rfl⟩
theorem md_Law_law_284 : mz_d mb_Law_law 284 (.iload_n 3) 1 285 := ⟨by decide +kernel, rfl⟩
theorem md_Law_law_285 : mz_d mb_Law_law 285 (.iconst 1) 1 286 := ⟨by decide +kernel, rfl⟩
theorem md_Law_law_286 : mz_d mb_Law_law 286 (.iadd) 1 287 := ⟨by decide +kernel, rfl⟩
theorem md_Law_law_287 : mz_d mb_Law_law 287 (.iaload) 1 288 := ⟨by decide +kernel, rfl⟩
theorem md_Law_law_288 : mz_d mb_Law_law 288 (.aload_n 0) 1 289 := ⟨by decide +kernel, rfl⟩
theorem md_Law_law_289 : mz_d mb_Law_law 289 (.iload_n 3) 1 290 := ⟨by decide +kernel, rfl⟩
theorem md_Law_law_290 : mz_d mb_Law_law 290 (.iconst 2) 1 291 := ⟨by decide +kernel, rfl⟩
theorem md_Law_law_291 : mz_d mb_Law_law 291 (.iadd) 1 292 := ⟨by decide +kernel, rfl⟩
theorem md_Law_law_292 : mz_d mb_Law_law 292 (.iaload) 1 293 := ⟨by decide +kernel, rfl⟩
theorem md_Law_law_293 : mz_d mb_Law_law 293 (.invokevirtual 33) 3 296 := ⟨by decide +kernel, rfl⟩
theorem md_Law_law_296 : mz_d mb_Law_law 296 (.aload_n 2) 1 297 := ⟨by decide +kernel, rfl⟩
theorem md_Law_law_297 : mz_d mb_Law_law 297 (.aload_n 0) 1 298 := ⟨by decide +kernel, rfl⟩
theorem md_Law_law_298 : mz_d mb_Law_law 298 (.iload_n 3) 1 299 := ⟨by decide +kernel, rfl⟩
theorem md_Law_law_299 : mz_d mb_Law_law 299 (.iconst 1) 1 300 := ⟨by decide +kernel, rfl⟩
theorem md_Law_law_300 : mz_d mb_Law_law 300 (.iadd) 1 301 := ⟨by decide +kernel, rfl⟩
theorem md_Law_law_301 : mz_d mb_Law_law 301 (.iaload) 1 302 := ⟨by decide +kernel, rfl⟩
theorem md_Law_law_302 : mz_d mb_Law_law 302 (.aload_n 0) 1 303 := ⟨by decide +kernel, rfl⟩
theorem md_Law_law_303 : mz_d mb_Law_law 303 (.iload_n 3) 1 304 := ⟨by decide +kernel, rfl⟩
theorem md_Law_law_304 : mz_d mb_Law_law 304 (.iconst 2) 1 305 := ⟨by decide +kernel, rfl⟩
theorem md_Law_law_305 : mz_d mb_Law_law 305 (.iadd) 1 306 := ⟨by decide +kernel, rfl⟩
theorem md_Law_law_306 : mz_d mb_Law_law 306 (.iaload) 1 307 := ⟨by decide +kernel, rfl⟩
theorem md_Law_law_307 : mz_d mb_Law_law 307 (.invokevirtual 36) 3 310 := ⟨by decide +kernel, rfl⟩
theorem md_Law_law_310 : mz_d mb_Law_law 310 (.if_icmp .eq 344) 3 313 := ⟨by decide +kernel, rfl⟩
theorem md_Law_law_313 : mz_d mb_Law_law 313 (.iconst 0) 1 314 := ⟨by decide +kernel, rfl⟩
theorem md_Law_law_314 : mz_d mb_Law_law 314 (.ireturn) 1 315 := ⟨by decide +kernel, rfl⟩
theorem md_Law_law_315 : mz_d mb_Law_law 315 (.aload_n 1) 1 316 := ⟨by decide +kernel, rfl⟩
theorem md_Law_law_316 : mz_d mb_Law_law 316 (.aload_n 0) 1 317 := ⟨by decide +kernel, rfl⟩
theorem md_Law_law_317 : mz_d mb_Law_law 317 (.iload_n 3) 1 318 := ⟨by decide +kernel, rfl⟩
theorem md_Law_law_318 : mz_d mb_Law_law 318 (.iconst 1) 1 319 := ⟨by decide +kernel, rfl⟩
theorem md_Law_law_319 : mz_d mb_Law_law 319 (.iadd) 1 320 := ⟨by decide +kernel, rfl⟩
theorem md_Law_law_320 : mz_d mb_Law_law 320 (.iaload) 1 321 := ⟨by decide +kernel, rfl⟩
theorem md_Law_law_321 : mz_d mb_Law_law 321 (.aload_n 0) 1 322 := ⟨by decide +kernel, rfl⟩
theorem md_Law_law_322 : mz_d mb_Law_law 322 (.iload_n 3) 1 323 := ⟨by decide +kernel, rfl⟩
theorem md_Law_law_323 : mz_d mb_Law_law 323 (.iconst 2) 1 324 := ⟨by decide +kernel, rfl⟩
theorem md_Law_law_324 : mz_d mb_Law_law 324 (.iadd) 1 325 := ⟨by decide +kernel, rfl⟩
theorem md_Law_law_325 : mz_d mb_Law_law 325 (.iaload) 1 326 := ⟨by decide +kernel, rfl⟩
theorem md_Law_law_326 : mz_d mb_Law_law 326 (.invokevirtual 37) 3 329 := ⟨by decide +kernel, rfl⟩
theorem md_Law_law_329 : mz_d mb_Law_law 329 (.aload_n 2) 1 330 := ⟨by decide +kernel, rfl⟩
theorem md_Law_law_330 : mz_d mb_Law_law 330 (.aload_n 0) 1 331 := ⟨by decide +kernel, rfl⟩
theorem md_Law_law_331 : mz_d mb_Law_law 331 (.iload_n 3) 1 332 := ⟨by decide +kernel, rfl⟩
theorem md_Law_law_332 : mz_d mb_Law_law 332 (.iconst 1) 1 333 := ⟨by decide +kernel, rfl⟩
theorem md_Law_law_333 : mz_d mb_Law_law 333 (.iadd) 1 334 := ⟨by decide +kernel, rfl⟩
theorem md_Law_law_334 : mz_d mb_Law_law 334 (.iaload) 1 335 := ⟨by decide +kernel, rfl⟩
theorem md_Law_law_335 : mz_d mb_Law_law 335 (.aload_n 0) 1 336 := ⟨by decide +kernel, rfl⟩
theorem md_Law_law_336 : mz_d mb_Law_law 336 (.iload_n 3) 1 337 := ⟨by decide +kernel, rfl⟩
theorem md_Law_law_337 : mz_d mb_Law_law 337 (.iconst 2) 1 338 := ⟨by decide +kernel, rfl⟩
theorem md_Law_law_338 : mz_d mb_Law_law 338 (.iadd) 1 339 := ⟨by decide +kernel, rfl⟩
theorem md_Law_law_339 : mz_d mb_Law_law 339 (.iaload) 1 340 := ⟨by decide +kernel, rfl⟩
theorem md_Law_law_340 : mz_d mb_Law_law 340 (.invokevirtual 40) 3 343 := ⟨by decide +kernel, rfl⟩
theorem md_Law_law_343 : mz_d mb_Law_law 343 (.if_icmp .eq 311) 3 346 := ⟨by decide +kernel, rfl⟩
theorem md_Law_law_346 : mz_d mb_Law_law 346 (.iconst 0) 1 347 := ⟨by decide +kernel, rfl⟩
theorem md_Law_law_347 : mz_d mb_Law_law 347 (.ireturn) 1 348 := ⟨by decide +kernel, rfl⟩
theorem md_Law_law_348 : mz_d mb_Law_law 348 (.aload_n 1) 1 349 := ⟨by decide +kernel, rfl⟩
theorem md_Law_law_349 : mz_d mb_Law_law 349 (.aload_n 0) 1 350 := ⟨by decide +kernel, rfl⟩
theorem md_Law_law_350 : mz_d mb_Law_law 350 (.iload_n 3) 1 351 := ⟨by decide +kernel, rfl⟩
theorem md_Law_law_351 : mz_d mb_Law_law 351 (.iconst 1) 1 352 := ⟨by decide +kernel, rfl⟩
theorem md_Law_law_352 : mz_d mb_Law_law 352 (.iadd) 1 353 := ⟨by decide +kernel, rfl⟩
theorem md_Law_law_353 : mz_d mb_Law_law 353 (.iaload) 1 354 := ⟨by decide +kernel, rfl⟩
theorem md_Law_law_354 : mz_d mb_Law_law 354 (.aload_n 0) 1 355 := ⟨by decide +kernel, rfl⟩
theorem md_Law_law_355 : mz_d mb_Law_law 355 (.iload_n 3) 1 356 := ⟨by decide +kernel, rfl⟩
theorem md_Law_law_356 : mz_d mb_Law_law 356 (.iconst 2) 1 357 := ⟨by decide +kernel, rfl⟩
theorem md_Law_law_357 : mz_d mb_Law_law 357 (.iadd) 1 358 := ⟨by decide +kernel, rfl⟩
theorem md_Law_law_358 : mz_d mb_Law_law 358 (.iaload) 1 359 := ⟨by decide +kernel, rfl⟩
theorem md_Law_law_359 : mz_d mb_Law_law 359 (.aload_n 0) 1 360 := ⟨by decide +kernel, rfl⟩
theorem md_Law_law_360 : mz_d mb_Law_law 360 (.iload_n 3) 1 361 := ⟨by decide +kernel, rfl⟩
theorem md_Law_law_361 : mz_d mb_Law_law 361 (.iconst 3) 1 362 := ⟨by decide +kernel, rfl⟩
theorem md_Law_law_362 : mz_d mb_Law_law 362 (.iadd) 1 363 := ⟨by decide +kernel, rfl⟩
theorem md_Law_law_363 : mz_d mb_Law_law 363 (.iaload) 1 364 := ⟨by decide +kernel, rfl⟩
theorem md_Law_law_364 : mz_d mb_Law_law 364 (.invokevirtual 41) 3 367 := ⟨by decide +kernel, rfl⟩
theorem md_Law_law_367 : mz_d mb_Law_law 367 (.aload_n 2) 1 368 := ⟨by decide +kernel, rfl⟩
theorem md_Law_law_368 : mz_d mb_Law_law 368 (.aload_n 0) 1 369 := ⟨by decide +kernel, rfl⟩
theorem md_Law_law_369 : mz_d mb_Law_law 369 (.iload_n 3) 1 370 := ⟨by decide +kernel, rfl⟩
theorem md_Law_law_370 : mz_d mb_Law_law 370 (.iconst 1) 1 371 := ⟨by decide +kernel, rfl⟩
theorem md_Law_law_371 : mz_d mb_Law_law 371 (.iadd) 1 372 := ⟨by decide +kernel, rfl⟩
theorem md_Law_law_372 : mz_d mb_Law_law 372 (.iaload) 1 373 := ⟨by decide +kernel, rfl⟩
theorem md_Law_law_373 : mz_d mb_Law_law 373 (.aload_n 0) 1 374 := ⟨by decide +kernel, rfl⟩
theorem md_Law_law_374 : mz_d mb_Law_law 374 (.iload_n 3) 1 375 := ⟨by decide +kernel, rfl⟩
theorem md_Law_law_375 : mz_d mb_Law_law 375 (.iconst 2) 1 376 := ⟨by decide +kernel, rfl⟩
theorem md_Law_law_376 : mz_d mb_Law_law 376 (.iadd) 1 377 := ⟨by decide +kernel, rfl⟩
theorem md_Law_law_377 : mz_d mb_Law_law 377 (.iaload) 1 378 := ⟨by decide +kernel, rfl⟩
theorem md_Law_law_378 : mz_d mb_Law_law 378 (.aload_n 0) 1 379 := ⟨by decide +kernel, rfl⟩
theorem md_Law_law_379 : mz_d mb_Law_law 379 (.iload_n 3) 1 380 := ⟨by decide +kernel, rfl⟩
theorem md_Law_law_380 : mz_d mb_Law_law 380 (.iconst 3) 1 381 := ⟨by decide +kernel, rfl⟩
theorem md_Law_law_381 : mz_d mb_Law_law 381 (.iadd) 1 382 := ⟨by decide +kernel, rfl⟩
theorem md_Law_law_382 : mz_d mb_Law_law 382 (.iaload) 1 383 := ⟨by decide +kernel, rfl⟩
theorem md_Law_law_383 : mz_d mb_Law_law 383 (.invokevirtual 45) 3 386 := ⟨by decide +kernel, rfl⟩
theorem md_Law_law_386 : mz_d mb_Law_law 386 (.if_icmp .eq 268) 3 389 := ⟨by decide +kernel, rfl⟩
theorem md_Law_law_389 : mz_d mb_Law_law 389 (.iconst 0) 1 390 := ⟨by decide +kernel, rfl⟩
theorem md_Law_law_390 : mz_d mb_Law_law 390 (.ireturn) 1 391 := ⟨by decide +kernel, rfl⟩
theorem md_Law_law_391 : mz_d mb_Law_law 391 (.aload_n 1) 1 392 := ⟨by decide +kernel, rfl⟩
theorem md_Law_law_392 : mz_d mb_Law_law 392 (.invokevirtual 46) 3 395 := ⟨by decide +kernel, rfl⟩
theorem md_Law_law_395 : mz_d mb_Law_law 395 (.aload_n 2) 1 396 := ⟨by decide +kernel, rfl⟩
theorem md_Law_law_396 : mz_d mb_Law_law 396 (.invokevirtual 49) 3 399 := ⟨by decide +kernel, rfl⟩
theorem md_Law_law_399 : mz_d mb_Law_law 399 (.if_icmp .eq 255) 3 402 := ⟨by decide +kernel, rfl⟩
theorem md_Law_law_402 : mz_d mb_Law_law 402 (.iconst 0) 1 403 := ⟨by decide +kernel, rfl⟩
theorem md_Law_law_403 : mz_d mb_Law_law 403 (.ireturn) 1 404 := ⟨by decide +kernel, rfl⟩
theorem md_Law_law_404 : mz_d mb_Law_law 404 (.aload_n 1) 1 405 := ⟨by decide +kernel, rfl⟩
theorem md_Law_law_405 : mz_d mb_Law_law 405 (.invokevirtual 50) 3 408 := ⟨by decide +kernel, rfl⟩
theorem md_Law_law_408 : mz_d mb_Law_law 408 (.aload_n 2) 1 409 := ⟨by decide +kernel, rfl⟩
theorem md_Law_law_409 : mz_d mb_Law_law 409 (.invokevirtual 53) 3 412 := ⟨by decide +kernel, rfl⟩
theorem md_Law_law_412 : mz_d mb_Law_law 412 (.if_icmp .eq 242) 3 415 := ⟨by decide +kernel, rfl⟩
theorem md_Law_law_415 : mz_d mb_Law_law 415 (.iconst 0) 1 416 := ⟨by decide +kernel, rfl⟩
theorem md_Law_law_416 : mz_d mb_Law_law 416 (.ireturn) 1 417 := ⟨by decide +kernel, rfl⟩
theorem md_Law_law_417 : mz_d mb_Law_law 417 (.aload_n 1) 1 418 := ⟨by decide +kernel, rfl⟩
theorem md_Law_law_418 : mz_d mb_Law_law 418 (.aload_n 0) 1 419 := ⟨by decide +kernel, rfl⟩
theorem md_Law_law_419 : mz_d mb_Law_law 419 (.iload_n 3) 1 420 := ⟨by decide +kernel, rfl⟩
theorem md_Law_law_420 : mz_d mb_Law_law 420 (.iconst 1) 1 421 := ⟨by decide +kernel, rfl⟩
theorem md_Law_law_421 : mz_d mb_Law_law 421 (.iadd) 1 422 := ⟨by decide +kernel, rfl⟩
theorem md_Law_law_422 : mz_d mb_Law_law 422 (.iaload) 1 423 := ⟨by decide +kernel, rfl⟩
theorem md_Law_law_423 : mz_d mb_Law_law 423 (.invokevirtual 54) 3 426 := ⟨by decide +kernel, rfl⟩
theorem md_Law_law_426 : mz_d mb_Law_law 426 (.aload_n 2) 1 427 := ⟨by decide +kernel, rfl⟩
theorem md_Law_law_427 : mz_d mb_Law_law 427 (.aload_n 0) 1 428 := ⟨by decide +kernel, rfl⟩
theorem md_Law_law_428 : mz_d mb_Law_law 428 (.iload_n 3) 1 429 := ⟨by decide +kernel, rfl⟩
theorem md_Law_law_429 : mz_d mb_Law_law 429 (.iconst 1) 1 430 := ⟨by decide +kernel, rfl⟩
theorem md_Law_law_430 : mz_d mb_Law_law 430 (.iadd) 1 431 := ⟨by decide +kernel, rfl⟩
theorem md_Law_law_431 : mz_d mb_Law_law 431 (.iaload) 1 432 := ⟨by decide +kernel, rfl⟩
theorem md_Law_law_432 : mz_d mb_Law_law 432 (.invokevirtual 58) 3 435 := ⟨by decide +kernel, rfl⟩
theorem md_Law_law_435 : mz_d mb_Law_law 435 (.if_icmp .eq 219) 3 438 := ⟨by decide +kernel, rfl⟩
theorem md_Law_law_438 : mz_d mb_Law_law 438 (.iconst 0) 1 439 := ⟨by decide +kernel, rfl⟩
theorem md_Law_law_439 : mz_d mb_Law_law 439 (.ireturn) 1 440 := ⟨by decide +kernel, rfl⟩
theorem md_Law_law_440 : mz_d mb_Law_law 440 (.aload_n 1) 1 441 := ⟨by decide +kernel, rfl⟩
theorem md_Law_law_441 : mz_d mb_Law_law 441 (.invokevirtual 59) 3 444 := ⟨by decide +kernel, rfl⟩
theorem md_Law_law_444 : mz_d mb_Law_law 444 (.aload_n 2) 1 445 := ⟨by decide +kernel, rfl⟩
theorem md_Law_law_445 : mz_d mb_Law_law 445 (.invokevirtual 62) 3 448 := ⟨by decide +kernel, rfl⟩
theorem md_Law_law_448 : mz_d mb_Law_law 448 (.if_icmp .eq 206) 3 451 := ⟨by decide +kernel, rfl⟩
theorem md_Law_law_451 : mz_d mb_Law_law 451 (.iconst 0) 1 452 := ⟨by decide +kernel, rfl⟩
theorem md_Law_law_452 : mz_d mb_Law_law 452 (.ireturn) 1 453 := ⟨by decide +kernel, rfl⟩
theorem md_Law_law_453 : mz_d mb_Law_law 453 (.aload_n 1) 1 454 := ⟨by decide +kernel, rfl⟩
theorem md_Law_law_454 : mz_d mb_Law_law 454 (.aload_n 0) 1 455 := ⟨by decide +kernel, rfl⟩
theorem md_Law_law_455 : mz_d mb_Law_law 455 (.iload_n 3) 1 456 := ⟨by decide +kernel, rfl⟩
theorem md_Law_law_456 : mz_d mb_Law_law 456 (.iconst 1) 1 457 := ⟨by decide +kernel, rfl⟩
theorem md_Law_law_457 : mz_d mb_Law_law 457 (.iadd) 1 458 := ⟨by decide +kernel, rfl⟩
theorem md_Law_law_458 : mz_d mb_Law_law 458 (.iaload) 1 459 := ⟨by decide +kernel, rfl⟩
theorem md_Law_law_459 : mz_d mb_Law_law 459 (.aload_n 0) 1 460 := ⟨by decide +kernel, rfl⟩
theorem md_Law_law_460 : mz_d mb_Law_law 460 (.iload_n 3) 1 461 := ⟨by decide +kernel, rfl⟩
theorem md_Law_law_461 : mz_d mb_Law_law 461 (.iconst 2) 1 462 := ⟨by decide +kernel, rfl⟩
theorem md_Law_law_462 : mz_d mb_Law_law 462 (.iadd) 1 463 := ⟨by decide +kernel, rfl⟩
theorem md_Law_law_463 : mz_d mb_Law_law 463 (.iaload) 1 464 := ⟨by decide +kernel, rfl⟩
theorem md_Law_law_464 : mz_d mb_Law_law 464 (.invokevirtual 63) 3 467 := ⟨by decide +kernel, rfl⟩
theorem md_Law_law_467 : mz_d mb_Law_law 467 (.aload_n 2) 1 468 := ⟨by decide +kernel, rfl⟩
theorem md_Law_law_468 : mz_d mb_Law_law 468 (.aload_n 0) 1 469 := ⟨by decide +kernel, rfl⟩
theorem md_Law_law_469 : mz_d mb_Law_law 469 (.iload_n 3) 1 470 := ⟨by decide +kernel, rfl⟩
theorem md_Law_law_470 : mz_d mb_Law_law 470 (.iconst 1) 1 471 := ⟨by decide +kernel, rfl⟩
theorem md_Law_law_471 : mz_d mb_Law_law 471 (.iadd) 1 472 := ⟨by decide +kernel, rfl⟩
theorem md_Law_law_472 : mz_d mb_Law_law 472 (.iaload) 1 473 := ⟨by decide +kernel, rfl⟩
theorem md_Law_law_473 : mz_d mb_Law_law 473 (.aload_n 0) 1 474 := ⟨by decide +kernel, rfl⟩
theorem md_Law_law_474 : mz_d mb_Law_law 474 (.iload_n 3) 1 475 := ⟨by decide +kernel, rfl⟩
theorem md_Law_law_475 : mz_d mb_Law_law 475 (.iconst 2) 1 476 := ⟨by decide +kernel, rfl⟩
theorem md_Law_law_476 : mz_d mb_Law_law 476 (.iadd) 1 477 := ⟨by decide +kernel, rfl⟩
theorem md_Law_law_477 : mz_d mb_Law_law 477 (.iaload) 1 478 := ⟨by decide +kernel, rfl⟩
theorem md_Law_law_478 : mz_d mb_Law_law 478 (.invokevirtual 67) 3 481 := ⟨by decide +kernel, rfl⟩
theorem md_Law_law_481 : mz_d mb_Law_law 481 (.if_icmp .eq 173) 3 484 := ⟨by decide +kernel, rfl⟩
theorem md_Law_law_484 : mz_d mb_Law_law 484 (.iconst 0) 1 485 := ⟨by decide +kernel, rfl⟩
theorem md_Law_law_485 : mz_d mb_Law_law 485 (.ireturn) 1 486 := ⟨by decide +kernel, rfl⟩
theorem md_Law_law_486 : mz_d mb_Law_law 486 (.aload_n 1) 1 487 := ⟨by decide +kernel, rfl⟩
theorem md_Law_law_487 : mz_d mb_Law_law 487 (.aload_n 0) 1 488 := ⟨by decide +kernel, rfl⟩
theorem md_Law_law_488 : mz_d mb_Law_law 488 (.iload_n 3) 1 489 := ⟨by decide +kernel, rfl⟩
theorem md_Law_law_489 : mz_d mb_Law_law 489 (.iconst 1) 1 490 := ⟨by decide +kernel, rfl⟩
theorem md_Law_law_490 : mz_d mb_Law_law 490 (.iadd) 1 491 := ⟨by decide +kernel, rfl⟩
theorem md_Law_law_491 : mz_d mb_Law_law 491 (.iaload) 1 492 := ⟨by decide +kernel, rfl⟩
theorem md_Law_law_492 : mz_d mb_Law_law 492 (.invokevirtual 68) 3 495 := ⟨by decide +kernel, rfl⟩
theorem md_Law_law_495 : mz_d mb_Law_law 495 (.aload_n 2) 1 496 := ⟨by decide +kernel, rfl⟩
theorem md_Law_law_496 : mz_d mb_Law_law 496 (.aload_n 0) 1 497 := ⟨by decide +kernel, rfl⟩
theorem md_Law_law_497 : mz_d mb_Law_law 497 (.iload_n 3) 1 498 := ⟨by decide +kernel, rfl⟩
theorem md_Law_law_498 : mz_d mb_Law_law 498 (.iconst 1) 1 499 := ⟨by decide +kernel, rfl⟩
theorem md_Law_law_499 : mz_d mb_Law_law 499 (.iadd) 1 500 := ⟨by decide +kernel, rfl⟩
theorem md_Law_law_500 : mz_d mb_Law_law 500 (.iaload) 1 501 := ⟨by decide +kernel, rfl⟩
theorem md_Law_law_501 : mz_d mb_Law_law 501 (.invokevirtual 71) 3 504 := ⟨by decide +kernel, rfl⟩
theorem md_Law_law_504 : mz_d mb_Law_law 504 (.if_icmp .eq 150) 3 507 := ⟨by decide +kernel, rfl⟩
theorem md_Law_law_507 : mz_d mb_Law_law 507 (.iconst 0) 1 508 := ⟨by decide +kernel, rfl⟩
theorem md_Law_law_508 : mz_d mb_Law_law 508 (.ireturn) 1 509 := ⟨by decide +kernel, rfl⟩
theorem md_Law_law_509 : mz_d mb_Law_law 509 (.aload_n 1) 1 510 := ⟨by decide +kernel, rfl⟩
theorem md_Law_law_510 : mz_d mb_Law_law 510 (.aload_n 0) 1 511 := ⟨by decide +kernel, rfl⟩
theorem md_Law_law_511 : mz_d mb_Law_law 511 (.iload_n 3) 1 512 := ⟨by decide +kernel, rfl⟩
theorem md_Law_law_512 : mz_d mb_Law_law 512 (.iconst 1) 1 513 := ⟨by decide +kernel, rfl⟩
theorem md_Law_law_513 : mz_d mb_Law_law 513 (.iadd) 1 514 := ⟨by decide +kernel, rfl⟩
theorem md_Law_law_514 : mz_d mb_Law_law 514 (.iaload) 1 515 := ⟨by decide +kernel, rfl⟩
theorem md_Law_law_515 : mz_d mb_Law_law 515 (.invokevirtual 72) 3 518 := ⟨by decide +kernel, rfl⟩
theorem md_Law_law_518 : mz_d mb_Law_law 518 (.aload_n 2) 1 519 := ⟨by decide +kernel, rfl⟩
theorem md_Law_law_519 : mz_d mb_Law_law 519 (.aload_n 0) 1 520 := ⟨by decide +kernel, rfl⟩
theorem md_Law_law_520 : mz_d mb_Law_law 520 (.iload_n 3) 1 521 := ⟨by decide +kernel, rfl⟩
theorem md_Law_law_521 : mz_d mb_Law_law 521 (.iconst 1) 1 522 := ⟨by decide +kernel, rfl⟩
theorem md_Law_law_522 : mz_d mb_Law_law 522 (.iadd) 1 523 := ⟨by decide +kernel, rfl⟩
theorem md_Law_law_523 : mz_d mb_Law_law 523 (.iaload) 1 524 := ⟨by decide +kernel, rfl⟩
theorem md_Law_law_524 : mz_d mb_Law_law 524 (.invokevirtual 75) 3 527 := ⟨by decide +kernel, rfl⟩
theorem md_Law_law_527 : mz_d mb_Law_law 527 (.if_icmp .eq 127) 3 530 := ⟨by decide +kernel, rfl⟩
theorem md_Law_law_530 : mz_d mb_Law_law 530 (.iconst 0) 1 531 := ⟨by decide +kernel, rfl⟩
theorem md_Law_law_531 : mz_d mb_Law_law 531 (.ireturn) 1 532 := ⟨by decide +kernel, rfl⟩
theorem md_Law_law_532 : mz_d mb_Law_law 532 (.aload_n 1) 1 533 := ⟨by decide +kernel, rfl⟩
theorem md_Law_law_533 : mz_d mb_Law_law 533 (.aload_n 0) 1 534 := ⟨by decide +kernel, rfl⟩
theorem md_Law_law_534 : mz_d mb_Law_law 534 (.iload_n 3) 1 535 := ⟨by decide +kernel, rfl⟩
theorem md_Law_law_535 : mz_d mb_Law_law 535 (.iconst 1) 1 536 := ⟨by decide +kernel, rfl⟩
theorem md_Law_law_536 : mz_d mb_Law_law 536 (.iadd) 1 537 := ⟨by decide +kernel, rfl⟩
theorem md_Law_law_537 : mz_d mb_Law_law 537 (.iaload) 1 538 := ⟨by decide +kernel, rfl⟩
theorem md_Law_law_538 : mz_d mb_Law_law 538 (.aload_n 0) 1 539 := ⟨by decide +kernel, rfl⟩
theorem md_Law_law_539 : mz_d mb_Law_law 539 (.iload_n 3) 1 540 := ⟨by decide +kernel, rfl⟩
theorem md_Law_law_540 : mz_d mb_Law_law 540 (.iconst 2) 1 541 := ⟨by decide +kernel, rfl⟩
theorem md_Law_law_541 : mz_d mb_Law_law 541 (.iadd) 1 542 := ⟨by decide +kernel, rfl⟩
theorem md_Law_law_542 : mz_d mb_Law_law 542 (.iaload) 1 543 := ⟨by decide +kernel, rfl⟩
theorem md_Law_law_543 : mz_d mb_Law_law 543 (.invokevirtual 76) 3 546 := ⟨by decide +kernel, rfl⟩
theorem md_Law_law_546 : mz_d mb_Law_law 546 (.aload_n 2) 1 547 := ⟨by decide +kernel, rfl⟩
theorem md_Law_law_547 : mz_d mb_Law_law 547 (.aload_n 0) 1 548 := ⟨by decide +kernel, rfl⟩
theorem md_Law_law_548 : mz_d mb_Law_law 548 (.iload_n 3) 1 549 := ⟨by decide +kernel, rfl⟩
theorem md_Law_law_549 : mz_d mb_Law_law 549 (.iconst 1) 1 550 := ⟨by decide +kernel, rfl⟩
theorem md_Law_law_550 : mz_d mb_Law_law 550 (.iadd) 1 551 := ⟨by decide +kernel, rfl⟩
theorem md_Law_law_551 : mz_d mb_Law_law 551 (.iaload) 1 552 := ⟨by decide +kernel, rfl⟩
theorem md_Law_law_552 : mz_d mb_Law_law 552 (.aload_n 0) 1 553 := ⟨by decide +kernel, rfl⟩
theorem md_Law_law_553 : mz_d mb_Law_law 553 (.iload_n 3) 1 554 := ⟨by decide +kernel, rfl⟩
theorem md_Law_law_554 : mz_d mb_Law_law 554 (.iconst 2) 1 555 := ⟨by decide +kernel, rfl⟩
theorem md_Law_law_555 : mz_d mb_Law_law 555 (.iadd) 1 556 := ⟨by decide +kernel, rfl⟩
theorem md_Law_law_556 : mz_d mb_Law_law 556 (.iaload) 1 557 := ⟨by decide +kernel, rfl⟩
theorem md_Law_law_557 : mz_d mb_Law_law 557 (.invokevirtual 79) 3 560 := ⟨by decide +kernel, rfl⟩
theorem md_Law_law_560 : mz_d mb_Law_law 560 (.if_icmp .eq 94) 3 563 := ⟨by decide +kernel, rfl⟩
theorem md_Law_law_563 : mz_d mb_Law_law 563 (.iconst 0) 1 564 := ⟨by decide +kernel, rfl⟩
theorem md_Law_law_564 : mz_d mb_Law_law 564 (.ireturn) 1 565 := ⟨by decide +kernel, rfl⟩
theorem md_Law_law_565 : mz_d mb_Law_law 565 (.aload_n 1) 1 566 := ⟨by decide +kernel, rfl⟩
theorem md_Law_law_566 : mz_d mb_Law_law 566 (.aload_n 0) 1 567 := ⟨by decide +kernel, rfl⟩
theorem md_Law_law_567 : mz_d mb_Law_law 567 (.iload_n 3) 1 568 := ⟨by decide +kernel, rfl⟩
theorem md_Law_law_568 : mz_d mb_Law_law 568 (.iconst 1) 1 569 := ⟨by decide +kernel, rfl⟩
theorem md_Law_law_569 : mz_d mb_Law_law 569 (.iadd) 1 570 := ⟨by decide +kernel, rfl⟩
theorem md_Law_law_570 : mz_d mb_Law_law 570 (.iaload) 1 571 := ⟨by decide +kernel, rfl⟩
theorem md_Law_law_571 : mz_d mb_Law_law 571 (.aload_n 0) 1 572 := ⟨by decide +kernel, rfl⟩
theorem md_Law_law_572 : mz_d mb_Law_law 572 (.iload_n 3) 1 573 := ⟨by decide +kernel, rfl⟩
theorem md_Law_law_573 : mz_d mb_Law_law 573 (.iconst 2) 1 574 := ⟨by decide +kernel, rfl⟩
theorem md_Law_law_574 : mz_d mb_Law_law 574 (.iadd) 1 575 := ⟨by decide +kernel, rfl⟩
theorem md_Law_law_575 : mz_d mb_Law_law 575 (.iaload) 1 576 := ⟨by decide +kernel, rfl⟩
theorem md_Law_law_576 : mz_d mb_Law_law 576 (.invokevirtual 80) 3 579 := ⟨by decide +kernel, rfl⟩
theorem md_Law_law_579 : mz_d mb_Law_law 579 (.aload_n 2) 1 580 := ⟨by decide +kernel, rfl⟩
theorem md_Law_law_580 : mz_d mb_Law_law 580 (.aload_n 0) 1 581 := ⟨by decide +kernel, rfl⟩
theorem md_Law_law_581 : mz_d mb_Law_law 581 (.iload_n 3) 1 582 := ⟨by decide +kernel, rfl⟩
theorem md_Law_law_582 : mz_d mb_Law_law 582 (.iconst 1) 1 583 := ⟨by decide +kernel, rfl⟩
theorem md_Law_law_583 : mz_d mb_Law_law 583 (.iadd) 1 584 := ⟨by decide +kernel, rfl⟩
theorem md_Law_law_584 : mz_d mb_Law_law 584 (.iaload) 1 585 := ⟨by decide +kernel, rfl⟩
theorem md_Law_law_585 : mz_d mb_Law_law 585 (.aload_n 0) 1 586 := ⟨by decide +kernel, rfl⟩
theorem md_Law_law_586 : mz_d mb_Law_law 586 (.iload_n 3) 1 587 := ⟨by decide +kernel, rfl⟩
theorem md_Law_law_587 : mz_d mb_Law_law 587 (.iconst 2) 1 588 := ⟨by decide +kernel, rfl⟩
theorem md_Law_law_588 : mz_d mb_Law_law 588 (.iadd) 1 589 := ⟨by decide +kernel, rfl⟩
theorem md_Law_law_589 : mz_d mb_Law_law 589 (.iaload) 1 590 := ⟨by decide +kernel, rfl⟩
theorem md_Law_law_590 : mz_d mb_Law_law 590 (.invokevirtual 83) 3 593 := ⟨by decide +kernel, rfl⟩
theorem md_Law_law_593 : mz_d mb_Law_law 593 (.if_icmp .eq 61) 3 596 := ⟨by decide +kernel, rfl⟩
theorem md_Law_law_596 : mz_d mb_Law_law 596 (.iconst 0) 1 597 := ⟨by decide +kernel, rfl⟩
theorem md_Law_law_597 : mz_d mb_Law_law 597 (.ireturn) 1 598 := ⟨by decide +kernel, rfl⟩
theorem md_Law_law_598 : mz_d mb_Law_law 598 (.aload_n 1) 1 599 := ⟨by decide +kernel, rfl⟩
theorem md_Law_law_599 : mz_d mb_Law_law 599 (.aload_n 0) 1 600 := ⟨by decide +kernel, rfl⟩
theorem md_Law_law_600 : mz_d mb_Law_law 600 (.iload_n 3) 1 601 := ⟨by decide +kernel, rfl⟩
theorem md_Law_law_601 : mz_d mb_Law_law 601 (.iconst 1) 1 602 := ⟨by decide +kernel, rfl⟩
theorem md_Law_law_602 : mz_d mb_Law_law 602 (.iadd) 1 603 := ⟨by decide +kernel, rfl⟩
theorem md_Law_law_603 : mz_d mb_Law_law 603 (.iaload) 1 604 := ⟨by decide +kernel, rfl⟩
theorem md_Law_law_604 : mz_d mb_Law_law 604 (.aload_n 0) 1 605 := ⟨by decide +kernel, rfl⟩
theorem md_Law_law_605 : mz_d mb_Law_law 605 (.iload_n 3) 1 606 := ⟨by decide +kernel, rfl⟩
theorem md_Law_law_606 : mz_d mb_Law_law 606 (.iconst 2) 1 607 := ⟨by decide +kernel, rfl⟩
theorem md_Law_law_607 : mz_d mb_Law_law 607 (.iadd) 1 608 := ⟨by decide +kernel, rfl⟩
theorem md_Law_law_608 : mz_d mb_Law_law 608 (.iaload) 1 609 := ⟨by decide +kernel, rfl⟩
theorem md_Law_law_609 : mz_d mb_Law_law 609 (.invokevirtual 84) 3 612 := ⟨by decide +kernel, rfl⟩
theorem md_Law_law_612 : mz_d mb_Law_law 612 (.aload_n 2) 1 613 := ⟨by decide +kernel, rfl⟩
theorem md_Law_law_613 : mz_d mb_Law_law 613 (.aload_n 0) 1 614 := ⟨by decide +kernel, rfl⟩
theorem md_Law_law_614 : mz_d mb_Law_law 614 (.iload_n 3) 1 615 := ⟨by decide +kernel, rfl⟩
theorem md_Law_law_615 : mz_d mb_Law_law 615 (.iconst 1) 1 616 := ⟨by decide +kernel, rfl⟩
theorem md_Law_law_616 : mz_d mb_Law_law 616 (.iadd) 1 617 := ⟨by decide +kernel, rfl⟩
theorem md_Law_law_617 : mz_d mb_Law_law 617 (.iaload) 1 618 := ⟨by decide +kernel, rfl⟩
theorem md_Law_law_618 : mz_d mb_Law_law 618 (.aload_n 0) 1 619 := ⟨by decide +kernel, rfl⟩
theorem md_Law_law_619 : mz_d mb_Law_law 619 (.iload_n 3) 1 620 := ⟨by decide +kernel, rfl⟩
theorem md_Law_law_620 : mz_d mb_Law_law 620 (.iconst 2) 1 621 := ⟨by decide +kernel, rfl⟩
theorem md_Law_law_621 : mz_d mb_Law_law 621 (.iadd) 1 622 := ⟨by decide +kernel, rfl⟩
theorem md_Law_law_622 : mz_d mb_Law_law 622 (.iaload) 1 623 := ⟨by decide +kernel, rfl⟩
theorem md_Law_law_623 : mz_d mb_Law_law 623 (.invokevirtual 87) 3 626 := ⟨by decide +kernel, rfl⟩
theorem md_Law_law_626 : mz_d mb_Law_law 626 (.if_icmp .eq 28) 3 629 := ⟨by decide +kernel, rfl⟩
theorem md_Law_law_629 : mz_d mb_Law_law 629 (.iconst 0) 1 630 := ⟨by decide +kernel, rfl⟩
theorem md_Law_law_630 : mz_d mb_Law_law 630 (.ireturn) 1 631 := ⟨by decide +kernel, rfl⟩
theorem md_Law_law_631 : mz_d mb_Law_law 631 (.aload_n 1) 1 632 := ⟨by decide +kernel, rfl⟩
theorem md_Law_law_632 : mz_d mb_Law_law 632 (.aload_n 0) 1 633 := ⟨by decide +kernel, rfl⟩
theorem md_Law_law_633 : mz_d mb_Law_law 633 (.iload_n 3) 1 634 := ⟨by decide +kernel, rfl⟩
theorem md_Law_law_634 : mz_d mb_Law_law 634 (.iconst 1) 1 635 := ⟨by decide +kernel, rfl⟩
theorem md_Law_law_635 : mz_d mb_Law_law 635 (.iadd) 1 636 := ⟨by decide +kernel, rfl⟩
theorem md_Law_law_636 : mz_d mb_Law_law 636 (.iaload) 1 637 := ⟨by decide +kernel, rfl⟩
theorem md_Law_law_637 : mz_d mb_Law_law 637 (.invokevirtual 88) 3 640 := ⟨by decide +kernel, rfl⟩
theorem md_Law_law_640 : mz_d mb_Law_law 640 (.aload_n 2) 1 641 := ⟨by decide +kernel, rfl⟩
theorem md_Law_law_641 : mz_d mb_Law_law 641 (.aload_n 0) 1 642 := ⟨by decide +kernel, rfl⟩
theorem md_Law_law_642 : mz_d mb_Law_law 642 (.iload_n 3) 1 643 := ⟨by decide +kernel, rfl⟩
theorem md_Law_law_643 : mz_d mb_Law_law 643 (.iconst 1) 1 644 := ⟨by decide +kernel, rfl⟩
theorem md_Law_law_644 : mz_d mb_Law_law 644 (.iadd) 1 645 := ⟨by decide +kernel, rfl⟩
theorem md_Law_law_645 : mz_d mb_Law_law 645 (.iaload) 1 646 := ⟨by decide +kernel, rfl⟩
theorem md_Law_law_646 : mz_d mb_Law_law 646 (.invokevirtual 91) 3 649 := ⟨by decide +kernel, rfl⟩
theorem md_Law_law_649 : mz_d mb_Law_law 649 (.if_icmp .eq 5) 3 652 := ⟨by decide +kernel, rfl⟩
theorem md_Law_law_652 : mz_d mb_Law_law 652 (.iconst 0) 1 653 := ⟨by decide +kernel, rfl⟩
theorem md_Law_law_653 : mz_d mb_Law_law 653 (.ireturn) 1 654 := ⟨by decide +kernel, rfl⟩
theorem md_Law_law_654 : mz_d mb_Law_law 654 (.iinc 3 6) 3 657 := ⟨by decide +kernel, rfl⟩
theorem md_Law_law_657 : mz_d mb_Law_law 657 (.goto (-639)) 3 660 := ⟨by decide +kernel, rfl⟩
theorem md_Law_law_660 : mz_d mb_Law_law 660 (.iconst 1) 1 661 := ⟨by decide +kernel, rfl⟩
theorem md_Law_law_661 : mz_d mb_Law_law 661 (.ireturn) 1 662 := ⟨by decide +kernel, rfl⟩

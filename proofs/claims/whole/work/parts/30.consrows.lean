/-! the judgement for constructors: the world is a list of cells that grows -/
def mq_G (E : mz_En) (A : Nat → Prop) (X : mz_Cx) (nL pc : Nat) (L : List (Nat × Value)) (st : List Value) (wl : va_W) (kc ks : Nat) : Prop :=
  ∀ (H : Heap) (locs : List Loc) (ls : Array Slot), va_P E.1 mz_CL wl H → va_D A wl → va_S A (mx_s X).heap H locs → lv_has ls nL L → W (mx_p X) (mx_l X) (mx_e X) (mx_R X) (mx_s X) (mx_m X) (mx_a X) (mx_b X) (mx_h X) (mx_c X) H locs kc ks (mx_Q X) (F0 (mx_m X) pc ls st)
def mq_C (E : mz_En) (A : Nat → Prop) (X : mz_Cx) (cc : ByteArray) (own : String) (nL fr lo mc ms : Nat) : Prop :=
  (mx_p X).tables.exec = Jvm.exec ∧ (mx_c X).code = cc ∧ (mx_c X).maxLocals = nL ∧ (mx_s X).vm.findClass own = some (mx_m X).cls ∧ (∀ w ∈ mz_TB, w.before (mx_a X) (mx_s X) = true) ∧ (∀ w ∈ mz_NW, va_Nw w (mx_s X)) ∧ va_K E.1 mz_CL (mz_tys E) (mx_s X) ∧ (∀ q, (mx_s X).heap.size ≤ q → A q) ∧ (fr ≤ (mx_R X).frames ∧ lo ≤ (mx_R X).locals) ∧ (mc ≤ (mx_R X).cells ∧ ms ≤ (mx_R X).slots)
/-- a constructor's contract: from the cells w0 to the cells w1 u, u the new addresses -/
def mq_Pc (E : mz_En) (av : List Value) (w0 : va_W) (sz : Nat) : Array Value → State → Prop := va_Pc av (fun U => U.heap.size = sz ∧ va_P E.1 mz_CL w0 U.heap ∧ va_D (fun _ => True) w0 ∧ va_K E.1 mz_CL (mz_tys E) U ∧ ∀ w ∈ mz_NW, va_Nw w U)
def mq_Qc (E : mz_En) (w0 : va_W) (w1 : (Nat → Nat) → va_W) (sz : Nat) : Array Value → State → Outcome → State → Prop := va_Qv (fun _ : Nat → Nat => True) (fun u t => va_P E.1 mz_CL (w1 u) t.heap ∧ va_D (va_A w0 sz) (w1 u)) (va_A w0 sz)
def mq_Cc (l : Launch) (E : mz_En) (y : MethodName) (cc : ByteArray) (nL fr lo mc ms : Nat) (av : List Value) (w0 : va_W) (w1 : (Nat → Nat) → va_W) : Prop :=
  ∀ sz : Nat, Met l y (.code y cc nL none :: mz_TB) { frames := fr, cells := mc, slots := ms, locals := lo } (mq_Pc E av w0 sz) (mq_Qc E w0 w1 sz) mc ms (va_A w0 sz)
theorem mq_blind {E : mz_En} {av : List Value} {w0 : va_W} {sz : Nat} : FrameBlind (mq_Pc E av w0 sz) := by
  intro a U g mk q
  obtain ⟨q0, q1, qP, qD, qK, qN⟩ := q
  exact ⟨q0, q1, qP, qD, va_K.moved (u := U) (U := U.calling g mk a) (Vm.Alike.refl U.vm) qK, fun w hw => mz_nsame (u := U) (U := U.calling g mk a) rfl (List.mem_filter.mp hw).2 (qN w hw)⟩
def mq_R (E : mz_En) (A : Nat → Prop) (X : mz_Cx) (w0 : va_W) (w1 : (Nat → Nat) → va_W) (mc ms sz : Nat) : Prop := (mx_h X).sig.returnType = none ∧ (mx_h X).locks = false ∧ (mx_h X).name = "<init>" ∧ A = va_A w0 sz ∧ mx_Q X = MQ (mx_b X) (mq_Qc E w0 w1 sz) (mx_a X) (mx_s X) mc ms A
theorem mq_ct {l : Launch} {E : mz_En} {y : MethodName} {cc : ByteArray} {nL fr lo mc ms : Nat} {av : List Value} {w0 : va_W} {w1 : (Nat → Nat) → va_W} (hy : plainName y.cls = true) (hi : y.name = "<init>") (hlen : (lg_sl av).length ≤ nL)
    (body : ∀ (X : mz_Cx) (A : Nat → Prop) (sz : Nat), mq_C E A X cc y.cls nL fr lo mc ms → mq_R E A X w0 w1 mc ms sz → mq_G E A X nL 0 (lv_args 0 av) [] w0 0 0) : mq_Cc l E y cc nL fr lo mc ms av w0 w1 := by
  intro sz
  refine Met.ofW (cc := cc) (maxL := nL) (ret := none) hy rfl ?_
  intro p e s m args below meth c s₁ B hml hv
  obtain ⟨rfl, hsz, hP, hD, hK, hN⟩ := hv
  have hts := atoms_spec (ws := .code y cc nL none :: mz_TB) B.pre
  have hown : s.vm.findClass y.cls = some m.cls := findClass_of_methodNamed B.named
  have hin : meth.name = "<init>" := (name_of_methodNamed B.named B.method).1.trans hi
  have hl := lv_entry av (n := nL) hlen
  rw [lg_entry_eq]
  generalize (lg_sl av ++ List.replicate (nL - (lg_sl av).length) Slot.unset).toArray = ls at hl ⊢
  subst hsz
  exact body (p, l, e, _, s, m, _, below, meth, c, _, 0, 0) (va_A w0 s.heap.size) s.heap.size ⟨B.exec, B.bytes, hml, hown, fun w hw => hts w (List.mem_cons_of_mem _ hw), hN, hK, fun q h => Or.inr h, ⟨Nat.le_refl _, Nat.le_refl _⟩, ⟨Nat.le_refl _, Nat.le_refl _⟩⟩ ⟨B.returns, B.notSynchronized, hin, rfl, rfl⟩ s.heap [] ls hP hD.self va_S.rf hl
section MQ
variable {E : mz_En} {A : Nat → Prop} {X : mz_Cx} {cc : ByteArray} {own : String} {nL fr lo mc ms pc pc' kc ks : Nat} {L L' : List (Nat × Value)} {st rest : List Value} {wl : va_W}
theorem mq_aload_n (C : mq_C E A X cc own nL fr lo mc ms) (j : Nat) {k4 : Fin 4} {i x : Nat} (d : mz_d cc pc (.aload_n k4) 1 pc') (hi : (k4 : Nat) = i) (hj : L[j]? = some (i, .ref x)) (k : mq_G E A X nL pc' L (.ref x :: st) wl kc ks) : mq_G E A X nL pc L st wl kc ks := by
  obtain ⟨d, rfl⟩ := d
  exact fun H locs ls hP hD hS hl => lv_aload_n C.1 C.2.1 d hi (lv_at hl j hj) (k H locs ls hP hD hS hl)
theorem mq_aload (C : mq_C E A X cc own nL fr lo mc ms) (j : Nat) {i x : Nat} (d : mz_d cc pc (.aload i) 2 pc') (hj : L[j]? = some (i, .ref x)) (k : mq_G E A X nL pc' L (.ref x :: st) wl kc ks) : mq_G E A X nL pc L st wl kc ks := by
  obtain ⟨d, rfl⟩ := d
  exact fun H locs ls hP hD hS hl => lv_aload C.1 C.2.1 d (lv_at hl j hj) (k H locs ls hP hD hS hl)
theorem mq_dup (C : mq_C E A X cc own nL fr lo mc ms) {a : Value} (d : mz_d cc pc (.dup) 1 pc') (hc : a.category = 1) (k : mq_G E A X nL pc' L (a :: a :: st) wl kc ks) : mq_G E A X nL pc L (a :: st) wl kc ks := by
  obtain ⟨d, rfl⟩ := d
  exact fun H locs ls hP hD hS hl => lv_dup C.1 C.2.1 d hc (k H locs ls hP hD hS hl)
theorem mq_iconst (C : mq_C E A X cc own nL fr lo mc ms) {n : Int} {v : Int32} (d : mz_d cc pc (.iconst n) 1 pc') (hv : Int32.ofInt n = v) (k : mq_G E A X nL pc' L (.int v :: st) wl kc ks) : mq_G E A X nL pc L st wl kc ks := by
  obtain ⟨d, rfl⟩ := d
  exact fun H locs ls hP hD hS hl => lv_iconst C.1 C.2.1 d hv (k H locs ls hP hD hS hl)
theorem mq_bipush (C : mq_C E A X cc own nL fr lo mc ms) {n : Int} {v : Int32} (d : mz_d cc pc (.bipush n) 2 pc') (hv : (Int8.ofInt n).toInt32 = v) (k : mq_G E A X nL pc' L (.int v :: st) wl kc ks) : mq_G E A X nL pc L st wl kc ks := by
  obtain ⟨d, rfl⟩ := d
  exact fun H locs ls hP hD hS hl => lv_bipush C.1 C.2.1 d hv (k H locs ls hP hD hS hl)
theorem mq_sipush (C : mq_C E A X cc own nL fr lo mc ms) {n : Int} {v : Int32} (d : mz_d cc pc (.sipush n) 3 pc') (hv : (Int16.ofInt n).toInt32 = v) (k : mq_G E A X nL pc' L (.int v :: st) wl kc ks) : mq_G E A X nL pc L st wl kc ks := by
  obtain ⟨d, rfl⟩ := d
  exact fun H locs ls hP hD hS hl => lv_sipush C.1 C.2.1 d hv (k H locs ls hP hD hS hl)
theorem mq_astore_n (C : mq_C E A X cc own nL fr lo mc ms) {k4 : Fin 4} {i : Nat} {x : Nat} (d : mz_d cc pc (.astore_n k4) 1 pc') (hi : (k4 : Nat) = i) (hn : i < nL) (hl' : (i, Value.ref x) :: L.filter (fun q => !(q.1 == i) && !(q.1 + 1 == i && q.2.category == 2)) = L') (k : mq_G E A X nL pc' L' st wl kc ks) : mq_G E A X nL pc L (.ref x :: st) wl kc ks := by
  obtain ⟨d, rfl⟩ := d
  exact fun H locs ls hP hD hS hl => lv_astore_n C.1 C.2.1 d hi hl hn hl' (fun ls' h' => k H locs ls' hP hD hS h')
theorem mq_objInit (C : mq_C E A X cc own nL fr lo mc ms) {idx a : Nat} (hf : 1 ≤ fr) (hlo : 20 ≤ lo) (hst : (st.map fun v => v.category).sum ≤ 8) (lk : Cond.methodLink own idx Lib.objectInit ∈ mz_TB) (d : mz_d cc pc (.invokespecial idx) 3 pc') (k : mq_G E A X nL pc' L st wl kc ks) : mq_G E A X nL pc L (.ref a :: st) wl kc ks := by
  obtain ⟨d, rfl⟩ := d
  intro H locs ls hP hD hS hl
  refine W.objInit C.1 C.2.1 C.2.2.2.1 (C.2.2.2.2.1 _ lk) (C.2.2.2.2.1 _ mn_oin) (C.2.2.2.2.1 _ mn_oco) rfl (by rw [C.2.2.1]; exact hl.1) rfl d (Nat.le_trans hf C.2.2.2.2.2.2.2.2.1.1) ?_ (k H locs ls hP hD hS hl)
  have h1 := C.2.2.2.2.2.2.2.2.1.2
  have h2 := lv_room (m := mx_m X) (pc := pc) (ls := ls) (rest := .ref a :: st) hst
  omega
theorem mq_newi (C : mq_C E A X cc own nL fr lo mc ms) {n : Int32} (N : Nat) (hn : ¬ n < 0) (hN : n.toNatClampNeg = N) (hb : N * componentBytes .int ≤ 536870912) (hc : kc + 1 ≤ mc) (hs : ks + N ≤ ms) (d : mz_d cc pc (.newarray .int) 2 pc') (k : ∀ q, mq_G E A X nL pc' L (.ref q :: st) (wl ++ [(q, .inl (E.2.2.1, N, .inl (fun _ => 0)))]) (kc + 1) (ks + N)) : mq_G E A X nL pc L (.int n :: st) wl kc ks := by
  obtain ⟨d, rfl⟩ := d
  intro H locs ls hP hD hS hl
  refine va_newa (atype := .int) C.1 C.2.1 (C.2.2.2.2.1 _ mn_acI) (ty := .int) rfl C.2.2.2.2.2.2.1 hP hD hS C.2.2.2.2.2.2.2.1 (a0 := (N, .inl (fun _ => 0))) (fun _ => rfl) hn hN hb (Nat.le_trans hc C.2.2.2.2.2.2.2.2.2.1) (Nat.le_trans hs C.2.2.2.2.2.2.2.2.2.2) d (fun q cA H1 hK1 hP1 hD1 hS1 => ?_)
  have e : cA = E.2.2.1 := by
    have h1 : (mx_s X).vm.findClass ("[" ++ (FieldType.int).toString) = some cA := (hK1.2 3 (cA, .int) rfl).2
    have h2 : (mx_s X).vm.findClass ("[" ++ (FieldType.int).toString) = some E.2.2.1 := (C.2.2.2.2.2.2.1.2 0 _ rfl).2
    exact Option.some.inj (h1.symm.trans h2)
  subst e
  exact k q H1 locs ls hP1 hD1 hS1 hl
theorem mq_newl (C : mq_C E A X cc own nL fr lo mc ms) {n : Int32} (N : Nat) (hn : ¬ n < 0) (hN : n.toNatClampNeg = N) (hb : N * componentBytes .long ≤ 536870912) (hc : kc + 1 ≤ mc) (hs : ks + N ≤ ms) (d : mz_d cc pc (.newarray .long) 2 pc') (k : ∀ q, mq_G E A X nL pc' L (.ref q :: st) (wl ++ [(q, .inl (E.2.2.2.1, N, .inr (.inl (fun _ => 0))))]) (kc + 1) (ks + N)) : mq_G E A X nL pc L (.int n :: st) wl kc ks := by
  obtain ⟨d, rfl⟩ := d
  intro H locs ls hP hD hS hl
  refine va_newa (atype := .long) C.1 C.2.1 (C.2.2.2.2.1 _ mn_acJ) (ty := .long) rfl C.2.2.2.2.2.2.1 hP hD hS C.2.2.2.2.2.2.2.1 (a0 := (N, .inr (.inl (fun _ => 0)))) (fun _ => rfl) hn hN hb (Nat.le_trans hc C.2.2.2.2.2.2.2.2.2.1) (Nat.le_trans hs C.2.2.2.2.2.2.2.2.2.2) d (fun q cA H1 hK1 hP1 hD1 hS1 => ?_)
  have e : cA = E.2.2.2.1 := by
    have h1 : (mx_s X).vm.findClass ("[" ++ (FieldType.long).toString) = some cA := (hK1.2 3 (cA, .long) rfl).2
    have h2 : (mx_s X).vm.findClass ("[" ++ (FieldType.long).toString) = some E.2.2.2.1 := (C.2.2.2.2.2.2.1.2 1 _ rfl).2
    exact Option.some.inj (h1.symm.trans h2)
  subst e
  exact k q H1 locs ls hP1 hD1 hS1 hl
theorem mq_newz (C : mq_C E A X cc own nL fr lo mc ms) {n : Int32} (N : Nat) (hn : ¬ n < 0) (hN : n.toNatClampNeg = N) (hb : N * componentBytes .boolean ≤ 536870912) (hc : kc + 1 ≤ mc) (hs : ks + N ≤ ms) (d : mz_d cc pc (.newarray .boolean) 2 pc') (k : ∀ q, mq_G E A X nL pc' L (.ref q :: st) (wl ++ [(q, .inl (E.2.2.2.2, N, .inl (fun _ => 0)))]) (kc + 1) (ks + N)) : mq_G E A X nL pc L (.int n :: st) wl kc ks := by
  obtain ⟨d, rfl⟩ := d
  intro H locs ls hP hD hS hl
  refine va_newa (atype := .boolean) C.1 C.2.1 (C.2.2.2.2.1 _ mn_acZ) (ty := .boolean) rfl C.2.2.2.2.2.2.1 hP hD hS C.2.2.2.2.2.2.2.1 (a0 := (N, .inl (fun _ => 0))) (fun _ => rfl) hn hN hb (Nat.le_trans hc C.2.2.2.2.2.2.2.2.2.1) (Nat.le_trans hs C.2.2.2.2.2.2.2.2.2.2) d (fun q cA H1 hK1 hP1 hD1 hS1 => ?_)
  have e : cA = E.2.2.2.2 := by
    have h1 : (mx_s X).vm.findClass ("[" ++ (FieldType.boolean).toString) = some cA := (hK1.2 3 (cA, .boolean) rfl).2
    have h2 : (mx_s X).vm.findClass ("[" ++ (FieldType.boolean).toString) = some E.2.2.2.2 := (C.2.2.2.2.2.2.1.2 2 _ rfl).2
    exact Option.some.inj (h1.symm.trans h2)
  subst e
  exact k q H1 locs ls hP1 hD1 hS1 hl
theorem mq_new (C : mq_C E A X cc own nL fr lo mc ms) {index ci N : Nat} {Cn : String} {T : u_T} {ty : Nat → FieldType} (fs : List Value) (oc : mz_oc ci Cn T N ty) (h1 : Cond.classLink own index Cn ∈ mz_TB) (h2 : Cond.instantiable Cn N ∈ mz_TB) (h3 : Cond.initialized Cn ∈ mz_TB) (hfs : ∀ j, j < N → defaultValue (ty j) = vp_V fs j) (hc : kc + 1 ≤ mc) (hs : ks + N ≤ ms) (d : mz_d cc pc (.new index) 3 pc') (k : ∀ q, mq_G E A X nL pc' L (.ref q :: st) (wl ++ [(q, .inr (ci, fs))]) (kc + 1) (ks + N)) : mq_G E A X nL pc L st wl kc ks := by
  obtain ⟨d, rfl⟩ := d
  intro H locs ls hP hD hS hl
  exact va_new C.1 C.2.1 C.2.2.2.2.1 oc.2.1 ty oc.2.2.1 C.2.2.2.1 (C.2.2.2.2.1 _ h1) (C.2.2.2.2.1 _ h2) (C.2.2.2.2.1 _ h3) C.2.2.2.2.2.2.1 hP hD hS C.2.2.2.2.2.2.2.1 oc.1 hfs (Nat.le_trans hc C.2.2.2.2.2.2.2.2.2.1) (Nat.le_trans hs C.2.2.2.2.2.2.2.2.2.2) d (fun q H1 hP1 hD1 hS1 => k q H1 locs ls hP1 hD1 hS1 hl)
theorem mq_get (C : mq_C E A X cc own nL fr lo mc ms) {index ci N a : Nat} {Cn : String} {T : u_T} {ty : Nat → FieldType} {v : Value} (o k0 : Nat) {fs : List Value} (oc : mz_oc ci Cn T N ty) (lk : Cond.fieldLink own index Cn (T k0).2.1 (T k0).2.2.1 ∈ mz_TB) (hd : (T k0).1 = Cn) (hk : k0 < N) (he : wl[o]? = some (a, .inr (ci, fs))) (hv : fs[k0]? = some v) (d : mz_d cc pc (.getfield index) 3 pc') (k : mq_G E A X nL pc' L (v :: st) wl kc ks) : mq_G E A X nL pc L (.ref a :: st) wl kc ks := by
  obtain ⟨d, rfl⟩ := d
  intro H locs ls hP hD hS hl
  exact va_get C.1 C.2.1 C.2.2.2.2.1 oc.2.1 C.2.2.2.1 C.2.2.2.2.2.2.1 hP o he oc.1 k0 hk (C.2.2.2.2.1 _ lk) (by rw [hd]; exact fun _ h => h) hv d (k H locs ls hP hD hS hl)
theorem mq_putF (C : mq_C E A X cc own nL fr lo mc ms) {index ci N a : Nat} {Cn : String} {T : u_T} {ty : Nat → FieldType} {v : Value} {t0 : FieldType} (o k0 : Nat) {fs : List Value} (oc : mz_oc ci Cn T N ty) (lk : Cond.fieldLink own index Cn (T k0).2.1 (T k0).2.2.1 ∈ mz_TB) (hd : (T k0).1 = Cn) (hown : Cn = own) (hin : (mx_h X).name = "<init>") (hk : k0 < N) (he : wl[o]? = some (a, .inr (ci, fs))) (hf : (T k0).2.2.2 = true) (hty : parseFieldDescriptor (T k0).2.2.1 = some t0) (hn : narrow t0 v = v) (hfit : fits t0 v = true) (hkl : k0 < fs.length) (d : mz_d cc pc (.putfield index) 3 pc') (k : mq_G E A X nL pc' L st (wl.set o (a, .inr (ci, fs.set k0 v))) kc ks) : mq_G E A X nL pc L (v :: .ref a :: st) wl kc ks := by
  obtain ⟨d, rfl⟩ := d
  intro H locs ls hP hD hS hl
  exact va_putF C.1 C.2.1 C.2.2.2.2.1 oc.2.1 ty oc.2.2.1 oc.2.2.2 C.2.2.2.1 C.2.2.2.2.2.2.1 hP hD hS o he oc.1 k0 hk (C.2.2.2.2.1 _ lk) (by rw [hd]; exact fun _ h => h) hf hin (hd.trans hown) hty hn hfit hkl d (fun H1 locs1 hP1 hD1 hS1 => k H1 locs1 ls hP1 hD1 hS1 hl)
theorem mq_put (C : mq_C E A X cc own nL fr lo mc ms) {index ci N a : Nat} {Cn : String} {T : u_T} {ty : Nat → FieldType} {v : Value} {t0 : FieldType} (o k0 : Nat) {fs : List Value} (oc : mz_oc ci Cn T N ty) (lk : Cond.fieldLink own index Cn (T k0).2.1 (T k0).2.2.1 ∈ mz_TB) (hd : (T k0).1 = Cn) (hk : k0 < N) (he : wl[o]? = some (a, .inr (ci, fs))) (hf : (T k0).2.2.2 = false) (hty : parseFieldDescriptor (T k0).2.2.1 = some t0) (hn : narrow t0 v = v) (hfit : fits t0 v = true) (hkl : k0 < fs.length) (d : mz_d cc pc (.putfield index) 3 pc') (k : mq_G E A X nL pc' L st (wl.set o (a, .inr (ci, fs.set k0 v))) kc ks) : mq_G E A X nL pc L (v :: .ref a :: st) wl kc ks := by
  obtain ⟨d, rfl⟩ := d
  intro H locs ls hP hD hS hl
  exact va_put C.1 C.2.1 C.2.2.2.2.1 oc.2.1 ty oc.2.2.1 oc.2.2.2 C.2.2.2.1 C.2.2.2.2.2.2.1 hP hD hS o he oc.1 k0 hk (C.2.2.2.2.1 _ lk) (by rw [hd]; exact fun _ h => h) hf hty hn hfit hkl d (fun H1 locs1 hP1 hD1 hS1 => k H1 locs1 ls hP1 hD1 hS1 hl)
theorem mq_ret (C : mq_C E A X cc own nL fr lo mc ms) {w0 : va_W} {w1 : (Nat → Nat) → va_W} {sz : Nat} (r : mq_R E A X w0 w1 mc ms sz) (u : Nat → Nat) (h : w1 u = wl) (hc : kc = mc) (hs : ks = ms) (d : mz_d cc pc (.return_) 1 pc') : mq_G E A X nL pc L [] wl kc ks := by
  obtain ⟨d, rfl⟩ := d
  intro H locs ls hP hD hS hl
  obtain ⟨r1, r2, -, r4, r3⟩ := r
  subst hc; subst hs; subst h
  rw [r3]
  exact W.vret C.1 C.2.1 r1 (fun t ht hW => ⟨⟨u, rfl, trivial, by rw [ht]; exact hP, by rw [← r4]; exact hD⟩, by rw [← r4]; exact hS.F ht⟩) hS.2.2 d r2
theorem mq_callN (C : mq_C E A X cc own nL fr lo mc ms) {index n h0 : Nat} {host : String} {y : MethodName} {cc2 : ByteArray} {nL2 fr2 lo2 mc2 ms2 : Nat} {As : List Value} {e0 : va_E} {w1 : (Nat → Nat) → va_W} (hM : mq_Cc (mx_l X) E y cc2 nL2 fr2 lo2 mc2 ms2 (.ref h0 :: As) [(h0, e0)] w1) (ok : mz_ok y cc2 nL2 none n) (hy : y.name = "<init>") (oi : Cond.instanceMethod y ∈ mz_TB) (lk : Cond.methodLinkNest own index y host ∈ mz_NW) (ic : Nat) (isR : List Nat) (wr : va_W) (hC : [ic].map (fun i => wl[i]?) = [(h0, e0)].map some) (hR : isR.map (fun i => wl[i]?) = wr.map some) (hnd : va_nd isR = true) (hdis : ∀ i ∈ isR, i ∉ [ic]) (hn : As.length = n) (hst : st = As.reverse ++ .ref h0 :: rest) (hw : (rest.map fun v => v.category).sum ≤ 8) (hr1 : fr2 + 1 ≤ fr) (hr2 : 8 + (nL2 + 11) + lo2 ≤ lo) (hc : kc + mc2 ≤ mc) (hs : ks + ms2 ≤ ms) (d : mz_d cc pc (.invokespecial index) 3 pc') (k : ∀ u, mq_G E A X nL pc' L rest (wr ++ w1 u) (kc + mc2) (ks + ms2)) : mq_G E A X nL pc L st wl kc ks := by
  obtain ⟨d, rfl⟩ := d
  intro H locs ls hP hD hS hl
  have hic : wl[ic]? = some (h0, e0) := by
    have := congrArg List.head? hC
    simpa using this
  have hPc : va_P E.1 mz_CL [(h0, e0)] H := hP.sub [ic] (by simp [hic])
  have hDc : va_D A [(h0, e0)] := hD.sub [ic] rfl hC
  have hFc := va_free (wc := [(h0, e0)]) hD hS C.2.2.2.2.2.2.2.1 [ic] hC
  refine va_callv (va_runIN (As := As) (rest := rest) ⟨C.1, C.2.1, C.2.2.1, C.2.2.2.1, C.2.2.2.2.1⟩ (hM H.size) ⟨va_cnB n C.2.2.2.2.1 (mz_goodIn ok.1) rfl rfl rfl (C.2.2.2.2.2.1 _ lk) (C.2.2.2.2.1 _ ok.2.1) ⟨ok.2.2.1.1, ok.2.2.1.2, ok.2.2.2⟩ ⟨Nat.le_trans hr1 C.2.2.2.2.2.2.2.2.1.1, Nat.le_trans hr2 C.2.2.2.2.2.2.2.2.1.2⟩, hy, C.2.2.2.2.1 _ oi⟩ ⟨mq_blind, fun U hU hW => ⟨rfl, by rw [hU], by rw [hU]; exact hPc, hDc.weaken (fun _ _ _ _ => trivial), va_K.moved hW.alike C.2.2.2.2.2.2.1, fun w hw => mz_nwarm hW (List.mem_filter.mp hw).2 (C.2.2.2.2.2.1 w hw)⟩⟩ rfl hn hl.1 hst (lv_room hw) d ⟨Nat.le_trans hc C.2.2.2.2.2.2.2.2.2.1, Nat.le_trans hs C.2.2.2.2.2.2.2.2.2.2⟩) hS (fun q _ h => hFc q h) hFc (fun u t H1 locs1 ht hvm _ hB hz1 hk1 hS1 => ?_)
  obtain ⟨hP1, hD1⟩ := hB
  rw [ht] at hP1
  obtain ⟨hP2, hD2⟩ := va_join (wr := wr) (w1 := w1 u) hP hD [ic] isR hC hR hnd hdis hk1 hFc hP1 hD1
  exact k u H1 locs1 ls hP2 hD2 hS1 hl
theorem mq_callI (C : mq_C E A X cc own nL fr lo mc ms) {index n h0 : Nat} {y : MethodName} {cc2 : ByteArray} {nL2 fr2 lo2 mc2 ms2 : Nat} {As : List Value} {e0 : va_E} {w1 : (Nat → Nat) → va_W} (hM : mq_Cc (mx_l X) E y cc2 nL2 fr2 lo2 mc2 ms2 (.ref h0 :: As) [(h0, e0)] w1) (ok : mz_ok y cc2 nL2 none n) (hy : y.name = "<init>") (oi : Cond.instanceMethod y ∈ mz_TB) (lk : Cond.methodLink own index y ∈ mz_TB) (ic : Nat) (isR : List Nat) (wr : va_W) (hC : [ic].map (fun i => wl[i]?) = [(h0, e0)].map some) (hR : isR.map (fun i => wl[i]?) = wr.map some) (hnd : va_nd isR = true) (hdis : ∀ i ∈ isR, i ∉ [ic]) (hn : As.length = n) (hst : st = As.reverse ++ .ref h0 :: rest) (hw : (rest.map fun v => v.category).sum ≤ 8) (hr1 : fr2 + 1 ≤ fr) (hr2 : 8 + (nL2 + 11) + lo2 ≤ lo) (hc : kc + mc2 ≤ mc) (hs : ks + ms2 ≤ ms) (d : mz_d cc pc (.invokespecial index) 3 pc') (k : ∀ u, mq_G E A X nL pc' L rest (wr ++ w1 u) (kc + mc2) (ks + ms2)) : mq_G E A X nL pc L st wl kc ks := by
  obtain ⟨d, rfl⟩ := d
  intro H locs ls hP hD hS hl
  have hic : wl[ic]? = some (h0, e0) := by
    have := congrArg List.head? hC
    simpa using this
  have hPc : va_P E.1 mz_CL [(h0, e0)] H := hP.sub [ic] (by simp [hic])
  have hDc : va_D A [(h0, e0)] := hD.sub [ic] rfl hC
  have hFc := va_free (wc := [(h0, e0)]) hD hS C.2.2.2.2.2.2.2.1 [ic] hC
  refine va_callv (va_runI (As := As) (rest := rest) ⟨C.1, C.2.1, C.2.2.1, C.2.2.2.1, C.2.2.2.2.1⟩ (hM H.size) (cwI n C.2.2.2.2.1 (mz_goodIn ok.1) rfl rfl rfl (C.2.2.2.2.1 _ ok.2.1) (C.2.2.2.2.1 _ lk) (C.2.2.2.2.1 _ oi) hy ⟨ok.2.2.1.1, ok.2.2.1.2, ok.2.2.2⟩ ⟨Nat.le_trans hr1 C.2.2.2.2.2.2.2.2.1.1, Nat.le_trans hr2 C.2.2.2.2.2.2.2.2.1.2⟩) ⟨mq_blind, fun U hU hW => ⟨rfl, by rw [hU], by rw [hU]; exact hPc, hDc.weaken (fun _ _ _ _ => trivial), va_K.moved hW.alike C.2.2.2.2.2.2.1, fun w hw => mz_nwarm hW (List.mem_filter.mp hw).2 (C.2.2.2.2.2.1 w hw)⟩⟩ rfl hn hl.1 hst (lv_room hw) d ⟨Nat.le_trans hc C.2.2.2.2.2.2.2.2.2.1, Nat.le_trans hs C.2.2.2.2.2.2.2.2.2.2⟩) hS (fun q _ h => hFc q h) hFc (fun u t H1 locs1 ht hvm _ hB hz1 hk1 hS1 => ?_)
  obtain ⟨hP1, hD1⟩ := hB
  rw [ht] at hP1
  obtain ⟨hP2, hD2⟩ := va_join (wr := wr) (w1 := w1 u) hP hD [ic] isR hC hR hnd hdis hk1 hFc hP1 hD1
  exact k u H1 locs1 ls hP2 hD2 hS1 hl
end MQ

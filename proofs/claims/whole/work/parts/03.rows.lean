
/-! the judgement 'mz_G': the frame at pc with locals L and stack st, over any heap that holds the picture σ, comes to its end -/
def mz_isNest : Cond → Bool
  | .fieldLinkNest .. => true
  | .methodLinkNest .. => true
  | _ => false
def mz_TB : List Cond := lw_tbl.filter goodWord
def mz_NW : List Cond := lw_tbl.filter mz_isNest
theorem mz_in {i : Nat} {w : Cond} (h : lw_tbl[i]? = some w) (hg : goodWord w = true) : w ∈ mz_TB := List.mem_filter.mpr ⟨List.mem_of_getElem? h, hg⟩
theorem mz_inN {i : Nat} {w : Cond} (h : lw_tbl[i]? = some w) (hg : mz_isNest w = true) : w ∈ mz_NW := List.mem_filter.mpr ⟨List.mem_of_getElem? h, hg⟩
theorem mz_goodIn {y : MethodName} {cc : ByteArray} {n : Nat} {r : Option FieldType} (h : Cond.code y cc n r ∈ mz_TB) : GoodIn mz_TB (.code y cc n r :: mz_TB) := by
  intro w hw
  rcases List.mem_cons.mp hw with rfl | hw
  · exact ⟨h, good_of_word (List.mem_filter.mp h).2⟩
  · exact ⟨hw, good_of_word (List.mem_filter.mp hw).2⟩
theorem mz_nwarm {s U : State} (hW : s.WarmedH U.vm) {w : Cond} (hw : mz_isNest w = true) (h : va_Nw w s) : va_Nw w U := by
  cases w <;> first | exact va_Nw.warmF hW h | exact va_Nw.warmM hW h | cases hw
theorem mz_nsame {u U : State} (hv : u.vm = U.vm) {w : Cond} (hw : mz_isNest w = true) (h : va_Nw w u) : va_Nw w U := by
  cases w <;> first | exact va_Nw.same rfl hv h | cases hw
def mz_ws (E : mz_En) (σ : mz_St) (κ : Nat → Int64) : va_W := (List.range mz_NC).map (fun k => (E.2.1 k, mz_cel E σ κ k))
theorem mz_ws_get (E : mz_En) (σ : mz_St) (κ : Nat → Int64) {k : Nat} (hk : k < mz_NC) : (mz_ws E σ κ)[k]? = some (E.2.1 k, mz_cel E σ κ k) := by
  simp [mz_ws, hk]
theorem mz_ws_at {E : mz_En} {σ : mz_St} {κ : Nat → Int64} {k : Nat} {q : Nat × va_E} (h : (mz_ws E σ κ)[k]? = some q) : k < mz_NC ∧ q = (E.2.1 k, mz_cel E σ κ k) := by
  have hl : k < mz_NC := by
    have := (List.getElem?_eq_some_iff.mp h).1
    simpa [mz_ws] using this
  rw [mz_ws_get E σ κ hl] at h
  exact ⟨hl, (Option.some.inj h).symm⟩
def mz_AA (E : mz_En) : Nat → Prop := fun q => ∃ k, k < mz_NC ∧ q = E.2.1 k
def mz_Inj (E : mz_En) : Prop := ∀ i j, i < mz_NC → j < mz_NC → E.2.1 i = E.2.1 j → i = j
theorem mz_ws_D {E : mz_En} {σ : mz_St} {κ : Nat → Int64} (hI : mz_Inj E) : va_D (mz_AA E) (mz_ws E σ κ) := by
  refine ⟨fun i j p q hi hj h => ?_, fun k q hk => ?_⟩
  · obtain ⟨h1, rfl⟩ := mz_ws_at hi
    obtain ⟨h2, rfl⟩ := mz_ws_at hj
    exact hI i j h1 h2 h
  · obtain ⟨h1, rfl⟩ := mz_ws_at hk
    exact ⟨k, h1, rfl⟩
def mz_tys (E : mz_En) : List (ClassId × FieldType) := [(E.2.2.1, .int), (E.2.2.2.1, .long), (E.2.2.2.2, .boolean)]
theorem mz_ws_set {E : mz_En} {σ σ' : mz_St} {κ κ' : Nat → Int64} {k : Nat} {e : va_E} (hk : k < mz_NC) (h1 : mz_cel E σ' κ' k = e) (h2 : ∀ j, j < mz_NC → j ≠ k → mz_cel E σ' κ' j = mz_cel E σ κ j) : (mz_ws E σ κ).set k (E.2.1 k, e) = mz_ws E σ' κ' := by
  apply List.ext_getElem?
  intro j
  by_cases hj : j < mz_NC
  · by_cases hjk : j = k
    · subst hjk
      rw [List.getElem?_set_self (by simpa [mz_ws] using hk), mz_ws_get E σ' κ' hk, h1]
    · rw [List.getElem?_set_ne (Ne.symm hjk), mz_ws_get E σ κ hj, mz_ws_get E σ' κ' hj, h2 j hj hjk]
  · have hn : ∀ (l : va_W), l.length = mz_NC → l[j]? = none := fun l hl => List.getElem?_eq_none (by omega)
    rw [hn _ (by simp [mz_ws]), hn _ (by simp [mz_ws])]
theorem mz_up_ne {σ : mz_St} {a i b : Nat} {v : Int32} (h : b ≠ a) : mz_up σ a i v b = σ b := by simp [mz_up, h]
theorem mz_up_eq {σ : mz_St} {a i : Nat} {v : Int32} : mz_up σ a i v a = upd (σ a) i v := by simp [mz_up]
/-- the cells look at rows of the picture: array k at row k, the objects at rows from 1000 on -/
theorem mz_cel_row {E : mz_En} {σ σ' : mz_St} {κ : Nat → Int64} {j : Nat} (h : σ' j = σ j) (ho : ∀ a, 1000 ≤ a → σ' a = σ a) : mz_cel E σ' κ j = mz_cel E σ κ j := by
  unfold mz_cel
  split <;> simp only [h, ho _ (by decide : 1000 ≤ 1000), ho _ (by decide : 1000 ≤ 1001), ho _ (by decide : 1000 ≤ 1002), ho _ (by decide : 1000 ≤ 1003), ho _ (by decide : 1000 ≤ 1004), ho _ (by decide : 1000 ≤ 1005), ho _ (by decide : 1000 ≤ 1006), ho _ (by decide : 1000 ≤ 1007), ho _ (by decide : 1000 ≤ 1008), ho _ (by decide : 1000 ≤ 1009), ho _ (by decide : 1000 ≤ 1010), ho _ (by decide : 1000 ≤ 1011), ho _ (by decide : 1000 ≤ 1012), ho _ (by decide : 1000 ≤ 1013), ho _ (by decide : 1000 ≤ 1014), ho _ (by decide : 1000 ≤ 1015), ho _ (by decide : 1000 ≤ 1016), ho _ (by decide : 1000 ≤ 1017), ho _ (by decide : 1000 ≤ 1018), ho _ (by decide : 1000 ≤ 1019), ho _ (by decide : 1000 ≤ 1020)]
theorem mz_cel_up {E : mz_En} {σ : mz_St} {κ : Nat → Int64} {a i : Nat} {v : Int32} (ha : a < 1000) {j : Nat} (hj : j ≠ a) : mz_cel E (mz_up σ a i v) κ j = mz_cel E σ κ j :=
  mz_cel_row (mz_up_ne hj) (fun b hb => mz_up_ne (by omega))
theorem mz_cel_k {E : mz_En} {σ : mz_St} {κ κ' : Nat → Int64} {j : Nat} (hj : j ≠ 41) : mz_cel E σ κ' j = mz_cel E σ κ j := by
  unfold mz_cel
  split <;> first | rfl | exact absurd rfl hj
abbrev mz_Cx := Program × Launch × Env × Room × State × MethodId × Array Value × List Frame × Method × Code × (State → Prop) × Nat × Nat
abbrev mx_p (X : mz_Cx) : Program := X.1
abbrev mx_l (X : mz_Cx) : Launch := X.2.1
abbrev mx_e (X : mz_Cx) : Env := X.2.2.1
abbrev mx_R (X : mz_Cx) : Room := X.2.2.2.1
abbrev mx_s (X : mz_Cx) : State := X.2.2.2.2.1
abbrev mx_m (X : mz_Cx) : MethodId := X.2.2.2.2.2.1
abbrev mx_a (X : mz_Cx) : Array Value := X.2.2.2.2.2.2.1
abbrev mx_b (X : mz_Cx) : List Frame := X.2.2.2.2.2.2.2.1
abbrev mx_h (X : mz_Cx) : Method := X.2.2.2.2.2.2.2.2.1
abbrev mx_c (X : mz_Cx) : Code := X.2.2.2.2.2.2.2.2.2.1
abbrev mx_Q (X : mz_Cx) : State → Prop := X.2.2.2.2.2.2.2.2.2.2.1
abbrev mx_k (X : mz_Cx) : Nat := X.2.2.2.2.2.2.2.2.2.2.2.1
abbrev mx_n (X : mz_Cx) : Nat := X.2.2.2.2.2.2.2.2.2.2.2.2
def mz_W (X : mz_Cx) (H : Heap) (locs : List Loc) (g : JFrame) : Prop := W (mx_p X) (mx_l X) (mx_e X) (mx_R X) (mx_s X) (mx_m X) (mx_a X) (mx_b X) (mx_h X) (mx_c X) H locs (mx_k X) (mx_n X) (mx_Q X) g
def mz_C (E : mz_En) (X : mz_Cx) (cc : ByteArray) (own : String) (nL fr lo : Nat) : Prop :=
  (mx_p X).tables.exec = Jvm.exec ∧ (mx_c X).code = cc ∧ (mx_c X).maxLocals = nL ∧ (mx_s X).vm.findClass own = some (mx_m X).cls ∧ (∀ w ∈ mz_TB, w.before (mx_a X) (mx_s X) = true) ∧ (∀ w ∈ mz_NW, va_Nw w (mx_s X)) ∧ va_K E.1 mz_CL (mz_tys E) (mx_s X) ∧ mz_Inj E ∧ (fr ≤ (mx_R X).frames ∧ lo ≤ (mx_R X).locals) ∧ (mx_k X ≤ (mx_R X).cells ∧ mx_n X ≤ (mx_R X).slots)
def mz_G (E : mz_En) (X : mz_Cx) (nL pc : Nat) (L : List (Nat × Value)) (st : List Value) (σ : mz_St) : Prop :=
  ∀ (κ : Nat → Int64) (H : Heap) (locs : List Loc) (ls : Array Slot), va_P E.1 mz_CL (mz_ws E σ κ) H → va_S (mz_AA E) (mx_s X).heap H locs → lv_has ls nL L → mz_W X H locs (F0 (mx_m X) pc ls st)
/-- the instruction at pc, its length, the next pc -/
def mz_d (cc : ByteArray) (pc : Nat) (i : Instr) (len pc' : Nat) : Prop := decode cc pc = .ok (i, len) ∧ pc + len = pc'
def mz_Wd (E : mz_En) (σ : mz_St) (U : State) : Prop := (∃ κ : Nat → Int64, va_P E.1 mz_CL (mz_ws E σ κ) U.heap) ∧ va_K E.1 mz_CL (mz_tys E) U ∧ ∀ w ∈ mz_NW, va_Nw w U
theorem mz_Wd.mv {E : mz_En} {σ : mz_St} {κ : Nat → Int64} {s t : State} {H : Heap} (hP : va_P E.1 mz_CL (mz_ws E σ κ) H) (ht : t.heap = H) (hW : s.WarmedH t.vm) (hK : va_K E.1 mz_CL (mz_tys E) s) (hN : ∀ w ∈ mz_NW, va_Nw w s) : mz_Wd E σ t :=
  ⟨⟨κ, by rw [ht]; exact hP⟩, va_K.moved hW.alike hK, fun w hw => mz_nwarm hW (List.mem_filter.mp hw).2 (hN w hw)⟩
theorem mz_blind {E : mz_En} {σ : mz_St} {av : List Value} : FrameBlind (va_Pc av (mz_Wd E σ)) := by
  intro a U g mk q
  obtain ⟨q0, ⟨κ, qP⟩, qK, qN⟩ := q
  exact ⟨q0, ⟨κ, qP⟩, va_K.moved (u := U) (U := U.calling g mk a) (Vm.Alike.refl U.vm) qK, fun w hw => mz_nsame (u := U) (U := U.calling g mk a) rfl (List.mem_filter.mp hw).2 (qN w hw)⟩
/-- contracts: int (and boolean) answers, no answer -/
def mz_Ci (l : Launch) (E : mz_En) (y : MethodName) (cc : ByteArray) (nL : Nat) (ret : Option FieldType) (fr lo : Nat) (av : List Value) (σ : mz_St) (K : Int32 → mz_St → Prop) : Prop :=
  Met l y (.code y cc nL ret :: mz_TB) { frames := fr, cells := 0, slots := 0, locals := lo } (va_Pc av (mz_Wd E σ)) (va_Qi K (fun u t => mz_Wd E u t) (mz_AA E)) 0 0 (mz_AA E)
def mz_Cv (l : Launch) (E : mz_En) (y : MethodName) (cc : ByteArray) (nL : Nat) (fr lo : Nat) (av : List Value) (σ : mz_St) (K : mz_St → Prop) : Prop :=
  Met l y (.code y cc nL none :: mz_TB) { frames := fr, cells := 0, slots := 0, locals := lo } (va_Pc av (mz_Wd E σ)) (va_Qv K (fun u t => mz_Wd E u t) (mz_AA E)) 0 0 (mz_AA E)
def mz_Ri (E : mz_En) (X : mz_Cx) (ty : FieldType) (K : Int32 → mz_St → Prop) : Prop := (mx_h X).sig.returnType = some ty ∧ (mx_h X).locks = false ∧ mx_Q X = MQ (mx_b X) (va_Qi K (fun u t => mz_Wd E u t) (mz_AA E)) (mx_a X) (mx_s X) (mx_k X) (mx_n X) (mz_AA E)
def mz_Rv (E : mz_En) (X : mz_Cx) (K : mz_St → Prop) : Prop := (mx_h X).sig.returnType = none ∧ (mx_h X).locks = false ∧ mx_Q X = MQ (mx_b X) (va_Qv K (fun u t => mz_Wd E u t) (mz_AA E)) (mx_a X) (mx_s X) (mx_k X) (mx_n X) (mz_AA E)
theorem mz_ct {l : Launch} {E : mz_En} {y : MethodName} {cc : ByteArray} {nL : Nat} {ret : Option FieldType} {fr lo : Nat} {av : List Value} {σ : mz_St} {Qc : Array Value → State → Outcome → State → Prop} (hI : mz_Inj E) (hy : plainName y.cls = true) (hlen : (lg_sl av).length ≤ nL)
    (body : ∀ X : mz_Cx, mz_C E X cc y.cls nL fr lo → (mx_h X).sig.returnType = ret → (mx_h X).locks = false → mx_Q X = MQ (mx_b X) Qc (mx_a X) (mx_s X) (mx_k X) (mx_n X) (mz_AA E) → mz_G E X nL 0 (lv_args 0 av) [] σ) :
    Met l y (.code y cc nL ret :: mz_TB) { frames := fr, cells := 0, slots := 0, locals := lo } (va_Pc av (mz_Wd E σ)) Qc 0 0 (mz_AA E) := by
  refine Met.ofW (cc := cc) (maxL := nL) (ret := ret) hy rfl ?_
  intro p e s m args below meth c s₁ B hml hv
  obtain ⟨rfl, ⟨κ, hP⟩, hK, hN⟩ := hv
  have hts := atoms_spec (ws := .code y cc nL ret :: mz_TB) B.pre
  have hown : s.vm.findClass y.cls = some m.cls := findClass_of_methodNamed B.named
  have hl := lv_entry av (n := nL) hlen
  rw [lg_entry_eq]
  generalize (lg_sl av ++ List.replicate (nL - (lg_sl av).length) Slot.unset).toArray = ls at hl ⊢
  exact body (p, l, e, _, s, m, _, below, meth, c, _, 0, 0) ⟨B.exec, B.bytes, hml, hown, fun w hw => hts w (List.mem_cons_of_mem _ hw), hN, hK, hI, ⟨Nat.le_refl _, Nat.le_refl _⟩, ⟨Nat.zero_le _, Nat.zero_le _⟩⟩ B.returns B.notSynchronized rfl κ s.heap [] ls hP va_S.rf hl
theorem mz_cti {l : Launch} {E : mz_En} {y : MethodName} {cc : ByteArray} {nL : Nat} {ty : FieldType} {fr lo : Nat} {av : List Value} {σ : mz_St} {K : Int32 → mz_St → Prop} (hI : mz_Inj E) (hy : plainName y.cls = true) (hlen : (lg_sl av).length ≤ nL)
    (body : ∀ X : mz_Cx, mz_C E X cc y.cls nL fr lo → mz_Ri E X ty K → mz_G E X nL 0 (lv_args 0 av) [] σ) : mz_Ci l E y cc nL (some ty) fr lo av σ K :=
  mz_ct hI hy hlen fun X C h1 h2 h3 => body X C ⟨h1, h2, h3⟩
theorem mz_ctv {l : Launch} {E : mz_En} {y : MethodName} {cc : ByteArray} {nL : Nat} {fr lo : Nat} {av : List Value} {σ : mz_St} {K : mz_St → Prop} (hI : mz_Inj E) (hy : plainName y.cls = true) (hlen : (lg_sl av).length ≤ nL)
    (body : ∀ X : mz_Cx, mz_C E X cc y.cls nL fr lo → mz_Rv E X K → mz_G E X nL 0 (lv_args 0 av) [] σ) : mz_Cv l E y cc nL fr lo av σ K :=
  mz_ct hI hy hlen fun X C h1 h2 h3 => body X C ⟨h1, h2, h3⟩
/-- what a method is, in the tables -/
def mz_ok (y : MethodName) (cc : ByteArray) (nL : Nat) (ret : Option FieldType) (n : Nat) : Prop := Cond.code y cc nL ret ∈ mz_TB ∧ Cond.initialized y.cls ∈ mz_TB ∧ (y.cls ≠ "java/lang/invoke/MethodHandle" ∧ y.cls ≠ "java/lang/invoke/VarHandle") ∧ (parseMethodDescriptor y.desc).map (fun d => d.parameters.length) = some n
def mz_oi (y : MethodName) : Prop := Cond.instanceMethod y ∈ mz_TB ∧ Cond.selects y.cls y y ∈ mz_TB
def mz_oc (ci : Nat) (Cn : String) (T : u_T) (N : Nat) (ty : Nat → FieldType) : Prop := mz_CL[ci]? = some (Cn, T, N) ∧ (∀ w ∈ u_ws Cn T N, w ∈ mz_TB) ∧ (∀ k, k < N → parseFieldDescriptor (T k).2.2.1 = some (ty k)) ∧ (∀ a, a < N → ∀ b, b < N → a ≠ b → (T a).2.1 ≠ (T b).2.1)
section MR
variable {E : mz_En} {X : mz_Cx} {cc : ByteArray} {own : String} {nL fr lo pc pc' : Nat} {L L' : List (Nat × Value)} {st rest : List Value} {σ : mz_St}
theorem mr_sub (ks : List Nat) (hk : lv_pick L ks = L') (k : mz_G E X nL pc L' st σ) : mz_G E X nL pc L st σ := fun κ H locs ls hP hS hl => k κ H locs ls hP hS (lv_sub hl ks hk)
theorem mr_iconst (C : mz_C E X cc own nL fr lo) {n : Int} {v : Int32} (d : mz_d cc pc (.iconst n) 1 pc') (hv : Int32.ofInt n = v) (k : mz_G E X nL pc' L (.int v :: st) σ) : mz_G E X nL pc L (st) σ := by
  obtain ⟨d, rfl⟩ := d
  exact fun κ H locs ls hP hS hl => lv_iconst C.1 C.2.1 d hv (k κ H locs ls hP hS hl)
theorem mr_bipush (C : mz_C E X cc own nL fr lo) {n : Int} {v : Int32} (d : mz_d cc pc (.bipush n) 2 pc') (hv : (Int8.ofInt n).toInt32 = v) (k : mz_G E X nL pc' L (.int v :: st) σ) : mz_G E X nL pc L (st) σ := by
  obtain ⟨d, rfl⟩ := d
  exact fun κ H locs ls hP hS hl => lv_bipush C.1 C.2.1 d hv (k κ H locs ls hP hS hl)
theorem mr_sipush (C : mz_C E X cc own nL fr lo) {n : Int} {v : Int32} (d : mz_d cc pc (.sipush n) 3 pc') (hv : (Int16.ofInt n).toInt32 = v) (k : mz_G E X nL pc' L (.int v :: st) σ) : mz_G E X nL pc L (st) σ := by
  obtain ⟨d, rfl⟩ := d
  exact fun κ H locs ls hP hS hl => lv_sipush C.1 C.2.1 d hv (k κ H locs ls hP hS hl)
theorem mr_lconst (C : mz_C E X cc own nL fr lo) {n : Fin 2} {v : Int64} (d : mz_d cc pc (.lconst n) 1 pc') (hv : Int64.ofNat (n : Nat) = v) (k : mz_G E X nL pc' L (.long v :: st) σ) : mz_G E X nL pc L (st) σ := by
  obtain ⟨d, rfl⟩ := d
  exact fun κ H locs ls hP hS hl => lv_lconst C.1 C.2.1 d hv (k κ H locs ls hP hS hl)
theorem mr_ldc (C : mz_C E X cc own nL fr lo) {index : Nat} {v : Int32} (d : mz_d cc pc (.ldc index) 2 pc') (hw : Cond.constant own index v ∈ mz_TB) (k : mz_G E X nL pc' L (.int v :: st) σ) : mz_G E X nL pc L (st) σ := by
  obtain ⟨d, rfl⟩ := d
  exact fun κ H locs ls hP hS hl => lv_ldc C.1 C.2.1 C.2.2.2.1 (C.2.2.2.2.1 _ hw) d (k κ H locs ls hP hS hl)
theorem mr_ldc2 (C : mz_C E X cc own nL fr lo) {index : Nat} {v : Int64} (d : mz_d cc pc (.ldc2_w index) 3 pc') (hw : Cond.constantLong own index v ∈ mz_TB) (k : mz_G E X nL pc' L (.long v :: st) σ) : mz_G E X nL pc L (st) σ := by
  obtain ⟨d, rfl⟩ := d
  exact fun κ H locs ls hP hS hl => lv_ldc2 C.1 C.2.1 C.2.2.2.1 (C.2.2.2.2.1 _ hw) d (k κ H locs ls hP hS hl)
theorem mr_iload_n (C : mz_C E X cc own nL fr lo) (j : Nat) {k4 : Fin 4} {i : Nat} {x : Int32} (d : mz_d cc pc (.iload_n k4) 1 pc') (hi : (k4 : Nat) = i) (hj : L[j]? = some (i, .int x)) (k : mz_G E X nL pc' L (.int x :: st) σ) : mz_G E X nL pc L (st) σ := by
  obtain ⟨d, rfl⟩ := d
  exact fun κ H locs ls hP hS hl => lv_iload_n C.1 C.2.1 d hi (lv_at hl j hj) (k κ H locs ls hP hS hl)
theorem mr_iload (C : mz_C E X cc own nL fr lo) (j : Nat) {i : Nat} {x : Int32} (d : mz_d cc pc (.iload i) 2 pc') (hj : L[j]? = some (i, .int x)) (k : mz_G E X nL pc' L (.int x :: st) σ) : mz_G E X nL pc L (st) σ := by
  obtain ⟨d, rfl⟩ := d
  exact fun κ H locs ls hP hS hl => lv_iload C.1 C.2.1 d (lv_at hl j hj) (k κ H locs ls hP hS hl)
theorem mr_lload_n (C : mz_C E X cc own nL fr lo) (j : Nat) {k4 : Fin 4} {i : Nat} {x : Int64} (d : mz_d cc pc (.lload_n k4) 1 pc') (hi : (k4 : Nat) = i) (hj : L[j]? = some (i, .long x)) (k : mz_G E X nL pc' L (.long x :: st) σ) : mz_G E X nL pc L (st) σ := by
  obtain ⟨d, rfl⟩ := d
  exact fun κ H locs ls hP hS hl => lv_lload_n C.1 C.2.1 d hi (lv_at hl j hj) (k κ H locs ls hP hS hl)
theorem mr_lload (C : mz_C E X cc own nL fr lo) (j : Nat) {i : Nat} {x : Int64} (d : mz_d cc pc (.lload i) 2 pc') (hj : L[j]? = some (i, .long x)) (k : mz_G E X nL pc' L (.long x :: st) σ) : mz_G E X nL pc L (st) σ := by
  obtain ⟨d, rfl⟩ := d
  exact fun κ H locs ls hP hS hl => lv_lload C.1 C.2.1 d (lv_at hl j hj) (k κ H locs ls hP hS hl)
theorem mr_aload_n (C : mz_C E X cc own nL fr lo) (j : Nat) {k4 : Fin 4} {i : Nat} {x : Nat} (d : mz_d cc pc (.aload_n k4) 1 pc') (hi : (k4 : Nat) = i) (hj : L[j]? = some (i, .ref x)) (k : mz_G E X nL pc' L (.ref x :: st) σ) : mz_G E X nL pc L (st) σ := by
  obtain ⟨d, rfl⟩ := d
  exact fun κ H locs ls hP hS hl => lv_aload_n C.1 C.2.1 d hi (lv_at hl j hj) (k κ H locs ls hP hS hl)
theorem mr_aload (C : mz_C E X cc own nL fr lo) (j : Nat) {i : Nat} {x : Nat} (d : mz_d cc pc (.aload i) 2 pc') (hj : L[j]? = some (i, .ref x)) (k : mz_G E X nL pc' L (.ref x :: st) σ) : mz_G E X nL pc L (st) σ := by
  obtain ⟨d, rfl⟩ := d
  exact fun κ H locs ls hP hS hl => lv_aload C.1 C.2.1 d (lv_at hl j hj) (k κ H locs ls hP hS hl)
theorem mr_istore_n (C : mz_C E X cc own nL fr lo) {k4 : Fin 4} {i : Nat} {x : Int32} (d : mz_d cc pc (.istore_n k4) 1 pc') (hi : (k4 : Nat) = i) (hn : i < nL) (hl' : (i, Value.int x) :: L.filter (fun q => !(q.1 == i) && !(q.1 + 1 == i && q.2.category == 2)) = L') (k : mz_G E X nL pc' L' st σ) : mz_G E X nL pc L (Value.int x :: st) σ := by
  obtain ⟨d, rfl⟩ := d
  exact fun κ H locs ls hP hS hl => lv_istore_n C.1 C.2.1 d hi hl hn hl' (fun ls' h' => k κ H locs ls' hP hS h')
theorem mr_istore (C : mz_C E X cc own nL fr lo) {i : Nat} {x : Int32} (d : mz_d cc pc (.istore i) 2 pc')  (hn : i < nL) (hl' : (i, Value.int x) :: L.filter (fun q => !(q.1 == i) && !(q.1 + 1 == i && q.2.category == 2)) = L') (k : mz_G E X nL pc' L' st σ) : mz_G E X nL pc L (Value.int x :: st) σ := by
  obtain ⟨d, rfl⟩ := d
  exact fun κ H locs ls hP hS hl => lv_istore C.1 C.2.1 d hl hn hl' (fun ls' h' => k κ H locs ls' hP hS h')
theorem mr_lstore_n (C : mz_C E X cc own nL fr lo) {k4 : Fin 4} {i : Nat} {x : Int64} (d : mz_d cc pc (.lstore_n k4) 1 pc') (hi : (k4 : Nat) = i) (hn : i + 1 < nL) (hl' : (i, Value.long x) :: L.filter (fun q => !(q.1 == i) && (!(q.1 == i + 1) && !(q.1 + 1 == i && q.2.category == 2))) = L') (k : mz_G E X nL pc' L' st σ) : mz_G E X nL pc L (Value.long x :: st) σ := by
  obtain ⟨d, rfl⟩ := d
  exact fun κ H locs ls hP hS hl => lv_lstore_n C.1 C.2.1 d hi hl hn hl' (fun ls' h' => k κ H locs ls' hP hS h')
theorem mr_lstore (C : mz_C E X cc own nL fr lo) {i : Nat} {x : Int64} (d : mz_d cc pc (.lstore i) 2 pc')  (hn : i + 1 < nL) (hl' : (i, Value.long x) :: L.filter (fun q => !(q.1 == i) && (!(q.1 == i + 1) && !(q.1 + 1 == i && q.2.category == 2))) = L') (k : mz_G E X nL pc' L' st σ) : mz_G E X nL pc L (Value.long x :: st) σ := by
  obtain ⟨d, rfl⟩ := d
  exact fun κ H locs ls hP hS hl => lv_lstore C.1 C.2.1 d hl hn hl' (fun ls' h' => k κ H locs ls' hP hS h')
theorem mr_astore_n (C : mz_C E X cc own nL fr lo) {k4 : Fin 4} {i : Nat} {x : Nat} (d : mz_d cc pc (.astore_n k4) 1 pc') (hi : (k4 : Nat) = i) (hn : i < nL) (hl' : (i, Value.ref x) :: L.filter (fun q => !(q.1 == i) && !(q.1 + 1 == i && q.2.category == 2)) = L') (k : mz_G E X nL pc' L' st σ) : mz_G E X nL pc L (Value.ref x :: st) σ := by
  obtain ⟨d, rfl⟩ := d
  exact fun κ H locs ls hP hS hl => lv_astore_n C.1 C.2.1 d hi hl hn hl' (fun ls' h' => k κ H locs ls' hP hS h')
theorem mr_astore (C : mz_C E X cc own nL fr lo) {i : Nat} {x : Nat} (d : mz_d cc pc (.astore i) 2 pc')  (hn : i < nL) (hl' : (i, Value.ref x) :: L.filter (fun q => !(q.1 == i) && !(q.1 + 1 == i && q.2.category == 2)) = L') (k : mz_G E X nL pc' L' st σ) : mz_G E X nL pc L (Value.ref x :: st) σ := by
  obtain ⟨d, rfl⟩ := d
  exact fun κ H locs ls hP hS hl => lv_astore C.1 C.2.1 d hl hn hl' (fun ls' h' => k κ H locs ls' hP hS h')
theorem mr_iinc (C : mz_C E X cc own nL fr lo) (j : Nat) {i : Nat} {n : Int} {x v : Int32} (d : mz_d cc pc (.iinc i n) 3 pc') (hj : L[j]? = some (i, .int x)) (hv : x + Int32.ofInt n = v) (hn : i < nL) (hl' : (i, Value.int v) :: L.filter (fun q => !(q.1 == i) && !(q.1 + 1 == i && q.2.category == 2)) = L') (k : mz_G E X nL pc' L' st σ) : mz_G E X nL pc L st σ := by
  obtain ⟨d, rfl⟩ := d
  exact fun κ H locs ls hP hS hl => lv_iinc C.1 C.2.1 d hl hj hv hn hl' (fun ls' h' => k κ H locs ls' hP hS h')
theorem mr_iadd (C : mz_C E X cc own nL fr lo) {x y : Int32} (d : mz_d cc pc (.iadd) 1 pc')  (k : mz_G E X nL pc' L (.int (x + y) :: st) σ) : mz_G E X nL pc L (.int y :: .int x :: st) σ := by
  obtain ⟨d, rfl⟩ := d
  exact fun κ H locs ls hP hS hl => lv_iadd C.1 C.2.1 d (k κ H locs ls hP hS hl)
theorem mr_isub (C : mz_C E X cc own nL fr lo) {x y : Int32} (d : mz_d cc pc (.isub) 1 pc')  (k : mz_G E X nL pc' L (.int (x - y) :: st) σ) : mz_G E X nL pc L (.int y :: .int x :: st) σ := by
  obtain ⟨d, rfl⟩ := d
  exact fun κ H locs ls hP hS hl => lv_isub C.1 C.2.1 d (k κ H locs ls hP hS hl)
theorem mr_imul (C : mz_C E X cc own nL fr lo) {x y : Int32} (d : mz_d cc pc (.imul) 1 pc')  (k : mz_G E X nL pc' L (.int (x * y) :: st) σ) : mz_G E X nL pc L (.int y :: .int x :: st) σ := by
  obtain ⟨d, rfl⟩ := d
  exact fun κ H locs ls hP hS hl => lv_imul C.1 C.2.1 d (k κ H locs ls hP hS hl)
theorem mr_iand (C : mz_C E X cc own nL fr lo) {x y : Int32} (d : mz_d cc pc (.iand) 1 pc')  (k : mz_G E X nL pc' L (.int (x &&& y) :: st) σ) : mz_G E X nL pc L (.int y :: .int x :: st) σ := by
  obtain ⟨d, rfl⟩ := d
  exact fun κ H locs ls hP hS hl => lv_iand C.1 C.2.1 d (k κ H locs ls hP hS hl)
theorem mr_ior (C : mz_C E X cc own nL fr lo) {x y : Int32} (d : mz_d cc pc (.ior) 1 pc')  (k : mz_G E X nL pc' L (.int (x ||| y) :: st) σ) : mz_G E X nL pc L (.int y :: .int x :: st) σ := by
  obtain ⟨d, rfl⟩ := d
  exact fun κ H locs ls hP hS hl => lv_ior C.1 C.2.1 d (k κ H locs ls hP hS hl)
theorem mr_ixor (C : mz_C E X cc own nL fr lo) {x y : Int32} (d : mz_d cc pc (.ixor) 1 pc')  (k : mz_G E X nL pc' L (.int (x ^^^ y) :: st) σ) : mz_G E X nL pc L (.int y :: .int x :: st) σ := by
  obtain ⟨d, rfl⟩ := d
  exact fun κ H locs ls hP hS hl => lv_ixor C.1 C.2.1 d (k κ H locs ls hP hS hl)
theorem mr_ishl (C : mz_C E X cc own nL fr lo) {x y : Int32} (d : mz_d cc pc (.ishl) 1 pc')  (k : mz_G E X nL pc' L (.int (x <<< (y &&& 31)) :: st) σ) : mz_G E X nL pc L (.int y :: .int x :: st) σ := by
  obtain ⟨d, rfl⟩ := d
  exact fun κ H locs ls hP hS hl => lv_ishl C.1 C.2.1 d (k κ H locs ls hP hS hl)
theorem mr_ishr (C : mz_C E X cc own nL fr lo) {x y : Int32} (d : mz_d cc pc (.ishr) 1 pc')  (k : mz_G E X nL pc' L (.int (x >>> (y &&& 31)) :: st) σ) : mz_G E X nL pc L (.int y :: .int x :: st) σ := by
  obtain ⟨d, rfl⟩ := d
  exact fun κ H locs ls hP hS hl => lv_ishr C.1 C.2.1 d (k κ H locs ls hP hS hl)
theorem mr_idiv (C : mz_C E X cc own nL fr lo) {x y : Int32} (d : mz_d cc pc (.idiv) 1 pc') (hne : ¬ y = 0) (k : mz_G E X nL pc' L (.int (x / y) :: st) σ) : mz_G E X nL pc L (.int y :: .int x :: st) σ := by
  obtain ⟨d, rfl⟩ := d
  exact fun κ H locs ls hP hS hl => lv_idiv C.1 C.2.1 d hne (k κ H locs ls hP hS hl)
theorem mr_irem (C : mz_C E X cc own nL fr lo) {x y : Int32} (d : mz_d cc pc (.irem) 1 pc') (hne : ¬ y = 0) (k : mz_G E X nL pc' L (.int (x - x / y * y) :: st) σ) : mz_G E X nL pc L (.int y :: .int x :: st) σ := by
  obtain ⟨d, rfl⟩ := d
  exact fun κ H locs ls hP hS hl => lv_irem C.1 C.2.1 d hne (k κ H locs ls hP hS hl)
theorem mr_iushr (C : mz_C E X cc own nL fr lo) {x y : Int32} (d : mz_d cc pc (.iushr) 1 pc')  (k : mz_G E X nL pc' L (.int ((x.toUInt32 >>> (y.toUInt32 &&& Int32.toUInt32 31)).toInt32) :: st) σ) : mz_G E X nL pc L (.int y :: .int x :: st) σ := by
  obtain ⟨d, rfl⟩ := d
  exact fun κ H locs ls hP hS hl => lv_iushr C.1 C.2.1 d rfl (k κ H locs ls hP hS hl)
theorem mr_i2l (C : mz_C E X cc own nL fr lo) {x : Int32} (d : mz_d cc pc (.i2l) 1 pc')  (k : mz_G E X nL pc' L (.long x.toInt64 :: st) σ) : mz_G E X nL pc L (.int x :: st) σ := by
  obtain ⟨d, rfl⟩ := d
  exact fun κ H locs ls hP hS hl => lv_i2l C.1 C.2.1 d rfl (k κ H locs ls hP hS hl)
theorem mr_ladd (C : mz_C E X cc own nL fr lo) {x y : Int64} (d : mz_d cc pc (.ladd) 1 pc')  (k : mz_G E X nL pc' L (.long (x + y) :: st) σ) : mz_G E X nL pc L (.long y :: .long x :: st) σ := by
  obtain ⟨d, rfl⟩ := d
  exact fun κ H locs ls hP hS hl => lv_ladd C.1 C.2.1 d (k κ H locs ls hP hS hl)
theorem mr_land (C : mz_C E X cc own nL fr lo) {x y : Int64} (d : mz_d cc pc (.land) 1 pc')  (k : mz_G E X nL pc' L (.long (x &&& y) :: st) σ) : mz_G E X nL pc L (.long y :: .long x :: st) σ := by
  obtain ⟨d, rfl⟩ := d
  exact fun κ H locs ls hP hS hl => lv_land C.1 C.2.1 d (k κ H locs ls hP hS hl)
theorem mr_lshl (C : mz_C E X cc own nL fr lo) {x : Int64} {y : Int32} (d : mz_d cc pc (.lshl) 1 pc')  (k : mz_G E X nL pc' L (.long (x <<< (y.toInt64 &&& 63)) :: st) σ) : mz_G E X nL pc L (.int y :: .long x :: st) σ := by
  obtain ⟨d, rfl⟩ := d
  exact fun κ H locs ls hP hS hl => lv_lshl C.1 C.2.1 d rfl (k κ H locs ls hP hS hl)
theorem mr_lcmp (C : mz_C E X cc own nL fr lo) {x y : Int64} (d : mz_d cc pc (.lcmp) 1 pc')  (k : mz_G E X nL pc' L (.int (lg_cmp x y) :: st) σ) : mz_G E X nL pc L (.long y :: .long x :: st) σ := by
  obtain ⟨d, rfl⟩ := d
  exact fun κ H locs ls hP hS hl => W.lcmp C.1 C.2.1 d (k κ H locs ls hP hS hl)
theorem mr_dup (C : mz_C E X cc own nL fr lo) {a : Value} (d : mz_d cc pc (.dup) 1 pc') (hc : a.category = 1) (k : mz_G E X nL pc' L (a :: a :: st) σ) : mz_G E X nL pc L (a :: st) σ := by
  obtain ⟨d, rfl⟩ := d
  exact fun κ H locs ls hP hS hl => lv_dup C.1 C.2.1 d hc (k κ H locs ls hP hS hl)
theorem mr_pop (C : mz_C E X cc own nL fr lo) {a : Value} (d : mz_d cc pc (.pop) 1 pc') (hc : a.category = 1) (k : mz_G E X nL pc' L (st) σ) : mz_G E X nL pc L (a :: st) σ := by
  obtain ⟨d, rfl⟩ := d
  exact fun κ H locs ls hP hS hl => lv_pop C.1 C.2.1 d hc (k κ H locs ls hP hS hl)
theorem mr_dup2 (C : mz_C E X cc own nL fr lo) {a b : Value} (d : mz_d cc pc (.dup2) 1 pc') (ha : a.category = 1) (hb : b.category = 1) (k : mz_G E X nL pc' L (a :: b :: a :: b :: st) σ) : mz_G E X nL pc L (a :: b :: st) σ := by
  obtain ⟨d, rfl⟩ := d
  exact fun κ H locs ls hP hS hl => lv_dup2_11 C.1 C.2.1 d ha hb (k κ H locs ls hP hS hl)
theorem mr_if_eq (C : mz_C E X cc own nL fr lo) {x : Int32} {off : Int} {tgt : Nat} (d : mz_d cc pc (.ifCond .eq off) 3 pc') (ht : (pc : Int) + off = (tgt : Int)) (kt : x = 0 → mz_G E X nL tgt L st σ) (kf : ¬ x = 0 → mz_G E X nL pc' L st σ) : mz_G E X nL pc L (.int x :: st) σ := by
  obtain ⟨d, rfl⟩ := d
  exact fun κ H locs ls hP hS hl => lv_if_eq C.1 C.2.1 d ht (fun h => kt h κ H locs ls hP hS hl) (fun h => kf h κ H locs ls hP hS hl)
theorem mr_if_ne (C : mz_C E X cc own nL fr lo) {x : Int32} {off : Int} {tgt : Nat} (d : mz_d cc pc (.ifCond .ne off) 3 pc') (ht : (pc : Int) + off = (tgt : Int)) (kt : ¬ x = 0 → mz_G E X nL tgt L st σ) (kf : x = 0 → mz_G E X nL pc' L st σ) : mz_G E X nL pc L (.int x :: st) σ := by
  obtain ⟨d, rfl⟩ := d
  exact fun κ H locs ls hP hS hl => lv_if_ne C.1 C.2.1 d ht (fun h => kt h κ H locs ls hP hS hl) (fun h => kf h κ H locs ls hP hS hl)
theorem mr_if_lt (C : mz_C E X cc own nL fr lo) {x : Int32} {off : Int} {tgt : Nat} (d : mz_d cc pc (.ifCond .lt off) 3 pc') (ht : (pc : Int) + off = (tgt : Int)) (kt : x < 0 → mz_G E X nL tgt L st σ) (kf : ¬ x < 0 → mz_G E X nL pc' L st σ) : mz_G E X nL pc L (.int x :: st) σ := by
  obtain ⟨d, rfl⟩ := d
  exact fun κ H locs ls hP hS hl => lv_if_lt C.1 C.2.1 d ht (fun h => kt h κ H locs ls hP hS hl) (fun h => kf h κ H locs ls hP hS hl)
theorem mr_if_ge (C : mz_C E X cc own nL fr lo) {x : Int32} {off : Int} {tgt : Nat} (d : mz_d cc pc (.ifCond .ge off) 3 pc') (ht : (pc : Int) + off = (tgt : Int)) (kt : 0 ≤ x → mz_G E X nL tgt L st σ) (kf : ¬ 0 ≤ x → mz_G E X nL pc' L st σ) : mz_G E X nL pc L (.int x :: st) σ := by
  obtain ⟨d, rfl⟩ := d
  exact fun κ H locs ls hP hS hl => lv_if_ge C.1 C.2.1 d ht (fun h => kt h κ H locs ls hP hS hl) (fun h => kf h κ H locs ls hP hS hl)
theorem mr_if_gt (C : mz_C E X cc own nL fr lo) {x : Int32} {off : Int} {tgt : Nat} (d : mz_d cc pc (.ifCond .gt off) 3 pc') (ht : (pc : Int) + off = (tgt : Int)) (kt : 0 < x → mz_G E X nL tgt L st σ) (kf : ¬ 0 < x → mz_G E X nL pc' L st σ) : mz_G E X nL pc L (.int x :: st) σ := by
  obtain ⟨d, rfl⟩ := d
  exact fun κ H locs ls hP hS hl => lv_if_gt C.1 C.2.1 d ht (fun h => kt h κ H locs ls hP hS hl) (fun h => kf h κ H locs ls hP hS hl)
theorem mr_if_le (C : mz_C E X cc own nL fr lo) {x : Int32} {off : Int} {tgt : Nat} (d : mz_d cc pc (.ifCond .le off) 3 pc') (ht : (pc : Int) + off = (tgt : Int)) (kt : x ≤ 0 → mz_G E X nL tgt L st σ) (kf : ¬ x ≤ 0 → mz_G E X nL pc' L st σ) : mz_G E X nL pc L (.int x :: st) σ := by
  obtain ⟨d, rfl⟩ := d
  exact fun κ H locs ls hP hS hl => lv_if_le C.1 C.2.1 d ht (fun h => kt h κ H locs ls hP hS hl) (fun h => kf h κ H locs ls hP hS hl)
theorem mr_icmp_eq (C : mz_C E X cc own nL fr lo) {x y : Int32} {off : Int} {tgt : Nat} (d : mz_d cc pc (.if_icmp .eq off) 3 pc') (ht : (pc : Int) + off = (tgt : Int)) (kt : x = y → mz_G E X nL tgt L st σ) (kf : ¬ x = y → mz_G E X nL pc' L st σ) : mz_G E X nL pc L (.int y :: .int x :: st) σ := by
  obtain ⟨d, rfl⟩ := d
  exact fun κ H locs ls hP hS hl => lv_icmp_eq C.1 C.2.1 d ht (fun h => kt h κ H locs ls hP hS hl) (fun h => kf h κ H locs ls hP hS hl)
theorem mr_icmp_ne (C : mz_C E X cc own nL fr lo) {x y : Int32} {off : Int} {tgt : Nat} (d : mz_d cc pc (.if_icmp .ne off) 3 pc') (ht : (pc : Int) + off = (tgt : Int)) (kt : ¬ x = y → mz_G E X nL tgt L st σ) (kf : x = y → mz_G E X nL pc' L st σ) : mz_G E X nL pc L (.int y :: .int x :: st) σ := by
  obtain ⟨d, rfl⟩ := d
  exact fun κ H locs ls hP hS hl => lv_icmp_ne C.1 C.2.1 d ht (fun h => kt h κ H locs ls hP hS hl) (fun h => kf h κ H locs ls hP hS hl)
theorem mr_icmp_lt (C : mz_C E X cc own nL fr lo) {x y : Int32} {off : Int} {tgt : Nat} (d : mz_d cc pc (.if_icmp .lt off) 3 pc') (ht : (pc : Int) + off = (tgt : Int)) (kt : x < y → mz_G E X nL tgt L st σ) (kf : ¬ x < y → mz_G E X nL pc' L st σ) : mz_G E X nL pc L (.int y :: .int x :: st) σ := by
  obtain ⟨d, rfl⟩ := d
  exact fun κ H locs ls hP hS hl => lv_icmp_lt C.1 C.2.1 d ht (fun h => kt h κ H locs ls hP hS hl) (fun h => kf h κ H locs ls hP hS hl)
theorem mr_icmp_ge (C : mz_C E X cc own nL fr lo) {x y : Int32} {off : Int} {tgt : Nat} (d : mz_d cc pc (.if_icmp .ge off) 3 pc') (ht : (pc : Int) + off = (tgt : Int)) (kt : y ≤ x → mz_G E X nL tgt L st σ) (kf : ¬ y ≤ x → mz_G E X nL pc' L st σ) : mz_G E X nL pc L (.int y :: .int x :: st) σ := by
  obtain ⟨d, rfl⟩ := d
  exact fun κ H locs ls hP hS hl => lv_icmp_ge C.1 C.2.1 d ht (fun h => kt h κ H locs ls hP hS hl) (fun h => kf h κ H locs ls hP hS hl)
theorem mr_icmp_gt (C : mz_C E X cc own nL fr lo) {x y : Int32} {off : Int} {tgt : Nat} (d : mz_d cc pc (.if_icmp .gt off) 3 pc') (ht : (pc : Int) + off = (tgt : Int)) (kt : y < x → mz_G E X nL tgt L st σ) (kf : ¬ y < x → mz_G E X nL pc' L st σ) : mz_G E X nL pc L (.int y :: .int x :: st) σ := by
  obtain ⟨d, rfl⟩ := d
  exact fun κ H locs ls hP hS hl => lv_icmp_gt C.1 C.2.1 d ht (fun h => kt h κ H locs ls hP hS hl) (fun h => kf h κ H locs ls hP hS hl)
theorem mr_icmp_le (C : mz_C E X cc own nL fr lo) {x y : Int32} {off : Int} {tgt : Nat} (d : mz_d cc pc (.if_icmp .le off) 3 pc') (ht : (pc : Int) + off = (tgt : Int)) (kt : x ≤ y → mz_G E X nL tgt L st σ) (kf : ¬ x ≤ y → mz_G E X nL pc' L st σ) : mz_G E X nL pc L (.int y :: .int x :: st) σ := by
  obtain ⟨d, rfl⟩ := d
  exact fun κ H locs ls hP hS hl => lv_icmp_le C.1 C.2.1 d ht (fun h => kt h κ H locs ls hP hS hl) (fun h => kf h κ H locs ls hP hS hl)
theorem mr_goto (C : mz_C E X cc own nL fr lo) {off : Int} {tgt : Nat} (d : mz_d cc pc (.goto off) 3 pc') (ht : (pc : Int) + off = (tgt : Int)) (k : mz_G E X nL tgt L st σ) : mz_G E X nL pc L st σ := by
  obtain ⟨d, rfl⟩ := d
  exact fun κ H locs ls hP hS hl => lv_goto C.1 C.2.1 d ht (k κ H locs ls hP hS hl)
theorem mr_get (C : mz_C E X cc own nL fr lo) {index ci N : Nat} {Cn : String} {T : u_T} {ty : Nat → FieldType} {v : Value} (o k0 : Nat) {fs : List Value} (oc : mz_oc ci Cn T N ty) (lk : Cond.fieldLink own index Cn (T k0).2.1 (T k0).2.2.1 ∈ mz_TB) (hd : (T k0).1 = Cn) (ho : o < mz_NC) (hk : k0 < N) (he : ∀ κ, mz_cel E σ κ o = .inr (ci, fs)) (hv : fs[k0]? = some v) (d : mz_d cc pc (.getfield index) 3 pc') (k : mz_G E X nL pc' L (v :: st) σ) : mz_G E X nL pc L (.ref (E.2.1 o) :: st) σ := by
  obtain ⟨d, rfl⟩ := d
  intro κ H locs ls hP hS hl
  exact va_get C.1 C.2.1 C.2.2.2.2.1 oc.2.1 C.2.2.2.1 C.2.2.2.2.2.2.1 hP o (by rw [mz_ws_get E σ κ ho, he κ]) oc.1 k0 hk (C.2.2.2.2.1 _ lk) (by rw [hd]; exact fun _ h => h) hv d (k κ H locs ls hP hS hl)
theorem mr_put (C : mz_C E X cc own nL fr lo) {index ci N : Nat} {Cn : String} {T : u_T} {ty : Nat → FieldType} {v : Int32} {t0 : FieldType} (o k0 sid : Nat) {fs : List Value} (oc : mz_oc ci Cn T N ty) (lk : Cond.fieldLink own index Cn (T k0).2.1 (T k0).2.2.1 ∈ mz_TB) (hd : (T k0).1 = Cn) (ho : o < mz_NC) (hk : k0 < N) (he : ∀ κ, mz_cel E σ κ o = .inr (ci, fs)) (hf : (T k0).2.2.2 = false) (hty : parseFieldDescriptor (T k0).2.2.1 = some t0) (hn : narrow t0 (.int v) = .int v) (hfit : fits t0 (.int v) = true) (hkl : k0 < fs.length) (h1 : ∀ κ, mz_cel E (mz_up σ sid 0 v) κ o = .inr (ci, fs.set k0 (.int v))) (h2 : ∀ κ j, j < mz_NC → j ≠ o → mz_cel E (mz_up σ sid 0 v) κ j = mz_cel E σ κ j) (d : mz_d cc pc (.putfield index) 3 pc') (k : mz_G E X nL pc' L st (mz_up σ sid 0 v)) : mz_G E X nL pc L (.int v :: .ref (E.2.1 o) :: st) σ := by
  obtain ⟨d, rfl⟩ := d
  intro κ H locs ls hP hS hl
  refine va_put C.1 C.2.1 C.2.2.2.2.1 oc.2.1 ty oc.2.2.1 oc.2.2.2 C.2.2.2.1 C.2.2.2.2.2.2.1 hP (mz_ws_D C.2.2.2.2.2.2.2.1) hS o (by rw [mz_ws_get E σ κ ho, he κ]) oc.1 k0 hk (C.2.2.2.2.1 _ lk) (by rw [hd]; exact fun _ h => h) hf hty hn hfit hkl d (fun H1 locs1 hP1 _ hS1 => ?_)
  rw [mz_ws_set ho (h1 κ) (h2 κ)] at hP1
  exact k κ H1 locs1 ls hP1 hS1 hl
theorem mr_getN (C : mz_C E X cc own nL fr lo) {index ci N : Nat} {Cn : String} {host : String} {T : u_T} {ty : Nat → FieldType} {v : Value} (o k0 : Nat) {fs : List Value} (oc : mz_oc ci Cn T N ty) (lk : Cond.fieldLinkNest own index Cn (T k0).2.1 (T k0).2.2.1 host ∈ mz_NW) (hd : (T k0).1 = Cn) (ho : o < mz_NC) (hk : k0 < N) (he : ∀ κ, mz_cel E σ κ o = .inr (ci, fs)) (hv : fs[k0]? = some v) (d : mz_d cc pc (.getfield index) 3 pc') (k : mz_G E X nL pc' L (v :: st) σ) : mz_G E X nL pc L (.ref (E.2.1 o) :: st) σ := by
  obtain ⟨d, rfl⟩ := d
  intro κ H locs ls hP hS hl
  exact va_getN C.1 C.2.1 C.2.2.2.2.1 oc.2.1 C.2.2.2.1 C.2.2.2.2.2.2.1 hP o (by rw [mz_ws_get E σ κ ho, he κ]) oc.1 k0 hk (va_Nw.use rfl (C.2.2.2.2.2.1 _ lk)) (by rw [hd]; exact fun _ h => h) hv d (k κ H locs ls hP hS hl)
theorem mr_putN (C : mz_C E X cc own nL fr lo) {index ci N : Nat} {Cn : String} {host : String} {T : u_T} {ty : Nat → FieldType} {v : Int32} {t0 : FieldType} (o k0 sid : Nat) {fs : List Value} (oc : mz_oc ci Cn T N ty) (lk : Cond.fieldLinkNest own index Cn (T k0).2.1 (T k0).2.2.1 host ∈ mz_NW) (hd : (T k0).1 = Cn) (ho : o < mz_NC) (hk : k0 < N) (he : ∀ κ, mz_cel E σ κ o = .inr (ci, fs)) (hf : (T k0).2.2.2 = false) (hty : parseFieldDescriptor (T k0).2.2.1 = some t0) (hn : narrow t0 (.int v) = .int v) (hfit : fits t0 (.int v) = true) (hkl : k0 < fs.length) (h1 : ∀ κ, mz_cel E (mz_up σ sid 0 v) κ o = .inr (ci, fs.set k0 (.int v))) (h2 : ∀ κ j, j < mz_NC → j ≠ o → mz_cel E (mz_up σ sid 0 v) κ j = mz_cel E σ κ j) (d : mz_d cc pc (.putfield index) 3 pc') (k : mz_G E X nL pc' L st (mz_up σ sid 0 v)) : mz_G E X nL pc L (.int v :: .ref (E.2.1 o) :: st) σ := by
  obtain ⟨d, rfl⟩ := d
  intro κ H locs ls hP hS hl
  refine va_putN C.1 C.2.1 C.2.2.2.2.1 oc.2.1 ty oc.2.2.1 oc.2.2.2 C.2.2.2.1 C.2.2.2.2.2.2.1 hP (mz_ws_D C.2.2.2.2.2.2.2.1) hS o (by rw [mz_ws_get E σ κ ho, he κ]) oc.1 k0 hk (va_Nw.use rfl (C.2.2.2.2.2.1 _ lk)) (by rw [hd]; exact fun _ h => h) hf hty hn hfit hkl d (fun H1 locs1 hP1 _ hS1 => ?_)
  rw [mz_ws_set ho (h1 κ) (h2 κ)] at hP1
  exact k κ H1 locs1 ls hP1 hS1 hl
theorem mr_iald (C : mz_C E X cc own nL fr lo) (a n : Nat) {i : Int32} (ho : a < mz_NC) (he : ∀ κ, mz_cel E σ κ a = .inl (E.2.2.1, n, .inl (σ a))) (hin : vp_in i n) (d : mz_d cc pc (.iaload) 1 pc') (k : mz_G E X nL pc' L (.int (mz_rd σ a i) :: st) σ) : mz_G E X nL pc L (.int i :: .ref (E.2.1 a) :: st) σ := by
  obtain ⟨d, rfl⟩ := d
  intro κ H locs ls hP hS hl
  exact va_iald C.1 C.2.1 C.2.2.2.2.2.2.1 hP a 0 (by rw [mz_ws_get E σ κ ho, he κ]) rfl hin d (k κ H locs ls hP hS hl)
theorem mr_zald (C : mz_C E X cc own nL fr lo) (a n : Nat) {i : Int32} (ho : a < mz_NC) (he : ∀ κ, mz_cel E σ κ a = .inl (E.2.2.2.2, n, .inl (σ a))) (hin : vp_in i n) (d : mz_d cc pc (.baload) 1 pc') (k : mz_G E X nL pc' L (.int (mz_rd σ a i) :: st) σ) : mz_G E X nL pc L (.int i :: .ref (E.2.1 a) :: st) σ := by
  obtain ⟨d, rfl⟩ := d
  intro κ H locs ls hP hS hl
  exact va_zald C.1 C.2.1 C.2.2.2.2.2.2.1 hP a 2 (by rw [mz_ws_get E σ κ ho, he κ]) rfl hin d (k κ H locs ls hP hS hl)
theorem mr_iast (C : mz_C E X cc own nL fr lo) (a n : Nat) {i x : Int32} (ha : a < 1000) (ho : a < mz_NC) (he : ∀ (σ : mz_St) κ, mz_cel E σ κ a = .inl (E.2.2.1, n, .inl (σ a))) (hin : vp_in i n)  (d : mz_d cc pc (.iastore) 1 pc') (k : mz_G E X nL pc' L st (mz_wr σ a i x)) : mz_G E X nL pc L (.int x :: .int i :: .ref (E.2.1 a) :: st) σ := by
  obtain ⟨d, rfl⟩ := d
  intro κ H locs ls hP hS hl
  refine va_iast C.1 C.2.1 C.2.2.2.2.2.2.1 hP (mz_ws_D C.2.2.2.2.2.2.2.1) hS a 0 (by rw [mz_ws_get E σ κ ho, he σ κ]) rfl hin d (fun H1 locs1 hP1 _ hS1 => ?_)
  rw [mz_ws_set (σ' := mz_wr σ a i x) (κ' := κ) ho (by rw [he]; simp only [mz_wr, mz_up_eq]) (fun j _ hj => mz_cel_up ha hj)] at hP1
  exact k κ H1 locs1 ls hP1 hS1 hl
theorem mr_zast (C : mz_C E X cc own nL fr lo) (a n : Nat) {i x : Int32} (ha : a < 1000) (ho : a < mz_NC) (he : ∀ (σ : mz_St) κ, mz_cel E σ κ a = .inl (E.2.2.2.2, n, .inl (σ a))) (hin : vp_in i n) (hz : x = 0 ∨ x = 1) (d : mz_d cc pc (.bastore) 1 pc') (k : mz_G E X nL pc' L st (mz_wr σ a i x)) : mz_G E X nL pc L (.int x :: .int i :: .ref (E.2.1 a) :: st) σ := by
  obtain ⟨d, rfl⟩ := d
  intro κ H locs ls hP hS hl
  have hx : vp_nar .boolean x = x := by rcases hz with rfl | rfl <;> rfl
  refine va_zast C.1 C.2.1 C.2.2.2.2.2.2.1 hP (mz_ws_D C.2.2.2.2.2.2.2.1) hS a 2 (by rw [mz_ws_get E σ κ ho, he σ κ]) rfl hin d (fun H1 locs1 hP1 _ hS1 => ?_)
  rw [hx] at hP1
  rw [mz_ws_set (σ' := mz_wr σ a i x) (κ' := κ) ho (by rw [he]; simp only [mz_wr, mz_up_eq]) (fun j _ hj => mz_cel_up ha hj)] at hP1
  exact k κ H1 locs1 ls hP1 hS1 hl
theorem mr_lald (C : mz_C E X cc own nL fr lo) {i : Int32} (hin : vp_in i 221) (d : mz_d cc pc (.laload) 1 pc') (k : ∀ v : Int64, mz_G E X nL pc' L (.long v :: st) σ) : mz_G E X nL pc L (.int i :: .ref (E.2.1 41) :: st) σ := by
  obtain ⟨d, rfl⟩ := d
  intro κ H locs ls hP hS hl
  exact va_lald C.1 C.2.1 C.2.2.2.2.2.2.1 hP 41 1 (mz_ws_get E σ κ (by decide)) rfl hin d (k _ κ H locs ls hP hS hl)
theorem mr_last (C : mz_C E X cc own nL fr lo) {i : Int32} {x : Int64} (hin : vp_in i 221) (d : mz_d cc pc (.lastore) 1 pc') (k : mz_G E X nL pc' L st σ) : mz_G E X nL pc L (.long x :: .int i :: .ref (E.2.1 41) :: st) σ := by
  obtain ⟨d, rfl⟩ := d
  intro κ H locs ls hP hS hl
  refine va_last C.1 C.2.1 C.2.2.2.2.2.2.1 hP (mz_ws_D C.2.2.2.2.2.2.2.1) hS 41 1 (mz_ws_get E σ κ (by decide)) rfl hin d (fun H1 locs1 hP1 _ hS1 => ?_)
  have e := mz_ws_set (E := E) (σ := σ) (κ := κ) (k := 41) (e := .inl (E.2.2.2.1, 221, .inr (.inl (vp_updL κ i.toNatClampNeg x)))) (σ' := σ) (κ' := vp_updL κ i.toNatClampNeg x) (by decide) rfl (fun j _ hj => mz_cel_k hj)
  rw [e] at hP1
  exact k _ H1 locs1 ls hP1 hS1 hl
theorem mr_alen (C : mz_C E X cc own nL fr lo) (a t0 n : Nat) {cA : ClassId} {v : Int32} {ty : FieldType} (ho : a < mz_NC) (he : ∀ κ, ∃ f, mz_cel E σ κ a = .inl (cA, n, f)) (ht : (mz_tys E)[t0]? = some (cA, ty)) (hv : Int32.ofNat n = v) (d : mz_d cc pc (.arraylength) 1 pc') (k : mz_G E X nL pc' L (.int v :: st) σ) : mz_G E X nL pc L (.ref (E.2.1 a) :: st) σ := by
  obtain ⟨d, rfl⟩ := d
  intro κ H locs ls hP hS hl
  obtain ⟨f, hf⟩ := he κ
  exact va_alen C.1 C.2.1 C.2.2.2.2.2.2.1 hP a t0 (by rw [mz_ws_get E σ κ ho, hf]) ht hv d (k κ H locs ls hP hS hl)
theorem mr_iret (C : mz_C E X cc own nL fr lo) {K : Int32 → mz_St → Prop} (r : mz_Ri E X .int K) {v : Int32} (h : K v σ) (d : mz_d cc pc (.ireturn) 1 pc') : mz_G E X nL pc L [.int v] σ := by
  obtain ⟨d, rfl⟩ := d
  intro κ H locs ls hP hS hl
  obtain ⟨r1, r2, r3⟩ := r
  unfold mz_W
  rw [r3]
  exact W.iret C.1 C.2.1 r1 (fun t ht hW => ⟨⟨v, σ, rfl, h, mz_Wd.mv hP ht hW C.2.2.2.2.2.2.1 C.2.2.2.2.2.1⟩, hS.F ht⟩) hS.2.2 d r2
theorem mr_zret (C : mz_C E X cc own nL fr lo) {K : Int32 → mz_St → Prop} (r : mz_Ri E X .boolean K) {v : Int32} (hz : v = 0 ∨ v = 1) (h : K v σ) (d : mz_d cc pc (.ireturn) 1 pc') : mz_G E X nL pc L [.int v] σ := by
  obtain ⟨d, rfl⟩ := d
  intro κ H locs ls hP hS hl
  obtain ⟨r1, r2, r3⟩ := r
  unfold mz_W
  rw [r3]
  exact W.zret C.1 C.2.1 r1 (by rcases hz with rfl | rfl <;> rfl) (fun t ht hW => ⟨⟨v, σ, rfl, h, mz_Wd.mv hP ht hW C.2.2.2.2.2.2.1 C.2.2.2.2.2.1⟩, hS.F ht⟩) hS.2.2 d r2
theorem mr_vret (C : mz_C E X cc own nL fr lo) {K : mz_St → Prop} (r : mz_Rv E X K) (h : K σ) (d : mz_d cc pc (.return_) 1 pc') : mz_G E X nL pc L [] σ := by
  obtain ⟨d, rfl⟩ := d
  intro κ H locs ls hP hS hl
  obtain ⟨r1, r2, r3⟩ := r
  unfold mz_W
  rw [r3]
  exact W.vret C.1 C.2.1 r1 (fun t ht hW => ⟨⟨σ, rfl, h, mz_Wd.mv hP ht hW C.2.2.2.2.2.2.1 C.2.2.2.2.2.1⟩, hS.F ht⟩) hS.2.2 d r2
theorem mr_cVi (C : mz_C E X cc own nL fr lo) {index n ci N : Nat} {y : MethodName} {cc2 : ByteArray} {nL2 fr2 lo2 : Nat} {ret : Option FieldType} {As : List Value} {T : u_T} {ty : Nat → FieldType} {K : Int32 → mz_St → Prop} (o : Nat) {fs : List Value} (hM : mz_Ci (mx_l X) E y cc2 nL2 ret fr2 lo2 (.ref (E.2.1 o) :: As) σ K) (ok : mz_ok y cc2 nL2 ret n) (oi : mz_oi y) (oc : mz_oc ci y.cls T N ty) (lk : Cond.methodLink own index y ∈ mz_TB) (ho : o < mz_NC) (he : ∀ κ, mz_cel E σ κ o = .inr (ci, fs)) (hn : As.length = n) (hst : st = As.reverse ++ .ref (E.2.1 o) :: rest) (hw : (rest.map fun v => v.category).sum ≤ 8) (hr1 : fr2 + 1 ≤ fr) (hr2 : 8 + (nL2 + 11) + lo2 ≤ lo) (d : mz_d cc pc (.invokevirtual index) 3 pc') (k : ∀ r u, K r u → mz_G E X nL pc' L (.int r :: rest) u) : mz_G E X nL pc L st σ := by
  obtain ⟨d, rfl⟩ := d
  intro κ H locs ls hP hS hl
  have hcell : ∃ cellB : Cell, H[E.2.1 o]? = some cellB ∧ cellB.vm.isStatics = false ∧ (mx_s X).vm.findClass y.cls = some cellB.cls := by
    obtain ⟨r, h1, cell, q1, q2, q3, -⟩ := hP o _ (by rw [mz_ws_get E σ κ ho, he κ])
    have h2 : mz_CL[ci]? = some r := h1
    rw [oc.1] at h2
    cases Option.some.inj h2
    exact ⟨cell, q1, by rw [q3]; rfl, by rw [q2]; exact (C.2.2.2.2.2.2.1.1 ci _ oc.1).2.1⟩
  refine va_calli (va_runV (As := As) (rest := rest) ⟨C.1, C.2.1, C.2.2.1, C.2.2.2.1, C.2.2.2.2.1⟩ hM ⟨callB_of n C.2.2.2.2.1 (mz_goodIn ok.1) rfl rfl rfl (C.2.2.2.2.1 _ ok.2.1) (C.2.2.2.2.1 _ lk) ⟨ok.2.2.1.1, ok.2.2.1.2, ok.2.2.2⟩ ⟨Nat.le_trans hr1 C.2.2.2.2.2.2.2.2.1.1, Nat.le_trans hr2 C.2.2.2.2.2.2.2.2.1.2⟩, C.2.2.2.2.1 _ oi.1, C.2.2.2.2.1 _ oi.2⟩ ⟨mz_blind, hcell, fun U hU hW => ⟨rfl, mz_Wd.mv hP hU hW C.2.2.2.2.2.2.1 C.2.2.2.2.2.1⟩⟩ rfl hn hl.1 hst (lv_room hw) d ⟨C.2.2.2.2.2.2.2.2.2.1, C.2.2.2.2.2.2.2.2.2.2⟩) hS (fun q _ h => h) (fun q h => h) (fun r u t H1 locs1 ht hvm hKr hB hz1 hk1 hS1 => ?_)
  obtain ⟨⟨κ1, hP1⟩, -, -⟩ := hB
  rw [ht] at hP1
  exact k r u hKr κ1 H1 locs1 ls hP1 hS1 hl
theorem mr_cSi (C : mz_C E X cc own nL fr lo) {index n : Nat} {y : MethodName} {cc2 : ByteArray} {nL2 fr2 lo2 : Nat} {ret : Option FieldType} {As : List Value} {K : Int32 → mz_St → Prop} (hM : mz_Ci (mx_l X) E y cc2 nL2 ret fr2 lo2 (As) σ K) (ok : mz_ok y cc2 nL2 ret n) (os : Cond.static y ∈ mz_TB) (lk : Cond.methodLink own index y ∈ mz_TB) (hn : As.length = n) (hst : st = As.reverse ++ rest) (hw : (rest.map fun v => v.category).sum ≤ 8) (hr1 : fr2 + 1 ≤ fr) (hr2 : 8 + (nL2 + 11) + lo2 ≤ lo) (d : mz_d cc pc (.invokestatic index) 3 pc') (k : ∀ r u, K r u → mz_G E X nL pc' L (.int r :: rest) u) : mz_G E X nL pc L st σ := by
  obtain ⟨d, rfl⟩ := d
  intro κ H locs ls hP hS hl
  refine va_calli (va_runS (As := As) (rest := rest) ⟨C.1, C.2.1, C.2.2.1, C.2.2.2.1, C.2.2.2.2.1⟩ hM ⟨callB_of n C.2.2.2.2.1 (mz_goodIn ok.1) rfl rfl rfl (C.2.2.2.2.1 _ ok.2.1) (C.2.2.2.2.1 _ lk) ⟨ok.2.2.1.1, ok.2.2.1.2, ok.2.2.2⟩ ⟨Nat.le_trans hr1 C.2.2.2.2.2.2.2.2.1.1, Nat.le_trans hr2 C.2.2.2.2.2.2.2.2.1.2⟩, C.2.2.2.2.1 _ os⟩ ⟨mz_blind, fun U hU hW => ⟨rfl, mz_Wd.mv hP hU hW C.2.2.2.2.2.2.1 C.2.2.2.2.2.1⟩⟩ rfl hn hl.1 hst (lv_room hw) d ⟨C.2.2.2.2.2.2.2.2.2.1, C.2.2.2.2.2.2.2.2.2.2⟩) hS (fun q _ h => h) (fun q h => h) (fun r u t H1 locs1 ht hvm hKr hB hz1 hk1 hS1 => ?_)
  obtain ⟨⟨κ1, hP1⟩, -, -⟩ := hB
  rw [ht] at hP1
  exact k r u hKr κ1 H1 locs1 ls hP1 hS1 hl
theorem mr_cVNi (C : mz_C E X cc own nL fr lo) {index n ci N : Nat} {host : String} {y : MethodName} {cc2 : ByteArray} {nL2 fr2 lo2 : Nat} {ret : Option FieldType} {As : List Value} {T : u_T} {ty : Nat → FieldType} {K : Int32 → mz_St → Prop} (o : Nat) {fs : List Value} (hM : mz_Ci (mx_l X) E y cc2 nL2 ret fr2 lo2 (.ref (E.2.1 o) :: As) σ K) (ok : mz_ok y cc2 nL2 ret n) (oi : mz_oi y) (oc : mz_oc ci y.cls T N ty) (lk : Cond.methodLinkNest own index y host ∈ mz_NW) (ho : o < mz_NC) (he : ∀ κ, mz_cel E σ κ o = .inr (ci, fs)) (hn : As.length = n) (hst : st = As.reverse ++ .ref (E.2.1 o) :: rest) (hw : (rest.map fun v => v.category).sum ≤ 8) (hr1 : fr2 + 1 ≤ fr) (hr2 : 8 + (nL2 + 11) + lo2 ≤ lo) (d : mz_d cc pc (.invokevirtual index) 3 pc') (k : ∀ r u, K r u → mz_G E X nL pc' L (.int r :: rest) u) : mz_G E X nL pc L st σ := by
  obtain ⟨d, rfl⟩ := d
  intro κ H locs ls hP hS hl
  have hcell : ∃ cellB : Cell, H[E.2.1 o]? = some cellB ∧ cellB.vm.isStatics = false ∧ (mx_s X).vm.findClass y.cls = some cellB.cls := by
    obtain ⟨r, h1, cell, q1, q2, q3, -⟩ := hP o _ (by rw [mz_ws_get E σ κ ho, he κ])
    have h2 : mz_CL[ci]? = some r := h1
    rw [oc.1] at h2
    cases Option.some.inj h2
    exact ⟨cell, q1, by rw [q3]; rfl, by rw [q2]; exact (C.2.2.2.2.2.2.1.1 ci _ oc.1).2.1⟩
  refine va_calli (va_runVN (As := As) (rest := rest) ⟨C.1, C.2.1, C.2.2.1, C.2.2.2.1, C.2.2.2.2.1⟩ hM ⟨va_cnB n C.2.2.2.2.1 (mz_goodIn ok.1) rfl rfl rfl (C.2.2.2.2.2.1 _ lk) (C.2.2.2.2.1 _ ok.2.1) ⟨ok.2.2.1.1, ok.2.2.1.2, ok.2.2.2⟩ ⟨Nat.le_trans hr1 C.2.2.2.2.2.2.2.2.1.1, Nat.le_trans hr2 C.2.2.2.2.2.2.2.2.1.2⟩, C.2.2.2.2.1 _ oi.1, C.2.2.2.2.1 _ oi.2⟩ ⟨mz_blind, hcell, fun U hU hW => ⟨rfl, mz_Wd.mv hP hU hW C.2.2.2.2.2.2.1 C.2.2.2.2.2.1⟩⟩ rfl hn hl.1 hst (lv_room hw) d ⟨C.2.2.2.2.2.2.2.2.2.1, C.2.2.2.2.2.2.2.2.2.2⟩) hS (fun q _ h => h) (fun q h => h) (fun r u t H1 locs1 ht hvm hKr hB hz1 hk1 hS1 => ?_)
  obtain ⟨⟨κ1, hP1⟩, -, -⟩ := hB
  rw [ht] at hP1
  exact k r u hKr κ1 H1 locs1 ls hP1 hS1 hl
theorem mr_cSNi (C : mz_C E X cc own nL fr lo) {index n : Nat} {host : String} {y : MethodName} {cc2 : ByteArray} {nL2 fr2 lo2 : Nat} {ret : Option FieldType} {As : List Value} {K : Int32 → mz_St → Prop} (hM : mz_Ci (mx_l X) E y cc2 nL2 ret fr2 lo2 (As) σ K) (ok : mz_ok y cc2 nL2 ret n) (os : Cond.static y ∈ mz_TB) (lk : Cond.methodLinkNest own index y host ∈ mz_NW) (hn : As.length = n) (hst : st = As.reverse ++ rest) (hw : (rest.map fun v => v.category).sum ≤ 8) (hr1 : fr2 + 1 ≤ fr) (hr2 : 8 + (nL2 + 11) + lo2 ≤ lo) (d : mz_d cc pc (.invokestatic index) 3 pc') (k : ∀ r u, K r u → mz_G E X nL pc' L (.int r :: rest) u) : mz_G E X nL pc L st σ := by
  obtain ⟨d, rfl⟩ := d
  intro κ H locs ls hP hS hl
  refine va_calli (va_runSN (As := As) (rest := rest) ⟨C.1, C.2.1, C.2.2.1, C.2.2.2.1, C.2.2.2.2.1⟩ hM ⟨va_cnB n C.2.2.2.2.1 (mz_goodIn ok.1) rfl rfl rfl (C.2.2.2.2.2.1 _ lk) (C.2.2.2.2.1 _ ok.2.1) ⟨ok.2.2.1.1, ok.2.2.1.2, ok.2.2.2⟩ ⟨Nat.le_trans hr1 C.2.2.2.2.2.2.2.2.1.1, Nat.le_trans hr2 C.2.2.2.2.2.2.2.2.1.2⟩, C.2.2.2.2.1 _ os, trivial⟩ ⟨mz_blind, fun U hU hW => ⟨rfl, mz_Wd.mv hP hU hW C.2.2.2.2.2.2.1 C.2.2.2.2.2.1⟩⟩ rfl hn hl.1 hst (lv_room hw) d ⟨C.2.2.2.2.2.2.2.2.2.1, C.2.2.2.2.2.2.2.2.2.2⟩) hS (fun q _ h => h) (fun q h => h) (fun r u t H1 locs1 ht hvm hKr hB hz1 hk1 hS1 => ?_)
  obtain ⟨⟨κ1, hP1⟩, -, -⟩ := hB
  rw [ht] at hP1
  exact k r u hKr κ1 H1 locs1 ls hP1 hS1 hl
theorem mr_cVv (C : mz_C E X cc own nL fr lo) {index n ci N : Nat} {y : MethodName} {cc2 : ByteArray} {nL2 fr2 lo2 : Nat} {As : List Value} {T : u_T} {ty : Nat → FieldType} {K : mz_St → Prop} (o : Nat) {fs : List Value} (hM : mz_Cv (mx_l X) E y cc2 nL2 fr2 lo2 (.ref (E.2.1 o) :: As) σ K) (ok : mz_ok y cc2 nL2 none n) (oi : mz_oi y) (oc : mz_oc ci y.cls T N ty) (lk : Cond.methodLink own index y ∈ mz_TB) (ho : o < mz_NC) (he : ∀ κ, mz_cel E σ κ o = .inr (ci, fs)) (hn : As.length = n) (hst : st = As.reverse ++ .ref (E.2.1 o) :: rest) (hw : (rest.map fun v => v.category).sum ≤ 8) (hr1 : fr2 + 1 ≤ fr) (hr2 : 8 + (nL2 + 11) + lo2 ≤ lo) (d : mz_d cc pc (.invokevirtual index) 3 pc') (k : ∀ u, K u → mz_G E X nL pc' L rest u) : mz_G E X nL pc L st σ := by
  obtain ⟨d, rfl⟩ := d
  intro κ H locs ls hP hS hl
  have hcell : ∃ cellB : Cell, H[E.2.1 o]? = some cellB ∧ cellB.vm.isStatics = false ∧ (mx_s X).vm.findClass y.cls = some cellB.cls := by
    obtain ⟨r, h1, cell, q1, q2, q3, -⟩ := hP o _ (by rw [mz_ws_get E σ κ ho, he κ])
    have h2 : mz_CL[ci]? = some r := h1
    rw [oc.1] at h2
    cases Option.some.inj h2
    exact ⟨cell, q1, by rw [q3]; rfl, by rw [q2]; exact (C.2.2.2.2.2.2.1.1 ci _ oc.1).2.1⟩
  refine va_callv (va_runV (As := As) (rest := rest) ⟨C.1, C.2.1, C.2.2.1, C.2.2.2.1, C.2.2.2.2.1⟩ hM ⟨callB_of n C.2.2.2.2.1 (mz_goodIn ok.1) rfl rfl rfl (C.2.2.2.2.1 _ ok.2.1) (C.2.2.2.2.1 _ lk) ⟨ok.2.2.1.1, ok.2.2.1.2, ok.2.2.2⟩ ⟨Nat.le_trans hr1 C.2.2.2.2.2.2.2.2.1.1, Nat.le_trans hr2 C.2.2.2.2.2.2.2.2.1.2⟩, C.2.2.2.2.1 _ oi.1, C.2.2.2.2.1 _ oi.2⟩ ⟨mz_blind, hcell, fun U hU hW => ⟨rfl, mz_Wd.mv hP hU hW C.2.2.2.2.2.2.1 C.2.2.2.2.2.1⟩⟩ rfl hn hl.1 hst (lv_room hw) d ⟨C.2.2.2.2.2.2.2.2.2.1, C.2.2.2.2.2.2.2.2.2.2⟩) hS (fun q _ h => h) (fun q h => h) (fun u t H1 locs1 ht hvm hKr hB hz1 hk1 hS1 => ?_)
  obtain ⟨⟨κ1, hP1⟩, -, -⟩ := hB
  rw [ht] at hP1
  exact k u hKr κ1 H1 locs1 ls hP1 hS1 hl
theorem mr_cSv (C : mz_C E X cc own nL fr lo) {index n : Nat} {y : MethodName} {cc2 : ByteArray} {nL2 fr2 lo2 : Nat} {As : List Value} {K : mz_St → Prop} (hM : mz_Cv (mx_l X) E y cc2 nL2 fr2 lo2 (As) σ K) (ok : mz_ok y cc2 nL2 none n) (os : Cond.static y ∈ mz_TB) (lk : Cond.methodLink own index y ∈ mz_TB) (hn : As.length = n) (hst : st = As.reverse ++ rest) (hw : (rest.map fun v => v.category).sum ≤ 8) (hr1 : fr2 + 1 ≤ fr) (hr2 : 8 + (nL2 + 11) + lo2 ≤ lo) (d : mz_d cc pc (.invokestatic index) 3 pc') (k : ∀ u, K u → mz_G E X nL pc' L rest u) : mz_G E X nL pc L st σ := by
  obtain ⟨d, rfl⟩ := d
  intro κ H locs ls hP hS hl
  refine va_callv (va_runS (As := As) (rest := rest) ⟨C.1, C.2.1, C.2.2.1, C.2.2.2.1, C.2.2.2.2.1⟩ hM ⟨callB_of n C.2.2.2.2.1 (mz_goodIn ok.1) rfl rfl rfl (C.2.2.2.2.1 _ ok.2.1) (C.2.2.2.2.1 _ lk) ⟨ok.2.2.1.1, ok.2.2.1.2, ok.2.2.2⟩ ⟨Nat.le_trans hr1 C.2.2.2.2.2.2.2.2.1.1, Nat.le_trans hr2 C.2.2.2.2.2.2.2.2.1.2⟩, C.2.2.2.2.1 _ os⟩ ⟨mz_blind, fun U hU hW => ⟨rfl, mz_Wd.mv hP hU hW C.2.2.2.2.2.2.1 C.2.2.2.2.2.1⟩⟩ rfl hn hl.1 hst (lv_room hw) d ⟨C.2.2.2.2.2.2.2.2.2.1, C.2.2.2.2.2.2.2.2.2.2⟩) hS (fun q _ h => h) (fun q h => h) (fun u t H1 locs1 ht hvm hKr hB hz1 hk1 hS1 => ?_)
  obtain ⟨⟨κ1, hP1⟩, -, -⟩ := hB
  rw [ht] at hP1
  exact k u hKr κ1 H1 locs1 ls hP1 hS1 hl
theorem mr_cVNv (C : mz_C E X cc own nL fr lo) {index n ci N : Nat} {host : String} {y : MethodName} {cc2 : ByteArray} {nL2 fr2 lo2 : Nat} {As : List Value} {T : u_T} {ty : Nat → FieldType} {K : mz_St → Prop} (o : Nat) {fs : List Value} (hM : mz_Cv (mx_l X) E y cc2 nL2 fr2 lo2 (.ref (E.2.1 o) :: As) σ K) (ok : mz_ok y cc2 nL2 none n) (oi : mz_oi y) (oc : mz_oc ci y.cls T N ty) (lk : Cond.methodLinkNest own index y host ∈ mz_NW) (ho : o < mz_NC) (he : ∀ κ, mz_cel E σ κ o = .inr (ci, fs)) (hn : As.length = n) (hst : st = As.reverse ++ .ref (E.2.1 o) :: rest) (hw : (rest.map fun v => v.category).sum ≤ 8) (hr1 : fr2 + 1 ≤ fr) (hr2 : 8 + (nL2 + 11) + lo2 ≤ lo) (d : mz_d cc pc (.invokevirtual index) 3 pc') (k : ∀ u, K u → mz_G E X nL pc' L rest u) : mz_G E X nL pc L st σ := by
  obtain ⟨d, rfl⟩ := d
  intro κ H locs ls hP hS hl
  have hcell : ∃ cellB : Cell, H[E.2.1 o]? = some cellB ∧ cellB.vm.isStatics = false ∧ (mx_s X).vm.findClass y.cls = some cellB.cls := by
    obtain ⟨r, h1, cell, q1, q2, q3, -⟩ := hP o _ (by rw [mz_ws_get E σ κ ho, he κ])
    have h2 : mz_CL[ci]? = some r := h1
    rw [oc.1] at h2
    cases Option.some.inj h2
    exact ⟨cell, q1, by rw [q3]; rfl, by rw [q2]; exact (C.2.2.2.2.2.2.1.1 ci _ oc.1).2.1⟩
  refine va_callv (va_runVN (As := As) (rest := rest) ⟨C.1, C.2.1, C.2.2.1, C.2.2.2.1, C.2.2.2.2.1⟩ hM ⟨va_cnB n C.2.2.2.2.1 (mz_goodIn ok.1) rfl rfl rfl (C.2.2.2.2.2.1 _ lk) (C.2.2.2.2.1 _ ok.2.1) ⟨ok.2.2.1.1, ok.2.2.1.2, ok.2.2.2⟩ ⟨Nat.le_trans hr1 C.2.2.2.2.2.2.2.2.1.1, Nat.le_trans hr2 C.2.2.2.2.2.2.2.2.1.2⟩, C.2.2.2.2.1 _ oi.1, C.2.2.2.2.1 _ oi.2⟩ ⟨mz_blind, hcell, fun U hU hW => ⟨rfl, mz_Wd.mv hP hU hW C.2.2.2.2.2.2.1 C.2.2.2.2.2.1⟩⟩ rfl hn hl.1 hst (lv_room hw) d ⟨C.2.2.2.2.2.2.2.2.2.1, C.2.2.2.2.2.2.2.2.2.2⟩) hS (fun q _ h => h) (fun q h => h) (fun u t H1 locs1 ht hvm hKr hB hz1 hk1 hS1 => ?_)
  obtain ⟨⟨κ1, hP1⟩, -, -⟩ := hB
  rw [ht] at hP1
  exact k u hKr κ1 H1 locs1 ls hP1 hS1 hl
theorem mr_cSNv (C : mz_C E X cc own nL fr lo) {index n : Nat} {host : String} {y : MethodName} {cc2 : ByteArray} {nL2 fr2 lo2 : Nat} {As : List Value} {K : mz_St → Prop} (hM : mz_Cv (mx_l X) E y cc2 nL2 fr2 lo2 (As) σ K) (ok : mz_ok y cc2 nL2 none n) (os : Cond.static y ∈ mz_TB) (lk : Cond.methodLinkNest own index y host ∈ mz_NW) (hn : As.length = n) (hst : st = As.reverse ++ rest) (hw : (rest.map fun v => v.category).sum ≤ 8) (hr1 : fr2 + 1 ≤ fr) (hr2 : 8 + (nL2 + 11) + lo2 ≤ lo) (d : mz_d cc pc (.invokestatic index) 3 pc') (k : ∀ u, K u → mz_G E X nL pc' L rest u) : mz_G E X nL pc L st σ := by
  obtain ⟨d, rfl⟩ := d
  intro κ H locs ls hP hS hl
  refine va_callv (va_runSN (As := As) (rest := rest) ⟨C.1, C.2.1, C.2.2.1, C.2.2.2.1, C.2.2.2.2.1⟩ hM ⟨va_cnB n C.2.2.2.2.1 (mz_goodIn ok.1) rfl rfl rfl (C.2.2.2.2.2.1 _ lk) (C.2.2.2.2.1 _ ok.2.1) ⟨ok.2.2.1.1, ok.2.2.1.2, ok.2.2.2⟩ ⟨Nat.le_trans hr1 C.2.2.2.2.2.2.2.2.1.1, Nat.le_trans hr2 C.2.2.2.2.2.2.2.2.1.2⟩, C.2.2.2.2.1 _ os, trivial⟩ ⟨mz_blind, fun U hU hW => ⟨rfl, mz_Wd.mv hP hU hW C.2.2.2.2.2.2.1 C.2.2.2.2.2.1⟩⟩ rfl hn hl.1 hst (lv_room hw) d ⟨C.2.2.2.2.2.2.2.2.2.1, C.2.2.2.2.2.2.2.2.2.2⟩) hS (fun q _ h => h) (fun q h => h) (fun u t H1 locs1 ht hvm hKr hB hz1 hk1 hS1 => ?_)
  obtain ⟨⟨κ1, hP1⟩, -, -⟩ := hB
  rw [ht] at hP1
  exact k u hKr κ1 H1 locs1 ls hP1 hS1 hl
theorem mr_tabIn (C : mz_C E X cc own nL fr lo) {dflt lo2 hi : Int} {offs : Array Int} {len : Nat} {x : Int32} (c : Int32) (off : Int) {tgt : Nat} (hx : x = c) (d : mz_d cc pc (.tableswitch dflt lo2 hi offs) len pc') (h1 : ¬ c.toInt < lo2) (h2 : ¬ hi < c.toInt) (ho : offs[(c.toInt - lo2).toNat]? = some off) (ht : (pc : Int) + off = (tgt : Int)) (k : mz_G E X nL tgt L st σ) : mz_G E X nL pc L (.int x :: st) σ := by
  obtain ⟨d, rfl⟩ := d
  subst hx
  exact fun κ H locs ls hP hS hl => lv_tableIn C.1 C.2.1 d h1 h2 ho ht (k κ H locs ls hP hS hl)
theorem mr_tabOut (C : mz_C E X cc own nL fr lo) {dflt lo2 hi : Int} {offs : Array Int} {len : Nat} {x : Int32} {tgt : Nat} (h : x.toInt < lo2 ∨ hi < x.toInt) (d : mz_d cc pc (.tableswitch dflt lo2 hi offs) len pc') (ht : (pc : Int) + dflt = (tgt : Int)) (k : mz_G E X nL tgt L st σ) : mz_G E X nL pc L (.int x :: st) σ := by
  obtain ⟨d, rfl⟩ := d
  exact fun κ H locs ls hP hS hl => lv_tableOut C.1 C.2.1 d h ht (k κ H locs ls hP hS hl)
theorem mr_look (C : mz_C E X cc own nL fr lo) {dflt : Int} {ps : Array (Int × Int)} {len : Nat} {x : Int32} (off : Int) {tgt : Nat} (d : mz_d cc pc (.lookupswitch dflt ps) len pc') (hp : (ps.toList.zip (ps.toList.drop 1)).all (fun (a, next) => a.1 < next.1) = true) (ho : Op.lookupswitch.offset ps.toList dflt x.toInt = off) (ht : (pc : Int) + off = (tgt : Int)) (k : mz_G E X nL tgt L st σ) : mz_G E X nL pc L (.int x :: st) σ := by
  obtain ⟨d, rfl⟩ := d
  exact fun κ H locs ls hP hS hl => lv_lookup C.1 C.2.1 d hp ho ht (k κ H locs ls hP hS hl)
end MR
theorem mj {A B : Prop} (a : A) (f : A → B) : B := f a

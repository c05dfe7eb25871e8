/-! BEGIN names and words, printed by wip/gen/names.py -/
theorem mk_inc {x v : Int32} {n : Int} (h : Int32.ofInt n = v) : x + Int32.ofInt n = x + v := by rw [h]
theorem mb_0 : (0 : Int32) = 0 ∨ (0 : Int32) = 1 := Or.inl rfl
theorem mb_1 : (1 : Int32) = 0 ∨ (1 : Int32) = 1 := Or.inr rfl
theorem mb_nar {v : Int32} (h : v = 0 ∨ v = 1) : narrow .boolean (.int v) = .int v := by rcases h with rfl | rfl <;> rfl
theorem mb_fit {v : Int32} (h : v = 0 ∨ v = 1) : fits .boolean (.int v) = true := by rcases h with rfl | rfl <;> rfl
theorem mz_oc_of {ci : Nat} {C : String} {T : u_T} {N : Nat} {ty : Nat → FieldType} (h0 : mz_CL[ci]? = some (C, T, N)) (ix : List Nat) (h : ∀ k, k < N → lw_tbl[ix.getD k 0]? = some (u_lay C T k) ∧ goodWord (u_lay C T k) = true) (h1 : ∀ k, k < N → parseFieldDescriptor (T k).2.2.1 = some (ty k)) (h2 : ∀ a, a < N → ∀ b, b < N → a ≠ b → (T a).2.1 ≠ (T b).2.1) : mz_oc ci C T N ty := by
  refine ⟨h0, fun w hw => ?_, h1, h2⟩
  obtain ⟨k, hk, rfl⟩ := List.mem_map.mp hw
  obtain ⟨a, b⟩ := h k (List.mem_range.mp hk)
  exact mz_in a b
theorem mc_Mill_cls : mz_oc 0 mz_RMill mz_TMill 12 mz_yMill := mz_oc_of rfl [545, 547, 549, 551, 553, 555, 557, 559, 561, 563, 565, 567] (by decide +kernel) mz_kMill mz_nMill
theorem mc_Program_cls : mz_oc 1 mz_RProgram mz_TProgram 11 mz_yProgram := mz_oc_of rfl [173, 175, 177, 179, 181, 183, 185, 187, 189, 191, 193] (by decide +kernel) mz_kProgram mz_nProgram
theorem mc_Flow_cls : mz_oc 2 mz_RFlow mz_TFlow 11 mz_yFlow := mz_oc_of rfl [232, 234, 236, 238, 240, 242, 244, 246, 248, 250, 252] (by decide +kernel) mz_kFlow mz_nFlow
theorem mc_Lives_cls : mz_oc 3 mz_RLives mz_TLives 6 mz_yLives := mz_oc_of rfl [272, 274, 276, 278, 280, 282] (by decide +kernel) mz_kLives mz_nLives
theorem mc_Names_cls : mz_oc 4 mz_RNames mz_TNames 7 mz_yNames := mz_oc_of rfl [306, 308, 310, 312, 314, 316, 318] (by decide +kernel) mz_kNames mz_nNames
theorem mc_Stands_cls : mz_oc 5 mz_RStands mz_TStands 7 mz_yStands := mz_oc_of rfl [336, 338, 340, 342, 344, 346, 348] (by decide +kernel) mz_kStands mz_nStands
theorem mc_Homes_cls : mz_oc 6 mz_RHomes mz_THomes 14 mz_yHomes := mz_oc_of rfl [374, 376, 378, 380, 382, 384, 386, 388, 390, 392, 394, 396, 398, 400] (by decide +kernel) mz_kHomes mz_nHomes
theorem mc_Code_cls : mz_oc 7 mz_RCode mz_TCode 10 mz_yCode := mz_oc_of rfl [429, 431, 433, 435, 437, 439, 441, 443, 445, 447] (by decide +kernel) mz_kCode mz_nCode
theorem mc_Moves_cls : mz_oc 8 mz_RMoves mz_TMoves 6 mz_yMoves := mz_oc_of rfl [469, 471, 473, 475, 477, 479] (by decide +kernel) mz_kMoves mz_nMoves
theorem mc_Writer_cls : mz_oc 9 mz_RWriter mz_TWriter 7 mz_yWriter := mz_oc_of rfl [489, 491, 493, 495, 497, 499, 501] (by decide +kernel) mz_kWriter mz_nWriter
theorem mc_Machine_cls : mz_oc 10 mz_RMachine mz_TMachine 6 mz_yMachine := mz_oc_of rfl [520, 522, 524, 526, 528, 530] (by decide +kernel) mz_kMachine mz_nMachine
theorem mc_Ref_cls : mz_oc 11 mz_RRef mz_TRef 18 mz_yRef := mz_oc_of rfl [1138, 1140, 1142, 1144, 1146, 1148, 1150, 1152, 1154, 1156, 1158, 1160, 1162, 1164, 1166, 1168, 1170, 1172] (by decide +kernel) mz_kRef mz_nRef
theorem mp_1000 (E : mz_En) (σ : mz_St) {v : Int32} : ∀ (κ : Nat → Int64) (j : Nat), j < mz_NC → j ≠ 0 → mz_cel E (mz_up σ 1000 0 v) κ j = mz_cel E σ κ j := by
  intro κ j hj hn
  have hj : j < 73 := hj
  unfold mz_cel
  split <;> first | rfl | exact absurd rfl hn | (rw [mz_up_ne (by omega)])
theorem mp_1001 (E : mz_En) (σ : mz_St) {v : Int32} : ∀ (κ : Nat → Int64) (j : Nat), j < mz_NC → j ≠ 0 → mz_cel E (mz_up σ 1001 0 v) κ j = mz_cel E σ κ j := by
  intro κ j hj hn
  have hj : j < 73 := hj
  unfold mz_cel
  split <;> first | rfl | exact absurd rfl hn | (rw [mz_up_ne (by omega)])
theorem mp_1002 (E : mz_En) (σ : mz_St) {v : Int32} : ∀ (κ : Nat → Int64) (j : Nat), j < mz_NC → j ≠ 0 → mz_cel E (mz_up σ 1002 0 v) κ j = mz_cel E σ κ j := by
  intro κ j hj hn
  have hj : j < 73 := hj
  unfold mz_cel
  split <;> first | rfl | exact absurd rfl hn | (rw [mz_up_ne (by omega)])
theorem mp_1003 (E : mz_En) (σ : mz_St) {v : Int32} : ∀ (κ : Nat → Int64) (j : Nat), j < mz_NC → j ≠ 1 → mz_cel E (mz_up σ 1003 0 v) κ j = mz_cel E σ κ j := by
  intro κ j hj hn
  have hj : j < 73 := hj
  unfold mz_cel
  split <;> first | rfl | exact absurd rfl hn | (rw [mz_up_ne (by omega)])
theorem mp_1004 (E : mz_En) (σ : mz_St) {v : Int32} : ∀ (κ : Nat → Int64) (j : Nat), j < mz_NC → j ≠ 2 → mz_cel E (mz_up σ 1004 0 v) κ j = mz_cel E σ κ j := by
  intro κ j hj hn
  have hj : j < 73 := hj
  unfold mz_cel
  split <;> first | rfl | exact absurd rfl hn | (rw [mz_up_ne (by omega)])
theorem mp_1005 (E : mz_En) (σ : mz_St) {v : Int32} : ∀ (κ : Nat → Int64) (j : Nat), j < mz_NC → j ≠ 2 → mz_cel E (mz_up σ 1005 0 v) κ j = mz_cel E σ κ j := by
  intro κ j hj hn
  have hj : j < 73 := hj
  unfold mz_cel
  split <;> first | rfl | exact absurd rfl hn | (rw [mz_up_ne (by omega)])
theorem mp_1006 (E : mz_En) (σ : mz_St) {v : Int32} : ∀ (κ : Nat → Int64) (j : Nat), j < mz_NC → j ≠ 2 → mz_cel E (mz_up σ 1006 0 v) κ j = mz_cel E σ κ j := by
  intro κ j hj hn
  have hj : j < 73 := hj
  unfold mz_cel
  split <;> first | rfl | exact absurd rfl hn | (rw [mz_up_ne (by omega)])
theorem mp_1007 (E : mz_En) (σ : mz_St) {v : Int32} : ∀ (κ : Nat → Int64) (j : Nat), j < mz_NC → j ≠ 6 → mz_cel E (mz_up σ 1007 0 v) κ j = mz_cel E σ κ j := by
  intro κ j hj hn
  have hj : j < 73 := hj
  unfold mz_cel
  split <;> first | rfl | exact absurd rfl hn | (rw [mz_up_ne (by omega)])
theorem mp_1008 (E : mz_En) (σ : mz_St) {v : Int32} : ∀ (κ : Nat → Int64) (j : Nat), j < mz_NC → j ≠ 6 → mz_cel E (mz_up σ 1008 0 v) κ j = mz_cel E σ κ j := by
  intro κ j hj hn
  have hj : j < 73 := hj
  unfold mz_cel
  split <;> first | rfl | exact absurd rfl hn | (rw [mz_up_ne (by omega)])
theorem mp_1009 (E : mz_En) (σ : mz_St) {v : Int32} : ∀ (κ : Nat → Int64) (j : Nat), j < mz_NC → j ≠ 6 → mz_cel E (mz_up σ 1009 0 v) κ j = mz_cel E σ κ j := by
  intro κ j hj hn
  have hj : j < 73 := hj
  unfold mz_cel
  split <;> first | rfl | exact absurd rfl hn | (rw [mz_up_ne (by omega)])
theorem mp_1010 (E : mz_En) (σ : mz_St) {v : Int32} : ∀ (κ : Nat → Int64) (j : Nat), j < mz_NC → j ≠ 6 → mz_cel E (mz_up σ 1010 0 v) κ j = mz_cel E σ κ j := by
  intro κ j hj hn
  have hj : j < 73 := hj
  unfold mz_cel
  split <;> first | rfl | exact absurd rfl hn | (rw [mz_up_ne (by omega)])
theorem mp_1011 (E : mz_En) (σ : mz_St) {v : Int32} : ∀ (κ : Nat → Int64) (j : Nat), j < mz_NC → j ≠ 7 → mz_cel E (mz_up σ 1011 0 v) κ j = mz_cel E σ κ j := by
  intro κ j hj hn
  have hj : j < 73 := hj
  unfold mz_cel
  split <;> first | rfl | exact absurd rfl hn | (rw [mz_up_ne (by omega)])
theorem mp_1012 (E : mz_En) (σ : mz_St) {v : Int32} : ∀ (κ : Nat → Int64) (j : Nat), j < mz_NC → j ≠ 8 → mz_cel E (mz_up σ 1012 0 v) κ j = mz_cel E σ κ j := by
  intro κ j hj hn
  have hj : j < 73 := hj
  unfold mz_cel
  split <;> first | rfl | exact absurd rfl hn | (rw [mz_up_ne (by omega)])
theorem mp_1013 (E : mz_En) (σ : mz_St) {v : Int32} : ∀ (κ : Nat → Int64) (j : Nat), j < mz_NC → j ≠ 10 → mz_cel E (mz_up σ 1013 0 v) κ j = mz_cel E σ κ j := by
  intro κ j hj hn
  have hj : j < 73 := hj
  unfold mz_cel
  split <;> first | rfl | exact absurd rfl hn | (rw [mz_up_ne (by omega)])
theorem mp_1014 (E : mz_En) (σ : mz_St) {v : Int32} : ∀ (κ : Nat → Int64) (j : Nat), j < mz_NC → j ≠ 10 → mz_cel E (mz_up σ 1014 0 v) κ j = mz_cel E σ κ j := by
  intro κ j hj hn
  have hj : j < 73 := hj
  unfold mz_cel
  split <;> first | rfl | exact absurd rfl hn | (rw [mz_up_ne (by omega)])
theorem mp_1015 (E : mz_En) (σ : mz_St) {v : Int32} : ∀ (κ : Nat → Int64) (j : Nat), j < mz_NC → j ≠ 10 → mz_cel E (mz_up σ 1015 0 v) κ j = mz_cel E σ κ j := by
  intro κ j hj hn
  have hj : j < 73 := hj
  unfold mz_cel
  split <;> first | rfl | exact absurd rfl hn | (rw [mz_up_ne (by omega)])
theorem mp_1016 (E : mz_En) (σ : mz_St) {v : Int32} : ∀ (κ : Nat → Int64) (j : Nat), j < mz_NC → j ≠ 11 → mz_cel E (mz_up σ 1016 0 v) κ j = mz_cel E σ κ j := by
  intro κ j hj hn
  have hj : j < 73 := hj
  unfold mz_cel
  split <;> first | rfl | exact absurd rfl hn | (rw [mz_up_ne (by omega)])
theorem mp_1017 (E : mz_En) (σ : mz_St) {v : Int32} : ∀ (κ : Nat → Int64) (j : Nat), j < mz_NC → j ≠ 11 → mz_cel E (mz_up σ 1017 0 v) κ j = mz_cel E σ κ j := by
  intro κ j hj hn
  have hj : j < 73 := hj
  unfold mz_cel
  split <;> first | rfl | exact absurd rfl hn | (rw [mz_up_ne (by omega)])
theorem mp_1018 (E : mz_En) (σ : mz_St) {v : Int32} : ∀ (κ : Nat → Int64) (j : Nat), j < mz_NC → j ≠ 11 → mz_cel E (mz_up σ 1018 0 v) κ j = mz_cel E σ κ j := by
  intro κ j hj hn
  have hj : j < 73 := hj
  unfold mz_cel
  split <;> first | rfl | exact absurd rfl hn | (rw [mz_up_ne (by omega)])
theorem mp_1019 (E : mz_En) (σ : mz_St) {v : Int32} : ∀ (κ : Nat → Int64) (j : Nat), j < mz_NC → j ≠ 11 → mz_cel E (mz_up σ 1019 0 v) κ j = mz_cel E σ κ j := by
  intro κ j hj hn
  have hj : j < 73 := hj
  unfold mz_cel
  split <;> first | rfl | exact absurd rfl hn | (rw [mz_up_ne (by omega)])
theorem mp_1020 (E : mz_En) (σ : mz_St) {v : Int32} : ∀ (κ : Nat → Int64) (j : Nat), j < mz_NC → j ≠ 11 → mz_cel E (mz_up σ 1020 0 v) κ j = mz_cel E σ κ j := by
  intro κ j hj hn
  have hj : j < 73 := hj
  unfold mz_cel
  split <;> first | rfl | exact absurd rfl hn | (rw [mz_up_ne (by omega)])

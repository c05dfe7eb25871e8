/-! BEGIN Mill1: its instructions, what each method does (mw_), that its bytecode does it (ms_): printed -/
theorem md_Mill_forgetWhatWasMade_0 : mz_d mb_Mill_forgetWhatWasMade 0 (.aload_n 0) 1 1 := ⟨by decide +kernel, rfl⟩
theorem md_Mill_forgetWhatWasMade_1 : mz_d mb_Mill_forgetWhatWasMade 1 (.iconst 0) 1 2 := ⟨by decide +kernel, rfl⟩
theorem md_Mill_forgetWhatWasMade_2 : mz_d mb_Mill_forgetWhatWasMade 2 (.putfield 183) 3 5 := ⟨by decide +kernel, rfl⟩
theorem md_Mill_forgetWhatWasMade_5 : mz_d mb_Mill_forgetWhatWasMade 5 (.aload_n 0) 1 6 := ⟨by decide +kernel, rfl⟩
theorem md_Mill_forgetWhatWasMade_6 : mz_d mb_Mill_forgetWhatWasMade 6 (.iconst (-1)) 1 7 := ⟨by decide +kernel, rfl⟩
theorem md_Mill_forgetWhatWasMade_7 : mz_d mb_Mill_forgetWhatWasMade 7 (.putfield 84) 3 10 := ⟨by decide +kernel, rfl⟩
theorem md_Mill_forgetWhatWasMade_10 : mz_d mb_Mill_forgetWhatWasMade 10 (.return_) 1 11 := ⟨by decide +kernel, rfl⟩
theorem md_Mill_block_0 : mz_d mb_Mill_block 0 (.aload_n 0) 1 1 := ⟨by decide +kernel, rfl⟩
theorem md_Mill_block_1 : mz_d mb_Mill_block 1 (.getfield 12) 3 4 := ⟨by decide +kernel, rfl⟩
theorem md_Mill_block_4 : mz_d mb_Mill_block 4 (.getfield 91) 3 7 := ⟨by decide +kernel, rfl⟩
theorem md_Mill_block_7 : mz_d mb_Mill_block 7 (.bipush 10) 2 9 := ⟨by decide +kernel, rfl⟩
theorem md_Mill_block_9 : mz_d mb_Mill_block 9 (.if_icmp .ne 5) 3 12 := ⟨by decide +kernel, rfl⟩
theorem md_Mill_block_12 : mz_d mb_Mill_block 12 (.iconst (-1)) 1 13 := ⟨by decide +kernel, rfl⟩
theorem md_Mill_block_13 : mz_d mb_Mill_block 13 (.ireturn) 1 14 := ⟨by decide +kernel, rfl⟩
theorem md_Mill_block_14 : mz_d mb_Mill_block 14 (.aload_n 0) 1 15 := ⟨by decide +kernel, rfl⟩
theorem md_Mill_block_15 : mz_d mb_Mill_block 15 (.invokevirtual 94) 3 18 := ⟨by decide +kernel, rfl⟩
theorem md_Mill_block_18 : mz_d mb_Mill_block 18 (.aload_n 0) 1 19 := ⟨by decide +kernel, rfl⟩
theorem md_Mill_block_19 : mz_d mb_Mill_block 19 (.getfield 12) 3 22 := ⟨by decide +kernel, rfl⟩
theorem md_Mill_block_22 : mz_d mb_Mill_block 22 (.dup) 1 23 := ⟨by decide +kernel, rfl⟩
theorem md_Mill_block_23 : mz_d mb_Mill_block 23 (.getfield 91) 3 26 := ⟨by decide +kernel, rfl⟩
theorem md_Mill_block_26 : mz_d mb_Mill_block 26 (.iconst 1) 1 27 := ⟨by decide +kernel, rfl⟩
theorem md_Mill_block_27 : mz_d mb_Mill_block 27 (.iadd) 1 28 := ⟨by decide +kernel, rfl⟩
theorem md_Mill_block_28 : mz_d mb_Mill_block 28 (.putfield 91) 3 31 := ⟨by decide +kernel, rfl⟩
theorem md_Mill_block_31 : mz_d mb_Mill_block 31 (.aload_n 0) 1 32 := ⟨by decide +kernel, rfl⟩
theorem md_Mill_block_32 : mz_d mb_Mill_block 32 (.getfield 12) 3 35 := ⟨by decide +kernel, rfl⟩
theorem md_Mill_block_35 : mz_d mb_Mill_block 35 (.getfield 91) 3 38 := ⟨by decide +kernel, rfl⟩
theorem md_Mill_block_38 : mz_d mb_Mill_block 38 (.iconst 1) 1 39 := ⟨by decide +kernel, rfl⟩
theorem md_Mill_block_39 : mz_d mb_Mill_block 39 (.isub) 1 40 := ⟨by decide +kernel, rfl⟩
theorem md_Mill_block_40 : mz_d mb_Mill_block 40 (.ireturn) 1 41 := ⟨by decide +kernel, rfl⟩
theorem md_Mill_op_0 : mz_d mb_Mill_op 0 (.aload_n 0) 1 1 := ⟨by decide +kernel, rfl⟩
theorem md_Mill_op_1 : mz_d mb_Mill_op 1 (.getfield 12) 3 4 := ⟨by decide +kernel, rfl⟩
theorem md_Mill_op_4 : mz_d mb_Mill_op 4 (.iload_n 1) 1 5 := ⟨by decide +kernel, rfl⟩
theorem md_Mill_op_5 : mz_d mb_Mill_op 5 (.invokevirtual 97) 3 8 := ⟨by decide +kernel, rfl⟩
theorem md_Mill_op_8 : mz_d mb_Mill_op 8 (.ifCond .eq 29) 3 11 := ⟨by decide +kernel, rfl⟩
theorem md_Mill_op_11 : mz_d mb_Mill_op 11 (.aload_n 0) 1 12 := ⟨by decide +kernel, rfl⟩
theorem md_Mill_op_12 : mz_d mb_Mill_op 12 (.getfield 12) 3 15 := ⟨by decide +kernel, rfl⟩
theorem md_Mill_op_15 : mz_d mb_Mill_op 15 (.getfield 101) 3 18 := ⟨by decide +kernel, rfl⟩
theorem md_Mill_op_18 : mz_d mb_Mill_op 18 (.iload_n 1) 1 19 := ⟨by decide +kernel, rfl⟩
theorem md_Mill_op_19 : mz_d mb_Mill_op 19 (.iaload) 1 20 := ⟨by decide +kernel, rfl⟩
theorem md_Mill_op_20 : mz_d mb_Mill_op 20 (.bipush 12) 2 22 := ⟨by decide +kernel, rfl⟩
theorem md_Mill_op_22 : mz_d mb_Mill_op 22 (.if_icmp .eq 15) 3 25 := ⟨by decide +kernel, rfl⟩
theorem md_Mill_op_25 : mz_d mb_Mill_op 25 (.iload_n 2) 1 26 := ⟨by decide +kernel, rfl⟩
theorem md_Mill_op_26 : mz_d mb_Mill_op 26 (.iload_n 3) 1 27 := ⟨by decide +kernel, rfl⟩
theorem md_Mill_op_27 : mz_d mb_Mill_op 27 (.iload 4) 2 29 := ⟨by decide +kernel, rfl⟩
theorem md_Mill_op_29 : mz_d mb_Mill_op 29 (.iload 5) 2 31 := ⟨by decide +kernel, rfl⟩
theorem md_Mill_op_31 : mz_d mb_Mill_op 31 (.invokestatic 105) 3 34 := ⟨by decide +kernel, rfl⟩
theorem md_Mill_op_34 : mz_d mb_Mill_op 34 (.ifCond .ne 5) 3 37 := ⟨by decide +kernel, rfl⟩
theorem md_Mill_op_37 : mz_d mb_Mill_op 37 (.iconst 0) 1 38 := ⟨by decide +kernel, rfl⟩
theorem md_Mill_op_38 : mz_d mb_Mill_op 38 (.ireturn) 1 39 := ⟨by decide +kernel, rfl⟩
theorem md_Mill_op_39 : mz_d mb_Mill_op 39 (.aload_n 0) 1 40 := ⟨by decide +kernel, rfl⟩
theorem md_Mill_op_40 : mz_d mb_Mill_op 40 (.invokevirtual 94) 3 43 := ⟨by decide +kernel, rfl⟩
theorem md_Mill_op_43 : mz_d mb_Mill_op 43 (.aload_n 0) 1 44 := ⟨by decide +kernel, rfl⟩
theorem md_Mill_op_44 : mz_d mb_Mill_op 44 (.getfield 12) 3 47 := ⟨by decide +kernel, rfl⟩
theorem md_Mill_op_47 : mz_d mb_Mill_op 47 (.iload_n 1) 1 48 := ⟨by decide +kernel, rfl⟩
theorem md_Mill_op_48 : mz_d mb_Mill_op 48 (.iload_n 2) 1 49 := ⟨by decide +kernel, rfl⟩
theorem md_Mill_op_49 : mz_d mb_Mill_op 49 (.iload_n 3) 1 50 := ⟨by decide +kernel, rfl⟩
theorem md_Mill_op_50 : mz_d mb_Mill_op 50 (.iload 4) 2 52 := ⟨by decide +kernel, rfl⟩
theorem md_Mill_op_52 : mz_d mb_Mill_op 52 (.iload 5) 2 54 := ⟨by decide +kernel, rfl⟩
theorem md_Mill_op_54 : mz_d mb_Mill_op 54 (.invokevirtual 109) 3 57 := ⟨by decide +kernel, rfl⟩
theorem md_Mill_op_57 : mz_d mb_Mill_op 57 (.iconst 1) 1 58 := ⟨by decide +kernel, rfl⟩
theorem md_Mill_op_58 : mz_d mb_Mill_op 58 (.ireturn) 1 59 := ⟨by decide +kernel, rfl⟩
theorem md_Mill_jump_0 : mz_d mb_Mill_jump 0 (.aload_n 0) 1 1 := ⟨by decide +kernel, rfl⟩
theorem md_Mill_jump_1 : mz_d mb_Mill_jump 1 (.getfield 12) 3 4 := ⟨by decide +kernel, rfl⟩
theorem md_Mill_jump_4 : mz_d mb_Mill_jump 4 (.iload_n 1) 1 5 := ⟨by decide +kernel, rfl⟩
theorem md_Mill_jump_5 : mz_d mb_Mill_jump 5 (.invokevirtual 97) 3 8 := ⟨by decide +kernel, rfl⟩
theorem md_Mill_jump_8 : mz_d mb_Mill_jump 8 (.ifCond .eq 14) 3 11 := ⟨by decide +kernel, rfl⟩
theorem md_Mill_jump_11 : mz_d mb_Mill_jump 11 (.aload_n 0) 1 12 := ⟨by decide +kernel, rfl⟩
theorem md_Mill_jump_12 : mz_d mb_Mill_jump 12 (.getfield 12) 3 15 := ⟨by decide +kernel, rfl⟩
theorem md_Mill_jump_15 : mz_d mb_Mill_jump 15 (.iload_n 2) 1 16 := ⟨by decide +kernel, rfl⟩
theorem md_Mill_jump_16 : mz_d mb_Mill_jump 16 (.invokevirtual 97) 3 19 := ⟨by decide +kernel, rfl⟩
theorem md_Mill_jump_19 : mz_d mb_Mill_jump 19 (.ifCond .ne 5) 3 22 := ⟨by decide +kernel, rfl⟩
theorem md_Mill_jump_22 : mz_d mb_Mill_jump 22 (.iconst 0) 1 23 := ⟨by decide +kernel, rfl⟩
theorem md_Mill_jump_23 : mz_d mb_Mill_jump 23 (.ireturn) 1 24 := ⟨by decide +kernel, rfl⟩
theorem md_Mill_jump_24 : mz_d mb_Mill_jump 24 (.aload_n 0) 1 25 := ⟨by decide +kernel, rfl⟩
theorem md_Mill_jump_25 : mz_d mb_Mill_jump 25 (.invokevirtual 94) 3 28 := ⟨by decide +kernel, rfl⟩
theorem md_Mill_jump_28 : mz_d mb_Mill_jump 28 (.aload_n 0) 1 29 := ⟨by decide +kernel, rfl⟩
theorem md_Mill_jump_29 : mz_d mb_Mill_jump 29 (.getfield 12) 3 32 := ⟨by decide +kernel, rfl⟩
theorem md_Mill_jump_32 : mz_d mb_Mill_jump 32 (.iload_n 1) 1 33 := ⟨by decide +kernel, rfl⟩
theorem md_Mill_jump_33 : mz_d mb_Mill_jump 33 (.iconst 1) 1 34 := ⟨by decide +kernel, rfl⟩
theorem md_Mill_jump_34 : mz_d mb_Mill_jump 34 (.iconst 0) 1 35 := ⟨by decide +kernel, rfl⟩
theorem md_Mill_jump_35 : mz_d mb_Mill_jump 35 (.invokevirtual 113) 3 38 := ⟨by decide +kernel, rfl⟩
theorem md_Mill_jump_38 : mz_d mb_Mill_jump 38 (.aload_n 0) 1 39 := ⟨by decide +kernel, rfl⟩
theorem md_Mill_jump_39 : mz_d mb_Mill_jump 39 (.getfield 12) 3 42 := ⟨by decide +kernel, rfl⟩
theorem md_Mill_jump_42 : mz_d mb_Mill_jump 42 (.iload_n 1) 1 43 := ⟨by decide +kernel, rfl⟩
theorem md_Mill_jump_43 : mz_d mb_Mill_jump 43 (.iload_n 2) 1 44 := ⟨by decide +kernel, rfl⟩
theorem md_Mill_jump_44 : mz_d mb_Mill_jump 44 (.iload_n 2) 1 45 := ⟨by decide +kernel, rfl⟩
theorem md_Mill_jump_45 : mz_d mb_Mill_jump 45 (.invokevirtual 117) 3 48 := ⟨by decide +kernel, rfl⟩
theorem md_Mill_jump_48 : mz_d mb_Mill_jump 48 (.iconst 1) 1 49 := ⟨by decide +kernel, rfl⟩
theorem md_Mill_jump_49 : mz_d mb_Mill_jump 49 (.ireturn) 1 50 := ⟨by decide +kernel, rfl⟩
theorem md_Mill_branch_0 : mz_d mb_Mill_branch 0 (.aload_n 0) 1 1 := ⟨by decide +kernel, rfl⟩
theorem md_Mill_branch_1 : mz_d mb_Mill_branch 1 (.getfield 12) 3 4 := ⟨by decide +kernel, rfl⟩
theorem md_Mill_branch_4 : mz_d mb_Mill_branch 4 (.iload_n 1) 1 5 := ⟨by decide +kernel, rfl⟩
theorem md_Mill_branch_5 : mz_d mb_Mill_branch 5 (.invokevirtual 97) 3 8 := ⟨by decide +kernel, rfl⟩
theorem md_Mill_branch_8 : mz_d mb_Mill_branch 8 (.ifCond .eq 33) 3 11 := ⟨by decide +kernel, rfl⟩
theorem md_Mill_branch_11 : mz_d mb_Mill_branch 11 (.iload_n 2) 1 12 := ⟨by decide +kernel, rfl⟩
theorem md_Mill_branch_12 : mz_d mb_Mill_branch 12 (.invokestatic 120) 3 15 := ⟨by decide +kernel, rfl⟩
theorem md_Mill_branch_15 : mz_d mb_Mill_branch 15 (.ifCond .eq 26) 3 18 := ⟨by decide +kernel, rfl⟩
theorem md_Mill_branch_18 : mz_d mb_Mill_branch 18 (.aload_n 0) 1 19 := ⟨by decide +kernel, rfl⟩
theorem md_Mill_branch_19 : mz_d mb_Mill_branch 19 (.getfield 12) 3 22 := ⟨by decide +kernel, rfl⟩
theorem md_Mill_branch_22 : mz_d mb_Mill_branch 22 (.iload_n 3) 1 23 := ⟨by decide +kernel, rfl⟩
theorem md_Mill_branch_23 : mz_d mb_Mill_branch 23 (.invokevirtual 97) 3 26 := ⟨by decide +kernel, rfl⟩
theorem md_Mill_branch_26 : mz_d mb_Mill_branch 26 (.ifCond .eq 15) 3 29 := ⟨by decide +kernel, rfl⟩
theorem md_Mill_branch_29 : mz_d mb_Mill_branch 29 (.aload_n 0) 1 30 := ⟨by decide +kernel, rfl⟩
theorem md_Mill_branch_30 : mz_d mb_Mill_branch 30 (.getfield 12) 3 33 := ⟨by decide +kernel, rfl⟩
theorem md_Mill_branch_33 : mz_d mb_Mill_branch 33 (.iload 4) 2 35 := ⟨by decide +kernel, rfl⟩
theorem md_Mill_branch_35 : mz_d mb_Mill_branch 35 (.invokevirtual 97) 3 38 := ⟨by decide +kernel, rfl⟩
theorem md_Mill_branch_38 : mz_d mb_Mill_branch 38 (.ifCond .ne 5) 3 41 := ⟨by decide +kernel, rfl⟩
theorem md_Mill_branch_41 : mz_d mb_Mill_branch 41 (.iconst 0) 1 42 := ⟨by decide +kernel, rfl⟩
theorem md_Mill_branch_42 : mz_d mb_Mill_branch 42 (.ireturn) 1 43 := ⟨by decide +kernel, rfl⟩
theorem md_Mill_branch_43 : mz_d mb_Mill_branch 43 (.aload_n 0) 1 44 := ⟨by decide +kernel, rfl⟩
theorem md_Mill_branch_44 : mz_d mb_Mill_branch 44 (.invokevirtual 94) 3 47 := ⟨by decide +kernel, rfl⟩
theorem md_Mill_branch_47 : mz_d mb_Mill_branch 47 (.aload_n 0) 1 48 := ⟨by decide +kernel, rfl⟩
theorem md_Mill_branch_48 : mz_d mb_Mill_branch 48 (.getfield 12) 3 51 := ⟨by decide +kernel, rfl⟩
theorem md_Mill_branch_51 : mz_d mb_Mill_branch 51 (.iload_n 1) 1 52 := ⟨by decide +kernel, rfl⟩
theorem md_Mill_branch_52 : mz_d mb_Mill_branch 52 (.iconst 2) 1 53 := ⟨by decide +kernel, rfl⟩
theorem md_Mill_branch_53 : mz_d mb_Mill_branch 53 (.iload_n 2) 1 54 := ⟨by decide +kernel, rfl⟩
theorem md_Mill_branch_54 : mz_d mb_Mill_branch 54 (.invokevirtual 113) 3 57 := ⟨by decide +kernel, rfl⟩
theorem md_Mill_branch_57 : mz_d mb_Mill_branch 57 (.aload_n 0) 1 58 := ⟨by decide +kernel, rfl⟩
theorem md_Mill_branch_58 : mz_d mb_Mill_branch 58 (.getfield 12) 3 61 := ⟨by decide +kernel, rfl⟩
theorem md_Mill_branch_61 : mz_d mb_Mill_branch 61 (.iload_n 1) 1 62 := ⟨by decide +kernel, rfl⟩
theorem md_Mill_branch_62 : mz_d mb_Mill_branch 62 (.iload_n 3) 1 63 := ⟨by decide +kernel, rfl⟩
theorem md_Mill_branch_63 : mz_d mb_Mill_branch 63 (.iload 4) 2 65 := ⟨by decide +kernel, rfl⟩
theorem md_Mill_branch_65 : mz_d mb_Mill_branch 65 (.invokevirtual 117) 3 68 := ⟨by decide +kernel, rfl⟩
theorem md_Mill_branch_68 : mz_d mb_Mill_branch 68 (.iconst 1) 1 69 := ⟨by decide +kernel, rfl⟩
theorem md_Mill_branch_69 : mz_d mb_Mill_branch 69 (.ireturn) 1 70 := ⟨by decide +kernel, rfl⟩
theorem md_Mill_ret_0 : mz_d mb_Mill_ret 0 (.aload_n 0) 1 1 := ⟨by decide +kernel, rfl⟩
theorem md_Mill_ret_1 : mz_d mb_Mill_ret 1 (.getfield 12) 3 4 := ⟨by decide +kernel, rfl⟩
theorem md_Mill_ret_4 : mz_d mb_Mill_ret 4 (.iload_n 1) 1 5 := ⟨by decide +kernel, rfl⟩
theorem md_Mill_ret_5 : mz_d mb_Mill_ret 5 (.invokevirtual 97) 3 8 := ⟨by decide +kernel, rfl⟩
theorem md_Mill_ret_8 : mz_d mb_Mill_ret 8 (.ifCond .eq 10) 3 11 := ⟨by decide +kernel, rfl⟩
theorem md_Mill_ret_11 : mz_d mb_Mill_ret 11 (.iload_n 2) 1 12 := ⟨by decide +kernel, rfl⟩
theorem md_Mill_ret_12 : mz_d mb_Mill_ret 12 (.invokestatic 120) 3 15 := ⟨by decide +kernel, rfl⟩
theorem md_Mill_ret_15 : mz_d mb_Mill_ret 15 (.ifCond .ne 5) 3 18 := ⟨by decide +kernel, rfl⟩
theorem md_Mill_ret_18 : mz_d mb_Mill_ret 18 (.iconst 0) 1 19 := ⟨by decide +kernel, rfl⟩
theorem md_Mill_ret_19 : mz_d mb_Mill_ret 19 (.ireturn) 1 20 := ⟨by decide +kernel, rfl⟩
theorem md_Mill_ret_20 : mz_d mb_Mill_ret 20 (.aload_n 0) 1 21 := ⟨by decide +kernel, rfl⟩
theorem md_Mill_ret_21 : mz_d mb_Mill_ret 21 (.invokevirtual 94) 3 24 := ⟨by decide +kernel, rfl⟩
theorem md_Mill_ret_24 : mz_d mb_Mill_ret 24 (.aload_n 0) 1 25 := ⟨by decide +kernel, rfl⟩
theorem md_Mill_ret_25 : mz_d mb_Mill_ret 25 (.getfield 12) 3 28 := ⟨by decide +kernel, rfl⟩
theorem md_Mill_ret_28 : mz_d mb_Mill_ret 28 (.iload_n 1) 1 29 := ⟨by decide +kernel, rfl⟩
theorem md_Mill_ret_29 : mz_d mb_Mill_ret 29 (.iconst 0) 1 30 := ⟨by decide +kernel, rfl⟩
theorem md_Mill_ret_30 : mz_d mb_Mill_ret 30 (.iload_n 2) 1 31 := ⟨by decide +kernel, rfl⟩
theorem md_Mill_ret_31 : mz_d mb_Mill_ret 31 (.invokevirtual 113) 3 34 := ⟨by decide +kernel, rfl⟩
theorem md_Mill_ret_34 : mz_d mb_Mill_ret 34 (.iconst 1) 1 35 := ⟨by decide +kernel, rfl⟩
theorem md_Mill_ret_35 : mz_d mb_Mill_ret 35 (.ireturn) 1 36 := ⟨by decide +kernel, rfl⟩
theorem md_Mill_memory_0 : mz_d mb_Mill_memory 0 (.iload_n 1) 1 1 := ⟨by decide +kernel, rfl⟩
theorem md_Mill_memory_1 : mz_d mb_Mill_memory 1 (.invokestatic 123) 3 4 := ⟨by decide +kernel, rfl⟩
theorem md_Mill_memory_4 : mz_d mb_Mill_memory 4 (.ifCond .ne 5) 3 7 := ⟨by decide +kernel, rfl⟩
theorem md_Mill_memory_7 : mz_d mb_Mill_memory 7 (.iconst 0) 1 8 := ⟨by decide +kernel, rfl⟩
theorem md_Mill_memory_8 : mz_d mb_Mill_memory 8 (.ireturn) 1 9 := ⟨by decide +kernel, rfl⟩
theorem md_Mill_memory_9 : mz_d mb_Mill_memory 9 (.aload_n 0) 1 10 := ⟨by decide +kernel, rfl⟩
theorem md_Mill_memory_10 : mz_d mb_Mill_memory 10 (.getfield 12) 3 13 := ⟨by decide +kernel, rfl⟩
theorem md_Mill_memory_13 : mz_d mb_Mill_memory 13 (.getfield 126) 3 16 := ⟨by decide +kernel, rfl⟩
theorem md_Mill_memory_16 : mz_d mb_Mill_memory 16 (.iload_n 1) 1 17 := ⟨by decide +kernel, rfl⟩
theorem md_Mill_memory_17 : mz_d mb_Mill_memory 17 (.iload_n 2) 1 18 := ⟨by decide +kernel, rfl⟩
theorem md_Mill_memory_18 : mz_d mb_Mill_memory 18 (.iastore) 1 19 := ⟨by decide +kernel, rfl⟩
theorem md_Mill_memory_19 : mz_d mb_Mill_memory 19 (.iconst 1) 1 20 := ⟨by decide +kernel, rfl⟩
theorem md_Mill_memory_20 : mz_d mb_Mill_memory 20 (.ireturn) 1 21 := ⟨by decide +kernel, rfl⟩
theorem md_Mill_look_0 : mz_d mb_Mill_look 0 (.aload_n 0) 1 1 := ⟨by decide +kernel, rfl⟩
theorem md_Mill_look_1 : mz_d mb_Mill_look 1 (.getfield 183) 3 4 := ⟨by decide +kernel, rfl⟩
theorem md_Mill_look_4 : mz_d mb_Mill_look 4 (.ifCond .eq 4) 3 7 := ⟨by decide +kernel, rfl⟩
theorem md_Mill_look_7 : mz_d mb_Mill_look 7 (.return_) 1 8 := ⟨by decide +kernel, rfl⟩
theorem md_Mill_look_8 : mz_d mb_Mill_look 8 (.aload_n 0) 1 9 := ⟨by decide +kernel, rfl⟩
theorem md_Mill_look_9 : mz_d mb_Mill_look 9 (.getfield 21) 3 12 := ⟨by decide +kernel, rfl⟩
theorem md_Mill_look_12 : mz_d mb_Mill_look 12 (.invokevirtual 187) 3 15 := ⟨by decide +kernel, rfl⟩
theorem md_Mill_look_15 : mz_d mb_Mill_look 15 (.aload_n 0) 1 16 := ⟨by decide +kernel, rfl⟩
theorem md_Mill_look_16 : mz_d mb_Mill_look 16 (.getfield 30) 3 19 := ⟨by decide +kernel, rfl⟩
theorem md_Mill_look_19 : mz_d mb_Mill_look 19 (.invokevirtual 190) 3 22 := ⟨by decide +kernel, rfl⟩
theorem md_Mill_look_22 : mz_d mb_Mill_look 22 (.aload_n 0) 1 23 := ⟨by decide +kernel, rfl⟩
theorem md_Mill_look_23 : mz_d mb_Mill_look 23 (.iconst 1) 1 24 := ⟨by decide +kernel, rfl⟩
theorem md_Mill_look_24 : mz_d mb_Mill_look 24 (.putfield 183) 3 27 := ⟨by decide +kernel, rfl⟩
theorem md_Mill_look_27 : mz_d mb_Mill_look 27 (.return_) 1 28 := ⟨by decide +kernel, rfl⟩
theorem md_Mill_makeCode_0 : mz_d mb_Mill_makeCode 0 (.aload_n 0) 1 1 := ⟨by decide +kernel, rfl⟩
theorem md_Mill_makeCode_1 : mz_d mb_Mill_makeCode 1 (.getfield 84) 3 4 := ⟨by decide +kernel, rfl⟩
theorem md_Mill_makeCode_4 : mz_d mb_Mill_makeCode 4 (.iload_n 1) 1 5 := ⟨by decide +kernel, rfl⟩
theorem md_Mill_makeCode_5 : mz_d mb_Mill_makeCode 5 (.if_icmp .ne 12) 3 8 := ⟨by decide +kernel, rfl⟩
theorem md_Mill_makeCode_8 : mz_d mb_Mill_makeCode 8 (.aload_n 0) 1 9 := ⟨by decide +kernel, rfl⟩
theorem md_Mill_makeCode_9 : mz_d mb_Mill_makeCode 9 (.getfield 88) 3 12 := ⟨by decide +kernel, rfl⟩
theorem md_Mill_makeCode_12 : mz_d mb_Mill_makeCode 12 (.iload_n 2) 1 13 := ⟨by decide +kernel, rfl⟩
theorem md_Mill_makeCode_13 : mz_d mb_Mill_makeCode 13 (.if_icmp .ne 4) 3 16 := ⟨by decide +kernel, rfl⟩
theorem md_Mill_makeCode_16 : mz_d mb_Mill_makeCode 16 (.return_) 1 17 := ⟨by decide +kernel, rfl⟩
theorem md_Mill_makeCode_17 : mz_d mb_Mill_makeCode 17 (.iload_n 1) 1 18 := ⟨by decide +kernel, rfl⟩
theorem md_Mill_makeCode_18 : mz_d mb_Mill_makeCode 18 (.ifCond .ne 13) 3 21 := ⟨by decide +kernel, rfl⟩
theorem md_Mill_makeCode_21 : mz_d mb_Mill_makeCode 21 (.aload_n 0) 1 22 := ⟨by decide +kernel, rfl⟩
theorem md_Mill_makeCode_22 : mz_d mb_Mill_makeCode 22 (.getfield 73) 3 25 := ⟨by decide +kernel, rfl⟩
theorem md_Mill_makeCode_25 : mz_d mb_Mill_makeCode 25 (.invokevirtual 191) 3 28 := ⟨by decide +kernel, rfl⟩
theorem md_Mill_makeCode_28 : mz_d mb_Mill_makeCode 28 (.goto 66) 3 31 := ⟨by decide +kernel, rfl⟩
theorem md_Mill_makeCode_31 : mz_d mb_Mill_makeCode 31 (.aload_n 0) 1 32 := ⟨by decide +kernel, rfl⟩
theorem md_Mill_makeCode_32 : mz_d mb_Mill_makeCode 32 (.invokevirtual 152) 3 35 := ⟨by decide +kernel, rfl⟩
theorem md_Mill_makeCode_35 : mz_d mb_Mill_makeCode 35 (.aload_n 0) 1 36 := ⟨by decide +kernel, rfl⟩
theorem md_Mill_makeCode_36 : mz_d mb_Mill_makeCode 36 (.getfield 39) 3 39 := ⟨by decide +kernel, rfl⟩
theorem md_Mill_makeCode_39 : mz_d mb_Mill_makeCode 39 (.invokevirtual 194) 3 42 := ⟨by decide +kernel, rfl⟩
theorem md_Mill_makeCode_42 : mz_d mb_Mill_makeCode 42 (.iload_n 1) 1 43 := ⟨by decide +kernel, rfl⟩
theorem md_Mill_makeCode_43 : mz_d mb_Mill_makeCode 43 (.iconst 1) 1 44 := ⟨by decide +kernel, rfl⟩
theorem md_Mill_makeCode_44 : mz_d mb_Mill_makeCode 44 (.if_icmp .ne 13) 3 47 := ⟨by decide +kernel, rfl⟩
theorem md_Mill_makeCode_47 : mz_d mb_Mill_makeCode 47 (.aload_n 0) 1 48 := ⟨by decide +kernel, rfl⟩
theorem md_Mill_makeCode_48 : mz_d mb_Mill_makeCode 48 (.getfield 48) 3 51 := ⟨by decide +kernel, rfl⟩
theorem md_Mill_makeCode_51 : mz_d mb_Mill_makeCode 51 (.invokevirtual 197) 3 54 := ⟨by decide +kernel, rfl⟩
theorem md_Mill_makeCode_54 : mz_d mb_Mill_makeCode 54 (.goto 10) 3 57 := ⟨by decide +kernel, rfl⟩
theorem md_Mill_makeCode_57 : mz_d mb_Mill_makeCode 57 (.aload_n 0) 1 58 := ⟨by decide +kernel, rfl⟩
theorem md_Mill_makeCode_58 : mz_d mb_Mill_makeCode 58 (.getfield 48) 3 61 := ⟨by decide +kernel, rfl⟩
theorem md_Mill_makeCode_61 : mz_d mb_Mill_makeCode 61 (.invokevirtual 200) 3 64 := ⟨by decide +kernel, rfl⟩
theorem md_Mill_makeCode_64 : mz_d mb_Mill_makeCode 64 (.iload_n 1) 1 65 := ⟨by decide +kernel, rfl⟩
theorem md_Mill_makeCode_65 : mz_d mb_Mill_makeCode 65 (.iconst 3) 1 66 := ⟨by decide +kernel, rfl⟩
theorem md_Mill_makeCode_66 : mz_d mb_Mill_makeCode 66 (.if_icmp .ne 14) 3 69 := ⟨by decide +kernel, rfl⟩
theorem md_Mill_makeCode_69 : mz_d mb_Mill_makeCode 69 (.aload_n 0) 1 70 := ⟨by decide +kernel, rfl⟩
theorem md_Mill_makeCode_70 : mz_d mb_Mill_makeCode 70 (.getfield 57) 3 73 := ⟨by decide +kernel, rfl⟩
theorem md_Mill_makeCode_73 : mz_d mb_Mill_makeCode 73 (.iload_n 2) 1 74 := ⟨by decide +kernel, rfl⟩
theorem md_Mill_makeCode_74 : mz_d mb_Mill_makeCode 74 (.invokevirtual 203) 3 77 := ⟨by decide +kernel, rfl⟩
theorem md_Mill_makeCode_77 : mz_d mb_Mill_makeCode 77 (.goto 10) 3 80 := ⟨by decide +kernel, rfl⟩
theorem md_Mill_makeCode_80 : mz_d mb_Mill_makeCode 80 (.aload_n 0) 1 81 := ⟨by decide +kernel, rfl⟩
theorem md_Mill_makeCode_81 : mz_d mb_Mill_makeCode 81 (.getfield 57) 3 84 := ⟨by decide +kernel, rfl⟩
theorem md_Mill_makeCode_84 : mz_d mb_Mill_makeCode 84 (.invokevirtual 207) 3 87 := ⟨by decide +kernel, rfl⟩
theorem md_Mill_makeCode_87 : mz_d mb_Mill_makeCode 87 (.aload_n 0) 1 88 := ⟨by decide +kernel, rfl⟩
theorem md_Mill_makeCode_88 : mz_d mb_Mill_makeCode 88 (.getfield 73) 3 91 := ⟨by decide +kernel, rfl⟩
theorem md_Mill_makeCode_91 : mz_d mb_Mill_makeCode 91 (.invokevirtual 210) 3 94 := ⟨by decide +kernel, rfl⟩
theorem md_Mill_makeCode_94 : mz_d mb_Mill_makeCode 94 (.aload_n 0) 1 95 := ⟨by decide +kernel, rfl⟩
theorem md_Mill_makeCode_95 : mz_d mb_Mill_makeCode 95 (.iload_n 1) 1 96 := ⟨by decide +kernel, rfl⟩
theorem md_Mill_makeCode_96 : mz_d mb_Mill_makeCode 96 (.putfield 84) 3 99 := ⟨by decide +kernel, rfl⟩
theorem md_Mill_makeCode_99 : mz_d mb_Mill_makeCode 99 (.aload_n 0) 1 100 := ⟨by decide +kernel, rfl⟩
theorem md_Mill_makeCode_100 : mz_d mb_Mill_makeCode 100 (.iload_n 2) 1 101 := ⟨by decide +kernel, rfl⟩
theorem md_Mill_makeCode_101 : mz_d mb_Mill_makeCode 101 (.putfield 88) 3 104 := ⟨by decide +kernel, rfl⟩
theorem md_Mill_makeCode_104 : mz_d mb_Mill_makeCode 104 (.return_) 1 105 := ⟨by decide +kernel, rfl⟩
theorem md_Mill_run_0 : mz_d mb_Mill_run 0 (.aload_n 0) 1 1 := ⟨by decide +kernel, rfl⟩
theorem md_Mill_run_1 : mz_d mb_Mill_run 1 (.getfield 12) 3 4 := ⟨by decide +kernel, rfl⟩
theorem md_Mill_run_4 : mz_d mb_Mill_run 4 (.getfield 91) 3 7 := ⟨by decide +kernel, rfl⟩
theorem md_Mill_run_7 : mz_d mb_Mill_run 7 (.ifCond .eq 12) 3 10 := ⟨by decide +kernel, rfl⟩
theorem md_Mill_run_10 : mz_d mb_Mill_run 10 (.iload_n 1) 1 11 := ⟨by decide +kernel, rfl⟩
theorem md_Mill_run_11 : mz_d mb_Mill_run 11 (.ifCond .lt 8) 3 14 := ⟨by decide +kernel, rfl⟩
theorem md_Mill_run_14 : mz_d mb_Mill_run 14 (.iload_n 1) 1 15 := ⟨by decide +kernel, rfl⟩
theorem md_Mill_run_15 : mz_d mb_Mill_run 15 (.iconst 3) 1 16 := ⟨by decide +kernel, rfl⟩
theorem md_Mill_run_16 : mz_d mb_Mill_run 16 (.if_icmp .le 5) 3 19 := ⟨by decide +kernel, rfl⟩
theorem md_Mill_run_19 : mz_d mb_Mill_run 19 (.iconst (-1)) 1 20 := ⟨by decide +kernel, rfl⟩
theorem md_Mill_run_20 : mz_d mb_Mill_run 20 (.ireturn) 1 21 := ⟨by decide +kernel, rfl⟩
theorem md_Mill_run_21 : mz_d mb_Mill_run 21 (.iload_n 2) 1 22 := ⟨by decide +kernel, rfl⟩
theorem md_Mill_run_22 : mz_d mb_Mill_run 22 (.iconst 2) 1 23 := ⟨by decide +kernel, rfl⟩
theorem md_Mill_run_23 : mz_d mb_Mill_run 23 (.if_icmp .lt 20) 3 26 := ⟨by decide +kernel, rfl⟩
theorem md_Mill_run_26 : mz_d mb_Mill_run 26 (.iload_n 2) 1 27 := ⟨by decide +kernel, rfl⟩
theorem md_Mill_run_27 : mz_d mb_Mill_run 27 (.bipush 8) 2 29 := ⟨by decide +kernel, rfl⟩
theorem md_Mill_run_29 : mz_d mb_Mill_run 29 (.if_icmp .gt 14) 3 32 := ⟨by decide +kernel, rfl⟩
theorem md_Mill_run_32 : mz_d mb_Mill_run 32 (.iload_n 3) 1 33 := ⟨by decide +kernel, rfl⟩
theorem md_Mill_run_33 : mz_d mb_Mill_run 33 (.ifCond .lt 10) 3 36 := ⟨by decide +kernel, rfl⟩
theorem md_Mill_run_36 : mz_d mb_Mill_run 36 (.iload_n 3) 1 37 := ⟨by decide +kernel, rfl⟩
theorem md_Mill_run_37 : mz_d mb_Mill_run 37 (.sipush 500) 3 40 := ⟨by decide +kernel, rfl⟩
theorem md_Mill_run_40 : mz_d mb_Mill_run 40 (.if_icmp .le 5) 3 43 := ⟨by decide +kernel, rfl⟩
theorem md_Mill_run_43 : mz_d mb_Mill_run 43 (.iconst (-1)) 1 44 := ⟨by decide +kernel, rfl⟩
theorem md_Mill_run_44 : mz_d mb_Mill_run 44 (.ireturn) 1 45 := ⟨by decide +kernel, rfl⟩
theorem md_Mill_run_45 : mz_d mb_Mill_run 45 (.aload_n 0) 1 46 := ⟨by decide +kernel, rfl⟩
theorem md_Mill_run_46 : mz_d mb_Mill_run 46 (.iload_n 1) 1 47 := ⟨by decide +kernel, rfl⟩
theorem md_Mill_run_47 : mz_d mb_Mill_run 47 (.iload_n 2) 1 48 := ⟨by decide +kernel, rfl⟩
theorem md_Mill_run_48 : mz_d mb_Mill_run 48 (.invokevirtual 129) 3 51 := ⟨by decide +kernel, rfl⟩
theorem md_Mill_run_51 : mz_d mb_Mill_run 51 (.aload_n 0) 1 52 := ⟨by decide +kernel, rfl⟩
theorem md_Mill_run_52 : mz_d mb_Mill_run 52 (.getfield 80) 3 55 := ⟨by decide +kernel, rfl⟩
theorem md_Mill_run_55 : mz_d mb_Mill_run 55 (.aload_n 0) 1 56 := ⟨by decide +kernel, rfl⟩
theorem md_Mill_run_56 : mz_d mb_Mill_run 56 (.getfield 64) 3 59 := ⟨by decide +kernel, rfl⟩
theorem md_Mill_run_59 : mz_d mb_Mill_run 59 (.aload_n 0) 1 60 := ⟨by decide +kernel, rfl⟩
theorem md_Mill_run_60 : mz_d mb_Mill_run 60 (.getfield 12) 3 63 := ⟨by decide +kernel, rfl⟩
theorem md_Mill_run_63 : mz_d mb_Mill_run 63 (.iload_n 3) 1 64 := ⟨by decide +kernel, rfl⟩
theorem md_Mill_run_64 : mz_d mb_Mill_run 64 (.invokevirtual 133) 3 67 := ⟨by decide +kernel, rfl⟩
theorem md_Mill_run_67 : mz_d mb_Mill_run 67 (.ireturn) 1 68 := ⟨by decide +kernel, rfl⟩
theorem md_Mill_value_0 : mz_d mb_Mill_value 0 (.aload_n 0) 1 1 := ⟨by decide +kernel, rfl⟩
theorem md_Mill_value_1 : mz_d mb_Mill_value 1 (.getfield 80) 3 4 := ⟨by decide +kernel, rfl⟩
theorem md_Mill_value_4 : mz_d mb_Mill_value 4 (.getfield 137) 3 7 := ⟨by decide +kernel, rfl⟩
theorem md_Mill_value_7 : mz_d mb_Mill_value 7 (.ireturn) 1 8 := ⟨by decide +kernel, rfl⟩
theorem md_Mill_entered_0 : mz_d mb_Mill_entered 0 (.aload_n 0) 1 1 := ⟨by decide +kernel, rfl⟩
theorem md_Mill_entered_1 : mz_d mb_Mill_entered 1 (.getfield 80) 3 4 := ⟨by decide +kernel, rfl⟩
theorem md_Mill_entered_4 : mz_d mb_Mill_entered 4 (.getfield 140) 3 7 := ⟨by decide +kernel, rfl⟩
theorem md_Mill_entered_7 : mz_d mb_Mill_entered 7 (.ireturn) 1 8 := ⟨by decide +kernel, rfl⟩
theorem md_Mill_word_0 : mz_d mb_Mill_word 0 (.iload_n 1) 1 1 := ⟨by decide +kernel, rfl⟩
theorem md_Mill_word_1 : mz_d mb_Mill_word 1 (.invokestatic 123) 3 4 := ⟨by decide +kernel, rfl⟩
theorem md_Mill_word_4 : mz_d mb_Mill_word 4 (.ifCond .eq 15) 3 7 := ⟨by decide +kernel, rfl⟩
theorem md_Mill_word_7 : mz_d mb_Mill_word 7 (.aload_n 0) 1 8 := ⟨by decide +kernel, rfl⟩
theorem md_Mill_word_8 : mz_d mb_Mill_word 8 (.getfield 80) 3 11 := ⟨by decide +kernel, rfl⟩
theorem md_Mill_word_11 : mz_d mb_Mill_word 11 (.getfield 143) 3 14 := ⟨by decide +kernel, rfl⟩
theorem md_Mill_word_14 : mz_d mb_Mill_word 14 (.iload_n 1) 1 15 := ⟨by decide +kernel, rfl⟩
theorem md_Mill_word_15 : mz_d mb_Mill_word 15 (.iaload) 1 16 := ⟨by decide +kernel, rfl⟩
theorem md_Mill_word_16 : mz_d mb_Mill_word 16 (.goto 4) 3 19 := ⟨by decide +kernel, rfl⟩
theorem md_Mill_word_19 : mz_d mb_Mill_word 19 (.iconst 0) 1 20 := ⟨by decide +kernel, rfl⟩
theorem md_Mill_word_20 : mz_d mb_Mill_word 20 (.ireturn) 1 21 := ⟨by decide +kernel, rfl⟩
theorem md_Mill_calls_0 : mz_d mb_Mill_calls 0 (.aload_n 0) 1 1 := ⟨by decide +kernel, rfl⟩
theorem md_Mill_calls_1 : mz_d mb_Mill_calls 1 (.getfield 80) 3 4 := ⟨by decide +kernel, rfl⟩
theorem md_Mill_calls_4 : mz_d mb_Mill_calls 4 (.getfield 146) 3 7 := ⟨by decide +kernel, rfl⟩
theorem md_Mill_calls_7 : mz_d mb_Mill_calls 7 (.ireturn) 1 8 := ⟨by decide +kernel, rfl⟩
theorem md_Mill_call_0 : mz_d mb_Mill_call 0 (.aload_n 0) 1 1 := ⟨by decide +kernel, rfl⟩
theorem md_Mill_call_1 : mz_d mb_Mill_call 1 (.getfield 80) 3 4 := ⟨by decide +kernel, rfl⟩
theorem md_Mill_call_4 : mz_d mb_Mill_call 4 (.iload_n 1) 1 5 := ⟨by decide +kernel, rfl⟩
theorem md_Mill_call_5 : mz_d mb_Mill_call 5 (.iload_n 2) 1 6 := ⟨by decide +kernel, rfl⟩
theorem md_Mill_call_6 : mz_d mb_Mill_call 6 (.invokevirtual 149) 3 9 := ⟨by decide +kernel, rfl⟩
theorem md_Mill_call_9 : mz_d mb_Mill_call 9 (.ireturn) 1 10 := ⟨by decide +kernel, rfl⟩
theorem md_Mill_order_0 : mz_d mb_Mill_order 0 (.aload_n 0) 1 1 := ⟨by decide +kernel, rfl⟩
theorem md_Mill_order_1 : mz_d mb_Mill_order 1 (.invokevirtual 152) 3 4 := ⟨by decide +kernel, rfl⟩
theorem md_Mill_order_4 : mz_d mb_Mill_order 4 (.iload_n 1) 1 5 := ⟨by decide +kernel, rfl⟩
theorem md_Mill_order_5 : mz_d mb_Mill_order 5 (.ifCond .lt 26) 3 8 := ⟨by decide +kernel, rfl⟩
theorem md_Mill_order_8 : mz_d mb_Mill_order 8 (.iload_n 1) 1 9 := ⟨by decide +kernel, rfl⟩
theorem md_Mill_order_9 : mz_d mb_Mill_order 9 (.aload_n 0) 1 10 := ⟨by decide +kernel, rfl⟩
theorem md_Mill_order_10 : mz_d mb_Mill_order 10 (.getfield 21) 3 13 := ⟨by decide +kernel, rfl⟩
theorem md_Mill_order_13 : mz_d mb_Mill_order 13 (.getfield 155) 3 16 := ⟨by decide +kernel, rfl⟩
theorem md_Mill_order_16 : mz_d mb_Mill_order 16 (.if_icmp .ge 15) 3 19 := ⟨by decide +kernel, rfl⟩
theorem md_Mill_order_19 : mz_d mb_Mill_order 19 (.aload_n 0) 1 20 := ⟨by decide +kernel, rfl⟩
theorem md_Mill_order_20 : mz_d mb_Mill_order 20 (.getfield 21) 3 23 := ⟨by decide +kernel, rfl⟩
theorem md_Mill_order_23 : mz_d mb_Mill_order 23 (.getfield 158) 3 26 := ⟨by decide +kernel, rfl⟩
theorem md_Mill_order_26 : mz_d mb_Mill_order 26 (.iload_n 1) 1 27 := ⟨by decide +kernel, rfl⟩
theorem md_Mill_order_27 : mz_d mb_Mill_order 27 (.iaload) 1 28 := ⟨by decide +kernel, rfl⟩
theorem md_Mill_order_28 : mz_d mb_Mill_order 28 (.goto 4) 3 31 := ⟨by decide +kernel, rfl⟩
theorem md_Mill_order_31 : mz_d mb_Mill_order 31 (.iconst (-1)) 1 32 := ⟨by decide +kernel, rfl⟩
theorem md_Mill_order_32 : mz_d mb_Mill_order 32 (.ireturn) 1 33 := ⟨by decide +kernel, rfl⟩
theorem md_Mill_nearest_0 : mz_d mb_Mill_nearest 0 (.aload_n 0) 1 1 := ⟨by decide +kernel, rfl⟩
theorem md_Mill_nearest_1 : mz_d mb_Mill_nearest 1 (.invokevirtual 152) 3 4 := ⟨by decide +kernel, rfl⟩
theorem md_Mill_nearest_4 : mz_d mb_Mill_nearest 4 (.aload_n 0) 1 5 := ⟨by decide +kernel, rfl⟩
theorem md_Mill_nearest_5 : mz_d mb_Mill_nearest 5 (.getfield 21) 3 8 := ⟨by decide +kernel, rfl⟩
theorem md_Mill_nearest_8 : mz_d mb_Mill_nearest 8 (.iload_n 1) 1 9 := ⟨by decide +kernel, rfl⟩
theorem md_Mill_nearest_9 : mz_d mb_Mill_nearest 9 (.invokevirtual 161) 3 12 := ⟨by decide +kernel, rfl⟩
theorem md_Mill_nearest_12 : mz_d mb_Mill_nearest 12 (.ifCond .eq 15) 3 15 := ⟨by decide +kernel, rfl⟩
theorem md_Mill_nearest_15 : mz_d mb_Mill_nearest 15 (.aload_n 0) 1 16 := ⟨by decide +kernel, rfl⟩
theorem md_Mill_nearest_16 : mz_d mb_Mill_nearest 16 (.getfield 21) 3 19 := ⟨by decide +kernel, rfl⟩
theorem md_Mill_nearest_19 : mz_d mb_Mill_nearest 19 (.getfield 164) 3 22 := ⟨by decide +kernel, rfl⟩
theorem md_Mill_nearest_22 : mz_d mb_Mill_nearest 22 (.iload_n 1) 1 23 := ⟨by decide +kernel, rfl⟩
theorem md_Mill_nearest_23 : mz_d mb_Mill_nearest 23 (.iaload) 1 24 := ⟨by decide +kernel, rfl⟩
theorem md_Mill_nearest_24 : mz_d mb_Mill_nearest 24 (.goto 4) 3 27 := ⟨by decide +kernel, rfl⟩
theorem md_Mill_nearest_27 : mz_d mb_Mill_nearest 27 (.iconst (-1)) 1 28 := ⟨by decide +kernel, rfl⟩
theorem md_Mill_nearest_28 : mz_d mb_Mill_nearest 28 (.ireturn) 1 29 := ⟨by decide +kernel, rfl⟩
theorem md_Mill_frontier_0 : mz_d mb_Mill_frontier 0 (.aload_n 0) 1 1 := ⟨by decide +kernel, rfl⟩
theorem md_Mill_frontier_1 : mz_d mb_Mill_frontier 1 (.invokevirtual 152) 3 4 := ⟨by decide +kernel, rfl⟩
theorem md_Mill_frontier_4 : mz_d mb_Mill_frontier 4 (.aload_n 0) 1 5 := ⟨by decide +kernel, rfl⟩
theorem md_Mill_frontier_5 : mz_d mb_Mill_frontier 5 (.getfield 21) 3 8 := ⟨by decide +kernel, rfl⟩
theorem md_Mill_frontier_8 : mz_d mb_Mill_frontier 8 (.iload_n 1) 1 9 := ⟨by decide +kernel, rfl⟩
theorem md_Mill_frontier_9 : mz_d mb_Mill_frontier 9 (.invokevirtual 161) 3 12 := ⟨by decide +kernel, rfl⟩
theorem md_Mill_frontier_12 : mz_d mb_Mill_frontier 12 (.ifCond .eq 34) 3 15 := ⟨by decide +kernel, rfl⟩
theorem md_Mill_frontier_15 : mz_d mb_Mill_frontier 15 (.aload_n 0) 1 16 := ⟨by decide +kernel, rfl⟩
theorem md_Mill_frontier_16 : mz_d mb_Mill_frontier 16 (.getfield 21) 3 19 := ⟨by decide +kernel, rfl⟩
theorem md_Mill_frontier_19 : mz_d mb_Mill_frontier 19 (.iload_n 2) 1 20 := ⟨by decide +kernel, rfl⟩
theorem md_Mill_frontier_20 : mz_d mb_Mill_frontier 20 (.invokevirtual 161) 3 23 := ⟨by decide +kernel, rfl⟩
theorem md_Mill_frontier_23 : mz_d mb_Mill_frontier 23 (.ifCond .eq 23) 3 26 := ⟨by decide +kernel, rfl⟩
theorem md_Mill_frontier_26 : mz_d mb_Mill_frontier 26 (.aload_n 0) 1 27 := ⟨by decide +kernel, rfl⟩
theorem md_Mill_frontier_27 : mz_d mb_Mill_frontier 27 (.getfield 21) 3 30 := ⟨by decide +kernel, rfl⟩
theorem md_Mill_frontier_30 : mz_d mb_Mill_frontier 30 (.getfield 167) 3 33 := ⟨by decide +kernel, rfl⟩
theorem md_Mill_frontier_33 : mz_d mb_Mill_frontier 33 (.iload_n 1) 1 34 := ⟨by decide +kernel, rfl⟩
theorem md_Mill_frontier_34 : mz_d mb_Mill_frontier 34 (.iaload) 1 35 := ⟨by decide +kernel, rfl⟩
theorem md_Mill_frontier_35 : mz_d mb_Mill_frontier 35 (.iload_n 2) 1 36 := ⟨by decide +kernel, rfl⟩
theorem md_Mill_frontier_36 : mz_d mb_Mill_frontier 36 (.invokestatic 170) 3 39 := ⟨by decide +kernel, rfl⟩
theorem md_Mill_frontier_39 : mz_d mb_Mill_frontier 39 (.ifCond .eq 7) 3 42 := ⟨by decide +kernel, rfl⟩
theorem md_Mill_frontier_42 : mz_d mb_Mill_frontier 42 (.iconst 1) 1 43 := ⟨by decide +kernel, rfl⟩
theorem md_Mill_frontier_43 : mz_d mb_Mill_frontier 43 (.goto 4) 3 46 := ⟨by decide +kernel, rfl⟩
theorem md_Mill_frontier_46 : mz_d mb_Mill_frontier 46 (.iconst 0) 1 47 := ⟨by decide +kernel, rfl⟩
theorem md_Mill_frontier_47 : mz_d mb_Mill_frontier 47 (.ireturn) 1 48 := ⟨by decide +kernel, rfl⟩
theorem md_Mill_live_0 : mz_d mb_Mill_live 0 (.aload_n 0) 1 1 := ⟨by decide +kernel, rfl⟩
theorem md_Mill_live_1 : mz_d mb_Mill_live 1 (.invokevirtual 152) 3 4 := ⟨by decide +kernel, rfl⟩
theorem md_Mill_live_4 : mz_d mb_Mill_live 4 (.aload_n 0) 1 5 := ⟨by decide +kernel, rfl⟩
theorem md_Mill_live_5 : mz_d mb_Mill_live 5 (.getfield 12) 3 8 := ⟨by decide +kernel, rfl⟩
theorem md_Mill_live_8 : mz_d mb_Mill_live 8 (.iload_n 1) 1 9 := ⟨by decide +kernel, rfl⟩
theorem md_Mill_live_9 : mz_d mb_Mill_live 9 (.invokevirtual 97) 3 12 := ⟨by decide +kernel, rfl⟩
theorem md_Mill_live_12 : mz_d mb_Mill_live 12 (.ifCond .eq 30) 3 15 := ⟨by decide +kernel, rfl⟩
theorem md_Mill_live_15 : mz_d mb_Mill_live 15 (.iload_n 2) 1 16 := ⟨by decide +kernel, rfl⟩
theorem md_Mill_live_16 : mz_d mb_Mill_live 16 (.invokestatic 120) 3 19 := ⟨by decide +kernel, rfl⟩
theorem md_Mill_live_19 : mz_d mb_Mill_live 19 (.ifCond .eq 23) 3 22 := ⟨by decide +kernel, rfl⟩
theorem md_Mill_live_22 : mz_d mb_Mill_live 22 (.aload_n 0) 1 23 := ⟨by decide +kernel, rfl⟩
theorem md_Mill_live_23 : mz_d mb_Mill_live 23 (.getfield 30) 3 26 := ⟨by decide +kernel, rfl⟩
theorem md_Mill_live_26 : mz_d mb_Mill_live 26 (.getfield 174) 3 29 := ⟨by decide +kernel, rfl⟩
theorem md_Mill_live_29 : mz_d mb_Mill_live 29 (.iload_n 1) 1 30 := ⟨by decide +kernel, rfl⟩
theorem md_Mill_live_30 : mz_d mb_Mill_live 30 (.iaload) 1 31 := ⟨by decide +kernel, rfl⟩
theorem md_Mill_live_31 : mz_d mb_Mill_live 31 (.iload_n 2) 1 32 := ⟨by decide +kernel, rfl⟩
theorem md_Mill_live_32 : mz_d mb_Mill_live 32 (.invokestatic 170) 3 35 := ⟨by decide +kernel, rfl⟩
theorem md_Mill_live_35 : mz_d mb_Mill_live 35 (.ifCond .eq 7) 3 38 := ⟨by decide +kernel, rfl⟩
theorem md_Mill_live_38 : mz_d mb_Mill_live 38 (.iconst 1) 1 39 := ⟨by decide +kernel, rfl⟩
theorem md_Mill_live_39 : mz_d mb_Mill_live 39 (.goto 4) 3 42 := ⟨by decide +kernel, rfl⟩
theorem md_Mill_live_42 : mz_d mb_Mill_live 42 (.iconst 0) 1 43 := ⟨by decide +kernel, rfl⟩
theorem md_Mill_live_43 : mz_d mb_Mill_live 43 (.ireturn) 1 44 := ⟨by decide +kernel, rfl⟩
theorem md_Mill_phi_0 : mz_d mb_Mill_phi 0 (.aload_n 0) 1 1 := ⟨by decide +kernel, rfl⟩
theorem md_Mill_phi_1 : mz_d mb_Mill_phi 1 (.invokevirtual 152) 3 4 := ⟨by decide +kernel, rfl⟩
theorem md_Mill_phi_4 : mz_d mb_Mill_phi 4 (.aload_n 0) 1 5 := ⟨by decide +kernel, rfl⟩
theorem md_Mill_phi_5 : mz_d mb_Mill_phi 5 (.getfield 12) 3 8 := ⟨by decide +kernel, rfl⟩
theorem md_Mill_phi_8 : mz_d mb_Mill_phi 8 (.iload_n 1) 1 9 := ⟨by decide +kernel, rfl⟩
theorem md_Mill_phi_9 : mz_d mb_Mill_phi 9 (.invokevirtual 97) 3 12 := ⟨by decide +kernel, rfl⟩
theorem md_Mill_phi_12 : mz_d mb_Mill_phi 12 (.ifCond .eq 30) 3 15 := ⟨by decide +kernel, rfl⟩
theorem md_Mill_phi_15 : mz_d mb_Mill_phi 15 (.iload_n 2) 1 16 := ⟨by decide +kernel, rfl⟩
theorem md_Mill_phi_16 : mz_d mb_Mill_phi 16 (.invokestatic 120) 3 19 := ⟨by decide +kernel, rfl⟩
theorem md_Mill_phi_19 : mz_d mb_Mill_phi 19 (.ifCond .eq 23) 3 22 := ⟨by decide +kernel, rfl⟩
theorem md_Mill_phi_22 : mz_d mb_Mill_phi 22 (.aload_n 0) 1 23 := ⟨by decide +kernel, rfl⟩
theorem md_Mill_phi_23 : mz_d mb_Mill_phi 23 (.getfield 30) 3 26 := ⟨by decide +kernel, rfl⟩
theorem md_Mill_phi_26 : mz_d mb_Mill_phi 26 (.getfield 177) 3 29 := ⟨by decide +kernel, rfl⟩
theorem md_Mill_phi_29 : mz_d mb_Mill_phi 29 (.iload_n 1) 1 30 := ⟨by decide +kernel, rfl⟩
theorem md_Mill_phi_30 : mz_d mb_Mill_phi 30 (.iaload) 1 31 := ⟨by decide +kernel, rfl⟩
theorem md_Mill_phi_31 : mz_d mb_Mill_phi 31 (.iload_n 2) 1 32 := ⟨by decide +kernel, rfl⟩
theorem md_Mill_phi_32 : mz_d mb_Mill_phi 32 (.invokestatic 170) 3 35 := ⟨by decide +kernel, rfl⟩
theorem md_Mill_phi_35 : mz_d mb_Mill_phi 35 (.ifCond .eq 7) 3 38 := ⟨by decide +kernel, rfl⟩
theorem md_Mill_phi_38 : mz_d mb_Mill_phi 38 (.iconst 1) 1 39 := ⟨by decide +kernel, rfl⟩
theorem md_Mill_phi_39 : mz_d mb_Mill_phi 39 (.goto 4) 3 42 := ⟨by decide +kernel, rfl⟩
theorem md_Mill_phi_42 : mz_d mb_Mill_phi 42 (.iconst 0) 1 43 := ⟨by decide +kernel, rfl⟩
theorem md_Mill_phi_43 : mz_d mb_Mill_phi 43 (.ireturn) 1 44 := ⟨by decide +kernel, rfl⟩
theorem md_Mill_depth_0 : mz_d mb_Mill_depth 0 (.aload_n 0) 1 1 := ⟨by decide +kernel, rfl⟩
theorem md_Mill_depth_1 : mz_d mb_Mill_depth 1 (.invokevirtual 152) 3 4 := ⟨by decide +kernel, rfl⟩
theorem md_Mill_depth_4 : mz_d mb_Mill_depth 4 (.aload_n 0) 1 5 := ⟨by decide +kernel, rfl⟩
theorem md_Mill_depth_5 : mz_d mb_Mill_depth 5 (.getfield 21) 3 8 := ⟨by decide +kernel, rfl⟩
theorem md_Mill_depth_8 : mz_d mb_Mill_depth 8 (.iload_n 1) 1 9 := ⟨by decide +kernel, rfl⟩
theorem md_Mill_depth_9 : mz_d mb_Mill_depth 9 (.invokevirtual 161) 3 12 := ⟨by decide +kernel, rfl⟩
theorem md_Mill_depth_12 : mz_d mb_Mill_depth 12 (.ifCond .eq 15) 3 15 := ⟨by decide +kernel, rfl⟩
theorem md_Mill_depth_15 : mz_d mb_Mill_depth 15 (.aload_n 0) 1 16 := ⟨by decide +kernel, rfl⟩
theorem md_Mill_depth_16 : mz_d mb_Mill_depth 16 (.getfield 21) 3 19 := ⟨by decide +kernel, rfl⟩
theorem md_Mill_depth_19 : mz_d mb_Mill_depth 19 (.getfield 180) 3 22 := ⟨by decide +kernel, rfl⟩
theorem md_Mill_depth_22 : mz_d mb_Mill_depth 22 (.iload_n 1) 1 23 := ⟨by decide +kernel, rfl⟩
theorem md_Mill_depth_23 : mz_d mb_Mill_depth 23 (.iaload) 1 24 := ⟨by decide +kernel, rfl⟩
theorem md_Mill_depth_24 : mz_d mb_Mill_depth 24 (.goto 4) 3 27 := ⟨by decide +kernel, rfl⟩
theorem md_Mill_depth_27 : mz_d mb_Mill_depth 27 (.iconst (-1)) 1 28 := ⟨by decide +kernel, rfl⟩
theorem md_Mill_depth_28 : mz_d mb_Mill_depth 28 (.ireturn) 1 29 := ⟨by decide +kernel, rfl⟩
/-- ValueMill.forgetWhatWasMade()V: what it does, as a transformer of what must hold behind it -/
def mw_Mill_forgetWhatWasMade (K : mz_St → Prop) (s0 : mz_St) : Prop :=
  K (mz_up (mz_up s0 1000 0 0) 1001 0 (-1))
set_option maxRecDepth 100000 in
set_option maxHeartbeats 4000000 in
theorem ms_Mill_forgetWhatWasMade (l : Launch) (E : mz_En) (hI : mz_Inj E) (K : mz_St → Prop) (s0 : mz_St) (h : mw_Mill_forgetWhatWasMade K s0) : mz_Cv l E my_Mill_forgetWhatWasMade mb_Mill_forgetWhatWasMade 1 (0) (0) [.ref (E.2.1 0)] s0 K := by
  refine mz_ctv hI (by decide +kernel) (Nat.le_of_ble_eq_true rfl) (fun X C R => ?_)
  show mz_G E X 1 0 [(0, .ref (E.2.1 0))] [] s0
  unfold mw_Mill_forgetWhatWasMade at h
  refine mr_aload_n C 0 md_Mill_forgetWhatWasMade_0 rfl rfl ?_
  refine mr_iconst C md_Mill_forgetWhatWasMade_1 mk_iconst_0 ?_
  refine mr_put C (t0 := .boolean) 0 9 1000 mc_Mill_cls ml_435 rfl (by decide) (by decide) (fun _ => rfl) rfl (by decide +kernel) (mb_nar mb_0) (mb_fit mb_0) (Nat.le_of_ble_eq_true rfl) (fun _ => rfl) (mp_1000 E _) md_Mill_forgetWhatWasMade_2 ?_
  refine mr_aload_n C 0 md_Mill_forgetWhatWasMade_5 rfl rfl ?_
  refine mr_iconst C md_Mill_forgetWhatWasMade_6 mk_iconst_m1 ?_
  refine mr_put C (t0 := .int) 0 10 1001 mc_Mill_cls ml_436 rfl (by decide) (by decide) (fun _ => rfl) rfl (by decide +kernel) rfl rfl (Nat.le_of_ble_eq_true rfl) (fun _ => rfl) (mp_1001 E _) md_Mill_forgetWhatWasMade_7 ?_
  exact mr_vret C R h md_Mill_forgetWhatWasMade_10
/-- ValueMill.block()I: what it does, as a transformer of what must hold behind it -/
def mw_Mill_block (K : Int32 → mz_St → Prop) (s0 : mz_St) : Prop :=
  ((¬ (s0 1003 0) = 10 →
   mw_Mill_forgetWhatWasMade (fun u1 =>
    K (((mz_up u1 1003 0 ((u1 1003 0) + 1)) 1003 0) - 1) (mz_up u1 1003 0 ((u1 1003 0) + 1))) s0) ∧
  ((s0 1003 0) = 10 →
   K (-1) s0))
set_option maxRecDepth 100000 in
set_option maxHeartbeats 4000000 in
theorem ms_Mill_block (l : Launch) (E : mz_En) (hI : mz_Inj E) (K : Int32 → mz_St → Prop) (s0 : mz_St) (h : mw_Mill_block K s0) : mz_Ci l E my_Mill_block mb_Mill_block 1 (some .int) (1) (20) [.ref (E.2.1 0)] s0 K := by
  refine mz_cti hI (by decide +kernel) (Nat.le_of_ble_eq_true rfl) (fun X C R => ?_)
  show mz_G E X 1 0 [(0, .ref (E.2.1 0))] [] s0
  unfold mw_Mill_block at h
  refine mr_aload_n C 0 md_Mill_block_0 rfl rfl ?_
  refine mr_get C 0 0 mc_Mill_cls ml_426 rfl (by decide) (by decide) (fun _ => rfl) rfl md_Mill_block_1 ?_
  refine mr_getN C 1 10 mc_Program_cls ml_60 rfl (by decide) (by decide) (fun _ => rfl) rfl md_Mill_block_4 ?_
  refine mr_bipush C md_Mill_block_7 mk_bipush_10 ?_
  refine mr_icmp_ne C md_Mill_block_9 rfl (fun hc => ?_) (fun hc => ?_)
  · replace h := h.1 hc
    refine mr_aload_n C 0 md_Mill_block_14 rfl rfl ?_
    refine mr_cVv C (As := []) (rest := []) 0 (ms_Mill_forgetWhatWasMade _ E hI _  _ h) mo_Mill_forgetWhatWasMade mi_Mill_forgetWhatWasMade mc_Mill_cls ml_467 (by decide) (fun _ => rfl) rfl rfl (Nat.le_of_ble_eq_true rfl) (Nat.le_of_ble_eq_true rfl) (Nat.le_of_ble_eq_true rfl) md_Mill_block_15 (fun u1 h => ?_)
    refine mr_aload_n C 0 md_Mill_block_18 rfl rfl ?_
    refine mr_get C 0 0 mc_Mill_cls ml_426 rfl (by decide) (by decide) (fun _ => rfl) rfl md_Mill_block_19 ?_
    refine mr_dup C md_Mill_block_22 rfl ?_
    refine mr_getN C 1 10 mc_Program_cls ml_60 rfl (by decide) (by decide) (fun _ => rfl) rfl md_Mill_block_23 ?_
    refine mr_iconst C md_Mill_block_26 mk_iconst_1 ?_
    refine mr_iadd C md_Mill_block_27 ?_
    refine mr_putN C (t0 := .int) 1 10 1003 mc_Program_cls ml_60 rfl (by decide) (by decide) (fun _ => rfl) rfl (by decide +kernel) rfl rfl (Nat.le_of_ble_eq_true rfl) (fun _ => rfl) (mp_1003 E _) md_Mill_block_28 ?_
    refine mr_aload_n C 0 md_Mill_block_31 rfl rfl ?_
    refine mr_get C 0 0 mc_Mill_cls ml_426 rfl (by decide) (by decide) (fun _ => rfl) rfl md_Mill_block_32 ?_
    refine mr_getN C 1 10 mc_Program_cls ml_60 rfl (by decide) (by decide) (fun _ => rfl) rfl md_Mill_block_35 ?_
    refine mr_iconst C md_Mill_block_38 mk_iconst_1 ?_
    refine mr_isub C md_Mill_block_39 ?_
    exact mr_iret C R h md_Mill_block_40
  replace h := h.2 hc
  refine mr_iconst C md_Mill_block_12 mk_iconst_m1 ?_
  exact mr_iret C R h md_Mill_block_13
/-- ValueMill.op(IIIII)Z: what it does, as a transformer of what must hold behind it -/
def mw_Mill_op (K : Int32 → mz_St → Prop) (a0 : Int32) (a1 : Int32) (a2 : Int32) (a3 : Int32) (a4 : Int32) (s0 : mz_St) : Prop :=
  mw_Program_hasBlock (fun r1 u1 =>
   ((r1 = 0 →
    K 0 u1) ∧
   (¬ r1 = 0 →
    vp_in a0 10 ∧
    (((mz_rd u1 16 a0) = 12 →
     K 0 u1) ∧
    (¬ (mz_rd u1 16 a0) = 12 →
     mw_Mill_isSuch (fun r2 u2 =>
      ((¬ r2 = 0 →
       mw_Mill_forgetWhatWasMade (fun u3 =>
        mw_Program_addOperation (fun u4 =>
         K 1 u4) a0 a1 a2 a3 a4 u3) u2) ∧
      (r2 = 0 →
       K 0 u2))) a1 a2 a3 a4 u1))))) a0 s0
set_option maxRecDepth 100000 in
set_option maxHeartbeats 4000000 in
theorem ms_Mill_op (l : Launch) (E : mz_En) (hI : mz_Inj E) (K : Int32 → mz_St → Prop) (a0 : Int32) (a1 : Int32) (a2 : Int32) (a3 : Int32) (a4 : Int32) (s0 : mz_St) (h : mw_Mill_op K a0 a1 a2 a3 a4 s0) : mz_Ci l E my_Mill_op mb_Mill_op 6 (some .boolean) (2) (43) [.ref (E.2.1 0), .int a0, .int a1, .int a2, .int a3, .int a4] s0 K := by
  refine mz_cti hI (by decide +kernel) (Nat.le_of_ble_eq_true rfl) (fun X C R => ?_)
  show mz_G E X 6 0 [(0, .ref (E.2.1 0)), (1, .int a0), (2, .int a1), (3, .int a2), (4, .int a3), (5, .int a4)] [] s0
  unfold mw_Mill_op at h
  refine mr_aload_n C 0 md_Mill_op_0 rfl rfl ?_
  refine mr_get C 0 0 mc_Mill_cls ml_426 rfl (by decide) (by decide) (fun _ => rfl) rfl md_Mill_op_1 ?_
  refine mr_iload_n C 1 md_Mill_op_4 rfl rfl ?_
  refine mr_cVNi C (As := [.int a0]) (rest := []) 1 (ms_Program_hasBlock _ E hI _ a0 _ h) mo_Program_hasBlock mi_Program_hasBlock mc_Program_cls ml_475 (by decide) (fun _ => rfl) rfl rfl (Nat.le_of_ble_eq_true rfl) (Nat.le_of_ble_eq_true rfl) (Nat.le_of_ble_eq_true rfl) md_Mill_op_5 (fun r1 u1 h => ?_)
  refine mr_if_eq C md_Mill_op_8 rfl (fun hc => ?_) (fun hc => ?_)
  · replace h := h.1 hc
    refine mr_iconst C md_Mill_op_37 mk_iconst_0 ?_
    exact mr_zret C R mb_0 h md_Mill_op_38
  replace h := h.2 hc
  refine mr_aload_n C 0 md_Mill_op_11 rfl rfl ?_
  refine mr_get C 0 0 mc_Mill_cls ml_426 rfl (by decide) (by decide) (fun _ => rfl) rfl md_Mill_op_12 ?_
  refine mr_getN C 1 4 mc_Program_cls ml_45 rfl (by decide) (by decide) (fun _ => rfl) rfl md_Mill_op_15 ?_
  refine mr_iload_n C 1 md_Mill_op_18 rfl rfl ?_
  refine mr_iald C 16 10 (by decide) (fun _ => rfl) h.1 md_Mill_op_19 ?_
  replace h := h.2
  refine mr_bipush C md_Mill_op_20 mk_bipush_12 ?_
  refine mr_icmp_eq C md_Mill_op_22 rfl (fun hc => ?_) (fun hc => ?_)
  · replace h := h.1 hc
    refine mr_iconst C md_Mill_op_37 mk_iconst_0 ?_
    exact mr_zret C R mb_0 h md_Mill_op_38
  replace h := h.2 hc
  refine mr_iload_n C 2 md_Mill_op_25 rfl rfl ?_
  refine mr_iload_n C 3 md_Mill_op_26 rfl rfl ?_
  refine mr_iload C 4 md_Mill_op_27 rfl ?_
  refine mr_iload C 5 md_Mill_op_29 rfl ?_
  refine mr_cSi C (As := [.int a1, .int a2, .int a3, .int a4]) (rest := []) (ms_Mill_isSuch _ E hI _ a1 a2 a3 a4 _ h) mo_Mill_isSuch mt_Mill_isSuch ml_479 rfl rfl (Nat.le_of_ble_eq_true rfl) (Nat.le_of_ble_eq_true rfl) (Nat.le_of_ble_eq_true rfl) md_Mill_op_31 (fun r2 u2 h => ?_)
  refine mr_if_ne C md_Mill_op_34 rfl (fun hc => ?_) (fun hc => ?_)
  · replace h := h.1 hc
    refine mr_aload_n C 0 md_Mill_op_39 rfl rfl ?_
    refine mr_cVv C (As := []) (rest := []) 0 (ms_Mill_forgetWhatWasMade _ E hI _  _ h) mo_Mill_forgetWhatWasMade mi_Mill_forgetWhatWasMade mc_Mill_cls ml_467 (by decide) (fun _ => rfl) rfl rfl (Nat.le_of_ble_eq_true rfl) (Nat.le_of_ble_eq_true rfl) (Nat.le_of_ble_eq_true rfl) md_Mill_op_40 (fun u3 h => ?_)
    refine mr_aload_n C 0 md_Mill_op_43 rfl rfl ?_
    refine mr_get C 0 0 mc_Mill_cls ml_426 rfl (by decide) (by decide) (fun _ => rfl) rfl md_Mill_op_44 ?_
    refine mr_iload_n C 1 md_Mill_op_47 rfl rfl ?_
    refine mr_iload_n C 2 md_Mill_op_48 rfl rfl ?_
    refine mr_iload_n C 3 md_Mill_op_49 rfl rfl ?_
    refine mr_iload C 4 md_Mill_op_50 rfl ?_
    refine mr_iload C 5 md_Mill_op_52 rfl ?_
    refine mr_cVNv C (As := [.int a0, .int a1, .int a2, .int a3, .int a4]) (rest := []) 1 (ms_Program_addOperation _ E hI _ a0 a1 a2 a3 a4 _ h) mo_Program_addOperation mi_Program_addOperation mc_Program_cls ml_485 (by decide) (fun _ => rfl) rfl rfl (Nat.le_of_ble_eq_true rfl) (Nat.le_of_ble_eq_true rfl) (Nat.le_of_ble_eq_true rfl) md_Mill_op_54 (fun u4 h => ?_)
    refine mr_iconst C md_Mill_op_57 mk_iconst_1 ?_
    exact mr_zret C R mb_1 h md_Mill_op_58
  replace h := h.2 hc
  refine mr_iconst C md_Mill_op_37 mk_iconst_0 ?_
  exact mr_zret C R mb_0 h md_Mill_op_38
/-- ValueMill.jump(II)Z: what it does, as a transformer of what must hold behind it -/
def mw_Mill_jump (K : Int32 → mz_St → Prop) (a0 : Int32) (a1 : Int32) (s0 : mz_St) : Prop :=
  mw_Program_hasBlock (fun r1 u1 =>
   ((r1 = 0 →
    K 0 u1) ∧
   (¬ r1 = 0 →
    mw_Program_hasBlock (fun r2 u2 =>
     ((¬ r2 = 0 →
      mw_Mill_forgetWhatWasMade (fun u3 =>
       mw_Program_setEnd (fun u4 =>
        mw_Program_setEdges (fun u5 =>
         K 1 u5) a0 a1 a1 u4) a0 1 0 u3) u2) ∧
     (r2 = 0 →
      K 0 u2))) a1 u1))) a0 s0
set_option maxRecDepth 100000 in
set_option maxHeartbeats 4000000 in
theorem ms_Mill_jump (l : Launch) (E : mz_En) (hI : mz_Inj E) (K : Int32 → mz_St → Prop) (a0 : Int32) (a1 : Int32) (s0 : mz_St) (h : mw_Mill_jump K a0 a1 s0) : mz_Ci l E my_Mill_jump mb_Mill_jump 3 (some .boolean) (1) (23) [.ref (E.2.1 0), .int a0, .int a1] s0 K := by
  refine mz_cti hI (by decide +kernel) (Nat.le_of_ble_eq_true rfl) (fun X C R => ?_)
  show mz_G E X 3 0 [(0, .ref (E.2.1 0)), (1, .int a0), (2, .int a1)] [] s0
  unfold mw_Mill_jump at h
  refine mr_aload_n C 0 md_Mill_jump_0 rfl rfl ?_
  refine mr_get C 0 0 mc_Mill_cls ml_426 rfl (by decide) (by decide) (fun _ => rfl) rfl md_Mill_jump_1 ?_
  refine mr_iload_n C 1 md_Mill_jump_4 rfl rfl ?_
  refine mr_cVNi C (As := [.int a0]) (rest := []) 1 (ms_Program_hasBlock _ E hI _ a0 _ h) mo_Program_hasBlock mi_Program_hasBlock mc_Program_cls ml_475 (by decide) (fun _ => rfl) rfl rfl (Nat.le_of_ble_eq_true rfl) (Nat.le_of_ble_eq_true rfl) (Nat.le_of_ble_eq_true rfl) md_Mill_jump_5 (fun r1 u1 h => ?_)
  refine mr_if_eq C md_Mill_jump_8 rfl (fun hc => ?_) (fun hc => ?_)
  · replace h := h.1 hc
    refine mr_iconst C md_Mill_jump_22 mk_iconst_0 ?_
    exact mr_zret C R mb_0 h md_Mill_jump_23
  replace h := h.2 hc
  refine mr_aload_n C 0 md_Mill_jump_11 rfl rfl ?_
  refine mr_get C 0 0 mc_Mill_cls ml_426 rfl (by decide) (by decide) (fun _ => rfl) rfl md_Mill_jump_12 ?_
  refine mr_iload_n C 2 md_Mill_jump_15 rfl rfl ?_
  refine mr_cVNi C (As := [.int a1]) (rest := []) 1 (ms_Program_hasBlock _ E hI _ a1 _ h) mo_Program_hasBlock mi_Program_hasBlock mc_Program_cls ml_475 (by decide) (fun _ => rfl) rfl rfl (Nat.le_of_ble_eq_true rfl) (Nat.le_of_ble_eq_true rfl) (Nat.le_of_ble_eq_true rfl) md_Mill_jump_16 (fun r2 u2 h => ?_)
  refine mr_if_ne C md_Mill_jump_19 rfl (fun hc => ?_) (fun hc => ?_)
  · replace h := h.1 hc
    refine mr_aload_n C 0 md_Mill_jump_24 rfl rfl ?_
    refine mr_cVv C (As := []) (rest := []) 0 (ms_Mill_forgetWhatWasMade _ E hI _  _ h) mo_Mill_forgetWhatWasMade mi_Mill_forgetWhatWasMade mc_Mill_cls ml_467 (by decide) (fun _ => rfl) rfl rfl (Nat.le_of_ble_eq_true rfl) (Nat.le_of_ble_eq_true rfl) (Nat.le_of_ble_eq_true rfl) md_Mill_jump_25 (fun u3 h => ?_)
    refine mr_aload_n C 0 md_Mill_jump_28 rfl rfl ?_
    refine mr_get C 0 0 mc_Mill_cls ml_426 rfl (by decide) (by decide) (fun _ => rfl) rfl md_Mill_jump_29 ?_
    refine mr_iload_n C 1 md_Mill_jump_32 rfl rfl ?_
    refine mr_iconst C md_Mill_jump_33 mk_iconst_1 ?_
    refine mr_iconst C md_Mill_jump_34 mk_iconst_0 ?_
    refine mr_cVNv C (As := [.int a0, .int 1, .int 0]) (rest := []) 1 (ms_Program_setEnd _ E hI _ a0 1 0 _ h) mo_Program_setEnd mi_Program_setEnd mc_Program_cls ml_493 (by decide) (fun _ => rfl) rfl rfl (Nat.le_of_ble_eq_true rfl) (Nat.le_of_ble_eq_true rfl) (Nat.le_of_ble_eq_true rfl) md_Mill_jump_35 (fun u4 h => ?_)
    refine mr_aload_n C 0 md_Mill_jump_38 rfl rfl ?_
    refine mr_get C 0 0 mc_Mill_cls ml_426 rfl (by decide) (by decide) (fun _ => rfl) rfl md_Mill_jump_39 ?_
    refine mr_iload_n C 1 md_Mill_jump_42 rfl rfl ?_
    refine mr_iload_n C 2 md_Mill_jump_43 rfl rfl ?_
    refine mr_iload_n C 2 md_Mill_jump_44 rfl rfl ?_
    refine mr_cVNv C (As := [.int a0, .int a1, .int a1]) (rest := []) 1 (ms_Program_setEdges _ E hI _ a0 a1 a1 _ h) mo_Program_setEdges mi_Program_setEdges mc_Program_cls ml_497 (by decide) (fun _ => rfl) rfl rfl (Nat.le_of_ble_eq_true rfl) (Nat.le_of_ble_eq_true rfl) (Nat.le_of_ble_eq_true rfl) md_Mill_jump_45 (fun u5 h => ?_)
    refine mr_iconst C md_Mill_jump_48 mk_iconst_1 ?_
    exact mr_zret C R mb_1 h md_Mill_jump_49
  replace h := h.2 hc
  refine mr_iconst C md_Mill_jump_22 mk_iconst_0 ?_
  exact mr_zret C R mb_0 h md_Mill_jump_23
/-- ValueMill.branch(IIII)Z: what it does, as a transformer of what must hold behind it -/
def mw_Mill_branch (K : Int32 → mz_St → Prop) (a0 : Int32) (a1 : Int32) (a2 : Int32) (a3 : Int32) (s0 : mz_St) : Prop :=
  mw_Program_hasBlock (fun r1 u1 =>
   ((r1 = 0 →
    K 0 u1) ∧
   (¬ r1 = 0 →
    mw_Mill_isTemp (fun r2 u2 =>
     ((r2 = 0 →
      K 0 u2) ∧
     (¬ r2 = 0 →
      mw_Program_hasBlock (fun r3 u3 =>
       ((r3 = 0 →
        K 0 u3) ∧
       (¬ r3 = 0 →
        mw_Program_hasBlock (fun r4 u4 =>
         ((¬ r4 = 0 →
          mw_Mill_forgetWhatWasMade (fun u5 =>
           mw_Program_setEnd (fun u6 =>
            mw_Program_setEdges (fun u7 =>
             K 1 u7) a0 a2 a3 u6) a0 2 a1 u5) u4) ∧
         (r4 = 0 →
          K 0 u4))) a3 u3))) a2 u2))) a1 u1))) a0 s0
set_option maxRecDepth 100000 in
set_option maxHeartbeats 4000000 in
theorem ms_Mill_branch (l : Launch) (E : mz_En) (hI : mz_Inj E) (K : Int32 → mz_St → Prop) (a0 : Int32) (a1 : Int32) (a2 : Int32) (a3 : Int32) (s0 : mz_St) (h : mw_Mill_branch K a0 a1 a2 a3 s0) : mz_Ci l E my_Mill_branch mb_Mill_branch 5 (some .boolean) (1) (23) [.ref (E.2.1 0), .int a0, .int a1, .int a2, .int a3] s0 K := by
  refine mz_cti hI (by decide +kernel) (Nat.le_of_ble_eq_true rfl) (fun X C R => ?_)
  show mz_G E X 5 0 [(0, .ref (E.2.1 0)), (1, .int a0), (2, .int a1), (3, .int a2), (4, .int a3)] [] s0
  unfold mw_Mill_branch at h
  refine mr_aload_n C 0 md_Mill_branch_0 rfl rfl ?_
  refine mr_get C 0 0 mc_Mill_cls ml_426 rfl (by decide) (by decide) (fun _ => rfl) rfl md_Mill_branch_1 ?_
  refine mr_iload_n C 1 md_Mill_branch_4 rfl rfl ?_
  refine mr_cVNi C (As := [.int a0]) (rest := []) 1 (ms_Program_hasBlock _ E hI _ a0 _ h) mo_Program_hasBlock mi_Program_hasBlock mc_Program_cls ml_475 (by decide) (fun _ => rfl) rfl rfl (Nat.le_of_ble_eq_true rfl) (Nat.le_of_ble_eq_true rfl) (Nat.le_of_ble_eq_true rfl) md_Mill_branch_5 (fun r1 u1 h => ?_)
  refine mr_if_eq C md_Mill_branch_8 rfl (fun hc => ?_) (fun hc => ?_)
  · replace h := h.1 hc
    refine mr_iconst C md_Mill_branch_41 mk_iconst_0 ?_
    exact mr_zret C R mb_0 h md_Mill_branch_42
  replace h := h.2 hc
  refine mr_iload_n C 2 md_Mill_branch_11 rfl rfl ?_
  refine mr_cSi C (As := [.int a1]) (rest := []) (ms_Mill_isTemp _ E hI _ a1 _ h) mo_Mill_isTemp mt_Mill_isTemp ml_482 rfl rfl (Nat.le_of_ble_eq_true rfl) (Nat.le_of_ble_eq_true rfl) (Nat.le_of_ble_eq_true rfl) md_Mill_branch_12 (fun r2 u2 h => ?_)
  refine mr_if_eq C md_Mill_branch_15 rfl (fun hc => ?_) (fun hc => ?_)
  · replace h := h.1 hc
    refine mr_iconst C md_Mill_branch_41 mk_iconst_0 ?_
    exact mr_zret C R mb_0 h md_Mill_branch_42
  replace h := h.2 hc
  refine mr_aload_n C 0 md_Mill_branch_18 rfl rfl ?_
  refine mr_get C 0 0 mc_Mill_cls ml_426 rfl (by decide) (by decide) (fun _ => rfl) rfl md_Mill_branch_19 ?_
  refine mr_iload_n C 3 md_Mill_branch_22 rfl rfl ?_
  refine mr_cVNi C (As := [.int a2]) (rest := []) 1 (ms_Program_hasBlock _ E hI _ a2 _ h) mo_Program_hasBlock mi_Program_hasBlock mc_Program_cls ml_475 (by decide) (fun _ => rfl) rfl rfl (Nat.le_of_ble_eq_true rfl) (Nat.le_of_ble_eq_true rfl) (Nat.le_of_ble_eq_true rfl) md_Mill_branch_23 (fun r3 u3 h => ?_)
  refine mr_if_eq C md_Mill_branch_26 rfl (fun hc => ?_) (fun hc => ?_)
  · replace h := h.1 hc
    refine mr_iconst C md_Mill_branch_41 mk_iconst_0 ?_
    exact mr_zret C R mb_0 h md_Mill_branch_42
  replace h := h.2 hc
  refine mr_aload_n C 0 md_Mill_branch_29 rfl rfl ?_
  refine mr_get C 0 0 mc_Mill_cls ml_426 rfl (by decide) (by decide) (fun _ => rfl) rfl md_Mill_branch_30 ?_
  refine mr_iload C 4 md_Mill_branch_33 rfl ?_
  refine mr_cVNi C (As := [.int a3]) (rest := []) 1 (ms_Program_hasBlock _ E hI _ a3 _ h) mo_Program_hasBlock mi_Program_hasBlock mc_Program_cls ml_475 (by decide) (fun _ => rfl) rfl rfl (Nat.le_of_ble_eq_true rfl) (Nat.le_of_ble_eq_true rfl) (Nat.le_of_ble_eq_true rfl) md_Mill_branch_35 (fun r4 u4 h => ?_)
  refine mr_if_ne C md_Mill_branch_38 rfl (fun hc => ?_) (fun hc => ?_)
  · replace h := h.1 hc
    refine mr_aload_n C 0 md_Mill_branch_43 rfl rfl ?_
    refine mr_cVv C (As := []) (rest := []) 0 (ms_Mill_forgetWhatWasMade _ E hI _  _ h) mo_Mill_forgetWhatWasMade mi_Mill_forgetWhatWasMade mc_Mill_cls ml_467 (by decide) (fun _ => rfl) rfl rfl (Nat.le_of_ble_eq_true rfl) (Nat.le_of_ble_eq_true rfl) (Nat.le_of_ble_eq_true rfl) md_Mill_branch_44 (fun u5 h => ?_)
    refine mr_aload_n C 0 md_Mill_branch_47 rfl rfl ?_
    refine mr_get C 0 0 mc_Mill_cls ml_426 rfl (by decide) (by decide) (fun _ => rfl) rfl md_Mill_branch_48 ?_
    refine mr_iload_n C 1 md_Mill_branch_51 rfl rfl ?_
    refine mr_iconst C md_Mill_branch_52 mk_iconst_2 ?_
    refine mr_iload_n C 2 md_Mill_branch_53 rfl rfl ?_
    refine mr_cVNv C (As := [.int a0, .int 2, .int a1]) (rest := []) 1 (ms_Program_setEnd _ E hI _ a0 2 a1 _ h) mo_Program_setEnd mi_Program_setEnd mc_Program_cls ml_493 (by decide) (fun _ => rfl) rfl rfl (Nat.le_of_ble_eq_true rfl) (Nat.le_of_ble_eq_true rfl) (Nat.le_of_ble_eq_true rfl) md_Mill_branch_54 (fun u6 h => ?_)
    refine mr_aload_n C 0 md_Mill_branch_57 rfl rfl ?_
    refine mr_get C 0 0 mc_Mill_cls ml_426 rfl (by decide) (by decide) (fun _ => rfl) rfl md_Mill_branch_58 ?_
    refine mr_iload_n C 1 md_Mill_branch_61 rfl rfl ?_
    refine mr_iload_n C 3 md_Mill_branch_62 rfl rfl ?_
    refine mr_iload C 4 md_Mill_branch_63 rfl ?_
    refine mr_cVNv C (As := [.int a0, .int a2, .int a3]) (rest := []) 1 (ms_Program_setEdges _ E hI _ a0 a2 a3 _ h) mo_Program_setEdges mi_Program_setEdges mc_Program_cls ml_497 (by decide) (fun _ => rfl) rfl rfl (Nat.le_of_ble_eq_true rfl) (Nat.le_of_ble_eq_true rfl) (Nat.le_of_ble_eq_true rfl) md_Mill_branch_65 (fun u7 h => ?_)
    refine mr_iconst C md_Mill_branch_68 mk_iconst_1 ?_
    exact mr_zret C R mb_1 h md_Mill_branch_69
  replace h := h.2 hc
  refine mr_iconst C md_Mill_branch_41 mk_iconst_0 ?_
  exact mr_zret C R mb_0 h md_Mill_branch_42
/-- ValueMill.ret(II)Z: what it does, as a transformer of what must hold behind it -/
def mw_Mill_ret (K : Int32 → mz_St → Prop) (a0 : Int32) (a1 : Int32) (s0 : mz_St) : Prop :=
  mw_Program_hasBlock (fun r1 u1 =>
   ((r1 = 0 →
    K 0 u1) ∧
   (¬ r1 = 0 →
    mw_Mill_isTemp (fun r2 u2 =>
     ((¬ r2 = 0 →
      mw_Mill_forgetWhatWasMade (fun u3 =>
       mw_Program_setEnd (fun u4 =>
        K 1 u4) a0 0 a1 u3) u2) ∧
     (r2 = 0 →
      K 0 u2))) a1 u1))) a0 s0
set_option maxRecDepth 100000 in
set_option maxHeartbeats 4000000 in
theorem ms_Mill_ret (l : Launch) (E : mz_En) (hI : mz_Inj E) (K : Int32 → mz_St → Prop) (a0 : Int32) (a1 : Int32) (s0 : mz_St) (h : mw_Mill_ret K a0 a1 s0) : mz_Ci l E my_Mill_ret mb_Mill_ret 3 (some .boolean) (1) (23) [.ref (E.2.1 0), .int a0, .int a1] s0 K := by
  refine mz_cti hI (by decide +kernel) (Nat.le_of_ble_eq_true rfl) (fun X C R => ?_)
  show mz_G E X 3 0 [(0, .ref (E.2.1 0)), (1, .int a0), (2, .int a1)] [] s0
  unfold mw_Mill_ret at h
  refine mr_aload_n C 0 md_Mill_ret_0 rfl rfl ?_
  refine mr_get C 0 0 mc_Mill_cls ml_426 rfl (by decide) (by decide) (fun _ => rfl) rfl md_Mill_ret_1 ?_
  refine mr_iload_n C 1 md_Mill_ret_4 rfl rfl ?_
  refine mr_cVNi C (As := [.int a0]) (rest := []) 1 (ms_Program_hasBlock _ E hI _ a0 _ h) mo_Program_hasBlock mi_Program_hasBlock mc_Program_cls ml_475 (by decide) (fun _ => rfl) rfl rfl (Nat.le_of_ble_eq_true rfl) (Nat.le_of_ble_eq_true rfl) (Nat.le_of_ble_eq_true rfl) md_Mill_ret_5 (fun r1 u1 h => ?_)
  refine mr_if_eq C md_Mill_ret_8 rfl (fun hc => ?_) (fun hc => ?_)
  · replace h := h.1 hc
    refine mr_iconst C md_Mill_ret_18 mk_iconst_0 ?_
    exact mr_zret C R mb_0 h md_Mill_ret_19
  replace h := h.2 hc
  refine mr_iload_n C 2 md_Mill_ret_11 rfl rfl ?_
  refine mr_cSi C (As := [.int a1]) (rest := []) (ms_Mill_isTemp _ E hI _ a1 _ h) mo_Mill_isTemp mt_Mill_isTemp ml_482 rfl rfl (Nat.le_of_ble_eq_true rfl) (Nat.le_of_ble_eq_true rfl) (Nat.le_of_ble_eq_true rfl) md_Mill_ret_12 (fun r2 u2 h => ?_)
  refine mr_if_ne C md_Mill_ret_15 rfl (fun hc => ?_) (fun hc => ?_)
  · replace h := h.1 hc
    refine mr_aload_n C 0 md_Mill_ret_20 rfl rfl ?_
    refine mr_cVv C (As := []) (rest := []) 0 (ms_Mill_forgetWhatWasMade _ E hI _  _ h) mo_Mill_forgetWhatWasMade mi_Mill_forgetWhatWasMade mc_Mill_cls ml_467 (by decide) (fun _ => rfl) rfl rfl (Nat.le_of_ble_eq_true rfl) (Nat.le_of_ble_eq_true rfl) (Nat.le_of_ble_eq_true rfl) md_Mill_ret_21 (fun u3 h => ?_)
    refine mr_aload_n C 0 md_Mill_ret_24 rfl rfl ?_
    refine mr_get C 0 0 mc_Mill_cls ml_426 rfl (by decide) (by decide) (fun _ => rfl) rfl md_Mill_ret_25 ?_
    refine mr_iload_n C 1 md_Mill_ret_28 rfl rfl ?_
    refine mr_iconst C md_Mill_ret_29 mk_iconst_0 ?_
    refine mr_iload_n C 2 md_Mill_ret_30 rfl rfl ?_
    refine mr_cVNv C (As := [.int a0, .int 0, .int a1]) (rest := []) 1 (ms_Program_setEnd _ E hI _ a0 0 a1 _ h) mo_Program_setEnd mi_Program_setEnd mc_Program_cls ml_493 (by decide) (fun _ => rfl) rfl rfl (Nat.le_of_ble_eq_true rfl) (Nat.le_of_ble_eq_true rfl) (Nat.le_of_ble_eq_true rfl) md_Mill_ret_31 (fun u4 h => ?_)
    refine mr_iconst C md_Mill_ret_34 mk_iconst_1 ?_
    exact mr_zret C R mb_1 h md_Mill_ret_35
  replace h := h.2 hc
  refine mr_iconst C md_Mill_ret_18 mk_iconst_0 ?_
  exact mr_zret C R mb_0 h md_Mill_ret_19
/-- ValueMill.memory(II)Z: what it does, as a transformer of what must hold behind it -/
def mw_Mill_memory (K : Int32 → mz_St → Prop) (a0 : Int32) (a1 : Int32) (s0 : mz_St) : Prop :=
  mw_Mill_isWord (fun r1 u1 =>
   ((¬ r1 = 0 →
    vp_in a0 32 ∧
    K 1 (mz_wr u1 21 a0 a1)) ∧
   (r1 = 0 →
    K 0 u1))) a0 s0
set_option maxRecDepth 100000 in
set_option maxHeartbeats 4000000 in
theorem ms_Mill_memory (l : Launch) (E : mz_En) (hI : mz_Inj E) (K : Int32 → mz_St → Prop) (a0 : Int32) (a1 : Int32) (s0 : mz_St) (h : mw_Mill_memory K a0 a1 s0) : mz_Ci l E my_Mill_memory mb_Mill_memory 3 (some .boolean) (1) (20) [.ref (E.2.1 0), .int a0, .int a1] s0 K := by
  refine mz_cti hI (by decide +kernel) (Nat.le_of_ble_eq_true rfl) (fun X C R => ?_)
  show mz_G E X 3 0 [(0, .ref (E.2.1 0)), (1, .int a0), (2, .int a1)] [] s0
  unfold mw_Mill_memory at h
  refine mr_iload_n C 1 md_Mill_memory_0 rfl rfl ?_
  refine mr_cSi C (As := [.int a0]) (rest := []) (ms_Mill_isWord _ E hI _ a0 _ h) mo_Mill_isWord mt_Mill_isWord ml_513 rfl rfl (Nat.le_of_ble_eq_true rfl) (Nat.le_of_ble_eq_true rfl) (Nat.le_of_ble_eq_true rfl) md_Mill_memory_1 (fun r1 u1 h => ?_)
  refine mr_if_ne C md_Mill_memory_4 rfl (fun hc => ?_) (fun hc => ?_)
  · replace h := h.1 hc
    refine mr_aload_n C 0 md_Mill_memory_9 rfl rfl ?_
    refine mr_get C 0 0 mc_Mill_cls ml_426 rfl (by decide) (by decide) (fun _ => rfl) rfl md_Mill_memory_10 ?_
    refine mr_getN C 1 9 mc_Program_cls ml_59 rfl (by decide) (by decide) (fun _ => rfl) rfl md_Mill_memory_13 ?_
    refine mr_iload_n C 1 md_Mill_memory_16 rfl rfl ?_
    refine mr_iload_n C 2 md_Mill_memory_17 rfl rfl ?_
    refine mr_iast C 21 32 (by decide) (by decide) (fun _ _ => rfl) h.1 md_Mill_memory_18 ?_
    replace h := h.2
    refine mr_iconst C md_Mill_memory_19 mk_iconst_1 ?_
    exact mr_zret C R mb_1 h md_Mill_memory_20
  replace h := h.2 hc
  refine mr_iconst C md_Mill_memory_7 mk_iconst_0 ?_
  exact mr_zret C R mb_0 h md_Mill_memory_8
/-- ValueMill.look()V: what it does, as a transformer of what must hold behind it -/
def mw_Mill_look (K : mz_St → Prop) (s0 : mz_St) : Prop :=
  (((s0 1000 0) = 0 →
   mw_Flow_lookAt (fun u1 =>
    mw_Lives_lookAt (fun u2 =>
     K (mz_up u2 1000 0 1)) u1) s0) ∧
  (¬ (s0 1000 0) = 0 →
   K s0))
set_option maxRecDepth 100000 in
set_option maxHeartbeats 4000000 in
theorem ms_Mill_look (l : Launch) (E : mz_En) (hI : mz_Inj E) (K : mz_St → Prop) (s0 : mz_St) (h : mw_Mill_look K s0) : mz_Cv l E my_Mill_look mb_Mill_look 1 (15) (341) [.ref (E.2.1 0)] s0 K := by
  refine mz_ctv hI (by decide +kernel) (Nat.le_of_ble_eq_true rfl) (fun X C R => ?_)
  show mz_G E X 1 0 [(0, .ref (E.2.1 0))] [] s0
  unfold mw_Mill_look at h
  refine mr_aload_n C 0 md_Mill_look_0 rfl rfl ?_
  refine mr_get C 0 9 mc_Mill_cls ml_435 rfl (by decide) (by decide) (fun _ => rfl) rfl md_Mill_look_1 ?_
  refine mr_if_eq C md_Mill_look_4 rfl (fun hc => ?_) (fun hc => ?_)
  · replace h := h.1 hc
    refine mr_aload_n C 0 md_Mill_look_8 rfl rfl ?_
    refine mr_get C 0 1 mc_Mill_cls ml_427 rfl (by decide) (by decide) (fun _ => rfl) rfl md_Mill_look_9 ?_
    refine mr_cVNv C (As := []) (rest := []) 2 (ms_Flow_lookAt _ E hI _  _ h) mo_Flow_lookAt mi_Flow_lookAt mc_Flow_cls ml_567 (by decide) (fun _ => rfl) rfl rfl (Nat.le_of_ble_eq_true rfl) (Nat.le_of_ble_eq_true rfl) (Nat.le_of_ble_eq_true rfl) md_Mill_look_12 (fun u1 h => ?_)
    refine mr_aload_n C 0 md_Mill_look_15 rfl rfl ?_
    refine mr_get C 0 2 mc_Mill_cls ml_428 rfl (by decide) (by decide) (fun _ => rfl) rfl md_Mill_look_16 ?_
    refine mr_cVNv C (As := []) (rest := []) 3 (ms_Lives_lookAt _ E hI _  _ h) mo_Lives_lookAt mi_Lives_lookAt mc_Lives_cls ml_619 (by decide) (fun _ => rfl) rfl rfl (Nat.le_of_ble_eq_true rfl) (Nat.le_of_ble_eq_true rfl) (Nat.le_of_ble_eq_true rfl) md_Mill_look_19 (fun u2 h => ?_)
    refine mr_aload_n C 0 md_Mill_look_22 rfl rfl ?_
    refine mr_iconst C md_Mill_look_23 mk_iconst_1 ?_
    refine mr_put C (t0 := .boolean) 0 9 1000 mc_Mill_cls ml_435 rfl (by decide) (by decide) (fun _ => rfl) rfl (by decide +kernel) (mb_nar mb_1) (mb_fit mb_1) (Nat.le_of_ble_eq_true rfl) (fun _ => rfl) (mp_1000 E _) md_Mill_look_24 ?_
    exact mr_vret C R h md_Mill_look_27
  replace h := h.2 hc
  exact mr_vret C R h md_Mill_look_7
def mw_Mill_makeCode_94 (K : mz_St → Prop) (a0 : Int32) (a1 : Int32) (s94 : mz_St) : Prop :=
  K (mz_up (mz_up s94 1001 0 a0) 1002 0 a1)
def mw_Mill_makeCode_87 (P94 : mz_St → Prop) (s87 : mz_St) : Prop :=
  mw_Writer_writeNamed (fun u3 =>
   P94 u3) s87
def mw_Mill_makeCode_64 (a0 : Int32) (a1 : Int32) (P94 : mz_St → Prop) (s64 : mz_St) : Prop :=
  (∀ P87 : mz_St → Prop, (∀ (s87 : mz_St), mw_Mill_makeCode_87 P94 s87 → P87 s87) →
  ((¬ a0 = 3 →
   mw_Homes_giveEachItsOwn (fun u4 =>
    P87 u4) s64) ∧
  (a0 = 3 →
   mw_Homes_shareRegisters (fun u5 =>
    P87 u5) a1 s64)))
def mw_Mill_makeCode_17 (K : mz_St → Prop) (a0 : Int32) (a1 : Int32) (s17 : mz_St) : Prop :=
  (∀ P94 : mz_St → Prop, (∀ (s94 : mz_St), mw_Mill_makeCode_94 K a0 a1 s94 → P94 s94) →
  ((¬ a0 = 0 →
   mw_Mill_look (fun u1 =>
    mw_Names_giveNames (fun u2 =>
     (∀ P64 : mz_St → Prop, (∀ (s64 : mz_St), mw_Mill_makeCode_64 a0 a1 P94 s64 → P64 s64) →
     ((¬ a0 = 1 →
      mw_Stands_settle (fun u6 =>
       P64 u6) u2) ∧
     (a0 = 1 →
      mw_Stands_letAllBe (fun u7 =>
       P64 u7) u2)))) u1) s17) ∧
  (a0 = 0 →
   mw_Writer_writeAsItIs (fun u8 =>
    P94 u8) s17)))
/-- ValueMill.makeCode(II)V: what it does, as a transformer of what must hold behind it -/
def mw_Mill_makeCode (K : mz_St → Prop) (a0 : Int32) (a1 : Int32) (s0 : mz_St) : Prop :=
  (∀ P17 : mz_St → Prop, (∀ (s17 : mz_St), mw_Mill_makeCode_17 K a0 a1 s17 → P17 s17) →
  ((¬ (s0 1001 0) = a0 →
   P17 s0) ∧
  ((s0 1001 0) = a0 →
   ((¬ (s0 1002 0) = a1 →
    P17 s0) ∧
   ((s0 1002 0) = a1 →
    K s0)))))
set_option maxRecDepth 100000 in
set_option maxHeartbeats 4000000 in
theorem ms_Mill_makeCode (l : Launch) (E : mz_En) (hI : mz_Inj E) (K : mz_St → Prop) (a0 : Int32) (a1 : Int32) (s0 : mz_St) (h : mw_Mill_makeCode K a0 a1 s0) : mz_Cv l E my_Mill_makeCode mb_Mill_makeCode 3 (16) (361) [.ref (E.2.1 0), .int a0, .int a1] s0 K := by
  refine mz_ctv hI (by decide +kernel) (Nat.le_of_ble_eq_true rfl) (fun X C R => ?_)
  show mz_G E X 3 0 [(0, .ref (E.2.1 0)), (1, .int a0), (2, .int a1)] [] s0
  unfold mw_Mill_makeCode at h
  refine mr_aload_n C 0 md_Mill_makeCode_0 rfl rfl ?_
  refine mr_get C 0 10 mc_Mill_cls ml_436 rfl (by decide) (by decide) (fun _ => rfl) rfl md_Mill_makeCode_1 ?_
  refine mr_iload_n C 1 md_Mill_makeCode_4 rfl rfl ?_
  refine mj (h (fun (s17 : mz_St) => mz_G E X 3 17 [(0, .ref (E.2.1 0)), (1, .int a0), (2, .int a1)] [] s17) (fun s17 h => ?_)) (fun h => ?_)
  · unfold mw_Mill_makeCode_17 at h
    refine mr_iload_n C 1 md_Mill_makeCode_17 rfl rfl ?_
    refine mj (h (fun (s94 : mz_St) => mz_G E X 3 94 [(0, .ref (E.2.1 0)), (1, .int a0), (2, .int a1)] [] s94) (fun s94 h => ?_)) (fun h => ?_)
    · unfold mw_Mill_makeCode_94 at h
      refine mr_aload_n C 0 md_Mill_makeCode_94 rfl rfl ?_
      refine mr_iload_n C 1 md_Mill_makeCode_95 rfl rfl ?_
      refine mr_put C (t0 := .int) 0 10 1001 mc_Mill_cls ml_436 rfl (by decide) (by decide) (fun _ => rfl) rfl (by decide +kernel) rfl rfl (Nat.le_of_ble_eq_true rfl) (fun _ => rfl) (mp_1001 E _) md_Mill_makeCode_96 ?_
      refine mr_aload_n C 0 md_Mill_makeCode_99 rfl rfl ?_
      refine mr_iload_n C 2 md_Mill_makeCode_100 rfl rfl ?_
      refine mr_put C (t0 := .int) 0 11 1002 mc_Mill_cls ml_437 rfl (by decide) (by decide) (fun _ => rfl) rfl (by decide +kernel) rfl rfl (Nat.le_of_ble_eq_true rfl) (fun _ => rfl) (mp_1002 E _) md_Mill_makeCode_101 ?_
      exact mr_vret C R h md_Mill_makeCode_104
    refine mr_if_ne C md_Mill_makeCode_18 rfl (fun hc => ?_) (fun hc => ?_)
    · replace h := h.1 hc
      refine mr_aload_n C 0 md_Mill_makeCode_31 rfl rfl ?_
      refine mr_cVv C (As := []) (rest := []) 0 (ms_Mill_look _ E hI _  _ h) mo_Mill_look mi_Mill_look mc_Mill_cls ml_563 (by decide) (fun _ => rfl) rfl rfl (Nat.le_of_ble_eq_true rfl) (Nat.le_of_ble_eq_true rfl) (Nat.le_of_ble_eq_true rfl) md_Mill_makeCode_32 (fun u1 h => ?_)
      refine mr_aload_n C 0 md_Mill_makeCode_35 rfl rfl ?_
      refine mr_get C 0 3 mc_Mill_cls ml_429 rfl (by decide) (by decide) (fun _ => rfl) rfl md_Mill_makeCode_36 ?_
      refine mr_cVNv C (As := []) (rest := []) 4 (ms_Names_giveNames _ E hI _  _ h) mo_Names_giveNames mi_Names_giveNames mc_Names_cls ml_664 (by decide) (fun _ => rfl) rfl rfl (Nat.le_of_ble_eq_true rfl) (Nat.le_of_ble_eq_true rfl) (Nat.le_of_ble_eq_true rfl) md_Mill_makeCode_39 (fun u2 h => ?_)
      refine mr_iload_n C 1 md_Mill_makeCode_42 rfl rfl ?_
      refine mr_iconst C md_Mill_makeCode_43 mk_iconst_1 ?_
      refine mj (h (fun (s64 : mz_St) => mz_G E X 3 64 [(0, .ref (E.2.1 0)), (1, .int a0), (2, .int a1)] [] s64) (fun s64 h => ?_)) (fun h => ?_)
      · unfold mw_Mill_makeCode_64 at h
        refine mr_iload_n C 1 md_Mill_makeCode_64 rfl rfl ?_
        refine mr_iconst C md_Mill_makeCode_65 mk_iconst_3 ?_
        refine mj (h (fun (s87 : mz_St) => mz_G E X 3 87 [(0, .ref (E.2.1 0)), (1, .int a0), (2, .int a1)] [] s87) (fun s87 h => ?_)) (fun h => ?_)
        · unfold mw_Mill_makeCode_87 at h
          refine mr_aload_n C 0 md_Mill_makeCode_87 rfl rfl ?_
          refine mr_get C 0 7 mc_Mill_cls ml_433 rfl (by decide) (by decide) (fun _ => rfl) rfl md_Mill_makeCode_88 ?_
          refine mr_cVNv C (As := []) (rest := []) 9 (ms_Writer_writeNamed _ E hI _  _ h) mo_Writer_writeNamed mi_Writer_writeNamed mc_Writer_cls ml_844 (by decide) (fun _ => rfl) rfl rfl (Nat.le_of_ble_eq_true rfl) (Nat.le_of_ble_eq_true rfl) (Nat.le_of_ble_eq_true rfl) md_Mill_makeCode_91 (fun u3 h => ?_)
          exact h
        refine mr_icmp_ne C md_Mill_makeCode_66 rfl (fun hc => ?_) (fun hc => ?_)
        · replace h := h.1 hc
          refine mr_aload_n C 0 md_Mill_makeCode_80 rfl rfl ?_
          refine mr_get C 0 5 mc_Mill_cls ml_431 rfl (by decide) (by decide) (fun _ => rfl) rfl md_Mill_makeCode_81 ?_
          refine mr_cVNv C (As := []) (rest := []) 6 (ms_Homes_giveEachItsOwn _ E hI _  _ h) mo_Homes_giveEachItsOwn mi_Homes_giveEachItsOwn mc_Homes_cls ml_840 (by decide) (fun _ => rfl) rfl rfl (Nat.le_of_ble_eq_true rfl) (Nat.le_of_ble_eq_true rfl) (Nat.le_of_ble_eq_true rfl) md_Mill_makeCode_84 (fun u4 h => ?_)
          exact h
        replace h := h.2 hc
        refine mr_aload_n C 0 md_Mill_makeCode_69 rfl rfl ?_
        refine mr_get C 0 5 mc_Mill_cls ml_431 rfl (by decide) (by decide) (fun _ => rfl) rfl md_Mill_makeCode_70 ?_
        refine mr_iload_n C 2 md_Mill_makeCode_73 rfl rfl ?_
        refine mr_cVNv C (As := [.int a1]) (rest := []) 6 (ms_Homes_shareRegisters _ E hI _ a1 _ h) mo_Homes_shareRegisters mi_Homes_shareRegisters mc_Homes_cls ml_758 (by decide) (fun _ => rfl) rfl rfl (Nat.le_of_ble_eq_true rfl) (Nat.le_of_ble_eq_true rfl) (Nat.le_of_ble_eq_true rfl) md_Mill_makeCode_74 (fun u5 h => ?_)
        refine mr_goto C md_Mill_makeCode_77 rfl ?_
        exact h
      refine mr_icmp_ne C md_Mill_makeCode_44 rfl (fun hc => ?_) (fun hc => ?_)
      · replace h := h.1 hc
        refine mr_aload_n C 0 md_Mill_makeCode_57 rfl rfl ?_
        refine mr_get C 0 4 mc_Mill_cls ml_430 rfl (by decide) (by decide) (fun _ => rfl) rfl md_Mill_makeCode_58 ?_
        refine mr_cVNv C (As := []) (rest := []) 5 (ms_Stands_settle _ E hI _  _ h) mo_Stands_settle mi_Stands_settle mc_Stands_cls ml_694 (by decide) (fun _ => rfl) rfl rfl (Nat.le_of_ble_eq_true rfl) (Nat.le_of_ble_eq_true rfl) (Nat.le_of_ble_eq_true rfl) md_Mill_makeCode_61 (fun u6 h => ?_)
        exact h
      replace h := h.2 hc
      refine mr_aload_n C 0 md_Mill_makeCode_47 rfl rfl ?_
      refine mr_get C 0 4 mc_Mill_cls ml_430 rfl (by decide) (by decide) (fun _ => rfl) rfl md_Mill_makeCode_48 ?_
      refine mr_cVNv C (As := []) (rest := []) 5 (ms_Stands_letAllBe _ E hI _  _ h) mo_Stands_letAllBe mi_Stands_letAllBe mc_Stands_cls ml_686 (by decide) (fun _ => rfl) rfl rfl (Nat.le_of_ble_eq_true rfl) (Nat.le_of_ble_eq_true rfl) (Nat.le_of_ble_eq_true rfl) md_Mill_makeCode_51 (fun u7 h => ?_)
      refine mr_goto C md_Mill_makeCode_54 rfl ?_
      exact h
    replace h := h.2 hc
    refine mr_aload_n C 0 md_Mill_makeCode_21 rfl rfl ?_
    refine mr_get C 0 7 mc_Mill_cls ml_433 rfl (by decide) (by decide) (fun _ => rfl) rfl md_Mill_makeCode_22 ?_
    refine mr_cVNv C (As := []) (rest := []) 9 (ms_Writer_writeAsItIs _ E hI _  _ h) mo_Writer_writeAsItIs mi_Writer_writeAsItIs mc_Writer_cls ml_524 (by decide) (fun _ => rfl) rfl rfl (Nat.le_of_ble_eq_true rfl) (Nat.le_of_ble_eq_true rfl) (Nat.le_of_ble_eq_true rfl) md_Mill_makeCode_25 (fun u8 h => ?_)
    refine mr_goto C md_Mill_makeCode_28 rfl ?_
    exact h
  refine mr_icmp_ne C md_Mill_makeCode_5 rfl (fun hc => ?_) (fun hc => ?_)
  · replace h := h.1 hc
    exact h
  replace h := h.2 hc
  refine mr_aload_n C 0 md_Mill_makeCode_8 rfl rfl ?_
  refine mr_get C 0 11 mc_Mill_cls ml_437 rfl (by decide) (by decide) (fun _ => rfl) rfl md_Mill_makeCode_9 ?_
  refine mr_iload_n C 2 md_Mill_makeCode_12 rfl rfl ?_
  refine mr_icmp_ne C md_Mill_makeCode_13 rfl (fun hc => ?_) (fun hc => ?_)
  · replace h := h.1 hc
    exact h
  replace h := h.2 hc
  exact mr_vret C R h md_Mill_makeCode_16
/-- ValueMill.run(III)I: what it does, as a transformer of what must hold behind it -/
def mw_Mill_run (K : Int32 → mz_St → Prop) (a0 : Int32) (a1 : Int32) (a2 : Int32) (s0 : mz_St) : Prop :=
  (((s0 1003 0) = 0 →
   K (-1) s0) ∧
  (¬ (s0 1003 0) = 0 →
   ((a0 < 0 →
    K (-1) s0) ∧
   (¬ a0 < 0 →
    ((a0 ≤ 3 →
     ((a1 < 2 →
      K (-1) s0) ∧
     (¬ a1 < 2 →
      ((8 < a1 →
       K (-1) s0) ∧
      (¬ 8 < a1 →
       ((a2 < 0 →
        K (-1) s0) ∧
       (¬ a2 < 0 →
        ((a2 ≤ 500 →
         mw_Mill_makeCode (fun u1 =>
          mw_Machine_follow (fun r1 u2 =>
           K r1 u2) a2 u1) a0 a1 s0) ∧
        (¬ a2 ≤ 500 →
         K (-1) s0))))))))) ∧
    (¬ a0 ≤ 3 →
     K (-1) s0))))))
set_option maxRecDepth 100000 in
set_option maxHeartbeats 4000000 in
theorem ms_Mill_run (l : Launch) (E : mz_En) (hI : mz_Inj E) (K : Int32 → mz_St → Prop) (a0 : Int32) (a1 : Int32) (a2 : Int32) (s0 : mz_St) (h : mw_Mill_run K a0 a1 a2 s0) : mz_Ci l E my_Mill_run mb_Mill_run 4 (some .int) (17) (383) [.ref (E.2.1 0), .int a0, .int a1, .int a2] s0 K := by
  refine mz_cti hI (by decide +kernel) (Nat.le_of_ble_eq_true rfl) (fun X C R => ?_)
  show mz_G E X 4 0 [(0, .ref (E.2.1 0)), (1, .int a0), (2, .int a1), (3, .int a2)] [] s0
  unfold mw_Mill_run at h
  refine mr_aload_n C 0 md_Mill_run_0 rfl rfl ?_
  refine mr_get C 0 0 mc_Mill_cls ml_426 rfl (by decide) (by decide) (fun _ => rfl) rfl md_Mill_run_1 ?_
  refine mr_getN C 1 10 mc_Program_cls ml_60 rfl (by decide) (by decide) (fun _ => rfl) rfl md_Mill_run_4 ?_
  refine mr_if_eq C md_Mill_run_7 rfl (fun hc => ?_) (fun hc => ?_)
  · replace h := h.1 hc
    refine mr_iconst C md_Mill_run_19 mk_iconst_m1 ?_
    exact mr_iret C R h md_Mill_run_20
  replace h := h.2 hc
  refine mr_iload_n C 1 md_Mill_run_10 rfl rfl ?_
  refine mr_if_lt C md_Mill_run_11 rfl (fun hc => ?_) (fun hc => ?_)
  · replace h := h.1 hc
    refine mr_iconst C md_Mill_run_19 mk_iconst_m1 ?_
    exact mr_iret C R h md_Mill_run_20
  replace h := h.2 hc
  refine mr_iload_n C 1 md_Mill_run_14 rfl rfl ?_
  refine mr_iconst C md_Mill_run_15 mk_iconst_3 ?_
  refine mr_icmp_le C md_Mill_run_16 rfl (fun hc => ?_) (fun hc => ?_)
  · replace h := h.1 hc
    refine mr_iload_n C 2 md_Mill_run_21 rfl rfl ?_
    refine mr_iconst C md_Mill_run_22 mk_iconst_2 ?_
    refine mr_icmp_lt C md_Mill_run_23 rfl (fun hc => ?_) (fun hc => ?_)
    · replace h := h.1 hc
      refine mr_iconst C md_Mill_run_43 mk_iconst_m1 ?_
      exact mr_iret C R h md_Mill_run_44
    replace h := h.2 hc
    refine mr_iload_n C 2 md_Mill_run_26 rfl rfl ?_
    refine mr_bipush C md_Mill_run_27 mk_bipush_8 ?_
    refine mr_icmp_gt C md_Mill_run_29 rfl (fun hc => ?_) (fun hc => ?_)
    · replace h := h.1 hc
      refine mr_iconst C md_Mill_run_43 mk_iconst_m1 ?_
      exact mr_iret C R h md_Mill_run_44
    replace h := h.2 hc
    refine mr_iload_n C 3 md_Mill_run_32 rfl rfl ?_
    refine mr_if_lt C md_Mill_run_33 rfl (fun hc => ?_) (fun hc => ?_)
    · replace h := h.1 hc
      refine mr_iconst C md_Mill_run_43 mk_iconst_m1 ?_
      exact mr_iret C R h md_Mill_run_44
    replace h := h.2 hc
    refine mr_iload_n C 3 md_Mill_run_36 rfl rfl ?_
    refine mr_sipush C md_Mill_run_37 mk_sipush_500 ?_
    refine mr_icmp_le C md_Mill_run_40 rfl (fun hc => ?_) (fun hc => ?_)
    · replace h := h.1 hc
      refine mr_aload_n C 0 md_Mill_run_45 rfl rfl ?_
      refine mr_iload_n C 1 md_Mill_run_46 rfl rfl ?_
      refine mr_iload_n C 2 md_Mill_run_47 rfl rfl ?_
      refine mr_cVv C (As := [.int a0, .int a1]) (rest := []) 0 (ms_Mill_makeCode _ E hI _ a0 a1 _ h) mo_Mill_makeCode mi_Mill_makeCode mc_Mill_cls ml_520 (by decide) (fun _ => rfl) rfl rfl (Nat.le_of_ble_eq_true rfl) (Nat.le_of_ble_eq_true rfl) (Nat.le_of_ble_eq_true rfl) md_Mill_run_48 (fun u1 h => ?_)
      refine mr_aload_n C 0 md_Mill_run_51 rfl rfl ?_
      refine mr_get C 0 8 mc_Mill_cls ml_434 rfl (by decide) (by decide) (fun _ => rfl) rfl md_Mill_run_52 ?_
      refine mr_aload_n C 0 md_Mill_run_55 rfl rfl ?_
      refine mr_get C 0 6 mc_Mill_cls ml_432 rfl (by decide) (by decide) (fun _ => rfl) rfl md_Mill_run_56 ?_
      refine mr_aload_n C 0 md_Mill_run_59 rfl rfl ?_
      refine mr_get C 0 0 mc_Mill_cls ml_426 rfl (by decide) (by decide) (fun _ => rfl) rfl md_Mill_run_60 ?_
      refine mr_iload_n C 3 md_Mill_run_63 rfl rfl ?_
      refine mr_cVNi C (As := [.ref (E.2.1 7), .ref (E.2.1 1), .int a2]) (rest := []) 10 (ms_Machine_follow _ E hI _ a2 _ h) mo_Machine_follow mi_Machine_follow mc_Machine_cls ml_924 (by decide) (fun _ => rfl) rfl rfl (Nat.le_of_ble_eq_true rfl) (Nat.le_of_ble_eq_true rfl) (Nat.le_of_ble_eq_true rfl) md_Mill_run_64 (fun r1 u2 h => ?_)
      exact mr_iret C R h md_Mill_run_67
    replace h := h.2 hc
    refine mr_iconst C md_Mill_run_43 mk_iconst_m1 ?_
    exact mr_iret C R h md_Mill_run_44
  replace h := h.2 hc
  refine mr_iconst C md_Mill_run_19 mk_iconst_m1 ?_
  exact mr_iret C R h md_Mill_run_20
/-- ValueMill.value()I: what it does, as a transformer of what must hold behind it -/
def mw_Mill_value (K : Int32 → mz_St → Prop) (s0 : mz_St) : Prop :=
  K (s0 1013 0) s0
set_option maxRecDepth 100000 in
set_option maxHeartbeats 4000000 in
theorem ms_Mill_value (l : Launch) (E : mz_En) (hI : mz_Inj E) (K : Int32 → mz_St → Prop) (s0 : mz_St) (h : mw_Mill_value K s0) : mz_Ci l E my_Mill_value mb_Mill_value 1 (some .int) (0) (0) [.ref (E.2.1 0)] s0 K := by
  refine mz_cti hI (by decide +kernel) (Nat.le_of_ble_eq_true rfl) (fun X C R => ?_)
  show mz_G E X 1 0 [(0, .ref (E.2.1 0))] [] s0
  unfold mw_Mill_value at h
  refine mr_aload_n C 0 md_Mill_value_0 rfl rfl ?_
  refine mr_get C 0 8 mc_Mill_cls ml_434 rfl (by decide) (by decide) (fun _ => rfl) rfl md_Mill_value_1 ?_
  refine mr_getN C 10 3 mc_Machine_cls ml_408 rfl (by decide) (by decide) (fun _ => rfl) rfl md_Mill_value_4 ?_
  exact mr_iret C R h md_Mill_value_7
/-- ValueMill.entered()I: what it does, as a transformer of what must hold behind it -/
def mw_Mill_entered (K : Int32 → mz_St → Prop) (s0 : mz_St) : Prop :=
  K (s0 1014 0) s0
set_option maxRecDepth 100000 in
set_option maxHeartbeats 4000000 in
theorem ms_Mill_entered (l : Launch) (E : mz_En) (hI : mz_Inj E) (K : Int32 → mz_St → Prop) (s0 : mz_St) (h : mw_Mill_entered K s0) : mz_Ci l E my_Mill_entered mb_Mill_entered 1 (some .int) (0) (0) [.ref (E.2.1 0)] s0 K := by
  refine mz_cti hI (by decide +kernel) (Nat.le_of_ble_eq_true rfl) (fun X C R => ?_)
  show mz_G E X 1 0 [(0, .ref (E.2.1 0))] [] s0
  unfold mw_Mill_entered at h
  refine mr_aload_n C 0 md_Mill_entered_0 rfl rfl ?_
  refine mr_get C 0 8 mc_Mill_cls ml_434 rfl (by decide) (by decide) (fun _ => rfl) rfl md_Mill_entered_1 ?_
  refine mr_getN C 10 4 mc_Machine_cls ml_410 rfl (by decide) (by decide) (fun _ => rfl) rfl md_Mill_entered_4 ?_
  exact mr_iret C R h md_Mill_entered_7
/-- ValueMill.word(I)I: what it does, as a transformer of what must hold behind it -/
def mw_Mill_word (K : Int32 → mz_St → Prop) (a0 : Int32) (s0 : mz_St) : Prop :=
  mw_Mill_isWord (fun r1 u1 =>
   ((r1 = 0 →
    K 0 u1) ∧
   (¬ r1 = 0 →
    vp_in a0 32 ∧
    K (mz_rd u1 58 a0) u1))) a0 s0
set_option maxRecDepth 100000 in
set_option maxHeartbeats 4000000 in
theorem ms_Mill_word (l : Launch) (E : mz_En) (hI : mz_Inj E) (K : Int32 → mz_St → Prop) (a0 : Int32) (s0 : mz_St) (h : mw_Mill_word K a0 s0) : mz_Ci l E my_Mill_word mb_Mill_word 2 (some .int) (1) (20) [.ref (E.2.1 0), .int a0] s0 K := by
  refine mz_cti hI (by decide +kernel) (Nat.le_of_ble_eq_true rfl) (fun X C R => ?_)
  show mz_G E X 2 0 [(0, .ref (E.2.1 0)), (1, .int a0)] [] s0
  unfold mw_Mill_word at h
  refine mr_iload_n C 1 md_Mill_word_0 rfl rfl ?_
  refine mr_cSi C (As := [.int a0]) (rest := []) (ms_Mill_isWord _ E hI _ a0 _ h) mo_Mill_isWord mt_Mill_isWord ml_513 rfl rfl (Nat.le_of_ble_eq_true rfl) (Nat.le_of_ble_eq_true rfl) (Nat.le_of_ble_eq_true rfl) md_Mill_word_1 (fun r1 u1 h => ?_)
  refine mr_if_eq C md_Mill_word_4 rfl (fun hc => ?_) (fun hc => ?_)
  · replace h := h.1 hc
    refine mr_iconst C md_Mill_word_19 mk_iconst_0 ?_
    exact mr_iret C R h md_Mill_word_20
  replace h := h.2 hc
  refine mr_aload_n C 0 md_Mill_word_7 rfl rfl ?_
  refine mr_get C 0 8 mc_Mill_cls ml_434 rfl (by decide) (by decide) (fun _ => rfl) rfl md_Mill_word_8 ?_
  refine mr_getN C 10 1 mc_Machine_cls ml_405 rfl (by decide) (by decide) (fun _ => rfl) rfl md_Mill_word_11 ?_
  refine mr_iload_n C 1 md_Mill_word_14 rfl rfl ?_
  refine mr_iald C 58 32 (by decide) (fun _ => rfl) h.1 md_Mill_word_15 ?_
  replace h := h.2
  refine mr_goto C md_Mill_word_16 rfl ?_
  exact mr_iret C R h md_Mill_word_20
/-- ValueMill.calls()I: what it does, as a transformer of what must hold behind it -/
def mw_Mill_calls (K : Int32 → mz_St → Prop) (s0 : mz_St) : Prop :=
  K (s0 1015 0) s0
set_option maxRecDepth 100000 in
set_option maxHeartbeats 4000000 in
theorem ms_Mill_calls (l : Launch) (E : mz_En) (hI : mz_Inj E) (K : Int32 → mz_St → Prop) (s0 : mz_St) (h : mw_Mill_calls K s0) : mz_Ci l E my_Mill_calls mb_Mill_calls 1 (some .int) (0) (0) [.ref (E.2.1 0)] s0 K := by
  refine mz_cti hI (by decide +kernel) (Nat.le_of_ble_eq_true rfl) (fun X C R => ?_)
  show mz_G E X 1 0 [(0, .ref (E.2.1 0))] [] s0
  unfold mw_Mill_calls at h
  refine mr_aload_n C 0 md_Mill_calls_0 rfl rfl ?_
  refine mr_get C 0 8 mc_Mill_cls ml_434 rfl (by decide) (by decide) (fun _ => rfl) rfl md_Mill_calls_1 ?_
  refine mr_getN C 10 5 mc_Machine_cls ml_412 rfl (by decide) (by decide) (fun _ => rfl) rfl md_Mill_calls_4 ?_
  exact mr_iret C R h md_Mill_calls_7
/-- ValueMill.call(II)I: what it does, as a transformer of what must hold behind it -/
def mw_Mill_call (K : Int32 → mz_St → Prop) (a0 : Int32) (a1 : Int32) (s0 : mz_St) : Prop :=
  mw_Machine_told (fun r1 u1 =>
   K r1 u1) a0 a1 s0
set_option maxRecDepth 100000 in
set_option maxHeartbeats 4000000 in
theorem ms_Mill_call (l : Launch) (E : mz_En) (hI : mz_Inj E) (K : Int32 → mz_St → Prop) (a0 : Int32) (a1 : Int32) (s0 : mz_St) (h : mw_Mill_call K a0 a1 s0) : mz_Ci l E my_Mill_call mb_Mill_call 3 (some .int) (1) (23) [.ref (E.2.1 0), .int a0, .int a1] s0 K := by
  refine mz_cti hI (by decide +kernel) (Nat.le_of_ble_eq_true rfl) (fun X C R => ?_)
  show mz_G E X 3 0 [(0, .ref (E.2.1 0)), (1, .int a0), (2, .int a1)] [] s0
  unfold mw_Mill_call at h
  refine mr_aload_n C 0 md_Mill_call_0 rfl rfl ?_
  refine mr_get C 0 8 mc_Mill_cls ml_434 rfl (by decide) (by decide) (fun _ => rfl) rfl md_Mill_call_1 ?_
  refine mr_iload_n C 1 md_Mill_call_4 rfl rfl ?_
  refine mr_iload_n C 2 md_Mill_call_5 rfl rfl ?_
  refine mr_cVNi C (As := [.int a0, .int a1]) (rest := []) 10 (ms_Machine_told _ E hI _ a0 a1 _ h) mo_Machine_told mi_Machine_told mc_Machine_cls ml_973 (by decide) (fun _ => rfl) rfl rfl (Nat.le_of_ble_eq_true rfl) (Nat.le_of_ble_eq_true rfl) (Nat.le_of_ble_eq_true rfl) md_Mill_call_6 (fun r1 u1 h => ?_)
  exact mr_iret C R h md_Mill_call_9
/-- ValueMill.order(I)I: what it does, as a transformer of what must hold behind it -/
def mw_Mill_order (K : Int32 → mz_St → Prop) (a0 : Int32) (s0 : mz_St) : Prop :=
  mw_Mill_look (fun u1 =>
   ((a0 < 0 →
    K (-1) u1) ∧
   (¬ a0 < 0 →
    (((u1 1006 0) ≤ a0 →
     K (-1) u1) ∧
    (¬ (u1 1006 0) ≤ a0 →
     vp_in a0 10 ∧
     K (mz_rd u1 24 a0) u1))))) s0
set_option maxRecDepth 100000 in
set_option maxHeartbeats 4000000 in
theorem ms_Mill_order (l : Launch) (E : mz_En) (hI : mz_Inj E) (K : Int32 → mz_St → Prop) (a0 : Int32) (s0 : mz_St) (h : mw_Mill_order K a0 s0) : mz_Ci l E my_Mill_order mb_Mill_order 2 (some .int) (16) (361) [.ref (E.2.1 0), .int a0] s0 K := by
  refine mz_cti hI (by decide +kernel) (Nat.le_of_ble_eq_true rfl) (fun X C R => ?_)
  show mz_G E X 2 0 [(0, .ref (E.2.1 0)), (1, .int a0)] [] s0
  unfold mw_Mill_order at h
  refine mr_aload_n C 0 md_Mill_order_0 rfl rfl ?_
  refine mr_cVv C (As := []) (rest := []) 0 (ms_Mill_look _ E hI _  _ h) mo_Mill_look mi_Mill_look mc_Mill_cls ml_563 (by decide) (fun _ => rfl) rfl rfl (Nat.le_of_ble_eq_true rfl) (Nat.le_of_ble_eq_true rfl) (Nat.le_of_ble_eq_true rfl) md_Mill_order_1 (fun u1 h => ?_)
  refine mr_iload_n C 1 md_Mill_order_4 rfl rfl ?_
  refine mr_if_lt C md_Mill_order_5 rfl (fun hc => ?_) (fun hc => ?_)
  · replace h := h.1 hc
    refine mr_iconst C md_Mill_order_31 mk_iconst_m1 ?_
    exact mr_iret C R h md_Mill_order_32
  replace h := h.2 hc
  refine mr_iload_n C 1 md_Mill_order_8 rfl rfl ?_
  refine mr_aload_n C 0 md_Mill_order_9 rfl rfl ?_
  refine mr_get C 0 1 mc_Mill_cls ml_427 rfl (by decide) (by decide) (fun _ => rfl) rfl md_Mill_order_10 ?_
  refine mr_getN C 2 10 mc_Flow_cls ml_124 rfl (by decide) (by decide) (fun _ => rfl) rfl md_Mill_order_13 ?_
  refine mr_icmp_ge C md_Mill_order_16 rfl (fun hc => ?_) (fun hc => ?_)
  · replace h := h.1 hc
    refine mr_iconst C md_Mill_order_31 mk_iconst_m1 ?_
    exact mr_iret C R h md_Mill_order_32
  replace h := h.2 hc
  refine mr_aload_n C 0 md_Mill_order_19 rfl rfl ?_
  refine mr_get C 0 1 mc_Mill_cls ml_427 rfl (by decide) (by decide) (fun _ => rfl) rfl md_Mill_order_20 ?_
  refine mr_getN C 2 3 mc_Flow_cls ml_105 rfl (by decide) (by decide) (fun _ => rfl) rfl md_Mill_order_23 ?_
  refine mr_iload_n C 1 md_Mill_order_26 rfl rfl ?_
  refine mr_iald C 24 10 (by decide) (fun _ => rfl) h.1 md_Mill_order_27 ?_
  replace h := h.2
  refine mr_goto C md_Mill_order_28 rfl ?_
  exact mr_iret C R h md_Mill_order_32
/-- ValueMill.nearest(I)I: what it does, as a transformer of what must hold behind it -/
def mw_Mill_nearest (K : Int32 → mz_St → Prop) (a0 : Int32) (s0 : mz_St) : Prop :=
  mw_Mill_look (fun u1 =>
   mw_Flow_isAlive (fun r1 u2 =>
    ((r1 = 0 →
     K (-1) u2) ∧
    (¬ r1 = 0 →
     vp_in a0 10 ∧
     K (mz_rd u2 26 a0) u2))) a0 u1) s0
set_option maxRecDepth 100000 in
set_option maxHeartbeats 4000000 in
theorem ms_Mill_nearest (l : Launch) (E : mz_En) (hI : mz_Inj E) (K : Int32 → mz_St → Prop) (a0 : Int32) (s0 : mz_St) (h : mw_Mill_nearest K a0 s0) : mz_Ci l E my_Mill_nearest mb_Mill_nearest 2 (some .int) (16) (361) [.ref (E.2.1 0), .int a0] s0 K := by
  refine mz_cti hI (by decide +kernel) (Nat.le_of_ble_eq_true rfl) (fun X C R => ?_)
  show mz_G E X 2 0 [(0, .ref (E.2.1 0)), (1, .int a0)] [] s0
  unfold mw_Mill_nearest at h
  refine mr_aload_n C 0 md_Mill_nearest_0 rfl rfl ?_
  refine mr_cVv C (As := []) (rest := []) 0 (ms_Mill_look _ E hI _  _ h) mo_Mill_look mi_Mill_look mc_Mill_cls ml_563 (by decide) (fun _ => rfl) rfl rfl (Nat.le_of_ble_eq_true rfl) (Nat.le_of_ble_eq_true rfl) (Nat.le_of_ble_eq_true rfl) md_Mill_nearest_1 (fun u1 h => ?_)
  refine mr_aload_n C 0 md_Mill_nearest_4 rfl rfl ?_
  refine mr_get C 0 1 mc_Mill_cls ml_427 rfl (by decide) (by decide) (fun _ => rfl) rfl md_Mill_nearest_5 ?_
  refine mr_iload_n C 1 md_Mill_nearest_8 rfl rfl ?_
  refine mr_cVNi C (As := [.int a0]) (rest := []) 2 (ms_Flow_isAlive _ E hI _ a0 _ h) mo_Flow_isAlive mi_Flow_isAlive mc_Flow_cls ml_985 (by decide) (fun _ => rfl) rfl rfl (Nat.le_of_ble_eq_true rfl) (Nat.le_of_ble_eq_true rfl) (Nat.le_of_ble_eq_true rfl) md_Mill_nearest_9 (fun r1 u2 h => ?_)
  refine mr_if_eq C md_Mill_nearest_12 rfl (fun hc => ?_) (fun hc => ?_)
  · replace h := h.1 hc
    refine mr_iconst C md_Mill_nearest_27 mk_iconst_m1 ?_
    exact mr_iret C R h md_Mill_nearest_28
  replace h := h.2 hc
  refine mr_aload_n C 0 md_Mill_nearest_15 rfl rfl ?_
  refine mr_get C 0 1 mc_Mill_cls ml_427 rfl (by decide) (by decide) (fun _ => rfl) rfl md_Mill_nearest_16 ?_
  refine mr_getN C 2 5 mc_Flow_cls ml_109 rfl (by decide) (by decide) (fun _ => rfl) rfl md_Mill_nearest_19 ?_
  refine mr_iload_n C 1 md_Mill_nearest_22 rfl rfl ?_
  refine mr_iald C 26 10 (by decide) (fun _ => rfl) h.1 md_Mill_nearest_23 ?_
  replace h := h.2
  refine mr_goto C md_Mill_nearest_24 rfl ?_
  exact mr_iret C R h md_Mill_nearest_28
/-- ValueMill.frontier(II)Z: what it does, as a transformer of what must hold behind it -/
def mw_Mill_frontier (K : Int32 → mz_St → Prop) (a0 : Int32) (a1 : Int32) (s0 : mz_St) : Prop :=
  mw_Mill_look (fun u1 =>
   mw_Flow_isAlive (fun r1 u2 =>
    ((r1 = 0 →
     K 0 u2) ∧
    (¬ r1 = 0 →
     mw_Flow_isAlive (fun r2 u3 =>
      ((r2 = 0 →
       K 0 u3) ∧
      (¬ r2 = 0 →
       vp_in a0 10 ∧
       mw_Mill_isIn (fun r3 u4 =>
        ((r3 = 0 →
         K 0 u4) ∧
        (¬ r3 = 0 →
         K 1 u4))) (mz_rd u3 27 a0) a1 u3))) a1 u2))) a0 u1) s0
set_option maxRecDepth 100000 in
set_option maxHeartbeats 4000000 in
theorem ms_Mill_frontier (l : Launch) (E : mz_En) (hI : mz_Inj E) (K : Int32 → mz_St → Prop) (a0 : Int32) (a1 : Int32) (s0 : mz_St) (h : mw_Mill_frontier K a0 a1 s0) : mz_Ci l E my_Mill_frontier mb_Mill_frontier 3 (some .boolean) (16) (361) [.ref (E.2.1 0), .int a0, .int a1] s0 K := by
  refine mz_cti hI (by decide +kernel) (Nat.le_of_ble_eq_true rfl) (fun X C R => ?_)
  show mz_G E X 3 0 [(0, .ref (E.2.1 0)), (1, .int a0), (2, .int a1)] [] s0
  unfold mw_Mill_frontier at h
  refine mr_aload_n C 0 md_Mill_frontier_0 rfl rfl ?_
  refine mr_cVv C (As := []) (rest := []) 0 (ms_Mill_look _ E hI _  _ h) mo_Mill_look mi_Mill_look mc_Mill_cls ml_563 (by decide) (fun _ => rfl) rfl rfl (Nat.le_of_ble_eq_true rfl) (Nat.le_of_ble_eq_true rfl) (Nat.le_of_ble_eq_true rfl) md_Mill_frontier_1 (fun u1 h => ?_)
  refine mr_aload_n C 0 md_Mill_frontier_4 rfl rfl ?_
  refine mr_get C 0 1 mc_Mill_cls ml_427 rfl (by decide) (by decide) (fun _ => rfl) rfl md_Mill_frontier_5 ?_
  refine mr_iload_n C 1 md_Mill_frontier_8 rfl rfl ?_
  refine mr_cVNi C (As := [.int a0]) (rest := []) 2 (ms_Flow_isAlive _ E hI _ a0 _ h) mo_Flow_isAlive mi_Flow_isAlive mc_Flow_cls ml_985 (by decide) (fun _ => rfl) rfl rfl (Nat.le_of_ble_eq_true rfl) (Nat.le_of_ble_eq_true rfl) (Nat.le_of_ble_eq_true rfl) md_Mill_frontier_9 (fun r1 u2 h => ?_)
  refine mr_if_eq C md_Mill_frontier_12 rfl (fun hc => ?_) (fun hc => ?_)
  · replace h := h.1 hc
    refine mr_iconst C md_Mill_frontier_46 mk_iconst_0 ?_
    exact mr_zret C R mb_0 h md_Mill_frontier_47
  replace h := h.2 hc
  refine mr_aload_n C 0 md_Mill_frontier_15 rfl rfl ?_
  refine mr_get C 0 1 mc_Mill_cls ml_427 rfl (by decide) (by decide) (fun _ => rfl) rfl md_Mill_frontier_16 ?_
  refine mr_iload_n C 2 md_Mill_frontier_19 rfl rfl ?_
  refine mr_cVNi C (As := [.int a1]) (rest := []) 2 (ms_Flow_isAlive _ E hI _ a1 _ h) mo_Flow_isAlive mi_Flow_isAlive mc_Flow_cls ml_985 (by decide) (fun _ => rfl) rfl rfl (Nat.le_of_ble_eq_true rfl) (Nat.le_of_ble_eq_true rfl) (Nat.le_of_ble_eq_true rfl) md_Mill_frontier_20 (fun r2 u3 h => ?_)
  refine mr_if_eq C md_Mill_frontier_23 rfl (fun hc => ?_) (fun hc => ?_)
  · replace h := h.1 hc
    refine mr_iconst C md_Mill_frontier_46 mk_iconst_0 ?_
    exact mr_zret C R mb_0 h md_Mill_frontier_47
  replace h := h.2 hc
  refine mr_aload_n C 0 md_Mill_frontier_26 rfl rfl ?_
  refine mr_get C 0 1 mc_Mill_cls ml_427 rfl (by decide) (by decide) (fun _ => rfl) rfl md_Mill_frontier_27 ?_
  refine mr_getN C 2 6 mc_Flow_cls ml_112 rfl (by decide) (by decide) (fun _ => rfl) rfl md_Mill_frontier_30 ?_
  refine mr_iload_n C 1 md_Mill_frontier_33 rfl rfl ?_
  refine mr_iald C 27 10 (by decide) (fun _ => rfl) h.1 md_Mill_frontier_34 ?_
  replace h := h.2
  refine mr_iload_n C 2 md_Mill_frontier_35 rfl rfl ?_
  refine mr_cSi C (As := [.int (mz_rd u3 27 a0), .int a1]) (rest := []) (ms_Mill_isIn _ E hI _ (mz_rd u3 27 a0) a1 _ h) mo_Mill_isIn mt_Mill_isIn ml_994 rfl rfl (Nat.le_of_ble_eq_true rfl) (Nat.le_of_ble_eq_true rfl) (Nat.le_of_ble_eq_true rfl) md_Mill_frontier_36 (fun r3 u4 h => ?_)
  refine mr_if_eq C md_Mill_frontier_39 rfl (fun hc => ?_) (fun hc => ?_)
  · replace h := h.1 hc
    refine mr_iconst C md_Mill_frontier_46 mk_iconst_0 ?_
    exact mr_zret C R mb_0 h md_Mill_frontier_47
  replace h := h.2 hc
  refine mr_iconst C md_Mill_frontier_42 mk_iconst_1 ?_
  refine mr_goto C md_Mill_frontier_43 rfl ?_
  exact mr_zret C R mb_1 h md_Mill_frontier_47
/-- ValueMill.live(II)Z: what it does, as a transformer of what must hold behind it -/
def mw_Mill_live (K : Int32 → mz_St → Prop) (a0 : Int32) (a1 : Int32) (s0 : mz_St) : Prop :=
  mw_Mill_look (fun u1 =>
   mw_Program_hasBlock (fun r1 u2 =>
    ((r1 = 0 →
     K 0 u2) ∧
    (¬ r1 = 0 →
     mw_Mill_isTemp (fun r2 u3 =>
      ((r2 = 0 →
       K 0 u3) ∧
      (¬ r2 = 0 →
       vp_in a0 10 ∧
       mw_Mill_isIn (fun r3 u4 =>
        ((r3 = 0 →
         K 0 u4) ∧
        (¬ r3 = 0 →
         K 1 u4))) (mz_rd u3 31 a0) a1 u3))) a1 u2))) a0 u1) s0
set_option maxRecDepth 100000 in
set_option maxHeartbeats 4000000 in
theorem ms_Mill_live (l : Launch) (E : mz_En) (hI : mz_Inj E) (K : Int32 → mz_St → Prop) (a0 : Int32) (a1 : Int32) (s0 : mz_St) (h : mw_Mill_live K a0 a1 s0) : mz_Ci l E my_Mill_live mb_Mill_live 3 (some .boolean) (16) (361) [.ref (E.2.1 0), .int a0, .int a1] s0 K := by
  refine mz_cti hI (by decide +kernel) (Nat.le_of_ble_eq_true rfl) (fun X C R => ?_)
  show mz_G E X 3 0 [(0, .ref (E.2.1 0)), (1, .int a0), (2, .int a1)] [] s0
  unfold mw_Mill_live at h
  refine mr_aload_n C 0 md_Mill_live_0 rfl rfl ?_
  refine mr_cVv C (As := []) (rest := []) 0 (ms_Mill_look _ E hI _  _ h) mo_Mill_look mi_Mill_look mc_Mill_cls ml_563 (by decide) (fun _ => rfl) rfl rfl (Nat.le_of_ble_eq_true rfl) (Nat.le_of_ble_eq_true rfl) (Nat.le_of_ble_eq_true rfl) md_Mill_live_1 (fun u1 h => ?_)
  refine mr_aload_n C 0 md_Mill_live_4 rfl rfl ?_
  refine mr_get C 0 0 mc_Mill_cls ml_426 rfl (by decide) (by decide) (fun _ => rfl) rfl md_Mill_live_5 ?_
  refine mr_iload_n C 1 md_Mill_live_8 rfl rfl ?_
  refine mr_cVNi C (As := [.int a0]) (rest := []) 1 (ms_Program_hasBlock _ E hI _ a0 _ h) mo_Program_hasBlock mi_Program_hasBlock mc_Program_cls ml_475 (by decide) (fun _ => rfl) rfl rfl (Nat.le_of_ble_eq_true rfl) (Nat.le_of_ble_eq_true rfl) (Nat.le_of_ble_eq_true rfl) md_Mill_live_9 (fun r1 u2 h => ?_)
  refine mr_if_eq C md_Mill_live_12 rfl (fun hc => ?_) (fun hc => ?_)
  · replace h := h.1 hc
    refine mr_iconst C md_Mill_live_42 mk_iconst_0 ?_
    exact mr_zret C R mb_0 h md_Mill_live_43
  replace h := h.2 hc
  refine mr_iload_n C 2 md_Mill_live_15 rfl rfl ?_
  refine mr_cSi C (As := [.int a1]) (rest := []) (ms_Mill_isTemp _ E hI _ a1 _ h) mo_Mill_isTemp mt_Mill_isTemp ml_482 rfl rfl (Nat.le_of_ble_eq_true rfl) (Nat.le_of_ble_eq_true rfl) (Nat.le_of_ble_eq_true rfl) md_Mill_live_16 (fun r2 u3 h => ?_)
  refine mr_if_eq C md_Mill_live_19 rfl (fun hc => ?_) (fun hc => ?_)
  · replace h := h.1 hc
    refine mr_iconst C md_Mill_live_42 mk_iconst_0 ?_
    exact mr_zret C R mb_0 h md_Mill_live_43
  replace h := h.2 hc
  refine mr_aload_n C 0 md_Mill_live_22 rfl rfl ?_
  refine mr_get C 0 2 mc_Mill_cls ml_428 rfl (by decide) (by decide) (fun _ => rfl) rfl md_Mill_live_23 ?_
  refine mr_getN C 3 4 mc_Lives_cls ml_160 rfl (by decide) (by decide) (fun _ => rfl) rfl md_Mill_live_26 ?_
  refine mr_iload_n C 1 md_Mill_live_29 rfl rfl ?_
  refine mr_iald C 31 10 (by decide) (fun _ => rfl) h.1 md_Mill_live_30 ?_
  replace h := h.2
  refine mr_iload_n C 2 md_Mill_live_31 rfl rfl ?_
  refine mr_cSi C (As := [.int (mz_rd u3 31 a0), .int a1]) (rest := []) (ms_Mill_isIn _ E hI _ (mz_rd u3 31 a0) a1 _ h) mo_Mill_isIn mt_Mill_isIn ml_994 rfl rfl (Nat.le_of_ble_eq_true rfl) (Nat.le_of_ble_eq_true rfl) (Nat.le_of_ble_eq_true rfl) md_Mill_live_32 (fun r3 u4 h => ?_)
  refine mr_if_eq C md_Mill_live_35 rfl (fun hc => ?_) (fun hc => ?_)
  · replace h := h.1 hc
    refine mr_iconst C md_Mill_live_42 mk_iconst_0 ?_
    exact mr_zret C R mb_0 h md_Mill_live_43
  replace h := h.2 hc
  refine mr_iconst C md_Mill_live_38 mk_iconst_1 ?_
  refine mr_goto C md_Mill_live_39 rfl ?_
  exact mr_zret C R mb_1 h md_Mill_live_43
/-- ValueMill.phi(II)Z: what it does, as a transformer of what must hold behind it -/
def mw_Mill_phi (K : Int32 → mz_St → Prop) (a0 : Int32) (a1 : Int32) (s0 : mz_St) : Prop :=
  mw_Mill_look (fun u1 =>
   mw_Program_hasBlock (fun r1 u2 =>
    ((r1 = 0 →
     K 0 u2) ∧
    (¬ r1 = 0 →
     mw_Mill_isTemp (fun r2 u3 =>
      ((r2 = 0 →
       K 0 u3) ∧
      (¬ r2 = 0 →
       vp_in a0 10 ∧
       mw_Mill_isIn (fun r3 u4 =>
        ((r3 = 0 →
         K 0 u4) ∧
        (¬ r3 = 0 →
         K 1 u4))) (mz_rd u3 32 a0) a1 u3))) a1 u2))) a0 u1) s0
set_option maxRecDepth 100000 in
set_option maxHeartbeats 4000000 in
theorem ms_Mill_phi (l : Launch) (E : mz_En) (hI : mz_Inj E) (K : Int32 → mz_St → Prop) (a0 : Int32) (a1 : Int32) (s0 : mz_St) (h : mw_Mill_phi K a0 a1 s0) : mz_Ci l E my_Mill_phi mb_Mill_phi 3 (some .boolean) (16) (361) [.ref (E.2.1 0), .int a0, .int a1] s0 K := by
  refine mz_cti hI (by decide +kernel) (Nat.le_of_ble_eq_true rfl) (fun X C R => ?_)
  show mz_G E X 3 0 [(0, .ref (E.2.1 0)), (1, .int a0), (2, .int a1)] [] s0
  unfold mw_Mill_phi at h
  refine mr_aload_n C 0 md_Mill_phi_0 rfl rfl ?_
  refine mr_cVv C (As := []) (rest := []) 0 (ms_Mill_look _ E hI _  _ h) mo_Mill_look mi_Mill_look mc_Mill_cls ml_563 (by decide) (fun _ => rfl) rfl rfl (Nat.le_of_ble_eq_true rfl) (Nat.le_of_ble_eq_true rfl) (Nat.le_of_ble_eq_true rfl) md_Mill_phi_1 (fun u1 h => ?_)
  refine mr_aload_n C 0 md_Mill_phi_4 rfl rfl ?_
  refine mr_get C 0 0 mc_Mill_cls ml_426 rfl (by decide) (by decide) (fun _ => rfl) rfl md_Mill_phi_5 ?_
  refine mr_iload_n C 1 md_Mill_phi_8 rfl rfl ?_
  refine mr_cVNi C (As := [.int a0]) (rest := []) 1 (ms_Program_hasBlock _ E hI _ a0 _ h) mo_Program_hasBlock mi_Program_hasBlock mc_Program_cls ml_475 (by decide) (fun _ => rfl) rfl rfl (Nat.le_of_ble_eq_true rfl) (Nat.le_of_ble_eq_true rfl) (Nat.le_of_ble_eq_true rfl) md_Mill_phi_9 (fun r1 u2 h => ?_)
  refine mr_if_eq C md_Mill_phi_12 rfl (fun hc => ?_) (fun hc => ?_)
  · replace h := h.1 hc
    refine mr_iconst C md_Mill_phi_42 mk_iconst_0 ?_
    exact mr_zret C R mb_0 h md_Mill_phi_43
  replace h := h.2 hc
  refine mr_iload_n C 2 md_Mill_phi_15 rfl rfl ?_
  refine mr_cSi C (As := [.int a1]) (rest := []) (ms_Mill_isTemp _ E hI _ a1 _ h) mo_Mill_isTemp mt_Mill_isTemp ml_482 rfl rfl (Nat.le_of_ble_eq_true rfl) (Nat.le_of_ble_eq_true rfl) (Nat.le_of_ble_eq_true rfl) md_Mill_phi_16 (fun r2 u3 h => ?_)
  refine mr_if_eq C md_Mill_phi_19 rfl (fun hc => ?_) (fun hc => ?_)
  · replace h := h.1 hc
    refine mr_iconst C md_Mill_phi_42 mk_iconst_0 ?_
    exact mr_zret C R mb_0 h md_Mill_phi_43
  replace h := h.2 hc
  refine mr_aload_n C 0 md_Mill_phi_22 rfl rfl ?_
  refine mr_get C 0 2 mc_Mill_cls ml_428 rfl (by decide) (by decide) (fun _ => rfl) rfl md_Mill_phi_23 ?_
  refine mr_getN C 3 5 mc_Lives_cls ml_164 rfl (by decide) (by decide) (fun _ => rfl) rfl md_Mill_phi_26 ?_
  refine mr_iload_n C 1 md_Mill_phi_29 rfl rfl ?_
  refine mr_iald C 32 10 (by decide) (fun _ => rfl) h.1 md_Mill_phi_30 ?_
  replace h := h.2
  refine mr_iload_n C 2 md_Mill_phi_31 rfl rfl ?_
  refine mr_cSi C (As := [.int (mz_rd u3 32 a0), .int a1]) (rest := []) (ms_Mill_isIn _ E hI _ (mz_rd u3 32 a0) a1 _ h) mo_Mill_isIn mt_Mill_isIn ml_994 rfl rfl (Nat.le_of_ble_eq_true rfl) (Nat.le_of_ble_eq_true rfl) (Nat.le_of_ble_eq_true rfl) md_Mill_phi_32 (fun r3 u4 h => ?_)
  refine mr_if_eq C md_Mill_phi_35 rfl (fun hc => ?_) (fun hc => ?_)
  · replace h := h.1 hc
    refine mr_iconst C md_Mill_phi_42 mk_iconst_0 ?_
    exact mr_zret C R mb_0 h md_Mill_phi_43
  replace h := h.2 hc
  refine mr_iconst C md_Mill_phi_38 mk_iconst_1 ?_
  refine mr_goto C md_Mill_phi_39 rfl ?_
  exact mr_zret C R mb_1 h md_Mill_phi_43
/-- ValueMill.depth(I)I: what it does, as a transformer of what must hold behind it -/
def mw_Mill_depth (K : Int32 → mz_St → Prop) (a0 : Int32) (s0 : mz_St) : Prop :=
  mw_Mill_look (fun u1 =>
   mw_Flow_isAlive (fun r1 u2 =>
    ((r1 = 0 →
     K (-1) u2) ∧
    (¬ r1 = 0 →
     vp_in a0 10 ∧
     K (mz_rd u2 28 a0) u2))) a0 u1) s0
set_option maxRecDepth 100000 in
set_option maxHeartbeats 4000000 in
theorem ms_Mill_depth (l : Launch) (E : mz_En) (hI : mz_Inj E) (K : Int32 → mz_St → Prop) (a0 : Int32) (s0 : mz_St) (h : mw_Mill_depth K a0 s0) : mz_Ci l E my_Mill_depth mb_Mill_depth 2 (some .int) (16) (361) [.ref (E.2.1 0), .int a0] s0 K := by
  refine mz_cti hI (by decide +kernel) (Nat.le_of_ble_eq_true rfl) (fun X C R => ?_)
  show mz_G E X 2 0 [(0, .ref (E.2.1 0)), (1, .int a0)] [] s0
  unfold mw_Mill_depth at h
  refine mr_aload_n C 0 md_Mill_depth_0 rfl rfl ?_
  refine mr_cVv C (As := []) (rest := []) 0 (ms_Mill_look _ E hI _  _ h) mo_Mill_look mi_Mill_look mc_Mill_cls ml_563 (by decide) (fun _ => rfl) rfl rfl (Nat.le_of_ble_eq_true rfl) (Nat.le_of_ble_eq_true rfl) (Nat.le_of_ble_eq_true rfl) md_Mill_depth_1 (fun u1 h => ?_)
  refine mr_aload_n C 0 md_Mill_depth_4 rfl rfl ?_
  refine mr_get C 0 1 mc_Mill_cls ml_427 rfl (by decide) (by decide) (fun _ => rfl) rfl md_Mill_depth_5 ?_
  refine mr_iload_n C 1 md_Mill_depth_8 rfl rfl ?_
  refine mr_cVNi C (As := [.int a0]) (rest := []) 2 (ms_Flow_isAlive _ E hI _ a0 _ h) mo_Flow_isAlive mi_Flow_isAlive mc_Flow_cls ml_985 (by decide) (fun _ => rfl) rfl rfl (Nat.le_of_ble_eq_true rfl) (Nat.le_of_ble_eq_true rfl) (Nat.le_of_ble_eq_true rfl) md_Mill_depth_9 (fun r1 u2 h => ?_)
  refine mr_if_eq C md_Mill_depth_12 rfl (fun hc => ?_) (fun hc => ?_)
  · replace h := h.1 hc
    refine mr_iconst C md_Mill_depth_27 mk_iconst_m1 ?_
    exact mr_iret C R h md_Mill_depth_28
  replace h := h.2 hc
  refine mr_aload_n C 0 md_Mill_depth_15 rfl rfl ?_
  refine mr_get C 0 1 mc_Mill_cls ml_427 rfl (by decide) (by decide) (fun _ => rfl) rfl md_Mill_depth_16 ?_
  refine mr_getN C 2 7 mc_Flow_cls ml_115 rfl (by decide) (by decide) (fun _ => rfl) rfl md_Mill_depth_19 ?_
  refine mr_iload_n C 1 md_Mill_depth_22 rfl rfl ?_
  refine mr_iald C 28 10 (by decide) (fun _ => rfl) h.1 md_Mill_depth_23 ?_
  replace h := h.2
  refine mr_goto C md_Mill_depth_24 rfl ?_
  exact mr_iret C R h md_Mill_depth_28

/-! BEGIN Program: its instructions, what each method does (mw_), that its bytecode does it (ms_): printed -/
theorem md_Program_hasBlock_0 : mz_d mb_Program_hasBlock 0 (.iload_n 1) 1 1 := ⟨by decide +kernel, rfl⟩
theorem md_Program_hasBlock_1 : mz_d mb_Program_hasBlock 1 (.ifCond .lt 15) 3 4 := ⟨by decide +kernel, rfl⟩
theorem md_Program_hasBlock_4 : mz_d mb_Program_hasBlock 4 (.iload_n 1) 1 5 := ⟨by decide +kernel, rfl⟩
theorem md_Program_hasBlock_5 : mz_d mb_Program_hasBlock 5 (.aload_n 0) 1 6 := ⟨by decide +kernel, rfl⟩
theorem md_Program_hasBlock_6 : mz_d mb_Program_hasBlock 6 (.getfield 42) 3 9 := ⟨by decide +kernel, rfl⟩
theorem md_Program_hasBlock_9 : mz_d mb_Program_hasBlock 9 (.if_icmp .ge 7) 3 12 := ⟨by decide +kernel, rfl⟩
theorem md_Program_hasBlock_12 : mz_d mb_Program_hasBlock 12 (.iconst 1) 1 13 := ⟨by decide +kernel, rfl⟩
theorem md_Program_hasBlock_13 : mz_d mb_Program_hasBlock 13 (.goto 4) 3 16 := ⟨by decide +kernel, rfl⟩
theorem md_Program_hasBlock_16 : mz_d mb_Program_hasBlock 16 (.iconst 0) 1 17 := ⟨by decide +kernel, rfl⟩
theorem md_Program_hasBlock_17 : mz_d mb_Program_hasBlock 17 (.ireturn) 1 18 := ⟨by decide +kernel, rfl⟩
theorem md_Program_addOperation_0 : mz_d mb_Program_addOperation 0 (.iload_n 1) 1 1 := ⟨by decide +kernel, rfl⟩
theorem md_Program_addOperation_1 : mz_d mb_Program_addOperation 1 (.bipush 12) 2 3 := ⟨by decide +kernel, rfl⟩
theorem md_Program_addOperation_3 : mz_d mb_Program_addOperation 3 (.imul) 1 4 := ⟨by decide +kernel, rfl⟩
theorem md_Program_addOperation_4 : mz_d mb_Program_addOperation 4 (.aload_n 0) 1 5 := ⟨by decide +kernel, rfl⟩
theorem md_Program_addOperation_5 : mz_d mb_Program_addOperation 5 (.getfield 24) 3 8 := ⟨by decide +kernel, rfl⟩
theorem md_Program_addOperation_8 : mz_d mb_Program_addOperation 8 (.iload_n 1) 1 9 := ⟨by decide +kernel, rfl⟩
theorem md_Program_addOperation_9 : mz_d mb_Program_addOperation 9 (.iaload) 1 10 := ⟨by decide +kernel, rfl⟩
theorem md_Program_addOperation_10 : mz_d mb_Program_addOperation 10 (.iadd) 1 11 := ⟨by decide +kernel, rfl⟩
theorem md_Program_addOperation_11 : mz_d mb_Program_addOperation 11 (.istore 6) 2 13 := ⟨by decide +kernel, rfl⟩
theorem md_Program_addOperation_13 : mz_d mb_Program_addOperation 13 (.aload_n 0) 1 14 := ⟨by decide +kernel, rfl⟩
theorem md_Program_addOperation_14 : mz_d mb_Program_addOperation 14 (.getfield 9) 3 17 := ⟨by decide +kernel, rfl⟩
theorem md_Program_addOperation_17 : mz_d mb_Program_addOperation 17 (.iload 6) 2 19 := ⟨by decide +kernel, rfl⟩
theorem md_Program_addOperation_19 : mz_d mb_Program_addOperation 19 (.iload_n 2) 1 20 := ⟨by decide +kernel, rfl⟩
theorem md_Program_addOperation_20 : mz_d mb_Program_addOperation 20 (.iastore) 1 21 := ⟨by decide +kernel, rfl⟩
theorem md_Program_addOperation_21 : mz_d mb_Program_addOperation 21 (.aload_n 0) 1 22 := ⟨by decide +kernel, rfl⟩
theorem md_Program_addOperation_22 : mz_d mb_Program_addOperation 22 (.getfield 15) 3 25 := ⟨by decide +kernel, rfl⟩
theorem md_Program_addOperation_25 : mz_d mb_Program_addOperation 25 (.iload 6) 2 27 := ⟨by decide +kernel, rfl⟩
theorem md_Program_addOperation_27 : mz_d mb_Program_addOperation 27 (.iload_n 3) 1 28 := ⟨by decide +kernel, rfl⟩
theorem md_Program_addOperation_28 : mz_d mb_Program_addOperation 28 (.iastore) 1 29 := ⟨by decide +kernel, rfl⟩
theorem md_Program_addOperation_29 : mz_d mb_Program_addOperation 29 (.aload_n 0) 1 30 := ⟨by decide +kernel, rfl⟩
theorem md_Program_addOperation_30 : mz_d mb_Program_addOperation 30 (.getfield 18) 3 33 := ⟨by decide +kernel, rfl⟩
theorem md_Program_addOperation_33 : mz_d mb_Program_addOperation 33 (.iload 6) 2 35 := ⟨by decide +kernel, rfl⟩
theorem md_Program_addOperation_35 : mz_d mb_Program_addOperation 35 (.iload 4) 2 37 := ⟨by decide +kernel, rfl⟩
theorem md_Program_addOperation_37 : mz_d mb_Program_addOperation 37 (.iastore) 1 38 := ⟨by decide +kernel, rfl⟩
theorem md_Program_addOperation_38 : mz_d mb_Program_addOperation 38 (.aload_n 0) 1 39 := ⟨by decide +kernel, rfl⟩
theorem md_Program_addOperation_39 : mz_d mb_Program_addOperation 39 (.getfield 21) 3 42 := ⟨by decide +kernel, rfl⟩
theorem md_Program_addOperation_42 : mz_d mb_Program_addOperation 42 (.iload 6) 2 44 := ⟨by decide +kernel, rfl⟩
theorem md_Program_addOperation_44 : mz_d mb_Program_addOperation 44 (.iload 5) 2 46 := ⟨by decide +kernel, rfl⟩
theorem md_Program_addOperation_46 : mz_d mb_Program_addOperation 46 (.iastore) 1 47 := ⟨by decide +kernel, rfl⟩
theorem md_Program_addOperation_47 : mz_d mb_Program_addOperation 47 (.aload_n 0) 1 48 := ⟨by decide +kernel, rfl⟩
theorem md_Program_addOperation_48 : mz_d mb_Program_addOperation 48 (.getfield 24) 3 51 := ⟨by decide +kernel, rfl⟩
theorem md_Program_addOperation_51 : mz_d mb_Program_addOperation 51 (.iload_n 1) 1 52 := ⟨by decide +kernel, rfl⟩
theorem md_Program_addOperation_52 : mz_d mb_Program_addOperation 52 (.dup2) 1 53 := ⟨by decide +kernel, rfl⟩
theorem md_Program_addOperation_53 : mz_d mb_Program_addOperation 53 (.iaload) 1 54 := ⟨by decide +kernel, rfl⟩
theorem md_Program_addOperation_54 : mz_d mb_Program_addOperation 54 (.iconst 1) 1 55 := ⟨by decide +kernel, rfl⟩
theorem md_Program_addOperation_55 : mz_d mb_Program_addOperation 55 (.iadd) 1 56 := ⟨by decide +kernel, rfl⟩
theorem md_Program_addOperation_56 : mz_d mb_Program_addOperation 56 (.iastore) 1 57 := ⟨by decide +kernel, rfl⟩
theorem md_Program_addOperation_57 : mz_d mb_Program_addOperation 57 (.return_) 1 58 := ⟨by decide +kernel, rfl⟩
theorem md_Program_setEnd_0 : mz_d mb_Program_setEnd 0 (.aload_n 0) 1 1 := ⟨by decide +kernel, rfl⟩
theorem md_Program_setEnd_1 : mz_d mb_Program_setEnd 1 (.getfield 27) 3 4 := ⟨by decide +kernel, rfl⟩
theorem md_Program_setEnd_4 : mz_d mb_Program_setEnd 4 (.iload_n 1) 1 5 := ⟨by decide +kernel, rfl⟩
theorem md_Program_setEnd_5 : mz_d mb_Program_setEnd 5 (.iload_n 2) 1 6 := ⟨by decide +kernel, rfl⟩
theorem md_Program_setEnd_6 : mz_d mb_Program_setEnd 6 (.iastore) 1 7 := ⟨by decide +kernel, rfl⟩
theorem md_Program_setEnd_7 : mz_d mb_Program_setEnd 7 (.aload_n 0) 1 8 := ⟨by decide +kernel, rfl⟩
theorem md_Program_setEnd_8 : mz_d mb_Program_setEnd 8 (.getfield 30) 3 11 := ⟨by decide +kernel, rfl⟩
theorem md_Program_setEnd_11 : mz_d mb_Program_setEnd 11 (.iload_n 1) 1 12 := ⟨by decide +kernel, rfl⟩
theorem md_Program_setEnd_12 : mz_d mb_Program_setEnd 12 (.iload_n 3) 1 13 := ⟨by decide +kernel, rfl⟩
theorem md_Program_setEnd_13 : mz_d mb_Program_setEnd 13 (.iastore) 1 14 := ⟨by decide +kernel, rfl⟩
theorem md_Program_setEnd_14 : mz_d mb_Program_setEnd 14 (.return_) 1 15 := ⟨by decide +kernel, rfl⟩
theorem md_Program_setEdges_0 : mz_d mb_Program_setEdges 0 (.aload_n 0) 1 1 := ⟨by decide +kernel, rfl⟩
theorem md_Program_setEdges_1 : mz_d mb_Program_setEdges 1 (.getfield 33) 3 4 := ⟨by decide +kernel, rfl⟩
theorem md_Program_setEdges_4 : mz_d mb_Program_setEdges 4 (.iload_n 1) 1 5 := ⟨by decide +kernel, rfl⟩
theorem md_Program_setEdges_5 : mz_d mb_Program_setEdges 5 (.iload_n 2) 1 6 := ⟨by decide +kernel, rfl⟩
theorem md_Program_setEdges_6 : mz_d mb_Program_setEdges 6 (.iastore) 1 7 := ⟨by decide +kernel, rfl⟩
theorem md_Program_setEdges_7 : mz_d mb_Program_setEdges 7 (.aload_n 0) 1 8 := ⟨by decide +kernel, rfl⟩
theorem md_Program_setEdges_8 : mz_d mb_Program_setEdges 8 (.getfield 36) 3 11 := ⟨by decide +kernel, rfl⟩
theorem md_Program_setEdges_11 : mz_d mb_Program_setEdges 11 (.iload_n 1) 1 12 := ⟨by decide +kernel, rfl⟩
theorem md_Program_setEdges_12 : mz_d mb_Program_setEdges 12 (.iload_n 3) 1 13 := ⟨by decide +kernel, rfl⟩
theorem md_Program_setEdges_13 : mz_d mb_Program_setEdges 13 (.iastore) 1 14 := ⟨by decide +kernel, rfl⟩
theorem md_Program_setEdges_14 : mz_d mb_Program_setEdges 14 (.return_) 1 15 := ⟨by decide +kernel, rfl⟩
theorem md_Program_edges_0 : mz_d mb_Program_edges 0 (.aload_n 0) 1 1 := ⟨by decide +kernel, rfl⟩
theorem md_Program_edges_1 : mz_d mb_Program_edges 1 (.getfield 27) 3 4 := ⟨by decide +kernel, rfl⟩
theorem md_Program_edges_4 : mz_d mb_Program_edges 4 (.iload_n 1) 1 5 := ⟨by decide +kernel, rfl⟩
theorem md_Program_edges_5 : mz_d mb_Program_edges 5 (.iaload) 1 6 := ⟨by decide +kernel, rfl⟩
theorem md_Program_edges_6 : mz_d mb_Program_edges 6 (.ifCond .ne 7) 3 9 := ⟨by decide +kernel, rfl⟩
theorem md_Program_edges_9 : mz_d mb_Program_edges 9 (.iconst 0) 1 10 := ⟨by decide +kernel, rfl⟩
theorem md_Program_edges_10 : mz_d mb_Program_edges 10 (.goto 18) 3 13 := ⟨by decide +kernel, rfl⟩
theorem md_Program_edges_13 : mz_d mb_Program_edges 13 (.aload_n 0) 1 14 := ⟨by decide +kernel, rfl⟩
theorem md_Program_edges_14 : mz_d mb_Program_edges 14 (.getfield 27) 3 17 := ⟨by decide +kernel, rfl⟩
theorem md_Program_edges_17 : mz_d mb_Program_edges 17 (.iload_n 1) 1 18 := ⟨by decide +kernel, rfl⟩
theorem md_Program_edges_18 : mz_d mb_Program_edges 18 (.iaload) 1 19 := ⟨by decide +kernel, rfl⟩
theorem md_Program_edges_19 : mz_d mb_Program_edges 19 (.iconst 1) 1 20 := ⟨by decide +kernel, rfl⟩
theorem md_Program_edges_20 : mz_d mb_Program_edges 20 (.if_icmp .ne 7) 3 23 := ⟨by decide +kernel, rfl⟩
theorem md_Program_edges_23 : mz_d mb_Program_edges 23 (.iconst 1) 1 24 := ⟨by decide +kernel, rfl⟩
theorem md_Program_edges_24 : mz_d mb_Program_edges 24 (.goto 4) 3 27 := ⟨by decide +kernel, rfl⟩
theorem md_Program_edges_27 : mz_d mb_Program_edges 27 (.iconst 2) 1 28 := ⟨by decide +kernel, rfl⟩
theorem md_Program_edges_28 : mz_d mb_Program_edges 28 (.ireturn) 1 29 := ⟨by decide +kernel, rfl⟩
theorem md_Program_target_0 : mz_d mb_Program_target 0 (.iload_n 2) 1 1 := ⟨by decide +kernel, rfl⟩
theorem md_Program_target_1 : mz_d mb_Program_target 1 (.ifCond .ne 12) 3 4 := ⟨by decide +kernel, rfl⟩
theorem md_Program_target_4 : mz_d mb_Program_target 4 (.aload_n 0) 1 5 := ⟨by decide +kernel, rfl⟩
theorem md_Program_target_5 : mz_d mb_Program_target 5 (.getfield 33) 3 8 := ⟨by decide +kernel, rfl⟩
theorem md_Program_target_8 : mz_d mb_Program_target 8 (.iload_n 1) 1 9 := ⟨by decide +kernel, rfl⟩
theorem md_Program_target_9 : mz_d mb_Program_target 9 (.iaload) 1 10 := ⟨by decide +kernel, rfl⟩
theorem md_Program_target_10 : mz_d mb_Program_target 10 (.goto 9) 3 13 := ⟨by decide +kernel, rfl⟩
theorem md_Program_target_13 : mz_d mb_Program_target 13 (.aload_n 0) 1 14 := ⟨by decide +kernel, rfl⟩
theorem md_Program_target_14 : mz_d mb_Program_target 14 (.getfield 36) 3 17 := ⟨by decide +kernel, rfl⟩
theorem md_Program_target_17 : mz_d mb_Program_target 17 (.iload_n 1) 1 18 := ⟨by decide +kernel, rfl⟩
theorem md_Program_target_18 : mz_d mb_Program_target 18 (.iaload) 1 19 := ⟨by decide +kernel, rfl⟩
theorem md_Program_target_19 : mz_d mb_Program_target 19 (.ireturn) 1 20 := ⟨by decide +kernel, rfl⟩
theorem md_Program_endTakesTemp_0 : mz_d mb_Program_endTakesTemp 0 (.aload_n 0) 1 1 := ⟨by decide +kernel, rfl⟩
theorem md_Program_endTakesTemp_1 : mz_d mb_Program_endTakesTemp 1 (.getfield 27) 3 4 := ⟨by decide +kernel, rfl⟩
theorem md_Program_endTakesTemp_4 : mz_d mb_Program_endTakesTemp 4 (.iload_n 1) 1 5 := ⟨by decide +kernel, rfl⟩
theorem md_Program_endTakesTemp_5 : mz_d mb_Program_endTakesTemp 5 (.iaload) 1 6 := ⟨by decide +kernel, rfl⟩
theorem md_Program_endTakesTemp_6 : mz_d mb_Program_endTakesTemp 6 (.iconst 1) 1 7 := ⟨by decide +kernel, rfl⟩
theorem md_Program_endTakesTemp_7 : mz_d mb_Program_endTakesTemp 7 (.if_icmp .eq 7) 3 10 := ⟨by decide +kernel, rfl⟩
theorem md_Program_endTakesTemp_10 : mz_d mb_Program_endTakesTemp 10 (.iconst 1) 1 11 := ⟨by decide +kernel, rfl⟩
theorem md_Program_endTakesTemp_11 : mz_d mb_Program_endTakesTemp 11 (.goto 4) 3 14 := ⟨by decide +kernel, rfl⟩
theorem md_Program_endTakesTemp_14 : mz_d mb_Program_endTakesTemp 14 (.iconst 0) 1 15 := ⟨by decide +kernel, rfl⟩
theorem md_Program_endTakesTemp_15 : mz_d mb_Program_endTakesTemp 15 (.ireturn) 1 16 := ⟨by decide +kernel, rfl⟩
theorem md_Program_takesA_0 : mz_d mb_Program_takesA 0 (.aload_n 0) 1 1 := ⟨by decide +kernel, rfl⟩
theorem md_Program_takesA_1 : mz_d mb_Program_takesA 1 (.getfield 9) 3 4 := ⟨by decide +kernel, rfl⟩
theorem md_Program_takesA_4 : mz_d mb_Program_takesA 4 (.iload_n 1) 1 5 := ⟨by decide +kernel, rfl⟩
theorem md_Program_takesA_5 : mz_d mb_Program_takesA 5 (.iaload) 1 6 := ⟨by decide +kernel, rfl⟩
theorem md_Program_takesA_6 : mz_d mb_Program_takesA 6 (.ifCond .eq 7) 3 9 := ⟨by decide +kernel, rfl⟩
theorem md_Program_takesA_9 : mz_d mb_Program_takesA 9 (.iconst 1) 1 10 := ⟨by decide +kernel, rfl⟩
theorem md_Program_takesA_10 : mz_d mb_Program_takesA 10 (.goto 4) 3 13 := ⟨by decide +kernel, rfl⟩
theorem md_Program_takesA_13 : mz_d mb_Program_takesA 13 (.iconst 0) 1 14 := ⟨by decide +kernel, rfl⟩
theorem md_Program_takesA_14 : mz_d mb_Program_takesA 14 (.ireturn) 1 15 := ⟨by decide +kernel, rfl⟩
theorem md_Program_takesB_0 : mz_d mb_Program_takesB 0 (.aload_n 0) 1 1 := ⟨by decide +kernel, rfl⟩
theorem md_Program_takesB_1 : mz_d mb_Program_takesB 1 (.getfield 9) 3 4 := ⟨by decide +kernel, rfl⟩
theorem md_Program_takesB_4 : mz_d mb_Program_takesB 4 (.iload_n 1) 1 5 := ⟨by decide +kernel, rfl⟩
theorem md_Program_takesB_5 : mz_d mb_Program_takesB 5 (.iaload) 1 6 := ⟨by decide +kernel, rfl⟩
theorem md_Program_takesB_6 : mz_d mb_Program_takesB 6 (.bipush 17) 2 8 := ⟨by decide +kernel, rfl⟩
theorem md_Program_takesB_8 : mz_d mb_Program_takesB 8 (.if_icmp .eq 24) 3 11 := ⟨by decide +kernel, rfl⟩
theorem md_Program_takesB_11 : mz_d mb_Program_takesB 11 (.aload_n 0) 1 12 := ⟨by decide +kernel, rfl⟩
theorem md_Program_takesB_12 : mz_d mb_Program_takesB 12 (.getfield 9) 3 15 := ⟨by decide +kernel, rfl⟩
theorem md_Program_takesB_15 : mz_d mb_Program_takesB 15 (.iload_n 1) 1 16 := ⟨by decide +kernel, rfl⟩
theorem md_Program_takesB_16 : mz_d mb_Program_takesB 16 (.iaload) 1 17 := ⟨by decide +kernel, rfl⟩
theorem md_Program_takesB_17 : mz_d mb_Program_takesB 17 (.iconst 1) 1 18 := ⟨by decide +kernel, rfl⟩
theorem md_Program_takesB_18 : mz_d mb_Program_takesB 18 (.if_icmp .le 18) 3 21 := ⟨by decide +kernel, rfl⟩
theorem md_Program_takesB_21 : mz_d mb_Program_takesB 21 (.aload_n 0) 1 22 := ⟨by decide +kernel, rfl⟩
theorem md_Program_takesB_22 : mz_d mb_Program_takesB 22 (.getfield 9) 3 25 := ⟨by decide +kernel, rfl⟩
theorem md_Program_takesB_25 : mz_d mb_Program_takesB 25 (.iload_n 1) 1 26 := ⟨by decide +kernel, rfl⟩
theorem md_Program_takesB_26 : mz_d mb_Program_takesB 26 (.iaload) 1 27 := ⟨by decide +kernel, rfl⟩
theorem md_Program_takesB_27 : mz_d mb_Program_takesB 27 (.bipush 16) 2 29 := ⟨by decide +kernel, rfl⟩
theorem md_Program_takesB_29 : mz_d mb_Program_takesB 29 (.if_icmp .ge 7) 3 32 := ⟨by decide +kernel, rfl⟩
theorem md_Program_takesB_32 : mz_d mb_Program_takesB 32 (.iconst 1) 1 33 := ⟨by decide +kernel, rfl⟩
theorem md_Program_takesB_33 : mz_d mb_Program_takesB 33 (.goto 4) 3 36 := ⟨by decide +kernel, rfl⟩
theorem md_Program_takesB_36 : mz_d mb_Program_takesB 36 (.iconst 0) 1 37 := ⟨by decide +kernel, rfl⟩
theorem md_Program_takesB_37 : mz_d mb_Program_takesB 37 (.ireturn) 1 38 := ⟨by decide +kernel, rfl⟩
theorem md_Program_makesValue_0 : mz_d mb_Program_makesValue 0 (.aload_n 0) 1 1 := ⟨by decide +kernel, rfl⟩
theorem md_Program_makesValue_1 : mz_d mb_Program_makesValue 1 (.getfield 9) 3 4 := ⟨by decide +kernel, rfl⟩
theorem md_Program_makesValue_4 : mz_d mb_Program_makesValue 4 (.iload_n 1) 1 5 := ⟨by decide +kernel, rfl⟩
theorem md_Program_makesValue_5 : mz_d mb_Program_makesValue 5 (.iaload) 1 6 := ⟨by decide +kernel, rfl⟩
theorem md_Program_makesValue_6 : mz_d mb_Program_makesValue 6 (.bipush 17) 2 8 := ⟨by decide +kernel, rfl⟩
theorem md_Program_makesValue_8 : mz_d mb_Program_makesValue 8 (.if_icmp .eq 7) 3 11 := ⟨by decide +kernel, rfl⟩
theorem md_Program_makesValue_11 : mz_d mb_Program_makesValue 11 (.iconst 1) 1 12 := ⟨by decide +kernel, rfl⟩
theorem md_Program_makesValue_12 : mz_d mb_Program_makesValue 12 (.goto 4) 3 15 := ⟨by decide +kernel, rfl⟩
theorem md_Program_makesValue_15 : mz_d mb_Program_makesValue 15 (.iconst 0) 1 16 := ⟨by decide +kernel, rfl⟩
theorem md_Program_makesValue_16 : mz_d mb_Program_makesValue 16 (.ireturn) 1 17 := ⟨by decide +kernel, rfl⟩
theorem md_Program_usedSet_0 : mz_d mb_Program_usedSet 0 (.aload_n 0) 1 1 := ⟨by decide +kernel, rfl⟩
theorem md_Program_usedSet_1 : mz_d mb_Program_usedSet 1 (.iload_n 1) 1 2 := ⟨by decide +kernel, rfl⟩
theorem md_Program_usedSet_2 : mz_d mb_Program_usedSet 2 (.invokevirtual 46) 3 5 := ⟨by decide +kernel, rfl⟩
theorem md_Program_usedSet_5 : mz_d mb_Program_usedSet 5 (.ifCond .eq 14) 3 8 := ⟨by decide +kernel, rfl⟩
theorem md_Program_usedSet_8 : mz_d mb_Program_usedSet 8 (.iconst 1) 1 9 := ⟨by decide +kernel, rfl⟩
theorem md_Program_usedSet_9 : mz_d mb_Program_usedSet 9 (.aload_n 0) 1 10 := ⟨by decide +kernel, rfl⟩
theorem md_Program_usedSet_10 : mz_d mb_Program_usedSet 10 (.getfield 18) 3 13 := ⟨by decide +kernel, rfl⟩
theorem md_Program_usedSet_13 : mz_d mb_Program_usedSet 13 (.iload_n 1) 1 14 := ⟨by decide +kernel, rfl⟩
theorem md_Program_usedSet_14 : mz_d mb_Program_usedSet 14 (.iaload) 1 15 := ⟨by decide +kernel, rfl⟩
theorem md_Program_usedSet_15 : mz_d mb_Program_usedSet 15 (.ishl) 1 16 := ⟨by decide +kernel, rfl⟩
theorem md_Program_usedSet_16 : mz_d mb_Program_usedSet 16 (.goto 4) 3 19 := ⟨by decide +kernel, rfl⟩
theorem md_Program_usedSet_19 : mz_d mb_Program_usedSet 19 (.iconst 0) 1 20 := ⟨by decide +kernel, rfl⟩
theorem md_Program_usedSet_20 : mz_d mb_Program_usedSet 20 (.aload_n 0) 1 21 := ⟨by decide +kernel, rfl⟩
theorem md_Program_usedSet_21 : mz_d mb_Program_usedSet 21 (.iload_n 1) 1 22 := ⟨by decide +kernel, rfl⟩
theorem md_Program_usedSet_22 : mz_d mb_Program_usedSet 22 (.invokevirtual 50) 3 25 := ⟨by decide +kernel, rfl⟩
theorem md_Program_usedSet_25 : mz_d mb_Program_usedSet 25 (.ifCond .eq 14) 3 28 := ⟨by decide +kernel, rfl⟩
theorem md_Program_usedSet_28 : mz_d mb_Program_usedSet 28 (.iconst 1) 1 29 := ⟨by decide +kernel, rfl⟩
theorem md_Program_usedSet_29 : mz_d mb_Program_usedSet 29 (.aload_n 0) 1 30 := ⟨by decide +kernel, rfl⟩
theorem md_Program_usedSet_30 : mz_d mb_Program_usedSet 30 (.getfield 21) 3 33 := ⟨by decide +kernel, rfl⟩
theorem md_Program_usedSet_33 : mz_d mb_Program_usedSet 33 (.iload_n 1) 1 34 := ⟨by decide +kernel, rfl⟩
theorem md_Program_usedSet_34 : mz_d mb_Program_usedSet 34 (.iaload) 1 35 := ⟨by decide +kernel, rfl⟩
theorem md_Program_usedSet_35 : mz_d mb_Program_usedSet 35 (.ishl) 1 36 := ⟨by decide +kernel, rfl⟩
theorem md_Program_usedSet_36 : mz_d mb_Program_usedSet 36 (.goto 4) 3 39 := ⟨by decide +kernel, rfl⟩
theorem md_Program_usedSet_39 : mz_d mb_Program_usedSet 39 (.iconst 0) 1 40 := ⟨by decide +kernel, rfl⟩
theorem md_Program_usedSet_40 : mz_d mb_Program_usedSet 40 (.ior) 1 41 := ⟨by decide +kernel, rfl⟩
theorem md_Program_usedSet_41 : mz_d mb_Program_usedSet 41 (.ireturn) 1 42 := ⟨by decide +kernel, rfl⟩
theorem md_Program_madeSet_0 : mz_d mb_Program_madeSet 0 (.aload_n 0) 1 1 := ⟨by decide +kernel, rfl⟩
theorem md_Program_madeSet_1 : mz_d mb_Program_madeSet 1 (.iload_n 1) 1 2 := ⟨by decide +kernel, rfl⟩
theorem md_Program_madeSet_2 : mz_d mb_Program_madeSet 2 (.invokevirtual 53) 3 5 := ⟨by decide +kernel, rfl⟩
theorem md_Program_madeSet_5 : mz_d mb_Program_madeSet 5 (.ifCond .eq 14) 3 8 := ⟨by decide +kernel, rfl⟩
theorem md_Program_madeSet_8 : mz_d mb_Program_madeSet 8 (.iconst 1) 1 9 := ⟨by decide +kernel, rfl⟩
theorem md_Program_madeSet_9 : mz_d mb_Program_madeSet 9 (.aload_n 0) 1 10 := ⟨by decide +kernel, rfl⟩
theorem md_Program_madeSet_10 : mz_d mb_Program_madeSet 10 (.getfield 15) 3 13 := ⟨by decide +kernel, rfl⟩
theorem md_Program_madeSet_13 : mz_d mb_Program_madeSet 13 (.iload_n 1) 1 14 := ⟨by decide +kernel, rfl⟩
theorem md_Program_madeSet_14 : mz_d mb_Program_madeSet 14 (.iaload) 1 15 := ⟨by decide +kernel, rfl⟩
theorem md_Program_madeSet_15 : mz_d mb_Program_madeSet 15 (.ishl) 1 16 := ⟨by decide +kernel, rfl⟩
theorem md_Program_madeSet_16 : mz_d mb_Program_madeSet 16 (.goto 4) 3 19 := ⟨by decide +kernel, rfl⟩
theorem md_Program_madeSet_19 : mz_d mb_Program_madeSet 19 (.iconst 0) 1 20 := ⟨by decide +kernel, rfl⟩
theorem md_Program_madeSet_20 : mz_d mb_Program_madeSet 20 (.ireturn) 1 21 := ⟨by decide +kernel, rfl⟩
theorem md_Program_usedAtEndSet_0 : mz_d mb_Program_usedAtEndSet 0 (.aload_n 0) 1 1 := ⟨by decide +kernel, rfl⟩
theorem md_Program_usedAtEndSet_1 : mz_d mb_Program_usedAtEndSet 1 (.iload_n 1) 1 2 := ⟨by decide +kernel, rfl⟩
theorem md_Program_usedAtEndSet_2 : mz_d mb_Program_usedAtEndSet 2 (.invokevirtual 56) 3 5 := ⟨by decide +kernel, rfl⟩
theorem md_Program_usedAtEndSet_5 : mz_d mb_Program_usedAtEndSet 5 (.ifCond .eq 14) 3 8 := ⟨by decide +kernel, rfl⟩
theorem md_Program_usedAtEndSet_8 : mz_d mb_Program_usedAtEndSet 8 (.iconst 1) 1 9 := ⟨by decide +kernel, rfl⟩
theorem md_Program_usedAtEndSet_9 : mz_d mb_Program_usedAtEndSet 9 (.aload_n 0) 1 10 := ⟨by decide +kernel, rfl⟩
theorem md_Program_usedAtEndSet_10 : mz_d mb_Program_usedAtEndSet 10 (.getfield 30) 3 13 := ⟨by decide +kernel, rfl⟩
theorem md_Program_usedAtEndSet_13 : mz_d mb_Program_usedAtEndSet 13 (.iload_n 1) 1 14 := ⟨by decide +kernel, rfl⟩
theorem md_Program_usedAtEndSet_14 : mz_d mb_Program_usedAtEndSet 14 (.iaload) 1 15 := ⟨by decide +kernel, rfl⟩
theorem md_Program_usedAtEndSet_15 : mz_d mb_Program_usedAtEndSet 15 (.ishl) 1 16 := ⟨by decide +kernel, rfl⟩
theorem md_Program_usedAtEndSet_16 : mz_d mb_Program_usedAtEndSet 16 (.goto 4) 3 19 := ⟨by decide +kernel, rfl⟩
theorem md_Program_usedAtEndSet_19 : mz_d mb_Program_usedAtEndSet 19 (.iconst 0) 1 20 := ⟨by decide +kernel, rfl⟩
theorem md_Program_usedAtEndSet_20 : mz_d mb_Program_usedAtEndSet 20 (.ireturn) 1 21 := ⟨by decide +kernel, rfl⟩
/-- ValueMill$Program.hasBlock(I)Z: what it does, as a transformer of what must hold behind it -/
def mw_Program_hasBlock (K : Int32 → mz_St → Prop) (a0 : Int32) (s0 : mz_St) : Prop :=
  ((a0 < 0 →
   K 0 s0) ∧
  (¬ a0 < 0 →
   (((s0 1003 0) ≤ a0 →
    K 0 s0) ∧
   (¬ (s0 1003 0) ≤ a0 →
    K 1 s0))))
set_option maxRecDepth 100000 in
set_option maxHeartbeats 4000000 in
theorem ms_Program_hasBlock (l : Launch) (E : mz_En) (hI : mz_Inj E) (K : Int32 → mz_St → Prop) (a0 : Int32) (s0 : mz_St) (h : mw_Program_hasBlock K a0 s0) : mz_Ci l E my_Program_hasBlock mb_Program_hasBlock 2 (some .boolean) (0) (0) [.ref (E.2.1 1), .int a0] s0 K := by
  refine mz_cti hI (by decide +kernel) (Nat.le_of_ble_eq_true rfl) (fun X C R => ?_)
  show mz_G E X 2 0 [(0, .ref (E.2.1 1)), (1, .int a0)] [] s0
  unfold mw_Program_hasBlock at h
  refine mr_iload_n C 1 md_Program_hasBlock_0 rfl rfl ?_
  refine mr_if_lt C md_Program_hasBlock_1 rfl (fun hc => ?_) (fun hc => ?_)
  · replace h := h.1 hc
    refine mr_iconst C md_Program_hasBlock_16 mk_iconst_0 ?_
    exact mr_zret C R mb_0 h md_Program_hasBlock_17
  replace h := h.2 hc
  refine mr_iload_n C 1 md_Program_hasBlock_4 rfl rfl ?_
  refine mr_aload_n C 0 md_Program_hasBlock_5 rfl rfl ?_
  refine mr_get C 1 10 mc_Program_cls ml_61 rfl (by decide) (by decide) (fun _ => rfl) rfl md_Program_hasBlock_6 ?_
  refine mr_icmp_ge C md_Program_hasBlock_9 rfl (fun hc => ?_) (fun hc => ?_)
  · replace h := h.1 hc
    refine mr_iconst C md_Program_hasBlock_16 mk_iconst_0 ?_
    exact mr_zret C R mb_0 h md_Program_hasBlock_17
  replace h := h.2 hc
  refine mr_iconst C md_Program_hasBlock_12 mk_iconst_1 ?_
  refine mr_goto C md_Program_hasBlock_13 rfl ?_
  exact mr_zret C R mb_1 h md_Program_hasBlock_17
/-- ValueMill$Program.addOperation(IIIII)V: what it does, as a transformer of what must hold behind it -/
def mw_Program_addOperation (K : mz_St → Prop) (a0 : Int32) (a1 : Int32) (a2 : Int32) (a3 : Int32) (a4 : Int32) (s0 : mz_St) : Prop :=
  vp_in a0 10 ∧
  vp_in ((a0 * 12) + (mz_rd s0 16 a0)) 120 ∧
  vp_in ((a0 * 12) + (mz_rd s0 16 a0)) 120 ∧
  vp_in ((a0 * 12) + (mz_rd s0 16 a0)) 120 ∧
  vp_in ((a0 * 12) + (mz_rd s0 16 a0)) 120 ∧
  vp_in a0 10 ∧
  vp_in a0 10 ∧
  K (mz_wr (mz_wr (mz_wr (mz_wr (mz_wr s0 12 ((a0 * 12) + (mz_rd s0 16 a0)) a1) 13 ((a0 * 12) + (mz_rd s0 16 a0)) a2) 14 ((a0 * 12) + (mz_rd s0 16 a0)) a3) 15 ((a0 * 12) + (mz_rd s0 16 a0)) a4) 16 a0 ((mz_rd (mz_wr (mz_wr (mz_wr (mz_wr s0 12 ((a0 * 12) + (mz_rd s0 16 a0)) a1) 13 ((a0 * 12) + (mz_rd s0 16 a0)) a2) 14 ((a0 * 12) + (mz_rd s0 16 a0)) a3) 15 ((a0 * 12) + (mz_rd s0 16 a0)) a4) 16 a0) + 1))
set_option maxRecDepth 100000 in
set_option maxHeartbeats 4000000 in
theorem ms_Program_addOperation (l : Launch) (E : mz_En) (hI : mz_Inj E) (K : mz_St → Prop) (a0 : Int32) (a1 : Int32) (a2 : Int32) (a3 : Int32) (a4 : Int32) (s0 : mz_St) (h : mw_Program_addOperation K a0 a1 a2 a3 a4 s0) : mz_Cv l E my_Program_addOperation mb_Program_addOperation 7 (0) (0) [.ref (E.2.1 1), .int a0, .int a1, .int a2, .int a3, .int a4] s0 K := by
  refine mz_ctv hI (by decide +kernel) (Nat.le_of_ble_eq_true rfl) (fun X C R => ?_)
  show mz_G E X 7 0 [(0, .ref (E.2.1 1)), (1, .int a0), (2, .int a1), (3, .int a2), (4, .int a3), (5, .int a4)] [] s0
  unfold mw_Program_addOperation at h
  refine mr_iload_n C 1 md_Program_addOperation_0 rfl rfl ?_
  refine mr_bipush C md_Program_addOperation_1 mk_bipush_12 ?_
  refine mr_imul C md_Program_addOperation_3 ?_
  refine mr_aload_n C 0 md_Program_addOperation_4 rfl rfl ?_
  refine mr_get C 1 4 mc_Program_cls ml_43 rfl (by decide) (by decide) (fun _ => rfl) rfl md_Program_addOperation_5 ?_
  refine mr_iload_n C 1 md_Program_addOperation_8 rfl rfl ?_
  refine mr_iald C 16 10 (by decide) (fun _ => rfl) h.1 md_Program_addOperation_9 ?_
  replace h := h.2
  refine mr_iadd C md_Program_addOperation_10 ?_
  refine mr_istore C (L' := [(6, .int ((a0 * 12) + (mz_rd s0 16 a0))), (0, .ref (E.2.1 1)), (1, .int a0), (2, .int a1), (3, .int a2), (4, .int a3), (5, .int a4)]) md_Program_addOperation_11 (Nat.le_of_ble_eq_true rfl) rfl ?_
  refine mr_aload_n C 1 md_Program_addOperation_13 rfl rfl ?_
  refine mr_get C 1 0 mc_Program_cls ml_29 rfl (by decide) (by decide) (fun _ => rfl) rfl md_Program_addOperation_14 ?_
  refine mr_iload C 0 md_Program_addOperation_17 rfl ?_
  refine mr_iload_n C 3 md_Program_addOperation_19 rfl rfl ?_
  refine mr_iast C 12 120 (by decide) (by decide) (fun _ _ => rfl) h.1 md_Program_addOperation_20 ?_
  replace h := h.2
  refine mr_aload_n C 1 md_Program_addOperation_21 rfl rfl ?_
  refine mr_get C 1 1 mc_Program_cls ml_32 rfl (by decide) (by decide) (fun _ => rfl) rfl md_Program_addOperation_22 ?_
  refine mr_iload C 0 md_Program_addOperation_25 rfl ?_
  refine mr_iload_n C 4 md_Program_addOperation_27 rfl rfl ?_
  refine mr_iast C 13 120 (by decide) (by decide) (fun _ _ => rfl) h.1 md_Program_addOperation_28 ?_
  replace h := h.2
  refine mr_aload_n C 1 md_Program_addOperation_29 rfl rfl ?_
  refine mr_get C 1 2 mc_Program_cls ml_36 rfl (by decide) (by decide) (fun _ => rfl) rfl md_Program_addOperation_30 ?_
  refine mr_iload C 0 md_Program_addOperation_33 rfl ?_
  refine mr_iload C 5 md_Program_addOperation_35 rfl ?_
  refine mr_iast C 14 120 (by decide) (by decide) (fun _ _ => rfl) h.1 md_Program_addOperation_37 ?_
  replace h := h.2
  refine mr_aload_n C 1 md_Program_addOperation_38 rfl rfl ?_
  refine mr_get C 1 3 mc_Program_cls ml_40 rfl (by decide) (by decide) (fun _ => rfl) rfl md_Program_addOperation_39 ?_
  refine mr_iload C 0 md_Program_addOperation_42 rfl ?_
  refine mr_iload C 6 md_Program_addOperation_44 rfl ?_
  refine mr_iast C 15 120 (by decide) (by decide) (fun _ _ => rfl) h.1 md_Program_addOperation_46 ?_
  replace h := h.2
  refine mr_aload_n C 1 md_Program_addOperation_47 rfl rfl ?_
  refine mr_get C 1 4 mc_Program_cls ml_43 rfl (by decide) (by decide) (fun _ => rfl) rfl md_Program_addOperation_48 ?_
  refine mr_iload_n C 2 md_Program_addOperation_51 rfl rfl ?_
  refine mr_dup2 C md_Program_addOperation_52 rfl rfl ?_
  refine mr_iald C 16 10 (by decide) (fun _ => rfl) h.1 md_Program_addOperation_53 ?_
  replace h := h.2
  refine mr_iconst C md_Program_addOperation_54 mk_iconst_1 ?_
  refine mr_iadd C md_Program_addOperation_55 ?_
  refine mr_iast C 16 10 (by decide) (by decide) (fun _ _ => rfl) h.1 md_Program_addOperation_56 ?_
  replace h := h.2
  exact mr_vret C R h md_Program_addOperation_57
/-- ValueMill$Program.setEnd(III)V: what it does, as a transformer of what must hold behind it -/
def mw_Program_setEnd (K : mz_St → Prop) (a0 : Int32) (a1 : Int32) (a2 : Int32) (s0 : mz_St) : Prop :=
  vp_in a0 10 ∧
  vp_in a0 10 ∧
  K (mz_wr (mz_wr s0 17 a0 a1) 18 a0 a2)
set_option maxRecDepth 100000 in
set_option maxHeartbeats 4000000 in
theorem ms_Program_setEnd (l : Launch) (E : mz_En) (hI : mz_Inj E) (K : mz_St → Prop) (a0 : Int32) (a1 : Int32) (a2 : Int32) (s0 : mz_St) (h : mw_Program_setEnd K a0 a1 a2 s0) : mz_Cv l E my_Program_setEnd mb_Program_setEnd 4 (0) (0) [.ref (E.2.1 1), .int a0, .int a1, .int a2] s0 K := by
  refine mz_ctv hI (by decide +kernel) (Nat.le_of_ble_eq_true rfl) (fun X C R => ?_)
  show mz_G E X 4 0 [(0, .ref (E.2.1 1)), (1, .int a0), (2, .int a1), (3, .int a2)] [] s0
  unfold mw_Program_setEnd at h
  refine mr_aload_n C 0 md_Program_setEnd_0 rfl rfl ?_
  refine mr_get C 1 5 mc_Program_cls ml_50 rfl (by decide) (by decide) (fun _ => rfl) rfl md_Program_setEnd_1 ?_
  refine mr_iload_n C 1 md_Program_setEnd_4 rfl rfl ?_
  refine mr_iload_n C 2 md_Program_setEnd_5 rfl rfl ?_
  refine mr_iast C 17 10 (by decide) (by decide) (fun _ _ => rfl) h.1 md_Program_setEnd_6 ?_
  replace h := h.2
  refine mr_aload_n C 0 md_Program_setEnd_7 rfl rfl ?_
  refine mr_get C 1 6 mc_Program_cls ml_52 rfl (by decide) (by decide) (fun _ => rfl) rfl md_Program_setEnd_8 ?_
  refine mr_iload_n C 1 md_Program_setEnd_11 rfl rfl ?_
  refine mr_iload_n C 3 md_Program_setEnd_12 rfl rfl ?_
  refine mr_iast C 18 10 (by decide) (by decide) (fun _ _ => rfl) h.1 md_Program_setEnd_13 ?_
  replace h := h.2
  exact mr_vret C R h md_Program_setEnd_14
/-- ValueMill$Program.setEdges(III)V: what it does, as a transformer of what must hold behind it -/
def mw_Program_setEdges (K : mz_St → Prop) (a0 : Int32) (a1 : Int32) (a2 : Int32) (s0 : mz_St) : Prop :=
  vp_in a0 10 ∧
  vp_in a0 10 ∧
  K (mz_wr (mz_wr s0 19 a0 a1) 20 a0 a2)
set_option maxRecDepth 100000 in
set_option maxHeartbeats 4000000 in
theorem ms_Program_setEdges (l : Launch) (E : mz_En) (hI : mz_Inj E) (K : mz_St → Prop) (a0 : Int32) (a1 : Int32) (a2 : Int32) (s0 : mz_St) (h : mw_Program_setEdges K a0 a1 a2 s0) : mz_Cv l E my_Program_setEdges mb_Program_setEdges 4 (0) (0) [.ref (E.2.1 1), .int a0, .int a1, .int a2] s0 K := by
  refine mz_ctv hI (by decide +kernel) (Nat.le_of_ble_eq_true rfl) (fun X C R => ?_)
  show mz_G E X 4 0 [(0, .ref (E.2.1 1)), (1, .int a0), (2, .int a1), (3, .int a2)] [] s0
  unfold mw_Program_setEdges at h
  refine mr_aload_n C 0 md_Program_setEdges_0 rfl rfl ?_
  refine mr_get C 1 7 mc_Program_cls ml_55 rfl (by decide) (by decide) (fun _ => rfl) rfl md_Program_setEdges_1 ?_
  refine mr_iload_n C 1 md_Program_setEdges_4 rfl rfl ?_
  refine mr_iload_n C 2 md_Program_setEdges_5 rfl rfl ?_
  refine mr_iast C 19 10 (by decide) (by decide) (fun _ _ => rfl) h.1 md_Program_setEdges_6 ?_
  replace h := h.2
  refine mr_aload_n C 0 md_Program_setEdges_7 rfl rfl ?_
  refine mr_get C 1 8 mc_Program_cls ml_56 rfl (by decide) (by decide) (fun _ => rfl) rfl md_Program_setEdges_8 ?_
  refine mr_iload_n C 1 md_Program_setEdges_11 rfl rfl ?_
  refine mr_iload_n C 3 md_Program_setEdges_12 rfl rfl ?_
  refine mr_iast C 20 10 (by decide) (by decide) (fun _ _ => rfl) h.1 md_Program_setEdges_13 ?_
  replace h := h.2
  exact mr_vret C R h md_Program_setEdges_14
/-- ValueMill$Program.edges(I)I: what it does, as a transformer of what must hold behind it -/
def mw_Program_edges (K : Int32 → mz_St → Prop) (a0 : Int32) (s0 : mz_St) : Prop :=
  vp_in a0 10 ∧
  ((¬ (mz_rd s0 17 a0) = 0 →
   vp_in a0 10 ∧
   ((¬ (mz_rd s0 17 a0) = 1 →
    K 2 s0) ∧
   ((mz_rd s0 17 a0) = 1 →
    K 1 s0))) ∧
  ((mz_rd s0 17 a0) = 0 →
   K 0 s0))
set_option maxRecDepth 100000 in
set_option maxHeartbeats 4000000 in
theorem ms_Program_edges (l : Launch) (E : mz_En) (hI : mz_Inj E) (K : Int32 → mz_St → Prop) (a0 : Int32) (s0 : mz_St) (h : mw_Program_edges K a0 s0) : mz_Ci l E my_Program_edges mb_Program_edges 2 (some .int) (0) (0) [.ref (E.2.1 1), .int a0] s0 K := by
  refine mz_cti hI (by decide +kernel) (Nat.le_of_ble_eq_true rfl) (fun X C R => ?_)
  show mz_G E X 2 0 [(0, .ref (E.2.1 1)), (1, .int a0)] [] s0
  unfold mw_Program_edges at h
  refine mr_aload_n C 0 md_Program_edges_0 rfl rfl ?_
  refine mr_get C 1 5 mc_Program_cls ml_50 rfl (by decide) (by decide) (fun _ => rfl) rfl md_Program_edges_1 ?_
  refine mr_iload_n C 1 md_Program_edges_4 rfl rfl ?_
  refine mr_iald C 17 10 (by decide) (fun _ => rfl) h.1 md_Program_edges_5 ?_
  replace h := h.2
  refine mr_if_ne C md_Program_edges_6 rfl (fun hc => ?_) (fun hc => ?_)
  · replace h := h.1 hc
    refine mr_aload_n C 0 md_Program_edges_13 rfl rfl ?_
    refine mr_get C 1 5 mc_Program_cls ml_50 rfl (by decide) (by decide) (fun _ => rfl) rfl md_Program_edges_14 ?_
    refine mr_iload_n C 1 md_Program_edges_17 rfl rfl ?_
    refine mr_iald C 17 10 (by decide) (fun _ => rfl) h.1 md_Program_edges_18 ?_
    replace h := h.2
    refine mr_iconst C md_Program_edges_19 mk_iconst_1 ?_
    refine mr_icmp_ne C md_Program_edges_20 rfl (fun hc => ?_) (fun hc => ?_)
    · replace h := h.1 hc
      refine mr_iconst C md_Program_edges_27 mk_iconst_2 ?_
      exact mr_iret C R h md_Program_edges_28
    replace h := h.2 hc
    refine mr_iconst C md_Program_edges_23 mk_iconst_1 ?_
    refine mr_goto C md_Program_edges_24 rfl ?_
    exact mr_iret C R h md_Program_edges_28
  replace h := h.2 hc
  refine mr_iconst C md_Program_edges_9 mk_iconst_0 ?_
  refine mr_goto C md_Program_edges_10 rfl ?_
  exact mr_iret C R h md_Program_edges_28
/-- ValueMill$Program.target(II)I: what it does, as a transformer of what must hold behind it -/
def mw_Program_target (K : Int32 → mz_St → Prop) (a0 : Int32) (a1 : Int32) (s0 : mz_St) : Prop :=
  ((¬ a1 = 0 →
   vp_in a0 10 ∧
   K (mz_rd s0 20 a0) s0) ∧
  (a1 = 0 →
   vp_in a0 10 ∧
   K (mz_rd s0 19 a0) s0))
set_option maxRecDepth 100000 in
set_option maxHeartbeats 4000000 in
theorem ms_Program_target (l : Launch) (E : mz_En) (hI : mz_Inj E) (K : Int32 → mz_St → Prop) (a0 : Int32) (a1 : Int32) (s0 : mz_St) (h : mw_Program_target K a0 a1 s0) : mz_Ci l E my_Program_target mb_Program_target 3 (some .int) (0) (0) [.ref (E.2.1 1), .int a0, .int a1] s0 K := by
  refine mz_cti hI (by decide +kernel) (Nat.le_of_ble_eq_true rfl) (fun X C R => ?_)
  show mz_G E X 3 0 [(0, .ref (E.2.1 1)), (1, .int a0), (2, .int a1)] [] s0
  unfold mw_Program_target at h
  refine mr_iload_n C 2 md_Program_target_0 rfl rfl ?_
  refine mr_if_ne C md_Program_target_1 rfl (fun hc => ?_) (fun hc => ?_)
  · replace h := h.1 hc
    refine mr_aload_n C 0 md_Program_target_13 rfl rfl ?_
    refine mr_get C 1 8 mc_Program_cls ml_56 rfl (by decide) (by decide) (fun _ => rfl) rfl md_Program_target_14 ?_
    refine mr_iload_n C 1 md_Program_target_17 rfl rfl ?_
    refine mr_iald C 20 10 (by decide) (fun _ => rfl) h.1 md_Program_target_18 ?_
    replace h := h.2
    exact mr_iret C R h md_Program_target_19
  replace h := h.2 hc
  refine mr_aload_n C 0 md_Program_target_4 rfl rfl ?_
  refine mr_get C 1 7 mc_Program_cls ml_55 rfl (by decide) (by decide) (fun _ => rfl) rfl md_Program_target_5 ?_
  refine mr_iload_n C 1 md_Program_target_8 rfl rfl ?_
  refine mr_iald C 19 10 (by decide) (fun _ => rfl) h.1 md_Program_target_9 ?_
  replace h := h.2
  refine mr_goto C md_Program_target_10 rfl ?_
  exact mr_iret C R h md_Program_target_19
/-- ValueMill$Program.endTakesTemp(I)Z: what it does, as a transformer of what must hold behind it -/
def mw_Program_endTakesTemp (K : Int32 → mz_St → Prop) (a0 : Int32) (s0 : mz_St) : Prop :=
  vp_in a0 10 ∧
  (((mz_rd s0 17 a0) = 1 →
   K 0 s0) ∧
  (¬ (mz_rd s0 17 a0) = 1 →
   K 1 s0))
set_option maxRecDepth 100000 in
set_option maxHeartbeats 4000000 in
theorem ms_Program_endTakesTemp (l : Launch) (E : mz_En) (hI : mz_Inj E) (K : Int32 → mz_St → Prop) (a0 : Int32) (s0 : mz_St) (h : mw_Program_endTakesTemp K a0 s0) : mz_Ci l E my_Program_endTakesTemp mb_Program_endTakesTemp 2 (some .boolean) (0) (0) [.ref (E.2.1 1), .int a0] s0 K := by
  refine mz_cti hI (by decide +kernel) (Nat.le_of_ble_eq_true rfl) (fun X C R => ?_)
  show mz_G E X 2 0 [(0, .ref (E.2.1 1)), (1, .int a0)] [] s0
  unfold mw_Program_endTakesTemp at h
  refine mr_aload_n C 0 md_Program_endTakesTemp_0 rfl rfl ?_
  refine mr_get C 1 5 mc_Program_cls ml_50 rfl (by decide) (by decide) (fun _ => rfl) rfl md_Program_endTakesTemp_1 ?_
  refine mr_iload_n C 1 md_Program_endTakesTemp_4 rfl rfl ?_
  refine mr_iald C 17 10 (by decide) (fun _ => rfl) h.1 md_Program_endTakesTemp_5 ?_
  replace h := h.2
  refine mr_iconst C md_Program_endTakesTemp_6 mk_iconst_1 ?_
  refine mr_icmp_eq C md_Program_endTakesTemp_7 rfl (fun hc => ?_) (fun hc => ?_)
  · replace h := h.1 hc
    refine mr_iconst C md_Program_endTakesTemp_14 mk_iconst_0 ?_
    exact mr_zret C R mb_0 h md_Program_endTakesTemp_15
  replace h := h.2 hc
  refine mr_iconst C md_Program_endTakesTemp_10 mk_iconst_1 ?_
  refine mr_goto C md_Program_endTakesTemp_11 rfl ?_
  exact mr_zret C R mb_1 h md_Program_endTakesTemp_15
/-- ValueMill$Program.takesA(I)Z: what it does, as a transformer of what must hold behind it -/
def mw_Program_takesA (K : Int32 → mz_St → Prop) (a0 : Int32) (s0 : mz_St) : Prop :=
  vp_in a0 120 ∧
  (((mz_rd s0 12 a0) = 0 →
   K 0 s0) ∧
  (¬ (mz_rd s0 12 a0) = 0 →
   K 1 s0))
set_option maxRecDepth 100000 in
set_option maxHeartbeats 4000000 in
theorem ms_Program_takesA (l : Launch) (E : mz_En) (hI : mz_Inj E) (K : Int32 → mz_St → Prop) (a0 : Int32) (s0 : mz_St) (h : mw_Program_takesA K a0 s0) : mz_Ci l E my_Program_takesA mb_Program_takesA 2 (some .boolean) (0) (0) [.ref (E.2.1 1), .int a0] s0 K := by
  refine mz_cti hI (by decide +kernel) (Nat.le_of_ble_eq_true rfl) (fun X C R => ?_)
  show mz_G E X 2 0 [(0, .ref (E.2.1 1)), (1, .int a0)] [] s0
  unfold mw_Program_takesA at h
  refine mr_aload_n C 0 md_Program_takesA_0 rfl rfl ?_
  refine mr_get C 1 0 mc_Program_cls ml_29 rfl (by decide) (by decide) (fun _ => rfl) rfl md_Program_takesA_1 ?_
  refine mr_iload_n C 1 md_Program_takesA_4 rfl rfl ?_
  refine mr_iald C 12 120 (by decide) (fun _ => rfl) h.1 md_Program_takesA_5 ?_
  replace h := h.2
  refine mr_if_eq C md_Program_takesA_6 rfl (fun hc => ?_) (fun hc => ?_)
  · replace h := h.1 hc
    refine mr_iconst C md_Program_takesA_13 mk_iconst_0 ?_
    exact mr_zret C R mb_0 h md_Program_takesA_14
  replace h := h.2 hc
  refine mr_iconst C md_Program_takesA_9 mk_iconst_1 ?_
  refine mr_goto C md_Program_takesA_10 rfl ?_
  exact mr_zret C R mb_1 h md_Program_takesA_14
def mw_Program_takesB_32 (K : Int32 → mz_St → Prop) (s32 : mz_St) : Prop :=
  K 1 s32
/-- ValueMill$Program.takesB(I)Z: what it does, as a transformer of what must hold behind it -/
def mw_Program_takesB (K : Int32 → mz_St → Prop) (a0 : Int32) (s0 : mz_St) : Prop :=
  vp_in a0 120 ∧
  (∀ P32 : mz_St → Prop, (∀ (s32 : mz_St), mw_Program_takesB_32 K s32 → P32 s32) →
  (((mz_rd s0 12 a0) = 17 →
   P32 s0) ∧
  (¬ (mz_rd s0 12 a0) = 17 →
   vp_in a0 120 ∧
   (((mz_rd s0 12 a0) ≤ 1 →
    K 0 s0) ∧
   (¬ (mz_rd s0 12 a0) ≤ 1 →
    vp_in a0 120 ∧
    ((16 ≤ (mz_rd s0 12 a0) →
     K 0 s0) ∧
    (¬ 16 ≤ (mz_rd s0 12 a0) →
     P32 s0)))))))
set_option maxRecDepth 100000 in
set_option maxHeartbeats 4000000 in
theorem ms_Program_takesB (l : Launch) (E : mz_En) (hI : mz_Inj E) (K : Int32 → mz_St → Prop) (a0 : Int32) (s0 : mz_St) (h : mw_Program_takesB K a0 s0) : mz_Ci l E my_Program_takesB mb_Program_takesB 2 (some .boolean) (0) (0) [.ref (E.2.1 1), .int a0] s0 K := by
  refine mz_cti hI (by decide +kernel) (Nat.le_of_ble_eq_true rfl) (fun X C R => ?_)
  show mz_G E X 2 0 [(0, .ref (E.2.1 1)), (1, .int a0)] [] s0
  unfold mw_Program_takesB at h
  refine mr_aload_n C 0 md_Program_takesB_0 rfl rfl ?_
  refine mr_get C 1 0 mc_Program_cls ml_29 rfl (by decide) (by decide) (fun _ => rfl) rfl md_Program_takesB_1 ?_
  refine mr_iload_n C 1 md_Program_takesB_4 rfl rfl ?_
  refine mr_iald C 12 120 (by decide) (fun _ => rfl) h.1 md_Program_takesB_5 ?_
  replace h := h.2
  refine mr_bipush C md_Program_takesB_6 mk_bipush_17 ?_
  refine mj (h (fun (s32 : mz_St) => mz_G E X 2 32 [] [] s32) (fun s32 h => ?_)) (fun h => ?_)
  · unfold mw_Program_takesB_32 at h
    refine mr_iconst C md_Program_takesB_32 mk_iconst_1 ?_
    refine mr_goto C md_Program_takesB_33 rfl ?_
    exact mr_zret C R mb_1 h md_Program_takesB_37
  refine mr_icmp_eq C md_Program_takesB_8 rfl (fun hc => ?_) (fun hc => ?_)
  · replace h := h.1 hc
    refine mr_sub [] rfl ?_
    exact h
  replace h := h.2 hc
  refine mr_aload_n C 0 md_Program_takesB_11 rfl rfl ?_
  refine mr_get C 1 0 mc_Program_cls ml_29 rfl (by decide) (by decide) (fun _ => rfl) rfl md_Program_takesB_12 ?_
  refine mr_iload_n C 1 md_Program_takesB_15 rfl rfl ?_
  refine mr_iald C 12 120 (by decide) (fun _ => rfl) h.1 md_Program_takesB_16 ?_
  replace h := h.2
  refine mr_iconst C md_Program_takesB_17 mk_iconst_1 ?_
  refine mr_icmp_le C md_Program_takesB_18 rfl (fun hc => ?_) (fun hc => ?_)
  · replace h := h.1 hc
    refine mr_iconst C md_Program_takesB_36 mk_iconst_0 ?_
    exact mr_zret C R mb_0 h md_Program_takesB_37
  replace h := h.2 hc
  refine mr_aload_n C 0 md_Program_takesB_21 rfl rfl ?_
  refine mr_get C 1 0 mc_Program_cls ml_29 rfl (by decide) (by decide) (fun _ => rfl) rfl md_Program_takesB_22 ?_
  refine mr_iload_n C 1 md_Program_takesB_25 rfl rfl ?_
  refine mr_iald C 12 120 (by decide) (fun _ => rfl) h.1 md_Program_takesB_26 ?_
  replace h := h.2
  refine mr_bipush C md_Program_takesB_27 mk_bipush_16 ?_
  refine mr_icmp_ge C md_Program_takesB_29 rfl (fun hc => ?_) (fun hc => ?_)
  · replace h := h.1 hc
    refine mr_iconst C md_Program_takesB_36 mk_iconst_0 ?_
    exact mr_zret C R mb_0 h md_Program_takesB_37
  replace h := h.2 hc
  refine mr_sub [] rfl ?_
  exact h
/-- ValueMill$Program.makesValue(I)Z: what it does, as a transformer of what must hold behind it -/
def mw_Program_makesValue (K : Int32 → mz_St → Prop) (a0 : Int32) (s0 : mz_St) : Prop :=
  vp_in a0 120 ∧
  (((mz_rd s0 12 a0) = 17 →
   K 0 s0) ∧
  (¬ (mz_rd s0 12 a0) = 17 →
   K 1 s0))
set_option maxRecDepth 100000 in
set_option maxHeartbeats 4000000 in
theorem ms_Program_makesValue (l : Launch) (E : mz_En) (hI : mz_Inj E) (K : Int32 → mz_St → Prop) (a0 : Int32) (s0 : mz_St) (h : mw_Program_makesValue K a0 s0) : mz_Ci l E my_Program_makesValue mb_Program_makesValue 2 (some .boolean) (0) (0) [.ref (E.2.1 1), .int a0] s0 K := by
  refine mz_cti hI (by decide +kernel) (Nat.le_of_ble_eq_true rfl) (fun X C R => ?_)
  show mz_G E X 2 0 [(0, .ref (E.2.1 1)), (1, .int a0)] [] s0
  unfold mw_Program_makesValue at h
  refine mr_aload_n C 0 md_Program_makesValue_0 rfl rfl ?_
  refine mr_get C 1 0 mc_Program_cls ml_29 rfl (by decide) (by decide) (fun _ => rfl) rfl md_Program_makesValue_1 ?_
  refine mr_iload_n C 1 md_Program_makesValue_4 rfl rfl ?_
  refine mr_iald C 12 120 (by decide) (fun _ => rfl) h.1 md_Program_makesValue_5 ?_
  replace h := h.2
  refine mr_bipush C md_Program_makesValue_6 mk_bipush_17 ?_
  refine mr_icmp_eq C md_Program_makesValue_8 rfl (fun hc => ?_) (fun hc => ?_)
  · replace h := h.1 hc
    refine mr_iconst C md_Program_makesValue_15 mk_iconst_0 ?_
    exact mr_zret C R mb_0 h md_Program_makesValue_16
  replace h := h.2 hc
  refine mr_iconst C md_Program_makesValue_11 mk_iconst_1 ?_
  refine mr_goto C md_Program_makesValue_12 rfl ?_
  exact mr_zret C R mb_1 h md_Program_makesValue_16
def mw_Program_usedSet_20 (K : Int32 → mz_St → Prop) (a0 : Int32) (y0_20 : Int32) (s20 : mz_St) : Prop :=
  mw_Program_takesB (fun r2 u2 =>
   ((r2 = 0 →
    K (y0_20 ||| 0) u2) ∧
   (¬ r2 = 0 →
    vp_in a0 120 ∧
    K (y0_20 ||| ((1 : Int32) <<< ((mz_rd u2 15 a0) &&& 31))) u2))) a0 s20
/-- ValueMill$Program.usedSet(I)I: what it does, as a transformer of what must hold behind it -/
def mw_Program_usedSet (K : Int32 → mz_St → Prop) (a0 : Int32) (s0 : mz_St) : Prop :=
  mw_Program_takesA (fun r1 u1 =>
   (∀ P20 : Int32 → mz_St → Prop, (∀ (y0_20 : Int32) (s20 : mz_St), mw_Program_usedSet_20 K a0 y0_20 s20 → P20 y0_20 s20) →
   ((r1 = 0 →
    P20 0 u1) ∧
   (¬ r1 = 0 →
    vp_in a0 120 ∧
    P20 ((1 : Int32) <<< ((mz_rd u1 14 a0) &&& 31)) u1)))) a0 s0
set_option maxRecDepth 100000 in
set_option maxHeartbeats 4000000 in
theorem ms_Program_usedSet (l : Launch) (E : mz_En) (hI : mz_Inj E) (K : Int32 → mz_St → Prop) (a0 : Int32) (s0 : mz_St) (h : mw_Program_usedSet K a0 s0) : mz_Ci l E my_Program_usedSet mb_Program_usedSet 2 (some .int) (1) (21) [.ref (E.2.1 1), .int a0] s0 K := by
  refine mz_cti hI (by decide +kernel) (Nat.le_of_ble_eq_true rfl) (fun X C R => ?_)
  show mz_G E X 2 0 [(0, .ref (E.2.1 1)), (1, .int a0)] [] s0
  unfold mw_Program_usedSet at h
  refine mr_aload_n C 0 md_Program_usedSet_0 rfl rfl ?_
  refine mr_iload_n C 1 md_Program_usedSet_1 rfl rfl ?_
  refine mr_cVi C (As := [.int a0]) (rest := []) 1 (ms_Program_takesA _ E hI _ a0 _ h) mo_Program_takesA mi_Program_takesA mc_Program_cls ml_631 (by decide) (fun _ => rfl) rfl rfl (Nat.le_of_ble_eq_true rfl) (Nat.le_of_ble_eq_true rfl) (Nat.le_of_ble_eq_true rfl) md_Program_usedSet_2 (fun r1 u1 h => ?_)
  refine mj (h (fun (y0_20 : Int32) (s20 : mz_St) => mz_G E X 2 20 [(0, .ref (E.2.1 1)), (1, .int a0)] [.int y0_20] s20) (fun y0_20 s20 h => ?_)) (fun h => ?_)
  · unfold mw_Program_usedSet_20 at h
    refine mr_aload_n C 0 md_Program_usedSet_20 rfl rfl ?_
    refine mr_iload_n C 1 md_Program_usedSet_21 rfl rfl ?_
    refine mr_cVi C (As := [.int a0]) (rest := [.int y0_20]) 1 (ms_Program_takesB _ E hI _ a0 _ h) mo_Program_takesB mi_Program_takesB mc_Program_cls ml_632 (by decide) (fun _ => rfl) rfl rfl (Nat.le_of_ble_eq_true rfl) (Nat.le_of_ble_eq_true rfl) (Nat.le_of_ble_eq_true rfl) md_Program_usedSet_22 (fun r2 u2 h => ?_)
    refine mr_if_eq C md_Program_usedSet_25 rfl (fun hc => ?_) (fun hc => ?_)
    · replace h := h.1 hc
      refine mr_iconst C md_Program_usedSet_39 mk_iconst_0 ?_
      refine mr_ior C md_Program_usedSet_40 ?_
      exact mr_iret C R h md_Program_usedSet_41
    replace h := h.2 hc
    refine mr_iconst C md_Program_usedSet_28 mk_iconst_1 ?_
    refine mr_aload_n C 0 md_Program_usedSet_29 rfl rfl ?_
    refine mr_get C 1 3 mc_Program_cls ml_40 rfl (by decide) (by decide) (fun _ => rfl) rfl md_Program_usedSet_30 ?_
    refine mr_iload_n C 1 md_Program_usedSet_33 rfl rfl ?_
    refine mr_iald C 15 120 (by decide) (fun _ => rfl) h.1 md_Program_usedSet_34 ?_
    replace h := h.2
    refine mr_ishl C md_Program_usedSet_35 ?_
    refine mr_goto C md_Program_usedSet_36 rfl ?_
    refine mr_ior C md_Program_usedSet_40 ?_
    exact mr_iret C R h md_Program_usedSet_41
  refine mr_if_eq C md_Program_usedSet_5 rfl (fun hc => ?_) (fun hc => ?_)
  · replace h := h.1 hc
    refine mr_iconst C md_Program_usedSet_19 mk_iconst_0 ?_
    exact h
  replace h := h.2 hc
  refine mr_iconst C md_Program_usedSet_8 mk_iconst_1 ?_
  refine mr_aload_n C 0 md_Program_usedSet_9 rfl rfl ?_
  refine mr_get C 1 2 mc_Program_cls ml_36 rfl (by decide) (by decide) (fun _ => rfl) rfl md_Program_usedSet_10 ?_
  refine mr_iload_n C 1 md_Program_usedSet_13 rfl rfl ?_
  refine mr_iald C 14 120 (by decide) (fun _ => rfl) h.1 md_Program_usedSet_14 ?_
  replace h := h.2
  refine mr_ishl C md_Program_usedSet_15 ?_
  refine mr_goto C md_Program_usedSet_16 rfl ?_
  exact h
/-- ValueMill$Program.madeSet(I)I: what it does, as a transformer of what must hold behind it -/
def mw_Program_madeSet (K : Int32 → mz_St → Prop) (a0 : Int32) (s0 : mz_St) : Prop :=
  mw_Program_makesValue (fun r1 u1 =>
   ((r1 = 0 →
    K 0 u1) ∧
   (¬ r1 = 0 →
    vp_in a0 120 ∧
    K ((1 : Int32) <<< ((mz_rd u1 13 a0) &&& 31)) u1))) a0 s0
set_option maxRecDepth 100000 in
set_option maxHeartbeats 4000000 in
theorem ms_Program_madeSet (l : Launch) (E : mz_En) (hI : mz_Inj E) (K : Int32 → mz_St → Prop) (a0 : Int32) (s0 : mz_St) (h : mw_Program_madeSet K a0 s0) : mz_Ci l E my_Program_madeSet mb_Program_madeSet 2 (some .int) (1) (21) [.ref (E.2.1 1), .int a0] s0 K := by
  refine mz_cti hI (by decide +kernel) (Nat.le_of_ble_eq_true rfl) (fun X C R => ?_)
  show mz_G E X 2 0 [(0, .ref (E.2.1 1)), (1, .int a0)] [] s0
  unfold mw_Program_madeSet at h
  refine mr_aload_n C 0 md_Program_madeSet_0 rfl rfl ?_
  refine mr_iload_n C 1 md_Program_madeSet_1 rfl rfl ?_
  refine mr_cVi C (As := [.int a0]) (rest := []) 1 (ms_Program_makesValue _ E hI _ a0 _ h) mo_Program_makesValue mi_Program_makesValue mc_Program_cls ml_637 (by decide) (fun _ => rfl) rfl rfl (Nat.le_of_ble_eq_true rfl) (Nat.le_of_ble_eq_true rfl) (Nat.le_of_ble_eq_true rfl) md_Program_madeSet_2 (fun r1 u1 h => ?_)
  refine mr_if_eq C md_Program_madeSet_5 rfl (fun hc => ?_) (fun hc => ?_)
  · replace h := h.1 hc
    refine mr_iconst C md_Program_madeSet_19 mk_iconst_0 ?_
    exact mr_iret C R h md_Program_madeSet_20
  replace h := h.2 hc
  refine mr_iconst C md_Program_madeSet_8 mk_iconst_1 ?_
  refine mr_aload_n C 0 md_Program_madeSet_9 rfl rfl ?_
  refine mr_get C 1 1 mc_Program_cls ml_32 rfl (by decide) (by decide) (fun _ => rfl) rfl md_Program_madeSet_10 ?_
  refine mr_iload_n C 1 md_Program_madeSet_13 rfl rfl ?_
  refine mr_iald C 13 120 (by decide) (fun _ => rfl) h.1 md_Program_madeSet_14 ?_
  replace h := h.2
  refine mr_ishl C md_Program_madeSet_15 ?_
  refine mr_goto C md_Program_madeSet_16 rfl ?_
  exact mr_iret C R h md_Program_madeSet_20
/-- ValueMill$Program.usedAtEndSet(I)I: what it does, as a transformer of what must hold behind it -/
def mw_Program_usedAtEndSet (K : Int32 → mz_St → Prop) (a0 : Int32) (s0 : mz_St) : Prop :=
  mw_Program_endTakesTemp (fun r1 u1 =>
   ((r1 = 0 →
    K 0 u1) ∧
   (¬ r1 = 0 →
    vp_in a0 10 ∧
    K ((1 : Int32) <<< ((mz_rd u1 18 a0) &&& 31)) u1))) a0 s0
set_option maxRecDepth 100000 in
set_option maxHeartbeats 4000000 in
theorem ms_Program_usedAtEndSet (l : Launch) (E : mz_En) (hI : mz_Inj E) (K : Int32 → mz_St → Prop) (a0 : Int32) (s0 : mz_St) (h : mw_Program_usedAtEndSet K a0 s0) : mz_Ci l E my_Program_usedAtEndSet mb_Program_usedAtEndSet 2 (some .int) (1) (21) [.ref (E.2.1 1), .int a0] s0 K := by
  refine mz_cti hI (by decide +kernel) (Nat.le_of_ble_eq_true rfl) (fun X C R => ?_)
  show mz_G E X 2 0 [(0, .ref (E.2.1 1)), (1, .int a0)] [] s0
  unfold mw_Program_usedAtEndSet at h
  refine mr_aload_n C 0 md_Program_usedAtEndSet_0 rfl rfl ?_
  refine mr_iload_n C 1 md_Program_usedAtEndSet_1 rfl rfl ?_
  refine mr_cVi C (As := [.int a0]) (rest := []) 1 (ms_Program_endTakesTemp _ E hI _ a0 _ h) mo_Program_endTakesTemp mi_Program_endTakesTemp mc_Program_cls ml_645 (by decide) (fun _ => rfl) rfl rfl (Nat.le_of_ble_eq_true rfl) (Nat.le_of_ble_eq_true rfl) (Nat.le_of_ble_eq_true rfl) md_Program_usedAtEndSet_2 (fun r1 u1 h => ?_)
  refine mr_if_eq C md_Program_usedAtEndSet_5 rfl (fun hc => ?_) (fun hc => ?_)
  · replace h := h.1 hc
    refine mr_iconst C md_Program_usedAtEndSet_19 mk_iconst_0 ?_
    exact mr_iret C R h md_Program_usedAtEndSet_20
  replace h := h.2 hc
  refine mr_iconst C md_Program_usedAtEndSet_8 mk_iconst_1 ?_
  refine mr_aload_n C 0 md_Program_usedAtEndSet_9 rfl rfl ?_
  refine mr_get C 1 6 mc_Program_cls ml_52 rfl (by decide) (by decide) (fun _ => rfl) rfl md_Program_usedAtEndSet_10 ?_
  refine mr_iload_n C 1 md_Program_usedAtEndSet_13 rfl rfl ?_
  refine mr_iald C 18 10 (by decide) (fun _ => rfl) h.1 md_Program_usedAtEndSet_14 ?_
  replace h := h.2
  refine mr_ishl C md_Program_usedAtEndSet_15 ?_
  refine mr_goto C md_Program_usedAtEndSet_16 rfl ?_
  exact mr_iret C R h md_Program_usedAtEndSet_20

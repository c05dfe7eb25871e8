/-! BEGIN Homes: its instructions, what each method does (mw_), that its bytecode does it (ms_): printed -/
theorem md_Homes_giveEachItsOwn_0 : mz_d mb_Homes_giveEachItsOwn 0 (.iconst 0) 1 1 := ⟨by decide +kernel, rfl⟩
theorem md_Homes_giveEachItsOwn_1 : mz_d mb_Homes_giveEachItsOwn 1 (.istore_n 1) 1 2 := ⟨by decide +kernel, rfl⟩
theorem md_Homes_giveEachItsOwn_2 : mz_d mb_Homes_giveEachItsOwn 2 (.iload_n 1) 1 3 := ⟨by decide +kernel, rfl⟩
theorem md_Homes_giveEachItsOwn_3 : mz_d mb_Homes_giveEachItsOwn 3 (.sipush 221) 3 6 := ⟨by decide +kernel, rfl⟩
theorem md_Homes_giveEachItsOwn_6 : mz_d mb_Homes_giveEachItsOwn 6 (.if_icmp .ge 16) 3 9 := ⟨by decide +kernel, rfl⟩
theorem md_Homes_giveEachItsOwn_9 : mz_d mb_Homes_giveEachItsOwn 9 (.aload_n 0) 1 10 := ⟨by decide +kernel, rfl⟩
theorem md_Homes_giveEachItsOwn_10 : mz_d mb_Homes_giveEachItsOwn 10 (.getfield 9) 3 13 := ⟨by decide +kernel, rfl⟩
theorem md_Homes_giveEachItsOwn_13 : mz_d mb_Homes_giveEachItsOwn 13 (.iload_n 1) 1 14 := ⟨by decide +kernel, rfl⟩
theorem md_Homes_giveEachItsOwn_14 : mz_d mb_Homes_giveEachItsOwn 14 (.iload_n 1) 1 15 := ⟨by decide +kernel, rfl⟩
theorem md_Homes_giveEachItsOwn_15 : mz_d mb_Homes_giveEachItsOwn 15 (.iastore) 1 16 := ⟨by decide +kernel, rfl⟩
theorem md_Homes_giveEachItsOwn_16 : mz_d mb_Homes_giveEachItsOwn 16 (.iinc 1 1) 3 19 := ⟨by decide +kernel, rfl⟩
theorem md_Homes_giveEachItsOwn_19 : mz_d mb_Homes_giveEachItsOwn 19 (.goto (-17)) 3 22 := ⟨by decide +kernel, rfl⟩
theorem md_Homes_giveEachItsOwn_22 : mz_d mb_Homes_giveEachItsOwn 22 (.aload_n 0) 1 23 := ⟨by decide +kernel, rfl⟩
theorem md_Homes_giveEachItsOwn_23 : mz_d mb_Homes_giveEachItsOwn 23 (.sipush 230) 3 26 := ⟨by decide +kernel, rfl⟩
theorem md_Homes_giveEachItsOwn_26 : mz_d mb_Homes_giveEachItsOwn 26 (.putfield 48) 3 29 := ⟨by decide +kernel, rfl⟩
theorem md_Homes_giveEachItsOwn_29 : mz_d mb_Homes_giveEachItsOwn 29 (.return_) 1 30 := ⟨by decide +kernel, rfl⟩
theorem md_Homes_addCost_0 : mz_d mb_Homes_addCost 0 (.aload_n 0) 1 1 := ⟨by decide +kernel, rfl⟩
theorem md_Homes_addCost_1 : mz_d mb_Homes_addCost 1 (.getfield 44) 3 4 := ⟨by decide +kernel, rfl⟩
theorem md_Homes_addCost_4 : mz_d mb_Homes_addCost 4 (.iload_n 1) 1 5 := ⟨by decide +kernel, rfl⟩
theorem md_Homes_addCost_5 : mz_d mb_Homes_addCost 5 (.invokevirtual 136) 3 8 := ⟨by decide +kernel, rfl⟩
theorem md_Homes_addCost_8 : mz_d mb_Homes_addCost 8 (.ifCond .ne 21) 3 11 := ⟨by decide +kernel, rfl⟩
theorem md_Homes_addCost_11 : mz_d mb_Homes_addCost 11 (.aload_n 0) 1 12 := ⟨by decide +kernel, rfl⟩
theorem md_Homes_addCost_12 : mz_d mb_Homes_addCost 12 (.getfield 15) 3 15 := ⟨by decide +kernel, rfl⟩
theorem md_Homes_addCost_15 : mz_d mb_Homes_addCost 15 (.aload_n 0) 1 16 := ⟨by decide +kernel, rfl⟩
theorem md_Homes_addCost_16 : mz_d mb_Homes_addCost 16 (.getfield 44) 3 19 := ⟨by decide +kernel, rfl⟩
theorem md_Homes_addCost_19 : mz_d mb_Homes_addCost 19 (.getfield 139) 3 22 := ⟨by decide +kernel, rfl⟩
theorem md_Homes_addCost_22 : mz_d mb_Homes_addCost 22 (.iload_n 1) 1 23 := ⟨by decide +kernel, rfl⟩
theorem md_Homes_addCost_23 : mz_d mb_Homes_addCost 23 (.iaload) 1 24 := ⟨by decide +kernel, rfl⟩
theorem md_Homes_addCost_24 : mz_d mb_Homes_addCost 24 (.dup2) 1 25 := ⟨by decide +kernel, rfl⟩
theorem md_Homes_addCost_25 : mz_d mb_Homes_addCost 25 (.laload) 1 26 := ⟨by decide +kernel, rfl⟩
theorem md_Homes_addCost_26 : mz_d mb_Homes_addCost 26 (.lload_n 2) 1 27 := ⟨by decide +kernel, rfl⟩
theorem md_Homes_addCost_27 : mz_d mb_Homes_addCost 27 (.ladd) 1 28 := ⟨by decide +kernel, rfl⟩
theorem md_Homes_addCost_28 : mz_d mb_Homes_addCost 28 (.lastore) 1 29 := ⟨by decide +kernel, rfl⟩
theorem md_Homes_addCost_29 : mz_d mb_Homes_addCost 29 (.return_) 1 30 := ⟨by decide +kernel, rfl⟩
theorem md_Homes_addCostsOfEdges_0 : mz_d mb_Homes_addCostsOfEdges 0 (.iconst 0) 1 1 := ⟨by decide +kernel, rfl⟩
theorem md_Homes_addCostsOfEdges_1 : mz_d mb_Homes_addCostsOfEdges 1 (.istore 4) 2 3 := ⟨by decide +kernel, rfl⟩
theorem md_Homes_addCostsOfEdges_3 : mz_d mb_Homes_addCostsOfEdges 3 (.iload 4) 2 5 := ⟨by decide +kernel, rfl⟩
theorem md_Homes_addCostsOfEdges_5 : mz_d mb_Homes_addCostsOfEdges 5 (.aload_n 0) 1 6 := ⟨by decide +kernel, rfl⟩
theorem md_Homes_addCostsOfEdges_6 : mz_d mb_Homes_addCostsOfEdges 6 (.getfield 28) 3 9 := ⟨by decide +kernel, rfl⟩
theorem md_Homes_addCostsOfEdges_9 : mz_d mb_Homes_addCostsOfEdges 9 (.iload_n 1) 1 10 := ⟨by decide +kernel, rfl⟩
theorem md_Homes_addCostsOfEdges_10 : mz_d mb_Homes_addCostsOfEdges 10 (.invokevirtual 119) 3 13 := ⟨by decide +kernel, rfl⟩
theorem md_Homes_addCostsOfEdges_13 : mz_d mb_Homes_addCostsOfEdges 13 (.if_icmp .ge 82) 3 16 := ⟨by decide +kernel, rfl⟩
theorem md_Homes_addCostsOfEdges_16 : mz_d mb_Homes_addCostsOfEdges 16 (.aload_n 0) 1 17 := ⟨by decide +kernel, rfl⟩
theorem md_Homes_addCostsOfEdges_17 : mz_d mb_Homes_addCostsOfEdges 17 (.getfield 28) 3 20 := ⟨by decide +kernel, rfl⟩
theorem md_Homes_addCostsOfEdges_20 : mz_d mb_Homes_addCostsOfEdges 20 (.iload_n 1) 1 21 := ⟨by decide +kernel, rfl⟩
theorem md_Homes_addCostsOfEdges_21 : mz_d mb_Homes_addCostsOfEdges 21 (.iload 4) 2 23 := ⟨by decide +kernel, rfl⟩
theorem md_Homes_addCostsOfEdges_23 : mz_d mb_Homes_addCostsOfEdges 23 (.invokevirtual 122) 3 26 := ⟨by decide +kernel, rfl⟩
theorem md_Homes_addCostsOfEdges_26 : mz_d mb_Homes_addCostsOfEdges 26 (.istore 5) 2 28 := ⟨by decide +kernel, rfl⟩
theorem md_Homes_addCostsOfEdges_28 : mz_d mb_Homes_addCostsOfEdges 28 (.iconst 0) 1 29 := ⟨by decide +kernel, rfl⟩
theorem md_Homes_addCostsOfEdges_29 : mz_d mb_Homes_addCostsOfEdges 29 (.istore 6) 2 31 := ⟨by decide +kernel, rfl⟩
theorem md_Homes_addCostsOfEdges_31 : mz_d mb_Homes_addCostsOfEdges 31 (.iload 6) 2 33 := ⟨by decide +kernel, rfl⟩
theorem md_Homes_addCostsOfEdges_33 : mz_d mb_Homes_addCostsOfEdges 33 (.bipush 10) 2 35 := ⟨by decide +kernel, rfl⟩
theorem md_Homes_addCostsOfEdges_35 : mz_d mb_Homes_addCostsOfEdges 35 (.if_icmp .ge 54) 3 38 := ⟨by decide +kernel, rfl⟩
theorem md_Homes_addCostsOfEdges_38 : mz_d mb_Homes_addCostsOfEdges 38 (.aload_n 0) 1 39 := ⟨by decide +kernel, rfl⟩
theorem md_Homes_addCostsOfEdges_39 : mz_d mb_Homes_addCostsOfEdges 39 (.getfield 44) 3 42 := ⟨by decide +kernel, rfl⟩
theorem md_Homes_addCostsOfEdges_42 : mz_d mb_Homes_addCostsOfEdges 42 (.iload 5) 2 44 := ⟨by decide +kernel, rfl⟩
theorem md_Homes_addCostsOfEdges_44 : mz_d mb_Homes_addCostsOfEdges 44 (.iload 6) 2 46 := ⟨by decide +kernel, rfl⟩
theorem md_Homes_addCostsOfEdges_46 : mz_d mb_Homes_addCostsOfEdges 46 (.invokevirtual 126) 3 49 := ⟨by decide +kernel, rfl⟩
theorem md_Homes_addCostsOfEdges_49 : mz_d mb_Homes_addCostsOfEdges 49 (.ifCond .eq 34) 3 52 := ⟨by decide +kernel, rfl⟩
theorem md_Homes_addCostsOfEdges_52 : mz_d mb_Homes_addCostsOfEdges 52 (.aload_n 0) 1 53 := ⟨by decide +kernel, rfl⟩
theorem md_Homes_addCostsOfEdges_53 : mz_d mb_Homes_addCostsOfEdges 53 (.getfield 15) 3 56 := ⟨by decide +kernel, rfl⟩
theorem md_Homes_addCostsOfEdges_56 : mz_d mb_Homes_addCostsOfEdges 56 (.iload 5) 2 58 := ⟨by decide +kernel, rfl⟩
theorem md_Homes_addCostsOfEdges_58 : mz_d mb_Homes_addCostsOfEdges 58 (.iload 6) 2 60 := ⟨by decide +kernel, rfl⟩
theorem md_Homes_addCostsOfEdges_60 : mz_d mb_Homes_addCostsOfEdges 60 (.invokestatic 130) 3 63 := ⟨by decide +kernel, rfl⟩
theorem md_Homes_addCostsOfEdges_63 : mz_d mb_Homes_addCostsOfEdges 63 (.dup2) 1 64 := ⟨by decide +kernel, rfl⟩
theorem md_Homes_addCostsOfEdges_64 : mz_d mb_Homes_addCostsOfEdges 64 (.laload) 1 65 := ⟨by decide +kernel, rfl⟩
theorem md_Homes_addCostsOfEdges_65 : mz_d mb_Homes_addCostsOfEdges 65 (.lload_n 2) 1 66 := ⟨by decide +kernel, rfl⟩
theorem md_Homes_addCostsOfEdges_66 : mz_d mb_Homes_addCostsOfEdges 66 (.ladd) 1 67 := ⟨by decide +kernel, rfl⟩
theorem md_Homes_addCostsOfEdges_67 : mz_d mb_Homes_addCostsOfEdges 67 (.lastore) 1 68 := ⟨by decide +kernel, rfl⟩
theorem md_Homes_addCostsOfEdges_68 : mz_d mb_Homes_addCostsOfEdges 68 (.aload_n 0) 1 69 := ⟨by decide +kernel, rfl⟩
theorem md_Homes_addCostsOfEdges_69 : mz_d mb_Homes_addCostsOfEdges 69 (.aload_n 0) 1 70 := ⟨by decide +kernel, rfl⟩
theorem md_Homes_addCostsOfEdges_70 : mz_d mb_Homes_addCostsOfEdges 70 (.getfield 40) 3 73 := ⟨by decide +kernel, rfl⟩
theorem md_Homes_addCostsOfEdges_73 : mz_d mb_Homes_addCostsOfEdges 73 (.iload_n 1) 1 74 := ⟨by decide +kernel, rfl⟩
theorem md_Homes_addCostsOfEdges_74 : mz_d mb_Homes_addCostsOfEdges 74 (.iload 6) 2 76 := ⟨by decide +kernel, rfl⟩
theorem md_Homes_addCostsOfEdges_76 : mz_d mb_Homes_addCostsOfEdges 76 (.invokevirtual 133) 3 79 := ⟨by decide +kernel, rfl⟩
theorem md_Homes_addCostsOfEdges_79 : mz_d mb_Homes_addCostsOfEdges 79 (.lload_n 2) 1 80 := ⟨by decide +kernel, rfl⟩
theorem md_Homes_addCostsOfEdges_80 : mz_d mb_Homes_addCostsOfEdges 80 (.invokevirtual 103) 3 83 := ⟨by decide +kernel, rfl⟩
theorem md_Homes_addCostsOfEdges_83 : mz_d mb_Homes_addCostsOfEdges 83 (.iinc 6 1) 3 86 := ⟨by decide +kernel, rfl⟩
theorem md_Homes_addCostsOfEdges_86 : mz_d mb_Homes_addCostsOfEdges 86 (.goto (-55)) 3 89 := ⟨by decide +kernel, rfl⟩
theorem md_Homes_addCostsOfEdges_89 : mz_d mb_Homes_addCostsOfEdges 89 (.iinc 4 1) 3 92 := ⟨by decide +kernel, rfl⟩
theorem md_Homes_addCostsOfEdges_92 : mz_d mb_Homes_addCostsOfEdges 92 (.goto (-89)) 3 95 := ⟨by decide +kernel, rfl⟩
theorem md_Homes_addCostsOfEdges_95 : mz_d mb_Homes_addCostsOfEdges 95 (.return_) 1 96 := ⟨by decide +kernel, rfl⟩
theorem md_Homes_findCosts_0 : mz_d mb_Homes_findCosts 0 (.aload_n 0) 1 1 := ⟨by decide +kernel, rfl⟩
theorem md_Homes_findCosts_1 : mz_d mb_Homes_findCosts 1 (.getfield 15) 3 4 := ⟨by decide +kernel, rfl⟩
theorem md_Homes_findCosts_4 : mz_d mb_Homes_findCosts 4 (.lconst 0) 1 5 := ⟨by decide +kernel, rfl⟩
theorem md_Homes_findCosts_5 : mz_d mb_Homes_findCosts 5 (.invokestatic 66) 3 8 := ⟨by decide +kernel, rfl⟩
theorem md_Homes_findCosts_8 : mz_d mb_Homes_findCosts 8 (.iconst 0) 1 9 := ⟨by decide +kernel, rfl⟩
theorem md_Homes_findCosts_9 : mz_d mb_Homes_findCosts 9 (.istore_n 1) 1 10 := ⟨by decide +kernel, rfl⟩
theorem md_Homes_findCosts_10 : mz_d mb_Homes_findCosts 10 (.iload_n 1) 1 11 := ⟨by decide +kernel, rfl⟩
theorem md_Homes_findCosts_11 : mz_d mb_Homes_findCosts 11 (.aload_n 0) 1 12 := ⟨by decide +kernel, rfl⟩
theorem md_Homes_findCosts_12 : mz_d mb_Homes_findCosts 12 (.getfield 32) 3 15 := ⟨by decide +kernel, rfl⟩
theorem md_Homes_findCosts_15 : mz_d mb_Homes_findCosts 15 (.getfield 72) 3 18 := ⟨by decide +kernel, rfl⟩
theorem md_Homes_findCosts_18 : mz_d mb_Homes_findCosts 18 (.if_icmp .ge 151) 3 21 := ⟨by decide +kernel, rfl⟩
theorem md_Homes_findCosts_21 : mz_d mb_Homes_findCosts 21 (.aload_n 0) 1 22 := ⟨by decide +kernel, rfl⟩
theorem md_Homes_findCosts_22 : mz_d mb_Homes_findCosts 22 (.getfield 32) 3 25 := ⟨by decide +kernel, rfl⟩
theorem md_Homes_findCosts_25 : mz_d mb_Homes_findCosts 25 (.getfield 77) 3 28 := ⟨by decide +kernel, rfl⟩
theorem md_Homes_findCosts_28 : mz_d mb_Homes_findCosts 28 (.iload_n 1) 1 29 := ⟨by decide +kernel, rfl⟩
theorem md_Homes_findCosts_29 : mz_d mb_Homes_findCosts 29 (.iaload) 1 30 := ⟨by decide +kernel, rfl⟩
theorem md_Homes_findCosts_30 : mz_d mb_Homes_findCosts 30 (.istore_n 2) 1 31 := ⟨by decide +kernel, rfl⟩
theorem md_Homes_findCosts_31 : mz_d mb_Homes_findCosts 31 (.lconst 1) 1 32 := ⟨by decide +kernel, rfl⟩
theorem md_Homes_findCosts_32 : mz_d mb_Homes_findCosts 32 (.iconst 3) 1 33 := ⟨by decide +kernel, rfl⟩
theorem md_Homes_findCosts_33 : mz_d mb_Homes_findCosts 33 (.aload_n 0) 1 34 := ⟨by decide +kernel, rfl⟩
theorem md_Homes_findCosts_34 : mz_d mb_Homes_findCosts 34 (.getfield 32) 3 37 := ⟨by decide +kernel, rfl⟩
theorem md_Homes_findCosts_37 : mz_d mb_Homes_findCosts 37 (.getfield 80) 3 40 := ⟨by decide +kernel, rfl⟩
theorem md_Homes_findCosts_40 : mz_d mb_Homes_findCosts 40 (.iload_n 2) 1 41 := ⟨by decide +kernel, rfl⟩
theorem md_Homes_findCosts_41 : mz_d mb_Homes_findCosts 41 (.iaload) 1 42 := ⟨by decide +kernel, rfl⟩
theorem md_Homes_findCosts_42 : mz_d mb_Homes_findCosts 42 (.imul) 1 43 := ⟨by decide +kernel, rfl⟩
theorem md_Homes_findCosts_43 : mz_d mb_Homes_findCosts 43 (.lshl) 1 44 := ⟨by decide +kernel, rfl⟩
theorem md_Homes_findCosts_44 : mz_d mb_Homes_findCosts 44 (.lstore_n 3) 1 45 := ⟨by decide +kernel, rfl⟩
theorem md_Homes_findCosts_45 : mz_d mb_Homes_findCosts 45 (.iload_n 2) 1 46 := ⟨by decide +kernel, rfl⟩
theorem md_Homes_findCosts_46 : mz_d mb_Homes_findCosts 46 (.bipush 12) 2 48 := ⟨by decide +kernel, rfl⟩
theorem md_Homes_findCosts_48 : mz_d mb_Homes_findCosts 48 (.imul) 1 49 := ⟨by decide +kernel, rfl⟩
theorem md_Homes_findCosts_49 : mz_d mb_Homes_findCosts 49 (.istore 5) 2 51 := ⟨by decide +kernel, rfl⟩
theorem md_Homes_findCosts_51 : mz_d mb_Homes_findCosts 51 (.iload 5) 2 53 := ⟨by decide +kernel, rfl⟩
theorem md_Homes_findCosts_53 : mz_d mb_Homes_findCosts 53 (.iload_n 2) 1 54 := ⟨by decide +kernel, rfl⟩
theorem md_Homes_findCosts_54 : mz_d mb_Homes_findCosts 54 (.bipush 12) 2 56 := ⟨by decide +kernel, rfl⟩
theorem md_Homes_findCosts_56 : mz_d mb_Homes_findCosts 56 (.imul) 1 57 := ⟨by decide +kernel, rfl⟩
theorem md_Homes_findCosts_57 : mz_d mb_Homes_findCosts 57 (.aload_n 0) 1 58 := ⟨by decide +kernel, rfl⟩
theorem md_Homes_findCosts_58 : mz_d mb_Homes_findCosts 58 (.getfield 28) 3 61 := ⟨by decide +kernel, rfl⟩
theorem md_Homes_findCosts_61 : mz_d mb_Homes_findCosts 61 (.getfield 83) 3 64 := ⟨by decide +kernel, rfl⟩
theorem md_Homes_findCosts_64 : mz_d mb_Homes_findCosts 64 (.iload_n 2) 1 65 := ⟨by decide +kernel, rfl⟩
theorem md_Homes_findCosts_65 : mz_d mb_Homes_findCosts 65 (.iaload) 1 66 := ⟨by decide +kernel, rfl⟩
theorem md_Homes_findCosts_66 : mz_d mb_Homes_findCosts 66 (.iadd) 1 67 := ⟨by decide +kernel, rfl⟩
theorem md_Homes_findCosts_67 : mz_d mb_Homes_findCosts 67 (.if_icmp .ge 65) 3 70 := ⟨by decide +kernel, rfl⟩
theorem md_Homes_findCosts_70 : mz_d mb_Homes_findCosts 70 (.aload_n 0) 1 71 := ⟨by decide +kernel, rfl⟩
theorem md_Homes_findCosts_71 : mz_d mb_Homes_findCosts 71 (.getfield 44) 3 74 := ⟨by decide +kernel, rfl⟩
theorem md_Homes_findCosts_74 : mz_d mb_Homes_findCosts 74 (.iload 5) 2 76 := ⟨by decide +kernel, rfl⟩
theorem md_Homes_findCosts_76 : mz_d mb_Homes_findCosts 76 (.invokevirtual 88) 3 79 := ⟨by decide +kernel, rfl⟩
theorem md_Homes_findCosts_79 : mz_d mb_Homes_findCosts 79 (.ifCond .eq 47) 3 82 := ⟨by decide +kernel, rfl⟩
theorem md_Homes_findCosts_82 : mz_d mb_Homes_findCosts 82 (.aload_n 0) 1 83 := ⟨by decide +kernel, rfl⟩
theorem md_Homes_findCosts_83 : mz_d mb_Homes_findCosts 83 (.getfield 15) 3 86 := ⟨by decide +kernel, rfl⟩
theorem md_Homes_findCosts_86 : mz_d mb_Homes_findCosts 86 (.iload 5) 2 88 := ⟨by decide +kernel, rfl⟩
theorem md_Homes_findCosts_88 : mz_d mb_Homes_findCosts 88 (.invokestatic 94) 3 91 := ⟨by decide +kernel, rfl⟩
theorem md_Homes_findCosts_91 : mz_d mb_Homes_findCosts 91 (.dup2) 1 92 := ⟨by decide +kernel, rfl⟩
theorem md_Homes_findCosts_92 : mz_d mb_Homes_findCosts 92 (.laload) 1 93 := ⟨by decide +kernel, rfl⟩
theorem md_Homes_findCosts_93 : mz_d mb_Homes_findCosts 93 (.lload_n 3) 1 94 := ⟨by decide +kernel, rfl⟩
theorem md_Homes_findCosts_94 : mz_d mb_Homes_findCosts 94 (.ladd) 1 95 := ⟨by decide +kernel, rfl⟩
theorem md_Homes_findCosts_95 : mz_d mb_Homes_findCosts 95 (.lastore) 1 96 := ⟨by decide +kernel, rfl⟩
theorem md_Homes_findCosts_96 : mz_d mb_Homes_findCosts 96 (.aload_n 0) 1 97 := ⟨by decide +kernel, rfl⟩
theorem md_Homes_findCosts_97 : mz_d mb_Homes_findCosts 97 (.aload_n 0) 1 98 := ⟨by decide +kernel, rfl⟩
theorem md_Homes_findCosts_98 : mz_d mb_Homes_findCosts 98 (.getfield 40) 3 101 := ⟨by decide +kernel, rfl⟩
theorem md_Homes_findCosts_101 : mz_d mb_Homes_findCosts 101 (.getfield 98) 3 104 := ⟨by decide +kernel, rfl⟩
theorem md_Homes_findCosts_104 : mz_d mb_Homes_findCosts 104 (.iload 5) 2 106 := ⟨by decide +kernel, rfl⟩
theorem md_Homes_findCosts_106 : mz_d mb_Homes_findCosts 106 (.iaload) 1 107 := ⟨by decide +kernel, rfl⟩
theorem md_Homes_findCosts_107 : mz_d mb_Homes_findCosts 107 (.lload_n 3) 1 108 := ⟨by decide +kernel, rfl⟩
theorem md_Homes_findCosts_108 : mz_d mb_Homes_findCosts 108 (.invokevirtual 103) 3 111 := ⟨by decide +kernel, rfl⟩
theorem md_Homes_findCosts_111 : mz_d mb_Homes_findCosts 111 (.aload_n 0) 1 112 := ⟨by decide +kernel, rfl⟩
theorem md_Homes_findCosts_112 : mz_d mb_Homes_findCosts 112 (.aload_n 0) 1 113 := ⟨by decide +kernel, rfl⟩
theorem md_Homes_findCosts_113 : mz_d mb_Homes_findCosts 113 (.getfield 40) 3 116 := ⟨by decide +kernel, rfl⟩
theorem md_Homes_findCosts_116 : mz_d mb_Homes_findCosts 116 (.getfield 107) 3 119 := ⟨by decide +kernel, rfl⟩
theorem md_Homes_findCosts_119 : mz_d mb_Homes_findCosts 119 (.iload 5) 2 121 := ⟨by decide +kernel, rfl⟩
theorem md_Homes_findCosts_121 : mz_d mb_Homes_findCosts 121 (.iaload) 1 122 := ⟨by decide +kernel, rfl⟩
theorem md_Homes_findCosts_122 : mz_d mb_Homes_findCosts 122 (.lload_n 3) 1 123 := ⟨by decide +kernel, rfl⟩
theorem md_Homes_findCosts_123 : mz_d mb_Homes_findCosts 123 (.invokevirtual 103) 3 126 := ⟨by decide +kernel, rfl⟩
theorem md_Homes_findCosts_126 : mz_d mb_Homes_findCosts 126 (.iinc 5 1) 3 129 := ⟨by decide +kernel, rfl⟩
theorem md_Homes_findCosts_129 : mz_d mb_Homes_findCosts 129 (.goto (-78)) 3 132 := ⟨by decide +kernel, rfl⟩
theorem md_Homes_findCosts_132 : mz_d mb_Homes_findCosts 132 (.aload_n 0) 1 133 := ⟨by decide +kernel, rfl⟩
theorem md_Homes_findCosts_133 : mz_d mb_Homes_findCosts 133 (.getfield 28) 3 136 := ⟨by decide +kernel, rfl⟩
theorem md_Homes_findCosts_136 : mz_d mb_Homes_findCosts 136 (.iload_n 2) 1 137 := ⟨by decide +kernel, rfl⟩
theorem md_Homes_findCosts_137 : mz_d mb_Homes_findCosts 137 (.invokevirtual 110) 3 140 := ⟨by decide +kernel, rfl⟩
theorem md_Homes_findCosts_140 : mz_d mb_Homes_findCosts 140 (.ifCond .eq 17) 3 143 := ⟨by decide +kernel, rfl⟩
theorem md_Homes_findCosts_143 : mz_d mb_Homes_findCosts 143 (.aload_n 0) 1 144 := ⟨by decide +kernel, rfl⟩
theorem md_Homes_findCosts_144 : mz_d mb_Homes_findCosts 144 (.aload_n 0) 1 145 := ⟨by decide +kernel, rfl⟩
theorem md_Homes_findCosts_145 : mz_d mb_Homes_findCosts 145 (.getfield 40) 3 148 := ⟨by decide +kernel, rfl⟩
theorem md_Homes_findCosts_148 : mz_d mb_Homes_findCosts 148 (.getfield 113) 3 151 := ⟨by decide +kernel, rfl⟩
theorem md_Homes_findCosts_151 : mz_d mb_Homes_findCosts 151 (.iload_n 2) 1 152 := ⟨by decide +kernel, rfl⟩
theorem md_Homes_findCosts_152 : mz_d mb_Homes_findCosts 152 (.iaload) 1 153 := ⟨by decide +kernel, rfl⟩
theorem md_Homes_findCosts_153 : mz_d mb_Homes_findCosts 153 (.lload_n 3) 1 154 := ⟨by decide +kernel, rfl⟩
theorem md_Homes_findCosts_154 : mz_d mb_Homes_findCosts 154 (.invokevirtual 103) 3 157 := ⟨by decide +kernel, rfl⟩
theorem md_Homes_findCosts_157 : mz_d mb_Homes_findCosts 157 (.aload_n 0) 1 158 := ⟨by decide +kernel, rfl⟩
theorem md_Homes_findCosts_158 : mz_d mb_Homes_findCosts 158 (.iload_n 2) 1 159 := ⟨by decide +kernel, rfl⟩
theorem md_Homes_findCosts_159 : mz_d mb_Homes_findCosts 159 (.lload_n 3) 1 160 := ⟨by decide +kernel, rfl⟩
theorem md_Homes_findCosts_160 : mz_d mb_Homes_findCosts 160 (.invokevirtual 116) 3 163 := ⟨by decide +kernel, rfl⟩
theorem md_Homes_findCosts_163 : mz_d mb_Homes_findCosts 163 (.iinc 1 1) 3 166 := ⟨by decide +kernel, rfl⟩
theorem md_Homes_findCosts_166 : mz_d mb_Homes_findCosts 166 (.goto (-156)) 3 169 := ⟨by decide +kernel, rfl⟩
theorem md_Homes_findCosts_169 : mz_d mb_Homes_findCosts 169 (.return_) 1 170 := ⟨by decide +kernel, rfl⟩
theorem md_Homes_findHolders_0 : mz_d mb_Homes_findHolders 0 (.aload_n 0) 1 1 := ⟨by decide +kernel, rfl⟩
theorem md_Homes_findHolders_1 : mz_d mb_Homes_findHolders 1 (.getfield 22) 3 4 := ⟨by decide +kernel, rfl⟩
theorem md_Homes_findHolders_4 : mz_d mb_Homes_findHolders 4 (.iconst (-1)) 1 5 := ⟨by decide +kernel, rfl⟩
theorem md_Homes_findHolders_5 : mz_d mb_Homes_findHolders 5 (.invokestatic 145) 3 8 := ⟨by decide +kernel, rfl⟩
theorem md_Homes_findHolders_8 : mz_d mb_Homes_findHolders 8 (.iconst 0) 1 9 := ⟨by decide +kernel, rfl⟩
theorem md_Homes_findHolders_9 : mz_d mb_Homes_findHolders 9 (.istore_n 2) 1 10 := ⟨by decide +kernel, rfl⟩
theorem md_Homes_findHolders_10 : mz_d mb_Homes_findHolders 10 (.iload_n 2) 1 11 := ⟨by decide +kernel, rfl⟩
theorem md_Homes_findHolders_11 : mz_d mb_Homes_findHolders 11 (.bipush 10) 2 13 := ⟨by decide +kernel, rfl⟩
theorem md_Homes_findHolders_13 : mz_d mb_Homes_findHolders 13 (.if_icmp .ge 61) 3 16 := ⟨by decide +kernel, rfl⟩
theorem md_Homes_findHolders_16 : mz_d mb_Homes_findHolders 16 (.iload_n 1) 1 17 := ⟨by decide +kernel, rfl⟩
theorem md_Homes_findHolders_17 : mz_d mb_Homes_findHolders 17 (.iload_n 2) 1 18 := ⟨by decide +kernel, rfl⟩
theorem md_Homes_findHolders_18 : mz_d mb_Homes_findHolders 18 (.invokestatic 198) 3 21 := ⟨by decide +kernel, rfl⟩
theorem md_Homes_findHolders_21 : mz_d mb_Homes_findHolders 21 (.ifCond .eq 47) 3 24 := ⟨by decide +kernel, rfl⟩
theorem md_Homes_findHolders_24 : mz_d mb_Homes_findHolders 24 (.aload_n 0) 1 25 := ⟨by decide +kernel, rfl⟩
theorem md_Homes_findHolders_25 : mz_d mb_Homes_findHolders 25 (.getfield 19) 3 28 := ⟨by decide +kernel, rfl⟩
theorem md_Homes_findHolders_28 : mz_d mb_Homes_findHolders 28 (.iload_n 2) 1 29 := ⟨by decide +kernel, rfl⟩
theorem md_Homes_findHolders_29 : mz_d mb_Homes_findHolders 29 (.iaload) 1 30 := ⟨by decide +kernel, rfl⟩
theorem md_Homes_findHolders_30 : mz_d mb_Homes_findHolders 30 (.iconst (-1)) 1 31 := ⟨by decide +kernel, rfl⟩
theorem md_Homes_findHolders_31 : mz_d mb_Homes_findHolders 31 (.if_icmp .eq 37) 3 34 := ⟨by decide +kernel, rfl⟩
theorem md_Homes_findHolders_34 : mz_d mb_Homes_findHolders 34 (.aload_n 0) 1 35 := ⟨by decide +kernel, rfl⟩
theorem md_Homes_findHolders_35 : mz_d mb_Homes_findHolders 35 (.getfield 9) 3 38 := ⟨by decide +kernel, rfl⟩
theorem md_Homes_findHolders_38 : mz_d mb_Homes_findHolders 38 (.aload_n 0) 1 39 := ⟨by decide +kernel, rfl⟩
theorem md_Homes_findHolders_39 : mz_d mb_Homes_findHolders 39 (.getfield 19) 3 42 := ⟨by decide +kernel, rfl⟩
theorem md_Homes_findHolders_42 : mz_d mb_Homes_findHolders 42 (.iload_n 2) 1 43 := ⟨by decide +kernel, rfl⟩
theorem md_Homes_findHolders_43 : mz_d mb_Homes_findHolders 43 (.iaload) 1 44 := ⟨by decide +kernel, rfl⟩
theorem md_Homes_findHolders_44 : mz_d mb_Homes_findHolders 44 (.iaload) 1 45 := ⟨by decide +kernel, rfl⟩
theorem md_Homes_findHolders_45 : mz_d mb_Homes_findHolders 45 (.istore_n 3) 1 46 := ⟨by decide +kernel, rfl⟩
theorem md_Homes_findHolders_46 : mz_d mb_Homes_findHolders 46 (.iload_n 3) 1 47 := ⟨by decide +kernel, rfl⟩
theorem md_Homes_findHolders_47 : mz_d mb_Homes_findHolders 47 (.ifCond .lt 21) 3 50 := ⟨by decide +kernel, rfl⟩
theorem md_Homes_findHolders_50 : mz_d mb_Homes_findHolders 50 (.iload_n 3) 1 51 := ⟨by decide +kernel, rfl⟩
theorem md_Homes_findHolders_51 : mz_d mb_Homes_findHolders 51 (.bipush 8) 2 53 := ⟨by decide +kernel, rfl⟩
theorem md_Homes_findHolders_53 : mz_d mb_Homes_findHolders 53 (.if_icmp .ge 15) 3 56 := ⟨by decide +kernel, rfl⟩
theorem md_Homes_findHolders_56 : mz_d mb_Homes_findHolders 56 (.aload_n 0) 1 57 := ⟨by decide +kernel, rfl⟩
theorem md_Homes_findHolders_57 : mz_d mb_Homes_findHolders 57 (.getfield 22) 3 60 := ⟨by decide +kernel, rfl⟩
theorem md_Homes_findHolders_60 : mz_d mb_Homes_findHolders 60 (.iload_n 3) 1 61 := ⟨by decide +kernel, rfl⟩
theorem md_Homes_findHolders_61 : mz_d mb_Homes_findHolders 61 (.aload_n 0) 1 62 := ⟨by decide +kernel, rfl⟩
theorem md_Homes_findHolders_62 : mz_d mb_Homes_findHolders 62 (.getfield 19) 3 65 := ⟨by decide +kernel, rfl⟩
theorem md_Homes_findHolders_65 : mz_d mb_Homes_findHolders 65 (.iload_n 2) 1 66 := ⟨by decide +kernel, rfl⟩
theorem md_Homes_findHolders_66 : mz_d mb_Homes_findHolders 66 (.iaload) 1 67 := ⟨by decide +kernel, rfl⟩
theorem md_Homes_findHolders_67 : mz_d mb_Homes_findHolders 67 (.iastore) 1 68 := ⟨by decide +kernel, rfl⟩
theorem md_Homes_findHolders_68 : mz_d mb_Homes_findHolders 68 (.iinc 2 1) 3 71 := ⟨by decide +kernel, rfl⟩
theorem md_Homes_findHolders_71 : mz_d mb_Homes_findHolders 71 (.goto (-61)) 3 74 := ⟨by decide +kernel, rfl⟩
theorem md_Homes_findHolders_74 : mz_d mb_Homes_findHolders 74 (.return_) 1 75 := ⟨by decide +kernel, rfl⟩
theorem md_Homes_registerFor_0 : mz_d mb_Homes_registerFor 0 (.iconst (-1)) 1 1 := ⟨by decide +kernel, rfl⟩
theorem md_Homes_registerFor_1 : mz_d mb_Homes_registerFor 1 (.istore_n 2) 1 2 := ⟨by decide +kernel, rfl⟩
theorem md_Homes_registerFor_2 : mz_d mb_Homes_registerFor 2 (.aload_n 0) 1 3 := ⟨by decide +kernel, rfl⟩
theorem md_Homes_registerFor_3 : mz_d mb_Homes_registerFor 3 (.getfield 15) 3 6 := ⟨by decide +kernel, rfl⟩
theorem md_Homes_registerFor_6 : mz_d mb_Homes_registerFor 6 (.iload_n 1) 1 7 := ⟨by decide +kernel, rfl⟩
theorem md_Homes_registerFor_7 : mz_d mb_Homes_registerFor 7 (.laload) 1 8 := ⟨by decide +kernel, rfl⟩
theorem md_Homes_registerFor_8 : mz_d mb_Homes_registerFor 8 (.lstore_n 3) 1 9 := ⟨by decide +kernel, rfl⟩
theorem md_Homes_registerFor_9 : mz_d mb_Homes_registerFor 9 (.iconst 0) 1 10 := ⟨by decide +kernel, rfl⟩
theorem md_Homes_registerFor_10 : mz_d mb_Homes_registerFor 10 (.istore 5) 2 12 := ⟨by decide +kernel, rfl⟩
theorem md_Homes_registerFor_12 : mz_d mb_Homes_registerFor 12 (.iload 5) 2 14 := ⟨by decide +kernel, rfl⟩
theorem md_Homes_registerFor_14 : mz_d mb_Homes_registerFor 14 (.aload_n 0) 1 15 := ⟨by decide +kernel, rfl⟩
theorem md_Homes_registerFor_15 : mz_d mb_Homes_registerFor 15 (.getfield 142) 3 18 := ⟨by decide +kernel, rfl⟩
theorem md_Homes_registerFor_18 : mz_d mb_Homes_registerFor 18 (.if_icmp .ge 56) 3 21 := ⟨by decide +kernel, rfl⟩
theorem md_Homes_registerFor_21 : mz_d mb_Homes_registerFor 21 (.aload_n 0) 1 22 := ⟨by decide +kernel, rfl⟩
theorem md_Homes_registerFor_22 : mz_d mb_Homes_registerFor 22 (.getfield 22) 3 25 := ⟨by decide +kernel, rfl⟩
theorem md_Homes_registerFor_25 : mz_d mb_Homes_registerFor 25 (.iload 5) 2 27 := ⟨by decide +kernel, rfl⟩
theorem md_Homes_registerFor_27 : mz_d mb_Homes_registerFor 27 (.iaload) 1 28 := ⟨by decide +kernel, rfl⟩
theorem md_Homes_registerFor_28 : mz_d mb_Homes_registerFor 28 (.iconst (-1)) 1 29 := ⟨by decide +kernel, rfl⟩
theorem md_Homes_registerFor_29 : mz_d mb_Homes_registerFor 29 (.if_icmp .ne 6) 3 32 := ⟨by decide +kernel, rfl⟩
theorem md_Homes_registerFor_32 : mz_d mb_Homes_registerFor 32 (.iload 5) 2 34 := ⟨by decide +kernel, rfl⟩
theorem md_Homes_registerFor_34 : mz_d mb_Homes_registerFor 34 (.ireturn) 1 35 := ⟨by decide +kernel, rfl⟩
theorem md_Homes_registerFor_35 : mz_d mb_Homes_registerFor 35 (.aload_n 0) 1 36 := ⟨by decide +kernel, rfl⟩
theorem md_Homes_registerFor_36 : mz_d mb_Homes_registerFor 36 (.getfield 15) 3 39 := ⟨by decide +kernel, rfl⟩
theorem md_Homes_registerFor_39 : mz_d mb_Homes_registerFor 39 (.aload_n 0) 1 40 := ⟨by decide +kernel, rfl⟩
theorem md_Homes_registerFor_40 : mz_d mb_Homes_registerFor 40 (.getfield 22) 3 43 := ⟨by decide +kernel, rfl⟩
theorem md_Homes_registerFor_43 : mz_d mb_Homes_registerFor 43 (.iload 5) 2 45 := ⟨by decide +kernel, rfl⟩
theorem md_Homes_registerFor_45 : mz_d mb_Homes_registerFor 45 (.iaload) 1 46 := ⟨by decide +kernel, rfl⟩
theorem md_Homes_registerFor_46 : mz_d mb_Homes_registerFor 46 (.laload) 1 47 := ⟨by decide +kernel, rfl⟩
theorem md_Homes_registerFor_47 : mz_d mb_Homes_registerFor 47 (.lload_n 3) 1 48 := ⟨by decide +kernel, rfl⟩
theorem md_Homes_registerFor_48 : mz_d mb_Homes_registerFor 48 (.lcmp) 1 49 := ⟨by decide +kernel, rfl⟩
theorem md_Homes_registerFor_49 : mz_d mb_Homes_registerFor 49 (.ifCond .ge 19) 3 52 := ⟨by decide +kernel, rfl⟩
theorem md_Homes_registerFor_52 : mz_d mb_Homes_registerFor 52 (.aload_n 0) 1 53 := ⟨by decide +kernel, rfl⟩
theorem md_Homes_registerFor_53 : mz_d mb_Homes_registerFor 53 (.getfield 15) 3 56 := ⟨by decide +kernel, rfl⟩
theorem md_Homes_registerFor_56 : mz_d mb_Homes_registerFor 56 (.aload_n 0) 1 57 := ⟨by decide +kernel, rfl⟩
theorem md_Homes_registerFor_57 : mz_d mb_Homes_registerFor 57 (.getfield 22) 3 60 := ⟨by decide +kernel, rfl⟩
theorem md_Homes_registerFor_60 : mz_d mb_Homes_registerFor 60 (.iload 5) 2 62 := ⟨by decide +kernel, rfl⟩
theorem md_Homes_registerFor_62 : mz_d mb_Homes_registerFor 62 (.iaload) 1 63 := ⟨by decide +kernel, rfl⟩
theorem md_Homes_registerFor_63 : mz_d mb_Homes_registerFor 63 (.laload) 1 64 := ⟨by decide +kernel, rfl⟩
theorem md_Homes_registerFor_64 : mz_d mb_Homes_registerFor 64 (.lstore_n 3) 1 65 := ⟨by decide +kernel, rfl⟩
theorem md_Homes_registerFor_65 : mz_d mb_Homes_registerFor 65 (.iload 5) 2 67 := ⟨by decide +kernel, rfl⟩
theorem md_Homes_registerFor_67 : mz_d mb_Homes_registerFor 67 (.istore_n 2) 1 68 := ⟨by decide +kernel, rfl⟩
theorem md_Homes_registerFor_68 : mz_d mb_Homes_registerFor 68 (.iinc 5 1) 3 71 := ⟨by decide +kernel, rfl⟩
theorem md_Homes_registerFor_71 : mz_d mb_Homes_registerFor 71 (.goto (-59)) 3 74 := ⟨by decide +kernel, rfl⟩
theorem md_Homes_registerFor_74 : mz_d mb_Homes_registerFor 74 (.iload_n 2) 1 75 := ⟨by decide +kernel, rfl⟩
theorem md_Homes_registerFor_75 : mz_d mb_Homes_registerFor 75 (.ireturn) 1 76 := ⟨by decide +kernel, rfl⟩
theorem md_Homes_putInSlot_0 : mz_d mb_Homes_putInSlot 0 (.aload_n 0) 1 1 := ⟨by decide +kernel, rfl⟩
theorem md_Homes_putInSlot_1 : mz_d mb_Homes_putInSlot 1 (.getfield 9) 3 4 := ⟨by decide +kernel, rfl⟩
theorem md_Homes_putInSlot_4 : mz_d mb_Homes_putInSlot 4 (.iload_n 1) 1 5 := ⟨by decide +kernel, rfl⟩
theorem md_Homes_putInSlot_5 : mz_d mb_Homes_putInSlot 5 (.bipush 8) 2 7 := ⟨by decide +kernel, rfl⟩
theorem md_Homes_putInSlot_7 : mz_d mb_Homes_putInSlot 7 (.iload_n 1) 1 8 := ⟨by decide +kernel, rfl⟩
theorem md_Homes_putInSlot_8 : mz_d mb_Homes_putInSlot 8 (.iadd) 1 9 := ⟨by decide +kernel, rfl⟩
theorem md_Homes_putInSlot_9 : mz_d mb_Homes_putInSlot 9 (.iastore) 1 10 := ⟨by decide +kernel, rfl⟩
theorem md_Homes_putInSlot_10 : mz_d mb_Homes_putInSlot 10 (.aload_n 0) 1 11 := ⟨by decide +kernel, rfl⟩
theorem md_Homes_putInSlot_11 : mz_d mb_Homes_putInSlot 11 (.iconst 1) 1 12 := ⟨by decide +kernel, rfl⟩
theorem md_Homes_putInSlot_12 : mz_d mb_Homes_putInSlot 12 (.putfield 62) 3 15 := ⟨by decide +kernel, rfl⟩
theorem md_Homes_putInSlot_15 : mz_d mb_Homes_putInSlot 15 (.return_) 1 16 := ⟨by decide +kernel, rfl⟩
theorem md_Homes_giveHome_0 : mz_d mb_Homes_giveHome 0 (.aload_n 0) 1 1 := ⟨by decide +kernel, rfl⟩
theorem md_Homes_giveHome_1 : mz_d mb_Homes_giveHome 1 (.iload_n 2) 1 2 := ⟨by decide +kernel, rfl⟩
theorem md_Homes_giveHome_2 : mz_d mb_Homes_giveHome 2 (.invokevirtual 189) 3 5 := ⟨by decide +kernel, rfl⟩
theorem md_Homes_giveHome_5 : mz_d mb_Homes_giveHome 5 (.aload_n 0) 1 6 := ⟨by decide +kernel, rfl⟩
theorem md_Homes_giveHome_6 : mz_d mb_Homes_giveHome 6 (.iload_n 1) 1 7 := ⟨by decide +kernel, rfl⟩
theorem md_Homes_giveHome_7 : mz_d mb_Homes_giveHome 7 (.invokevirtual 192) 3 10 := ⟨by decide +kernel, rfl⟩
theorem md_Homes_giveHome_10 : mz_d mb_Homes_giveHome 10 (.istore_n 3) 1 11 := ⟨by decide +kernel, rfl⟩
theorem md_Homes_giveHome_11 : mz_d mb_Homes_giveHome 11 (.iload_n 3) 1 12 := ⟨by decide +kernel, rfl⟩
theorem md_Homes_giveHome_12 : mz_d mb_Homes_giveHome 12 (.iconst (-1)) 1 13 := ⟨by decide +kernel, rfl⟩
theorem md_Homes_giveHome_13 : mz_d mb_Homes_giveHome 13 (.if_icmp .ne 9) 3 16 := ⟨by decide +kernel, rfl⟩
theorem md_Homes_giveHome_16 : mz_d mb_Homes_giveHome 16 (.aload_n 0) 1 17 := ⟨by decide +kernel, rfl⟩
theorem md_Homes_giveHome_17 : mz_d mb_Homes_giveHome 17 (.iload_n 1) 1 18 := ⟨by decide +kernel, rfl⟩
theorem md_Homes_giveHome_18 : mz_d mb_Homes_giveHome 18 (.invokevirtual 195) 3 21 := ⟨by decide +kernel, rfl⟩
theorem md_Homes_giveHome_21 : mz_d mb_Homes_giveHome 21 (.return_) 1 22 := ⟨by decide +kernel, rfl⟩
theorem md_Homes_giveHome_22 : mz_d mb_Homes_giveHome 22 (.aload_n 0) 1 23 := ⟨by decide +kernel, rfl⟩
theorem md_Homes_giveHome_23 : mz_d mb_Homes_giveHome 23 (.getfield 22) 3 26 := ⟨by decide +kernel, rfl⟩
theorem md_Homes_giveHome_26 : mz_d mb_Homes_giveHome 26 (.iload_n 3) 1 27 := ⟨by decide +kernel, rfl⟩
theorem md_Homes_giveHome_27 : mz_d mb_Homes_giveHome 27 (.iaload) 1 28 := ⟨by decide +kernel, rfl⟩
theorem md_Homes_giveHome_28 : mz_d mb_Homes_giveHome 28 (.iconst (-1)) 1 29 := ⟨by decide +kernel, rfl⟩
theorem md_Homes_giveHome_29 : mz_d mb_Homes_giveHome 29 (.if_icmp .eq 13) 3 32 := ⟨by decide +kernel, rfl⟩
theorem md_Homes_giveHome_32 : mz_d mb_Homes_giveHome 32 (.aload_n 0) 1 33 := ⟨by decide +kernel, rfl⟩
theorem md_Homes_giveHome_33 : mz_d mb_Homes_giveHome 33 (.aload_n 0) 1 34 := ⟨by decide +kernel, rfl⟩
theorem md_Homes_giveHome_34 : mz_d mb_Homes_giveHome 34 (.getfield 22) 3 37 := ⟨by decide +kernel, rfl⟩
theorem md_Homes_giveHome_37 : mz_d mb_Homes_giveHome 37 (.iload_n 3) 1 38 := ⟨by decide +kernel, rfl⟩
theorem md_Homes_giveHome_38 : mz_d mb_Homes_giveHome 38 (.iaload) 1 39 := ⟨by decide +kernel, rfl⟩
theorem md_Homes_giveHome_39 : mz_d mb_Homes_giveHome 39 (.invokevirtual 195) 3 42 := ⟨by decide +kernel, rfl⟩
theorem md_Homes_giveHome_42 : mz_d mb_Homes_giveHome 42 (.aload_n 0) 1 43 := ⟨by decide +kernel, rfl⟩
theorem md_Homes_giveHome_43 : mz_d mb_Homes_giveHome 43 (.getfield 9) 3 46 := ⟨by decide +kernel, rfl⟩
theorem md_Homes_giveHome_46 : mz_d mb_Homes_giveHome 46 (.iload_n 1) 1 47 := ⟨by decide +kernel, rfl⟩
theorem md_Homes_giveHome_47 : mz_d mb_Homes_giveHome 47 (.iload_n 3) 1 48 := ⟨by decide +kernel, rfl⟩
theorem md_Homes_giveHome_48 : mz_d mb_Homes_giveHome 48 (.iastore) 1 49 := ⟨by decide +kernel, rfl⟩
theorem md_Homes_giveHome_49 : mz_d mb_Homes_giveHome 49 (.return_) 1 50 := ⟨by decide +kernel, rfl⟩
theorem md_Homes_giveHomesToPhis_0 : mz_d mb_Homes_giveHomesToPhis 0 (.iconst 0) 1 1 := ⟨by decide +kernel, rfl⟩
theorem md_Homes_giveHomesToPhis_1 : mz_d mb_Homes_giveHomesToPhis 1 (.istore_n 2) 1 2 := ⟨by decide +kernel, rfl⟩
theorem md_Homes_giveHomesToPhis_2 : mz_d mb_Homes_giveHomesToPhis 2 (.iload_n 2) 1 3 := ⟨by decide +kernel, rfl⟩
theorem md_Homes_giveHomesToPhis_3 : mz_d mb_Homes_giveHomesToPhis 3 (.bipush 10) 2 5 := ⟨by decide +kernel, rfl⟩
theorem md_Homes_giveHomesToPhis_5 : mz_d mb_Homes_giveHomesToPhis 5 (.if_icmp .ge 31) 3 8 := ⟨by decide +kernel, rfl⟩
theorem md_Homes_giveHomesToPhis_8 : mz_d mb_Homes_giveHomesToPhis 8 (.aload_n 0) 1 9 := ⟨by decide +kernel, rfl⟩
theorem md_Homes_giveHomesToPhis_9 : mz_d mb_Homes_giveHomesToPhis 9 (.getfield 19) 3 12 := ⟨by decide +kernel, rfl⟩
theorem md_Homes_giveHomesToPhis_12 : mz_d mb_Homes_giveHomesToPhis 12 (.iload_n 2) 1 13 := ⟨by decide +kernel, rfl⟩
theorem md_Homes_giveHomesToPhis_13 : mz_d mb_Homes_giveHomesToPhis 13 (.aload_n 0) 1 14 := ⟨by decide +kernel, rfl⟩
theorem md_Homes_giveHomesToPhis_14 : mz_d mb_Homes_giveHomesToPhis 14 (.getfield 44) 3 17 := ⟨by decide +kernel, rfl⟩
theorem md_Homes_giveHomesToPhis_17 : mz_d mb_Homes_giveHomesToPhis 17 (.aload_n 0) 1 18 := ⟨by decide +kernel, rfl⟩
theorem md_Homes_giveHomesToPhis_18 : mz_d mb_Homes_giveHomesToPhis 18 (.getfield 40) 3 21 := ⟨by decide +kernel, rfl⟩
theorem md_Homes_giveHomesToPhis_21 : mz_d mb_Homes_giveHomesToPhis 21 (.iload_n 1) 1 22 := ⟨by decide +kernel, rfl⟩
theorem md_Homes_giveHomesToPhis_22 : mz_d mb_Homes_giveHomesToPhis 22 (.iload_n 2) 1 23 := ⟨by decide +kernel, rfl⟩
theorem md_Homes_giveHomesToPhis_23 : mz_d mb_Homes_giveHomesToPhis 23 (.invokevirtual 158) 3 26 := ⟨by decide +kernel, rfl⟩
theorem md_Homes_giveHomesToPhis_26 : mz_d mb_Homes_giveHomesToPhis 26 (.invokevirtual 161) 3 29 := ⟨by decide +kernel, rfl⟩
theorem md_Homes_giveHomesToPhis_29 : mz_d mb_Homes_giveHomesToPhis 29 (.iastore) 1 30 := ⟨by decide +kernel, rfl⟩
theorem md_Homes_giveHomesToPhis_30 : mz_d mb_Homes_giveHomesToPhis 30 (.iinc 2 1) 3 33 := ⟨by decide +kernel, rfl⟩
theorem md_Homes_giveHomesToPhis_33 : mz_d mb_Homes_giveHomesToPhis 33 (.goto (-31)) 3 36 := ⟨by decide +kernel, rfl⟩
theorem md_Homes_giveHomesToPhis_36 : mz_d mb_Homes_giveHomesToPhis 36 (.iconst 0) 1 37 := ⟨by decide +kernel, rfl⟩
theorem md_Homes_giveHomesToPhis_37 : mz_d mb_Homes_giveHomesToPhis 37 (.istore_n 2) 1 38 := ⟨by decide +kernel, rfl⟩
theorem md_Homes_giveHomesToPhis_38 : mz_d mb_Homes_giveHomesToPhis 38 (.iload_n 2) 1 39 := ⟨by decide +kernel, rfl⟩
theorem md_Homes_giveHomesToPhis_39 : mz_d mb_Homes_giveHomesToPhis 39 (.bipush 10) 2 41 := ⟨by decide +kernel, rfl⟩
theorem md_Homes_giveHomesToPhis_41 : mz_d mb_Homes_giveHomesToPhis 41 (.if_icmp .ge 39) 3 44 := ⟨by decide +kernel, rfl⟩
theorem md_Homes_giveHomesToPhis_44 : mz_d mb_Homes_giveHomesToPhis 44 (.aload_n 0) 1 45 := ⟨by decide +kernel, rfl⟩
theorem md_Homes_giveHomesToPhis_45 : mz_d mb_Homes_giveHomesToPhis 45 (.getfield 44) 3 48 := ⟨by decide +kernel, rfl⟩
theorem md_Homes_giveHomesToPhis_48 : mz_d mb_Homes_giveHomesToPhis 48 (.iload_n 1) 1 49 := ⟨by decide +kernel, rfl⟩
theorem md_Homes_giveHomesToPhis_49 : mz_d mb_Homes_giveHomesToPhis 49 (.iload_n 2) 1 50 := ⟨by decide +kernel, rfl⟩
theorem md_Homes_giveHomesToPhis_50 : mz_d mb_Homes_giveHomesToPhis 50 (.invokevirtual 126) 3 53 := ⟨by decide +kernel, rfl⟩
theorem md_Homes_giveHomesToPhis_53 : mz_d mb_Homes_giveHomesToPhis 53 (.ifCond .eq 21) 3 56 := ⟨by decide +kernel, rfl⟩
theorem md_Homes_giveHomesToPhis_56 : mz_d mb_Homes_giveHomesToPhis 56 (.aload_n 0) 1 57 := ⟨by decide +kernel, rfl⟩
theorem md_Homes_giveHomesToPhis_57 : mz_d mb_Homes_giveHomesToPhis 57 (.iload_n 1) 1 58 := ⟨by decide +kernel, rfl⟩
theorem md_Homes_giveHomesToPhis_58 : mz_d mb_Homes_giveHomesToPhis 58 (.iload_n 2) 1 59 := ⟨by decide +kernel, rfl⟩
theorem md_Homes_giveHomesToPhis_59 : mz_d mb_Homes_giveHomesToPhis 59 (.invokestatic 130) 3 62 := ⟨by decide +kernel, rfl⟩
theorem md_Homes_giveHomesToPhis_62 : mz_d mb_Homes_giveHomesToPhis 62 (.aload_n 0) 1 63 := ⟨by decide +kernel, rfl⟩
theorem md_Homes_giveHomesToPhis_63 : mz_d mb_Homes_giveHomesToPhis 63 (.getfield 36) 3 66 := ⟨by decide +kernel, rfl⟩
theorem md_Homes_giveHomesToPhis_66 : mz_d mb_Homes_giveHomesToPhis 66 (.getfield 164) 3 69 := ⟨by decide +kernel, rfl⟩
theorem md_Homes_giveHomesToPhis_69 : mz_d mb_Homes_giveHomesToPhis 69 (.iload_n 1) 1 70 := ⟨by decide +kernel, rfl⟩
theorem md_Homes_giveHomesToPhis_70 : mz_d mb_Homes_giveHomesToPhis 70 (.iaload) 1 71 := ⟨by decide +kernel, rfl⟩
theorem md_Homes_giveHomesToPhis_71 : mz_d mb_Homes_giveHomesToPhis 71 (.invokevirtual 169) 3 74 := ⟨by decide +kernel, rfl⟩
theorem md_Homes_giveHomesToPhis_74 : mz_d mb_Homes_giveHomesToPhis 74 (.iinc 2 1) 3 77 := ⟨by decide +kernel, rfl⟩
theorem md_Homes_giveHomesToPhis_77 : mz_d mb_Homes_giveHomesToPhis 77 (.goto (-39)) 3 80 := ⟨by decide +kernel, rfl⟩
theorem md_Homes_giveHomesToPhis_80 : mz_d mb_Homes_giveHomesToPhis 80 (.return_) 1 81 := ⟨by decide +kernel, rfl⟩
theorem md_Homes_findLiveBehind_0 : mz_d mb_Homes_findLiveBehind 0 (.aload_n 0) 1 1 := ⟨by decide +kernel, rfl⟩
theorem md_Homes_findLiveBehind_1 : mz_d mb_Homes_findLiveBehind 1 (.getfield 36) 3 4 := ⟨by decide +kernel, rfl⟩
theorem md_Homes_findLiveBehind_4 : mz_d mb_Homes_findLiveBehind 4 (.iload_n 1) 1 5 := ⟨by decide +kernel, rfl⟩
theorem md_Homes_findLiveBehind_5 : mz_d mb_Homes_findLiveBehind 5 (.invokevirtual 172) 3 8 := ⟨by decide +kernel, rfl⟩
theorem md_Homes_findLiveBehind_8 : mz_d mb_Homes_findLiveBehind 8 (.aload_n 0) 1 9 := ⟨by decide +kernel, rfl⟩
theorem md_Homes_findLiveBehind_9 : mz_d mb_Homes_findLiveBehind 9 (.getfield 28) 3 12 := ⟨by decide +kernel, rfl⟩
theorem md_Homes_findLiveBehind_12 : mz_d mb_Homes_findLiveBehind 12 (.iload_n 1) 1 13 := ⟨by decide +kernel, rfl⟩
theorem md_Homes_findLiveBehind_13 : mz_d mb_Homes_findLiveBehind 13 (.invokevirtual 174) 3 16 := ⟨by decide +kernel, rfl⟩
theorem md_Homes_findLiveBehind_16 : mz_d mb_Homes_findLiveBehind 16 (.ior) 1 17 := ⟨by decide +kernel, rfl⟩
theorem md_Homes_findLiveBehind_17 : mz_d mb_Homes_findLiveBehind 17 (.istore_n 2) 1 18 := ⟨by decide +kernel, rfl⟩
theorem md_Homes_findLiveBehind_18 : mz_d mb_Homes_findLiveBehind 18 (.aload_n 0) 1 19 := ⟨by decide +kernel, rfl⟩
theorem md_Homes_findLiveBehind_19 : mz_d mb_Homes_findLiveBehind 19 (.getfield 28) 3 22 := ⟨by decide +kernel, rfl⟩
theorem md_Homes_findLiveBehind_22 : mz_d mb_Homes_findLiveBehind 22 (.getfield 83) 3 25 := ⟨by decide +kernel, rfl⟩
theorem md_Homes_findLiveBehind_25 : mz_d mb_Homes_findLiveBehind 25 (.iload_n 1) 1 26 := ⟨by decide +kernel, rfl⟩
theorem md_Homes_findLiveBehind_26 : mz_d mb_Homes_findLiveBehind 26 (.iaload) 1 27 := ⟨by decide +kernel, rfl⟩
theorem md_Homes_findLiveBehind_27 : mz_d mb_Homes_findLiveBehind 27 (.iconst 1) 1 28 := ⟨by decide +kernel, rfl⟩
theorem md_Homes_findLiveBehind_28 : mz_d mb_Homes_findLiveBehind 28 (.isub) 1 29 := ⟨by decide +kernel, rfl⟩
theorem md_Homes_findLiveBehind_29 : mz_d mb_Homes_findLiveBehind 29 (.istore_n 3) 1 30 := ⟨by decide +kernel, rfl⟩
theorem md_Homes_findLiveBehind_30 : mz_d mb_Homes_findLiveBehind 30 (.iload_n 3) 1 31 := ⟨by decide +kernel, rfl⟩
theorem md_Homes_findLiveBehind_31 : mz_d mb_Homes_findLiveBehind 31 (.ifCond .lt 48) 3 34 := ⟨by decide +kernel, rfl⟩
theorem md_Homes_findLiveBehind_34 : mz_d mb_Homes_findLiveBehind 34 (.iload_n 1) 1 35 := ⟨by decide +kernel, rfl⟩
theorem md_Homes_findLiveBehind_35 : mz_d mb_Homes_findLiveBehind 35 (.bipush 12) 2 37 := ⟨by decide +kernel, rfl⟩
theorem md_Homes_findLiveBehind_37 : mz_d mb_Homes_findLiveBehind 37 (.imul) 1 38 := ⟨by decide +kernel, rfl⟩
theorem md_Homes_findLiveBehind_38 : mz_d mb_Homes_findLiveBehind 38 (.iload_n 3) 1 39 := ⟨by decide +kernel, rfl⟩
theorem md_Homes_findLiveBehind_39 : mz_d mb_Homes_findLiveBehind 39 (.iadd) 1 40 := ⟨by decide +kernel, rfl⟩
theorem md_Homes_findLiveBehind_40 : mz_d mb_Homes_findLiveBehind 40 (.istore 4) 2 42 := ⟨by decide +kernel, rfl⟩
theorem md_Homes_findLiveBehind_42 : mz_d mb_Homes_findLiveBehind 42 (.aload_n 0) 1 43 := ⟨by decide +kernel, rfl⟩
theorem md_Homes_findLiveBehind_43 : mz_d mb_Homes_findLiveBehind 43 (.getfield 25) 3 46 := ⟨by decide +kernel, rfl⟩
theorem md_Homes_findLiveBehind_46 : mz_d mb_Homes_findLiveBehind 46 (.iload_n 3) 1 47 := ⟨by decide +kernel, rfl⟩
theorem md_Homes_findLiveBehind_47 : mz_d mb_Homes_findLiveBehind 47 (.iload_n 2) 1 48 := ⟨by decide +kernel, rfl⟩
theorem md_Homes_findLiveBehind_48 : mz_d mb_Homes_findLiveBehind 48 (.iastore) 1 49 := ⟨by decide +kernel, rfl⟩
theorem md_Homes_findLiveBehind_49 : mz_d mb_Homes_findLiveBehind 49 (.iload_n 2) 1 50 := ⟨by decide +kernel, rfl⟩
theorem md_Homes_findLiveBehind_50 : mz_d mb_Homes_findLiveBehind 50 (.aload_n 0) 1 51 := ⟨by decide +kernel, rfl⟩
theorem md_Homes_findLiveBehind_51 : mz_d mb_Homes_findLiveBehind 51 (.getfield 28) 3 54 := ⟨by decide +kernel, rfl⟩
theorem md_Homes_findLiveBehind_54 : mz_d mb_Homes_findLiveBehind 54 (.iload 4) 2 56 := ⟨by decide +kernel, rfl⟩
theorem md_Homes_findLiveBehind_56 : mz_d mb_Homes_findLiveBehind 56 (.invokevirtual 177) 3 59 := ⟨by decide +kernel, rfl⟩
theorem md_Homes_findLiveBehind_59 : mz_d mb_Homes_findLiveBehind 59 (.iconst (-1)) 1 60 := ⟨by decide +kernel, rfl⟩
theorem md_Homes_findLiveBehind_60 : mz_d mb_Homes_findLiveBehind 60 (.ixor) 1 61 := ⟨by decide +kernel, rfl⟩
theorem md_Homes_findLiveBehind_61 : mz_d mb_Homes_findLiveBehind 61 (.iand) 1 62 := ⟨by decide +kernel, rfl⟩
theorem md_Homes_findLiveBehind_62 : mz_d mb_Homes_findLiveBehind 62 (.aload_n 0) 1 63 := ⟨by decide +kernel, rfl⟩
theorem md_Homes_findLiveBehind_63 : mz_d mb_Homes_findLiveBehind 63 (.getfield 28) 3 66 := ⟨by decide +kernel, rfl⟩
theorem md_Homes_findLiveBehind_66 : mz_d mb_Homes_findLiveBehind 66 (.iload 4) 2 68 := ⟨by decide +kernel, rfl⟩
theorem md_Homes_findLiveBehind_68 : mz_d mb_Homes_findLiveBehind 68 (.invokevirtual 180) 3 71 := ⟨by decide +kernel, rfl⟩
theorem md_Homes_findLiveBehind_71 : mz_d mb_Homes_findLiveBehind 71 (.ior) 1 72 := ⟨by decide +kernel, rfl⟩
theorem md_Homes_findLiveBehind_72 : mz_d mb_Homes_findLiveBehind 72 (.istore_n 2) 1 73 := ⟨by decide +kernel, rfl⟩
theorem md_Homes_findLiveBehind_73 : mz_d mb_Homes_findLiveBehind 73 (.iinc 3 (-1)) 3 76 := ⟨by decide +kernel, rfl⟩
theorem md_Homes_findLiveBehind_76 : mz_d mb_Homes_findLiveBehind 76 (.goto (-46)) 3 79 := ⟨by decide +kernel, rfl⟩
theorem md_Homes_findLiveBehind_79 : mz_d mb_Homes_findLiveBehind 79 (.return_) 1 80 := ⟨by decide +kernel, rfl⟩
theorem md_Homes_giveHomeToMade_0 : mz_d mb_Homes_giveHomeToMade 0 (.aload_n 0) 1 1 := ⟨by decide +kernel, rfl⟩
theorem md_Homes_giveHomeToMade_1 : mz_d mb_Homes_giveHomeToMade 1 (.getfield 28) 3 4 := ⟨by decide +kernel, rfl⟩
theorem md_Homes_giveHomeToMade_4 : mz_d mb_Homes_giveHomeToMade 4 (.iload_n 1) 1 5 := ⟨by decide +kernel, rfl⟩
theorem md_Homes_giveHomeToMade_5 : mz_d mb_Homes_giveHomeToMade 5 (.invokevirtual 183) 3 8 := ⟨by decide +kernel, rfl⟩
theorem md_Homes_giveHomeToMade_8 : mz_d mb_Homes_giveHomeToMade 8 (.ifCond .ne 4) 3 11 := ⟨by decide +kernel, rfl⟩
theorem md_Homes_giveHomeToMade_11 : mz_d mb_Homes_giveHomeToMade 11 (.return_) 1 12 := ⟨by decide +kernel, rfl⟩
theorem md_Homes_giveHomeToMade_12 : mz_d mb_Homes_giveHomeToMade 12 (.aload_n 0) 1 13 := ⟨by decide +kernel, rfl⟩
theorem md_Homes_giveHomeToMade_13 : mz_d mb_Homes_giveHomeToMade 13 (.getfield 19) 3 16 := ⟨by decide +kernel, rfl⟩
theorem md_Homes_giveHomeToMade_16 : mz_d mb_Homes_giveHomeToMade 16 (.aload_n 0) 1 17 := ⟨by decide +kernel, rfl⟩
theorem md_Homes_giveHomeToMade_17 : mz_d mb_Homes_giveHomeToMade 17 (.getfield 28) 3 20 := ⟨by decide +kernel, rfl⟩
theorem md_Homes_giveHomeToMade_20 : mz_d mb_Homes_giveHomeToMade 20 (.getfield 186) 3 23 := ⟨by decide +kernel, rfl⟩
theorem md_Homes_giveHomeToMade_23 : mz_d mb_Homes_giveHomeToMade 23 (.iload_n 1) 1 24 := ⟨by decide +kernel, rfl⟩
theorem md_Homes_giveHomeToMade_24 : mz_d mb_Homes_giveHomeToMade 24 (.iaload) 1 25 := ⟨by decide +kernel, rfl⟩
theorem md_Homes_giveHomeToMade_25 : mz_d mb_Homes_giveHomeToMade 25 (.aload_n 0) 1 26 := ⟨by decide +kernel, rfl⟩
theorem md_Homes_giveHomeToMade_26 : mz_d mb_Homes_giveHomeToMade 26 (.getfield 44) 3 29 := ⟨by decide +kernel, rfl⟩
theorem md_Homes_giveHomeToMade_29 : mz_d mb_Homes_giveHomeToMade 29 (.iload_n 1) 1 30 := ⟨by decide +kernel, rfl⟩
theorem md_Homes_giveHomeToMade_30 : mz_d mb_Homes_giveHomeToMade 30 (.invokestatic 94) 3 33 := ⟨by decide +kernel, rfl⟩
theorem md_Homes_giveHomeToMade_33 : mz_d mb_Homes_giveHomeToMade 33 (.invokevirtual 161) 3 36 := ⟨by decide +kernel, rfl⟩
theorem md_Homes_giveHomeToMade_36 : mz_d mb_Homes_giveHomeToMade 36 (.iastore) 1 37 := ⟨by decide +kernel, rfl⟩
theorem md_Homes_giveHomeToMade_37 : mz_d mb_Homes_giveHomeToMade 37 (.aload_n 0) 1 38 := ⟨by decide +kernel, rfl⟩
theorem md_Homes_giveHomeToMade_38 : mz_d mb_Homes_giveHomeToMade 38 (.getfield 44) 3 41 := ⟨by decide +kernel, rfl⟩
theorem md_Homes_giveHomeToMade_41 : mz_d mb_Homes_giveHomeToMade 41 (.iload_n 1) 1 42 := ⟨by decide +kernel, rfl⟩
theorem md_Homes_giveHomeToMade_42 : mz_d mb_Homes_giveHomeToMade 42 (.invokevirtual 88) 3 45 := ⟨by decide +kernel, rfl⟩
theorem md_Homes_giveHomeToMade_45 : mz_d mb_Homes_giveHomeToMade 45 (.ifCond .eq 12) 3 48 := ⟨by decide +kernel, rfl⟩
theorem md_Homes_giveHomeToMade_48 : mz_d mb_Homes_giveHomeToMade 48 (.aload_n 0) 1 49 := ⟨by decide +kernel, rfl⟩
theorem md_Homes_giveHomeToMade_49 : mz_d mb_Homes_giveHomeToMade 49 (.iload_n 1) 1 50 := ⟨by decide +kernel, rfl⟩
theorem md_Homes_giveHomeToMade_50 : mz_d mb_Homes_giveHomeToMade 50 (.invokestatic 94) 3 53 := ⟨by decide +kernel, rfl⟩
theorem md_Homes_giveHomeToMade_53 : mz_d mb_Homes_giveHomeToMade 53 (.iload_n 2) 1 54 := ⟨by decide +kernel, rfl⟩
theorem md_Homes_giveHomeToMade_54 : mz_d mb_Homes_giveHomeToMade 54 (.invokevirtual 169) 3 57 := ⟨by decide +kernel, rfl⟩
theorem md_Homes_giveHomeToMade_57 : mz_d mb_Homes_giveHomeToMade 57 (.return_) 1 58 := ⟨by decide +kernel, rfl⟩
theorem md_Homes_giveHomes_0 : mz_d mb_Homes_giveHomes 0 (.aload_n 0) 1 1 := ⟨by decide +kernel, rfl⟩
theorem md_Homes_giveHomes_1 : mz_d mb_Homes_giveHomes 1 (.iload_n 1) 1 2 := ⟨by decide +kernel, rfl⟩
theorem md_Homes_giveHomes_2 : mz_d mb_Homes_giveHomes 2 (.putfield 142) 3 5 := ⟨by decide +kernel, rfl⟩
theorem md_Homes_giveHomes_5 : mz_d mb_Homes_giveHomes 5 (.aload_n 0) 1 6 := ⟨by decide +kernel, rfl⟩
theorem md_Homes_giveHomes_6 : mz_d mb_Homes_giveHomes 6 (.iconst 0) 1 7 := ⟨by decide +kernel, rfl⟩
theorem md_Homes_giveHomes_7 : mz_d mb_Homes_giveHomes 7 (.putfield 62) 3 10 := ⟨by decide +kernel, rfl⟩
theorem md_Homes_giveHomes_10 : mz_d mb_Homes_giveHomes 10 (.aload_n 0) 1 11 := ⟨by decide +kernel, rfl⟩
theorem md_Homes_giveHomes_11 : mz_d mb_Homes_giveHomes 11 (.getfield 9) 3 14 := ⟨by decide +kernel, rfl⟩
theorem md_Homes_giveHomes_14 : mz_d mb_Homes_giveHomes 14 (.iconst (-1)) 1 15 := ⟨by decide +kernel, rfl⟩
theorem md_Homes_giveHomes_15 : mz_d mb_Homes_giveHomes 15 (.invokestatic 145) 3 18 := ⟨by decide +kernel, rfl⟩
theorem md_Homes_giveHomes_18 : mz_d mb_Homes_giveHomes 18 (.iconst 0) 1 19 := ⟨by decide +kernel, rfl⟩
theorem md_Homes_giveHomes_19 : mz_d mb_Homes_giveHomes 19 (.istore_n 2) 1 20 := ⟨by decide +kernel, rfl⟩
theorem md_Homes_giveHomes_20 : mz_d mb_Homes_giveHomes 20 (.iload_n 2) 1 21 := ⟨by decide +kernel, rfl⟩
theorem md_Homes_giveHomes_21 : mz_d mb_Homes_giveHomes 21 (.aload_n 0) 1 22 := ⟨by decide +kernel, rfl⟩
theorem md_Homes_giveHomes_22 : mz_d mb_Homes_giveHomes 22 (.getfield 32) 3 25 := ⟨by decide +kernel, rfl⟩
theorem md_Homes_giveHomes_25 : mz_d mb_Homes_giveHomes 25 (.getfield 72) 3 28 := ⟨by decide +kernel, rfl⟩
theorem md_Homes_giveHomes_28 : mz_d mb_Homes_giveHomes 28 (.if_icmp .ge 70) 3 31 := ⟨by decide +kernel, rfl⟩
theorem md_Homes_giveHomes_31 : mz_d mb_Homes_giveHomes 31 (.aload_n 0) 1 32 := ⟨by decide +kernel, rfl⟩
theorem md_Homes_giveHomes_32 : mz_d mb_Homes_giveHomes 32 (.getfield 32) 3 35 := ⟨by decide +kernel, rfl⟩
theorem md_Homes_giveHomes_35 : mz_d mb_Homes_giveHomes 35 (.getfield 77) 3 38 := ⟨by decide +kernel, rfl⟩
theorem md_Homes_giveHomes_38 : mz_d mb_Homes_giveHomes 38 (.iload_n 2) 1 39 := ⟨by decide +kernel, rfl⟩
theorem md_Homes_giveHomes_39 : mz_d mb_Homes_giveHomes 39 (.iaload) 1 40 := ⟨by decide +kernel, rfl⟩
theorem md_Homes_giveHomes_40 : mz_d mb_Homes_giveHomes 40 (.istore_n 3) 1 41 := ⟨by decide +kernel, rfl⟩
theorem md_Homes_giveHomes_41 : mz_d mb_Homes_giveHomes 41 (.aload_n 0) 1 42 := ⟨by decide +kernel, rfl⟩
theorem md_Homes_giveHomes_42 : mz_d mb_Homes_giveHomes 42 (.iload_n 3) 1 43 := ⟨by decide +kernel, rfl⟩
theorem md_Homes_giveHomes_43 : mz_d mb_Homes_giveHomes 43 (.invokevirtual 148) 3 46 := ⟨by decide +kernel, rfl⟩
theorem md_Homes_giveHomes_46 : mz_d mb_Homes_giveHomes 46 (.aload_n 0) 1 47 := ⟨by decide +kernel, rfl⟩
theorem md_Homes_giveHomes_47 : mz_d mb_Homes_giveHomes 47 (.iload_n 3) 1 48 := ⟨by decide +kernel, rfl⟩
theorem md_Homes_giveHomes_48 : mz_d mb_Homes_giveHomes 48 (.invokevirtual 151) 3 51 := ⟨by decide +kernel, rfl⟩
theorem md_Homes_giveHomes_51 : mz_d mb_Homes_giveHomes 51 (.iconst 0) 1 52 := ⟨by decide +kernel, rfl⟩
theorem md_Homes_giveHomes_52 : mz_d mb_Homes_giveHomes 52 (.istore 4) 2 54 := ⟨by decide +kernel, rfl⟩
theorem md_Homes_giveHomes_54 : mz_d mb_Homes_giveHomes 54 (.iload 4) 2 56 := ⟨by decide +kernel, rfl⟩
theorem md_Homes_giveHomes_56 : mz_d mb_Homes_giveHomes 56 (.aload_n 0) 1 57 := ⟨by decide +kernel, rfl⟩
theorem md_Homes_giveHomes_57 : mz_d mb_Homes_giveHomes 57 (.getfield 28) 3 60 := ⟨by decide +kernel, rfl⟩
theorem md_Homes_giveHomes_60 : mz_d mb_Homes_giveHomes 60 (.getfield 83) 3 63 := ⟨by decide +kernel, rfl⟩
theorem md_Homes_giveHomes_63 : mz_d mb_Homes_giveHomes 63 (.iload_n 3) 1 64 := ⟨by decide +kernel, rfl⟩
theorem md_Homes_giveHomes_64 : mz_d mb_Homes_giveHomes 64 (.iaload) 1 65 := ⟨by decide +kernel, rfl⟩
theorem md_Homes_giveHomes_65 : mz_d mb_Homes_giveHomes 65 (.if_icmp .ge 27) 3 68 := ⟨by decide +kernel, rfl⟩
theorem md_Homes_giveHomes_68 : mz_d mb_Homes_giveHomes 68 (.aload_n 0) 1 69 := ⟨by decide +kernel, rfl⟩
theorem md_Homes_giveHomes_69 : mz_d mb_Homes_giveHomes 69 (.iload_n 3) 1 70 := ⟨by decide +kernel, rfl⟩
theorem md_Homes_giveHomes_70 : mz_d mb_Homes_giveHomes 70 (.bipush 12) 2 72 := ⟨by decide +kernel, rfl⟩
theorem md_Homes_giveHomes_72 : mz_d mb_Homes_giveHomes 72 (.imul) 1 73 := ⟨by decide +kernel, rfl⟩
theorem md_Homes_giveHomes_73 : mz_d mb_Homes_giveHomes 73 (.iload 4) 2 75 := ⟨by decide +kernel, rfl⟩
theorem md_Homes_giveHomes_75 : mz_d mb_Homes_giveHomes 75 (.iadd) 1 76 := ⟨by decide +kernel, rfl⟩
theorem md_Homes_giveHomes_76 : mz_d mb_Homes_giveHomes 76 (.aload_n 0) 1 77 := ⟨by decide +kernel, rfl⟩
theorem md_Homes_giveHomes_77 : mz_d mb_Homes_giveHomes 77 (.getfield 25) 3 80 := ⟨by decide +kernel, rfl⟩
theorem md_Homes_giveHomes_80 : mz_d mb_Homes_giveHomes 80 (.iload 4) 2 82 := ⟨by decide +kernel, rfl⟩
theorem md_Homes_giveHomes_82 : mz_d mb_Homes_giveHomes 82 (.iaload) 1 83 := ⟨by decide +kernel, rfl⟩
theorem md_Homes_giveHomes_83 : mz_d mb_Homes_giveHomes 83 (.invokevirtual 154) 3 86 := ⟨by decide +kernel, rfl⟩
theorem md_Homes_giveHomes_86 : mz_d mb_Homes_giveHomes 86 (.iinc 4 1) 3 89 := ⟨by decide +kernel, rfl⟩
theorem md_Homes_giveHomes_89 : mz_d mb_Homes_giveHomes 89 (.goto (-35)) 3 92 := ⟨by decide +kernel, rfl⟩
theorem md_Homes_giveHomes_92 : mz_d mb_Homes_giveHomes 92 (.iinc 2 1) 3 95 := ⟨by decide +kernel, rfl⟩
theorem md_Homes_giveHomes_95 : mz_d mb_Homes_giveHomes 95 (.goto (-75)) 3 98 := ⟨by decide +kernel, rfl⟩
theorem md_Homes_giveHomes_98 : mz_d mb_Homes_giveHomes 98 (.return_) 1 99 := ⟨by decide +kernel, rfl⟩
theorem md_Homes_shareRegisters_0 : mz_d mb_Homes_shareRegisters 0 (.aload_n 0) 1 1 := ⟨by decide +kernel, rfl⟩
theorem md_Homes_shareRegisters_1 : mz_d mb_Homes_shareRegisters 1 (.bipush 8) 2 3 := ⟨by decide +kernel, rfl⟩
theorem md_Homes_shareRegisters_3 : mz_d mb_Homes_shareRegisters 3 (.putfield 48) 3 6 := ⟨by decide +kernel, rfl⟩
theorem md_Homes_shareRegisters_6 : mz_d mb_Homes_shareRegisters 6 (.aload_n 0) 1 7 := ⟨by decide +kernel, rfl⟩
theorem md_Homes_shareRegisters_7 : mz_d mb_Homes_shareRegisters 7 (.iload_n 1) 1 8 := ⟨by decide +kernel, rfl⟩
theorem md_Homes_shareRegisters_8 : mz_d mb_Homes_shareRegisters 8 (.iconst 2) 1 9 := ⟨by decide +kernel, rfl⟩
theorem md_Homes_shareRegisters_9 : mz_d mb_Homes_shareRegisters 9 (.isub) 1 10 := ⟨by decide +kernel, rfl⟩
theorem md_Homes_shareRegisters_10 : mz_d mb_Homes_shareRegisters 10 (.putfield 52) 3 13 := ⟨by decide +kernel, rfl⟩
theorem md_Homes_shareRegisters_13 : mz_d mb_Homes_shareRegisters 13 (.aload_n 0) 1 14 := ⟨by decide +kernel, rfl⟩
theorem md_Homes_shareRegisters_14 : mz_d mb_Homes_shareRegisters 14 (.invokevirtual 55) 3 17 := ⟨by decide +kernel, rfl⟩
theorem md_Homes_shareRegisters_17 : mz_d mb_Homes_shareRegisters 17 (.aload_n 0) 1 18 := ⟨by decide +kernel, rfl⟩
theorem md_Homes_shareRegisters_18 : mz_d mb_Homes_shareRegisters 18 (.iload_n 1) 1 19 := ⟨by decide +kernel, rfl⟩
theorem md_Homes_shareRegisters_19 : mz_d mb_Homes_shareRegisters 19 (.invokevirtual 58) 3 22 := ⟨by decide +kernel, rfl⟩
theorem md_Homes_shareRegisters_22 : mz_d mb_Homes_shareRegisters 22 (.aload_n 0) 1 23 := ⟨by decide +kernel, rfl⟩
theorem md_Homes_shareRegisters_23 : mz_d mb_Homes_shareRegisters 23 (.getfield 62) 3 26 := ⟨by decide +kernel, rfl⟩
theorem md_Homes_shareRegisters_26 : mz_d mb_Homes_shareRegisters 26 (.ifCond .eq 11) 3 29 := ⟨by decide +kernel, rfl⟩
theorem md_Homes_shareRegisters_29 : mz_d mb_Homes_shareRegisters 29 (.aload_n 0) 1 30 := ⟨by decide +kernel, rfl⟩
theorem md_Homes_shareRegisters_30 : mz_d mb_Homes_shareRegisters 30 (.aload_n 0) 1 31 := ⟨by decide +kernel, rfl⟩
theorem md_Homes_shareRegisters_31 : mz_d mb_Homes_shareRegisters 31 (.getfield 52) 3 34 := ⟨by decide +kernel, rfl⟩
theorem md_Homes_shareRegisters_34 : mz_d mb_Homes_shareRegisters 34 (.invokevirtual 58) 3 37 := ⟨by decide +kernel, rfl⟩
theorem md_Homes_shareRegisters_37 : mz_d mb_Homes_shareRegisters 37 (.return_) 1 38 := ⟨by decide +kernel, rfl⟩
theorem md_Homes_isSlot_0 : mz_d mb_Homes_isSlot 0 (.iload_n 1) 1 1 := ⟨by decide +kernel, rfl⟩
theorem md_Homes_isSlot_1 : mz_d mb_Homes_isSlot 1 (.aload_n 0) 1 2 := ⟨by decide +kernel, rfl⟩
theorem md_Homes_isSlot_2 : mz_d mb_Homes_isSlot 2 (.getfield 48) 3 5 := ⟨by decide +kernel, rfl⟩
theorem md_Homes_isSlot_5 : mz_d mb_Homes_isSlot 5 (.if_icmp .lt 7) 3 8 := ⟨by decide +kernel, rfl⟩
theorem md_Homes_isSlot_8 : mz_d mb_Homes_isSlot 8 (.iconst 1) 1 9 := ⟨by decide +kernel, rfl⟩
theorem md_Homes_isSlot_9 : mz_d mb_Homes_isSlot 9 (.goto 4) 3 12 := ⟨by decide +kernel, rfl⟩
theorem md_Homes_isSlot_12 : mz_d mb_Homes_isSlot 12 (.iconst 0) 1 13 := ⟨by decide +kernel, rfl⟩
theorem md_Homes_isSlot_13 : mz_d mb_Homes_isSlot 13 (.ireturn) 1 14 := ⟨by decide +kernel, rfl⟩
def mw_Homes_giveEachItsOwn_2 (K : mz_St → Prop) (P2 : Int32 → mz_St → Prop) (x1_2 : Int32) (s2 : mz_St) : Prop :=
  ((221 ≤ x1_2 →
   K (mz_up s2 1007 0 230)) ∧
  (¬ 221 ≤ x1_2 →
   vp_in x1_2 221 ∧
   P2 (x1_2 + 1) (mz_wr s2 40 x1_2 x1_2)))
/-- ValueMill$Homes.giveEachItsOwn()V: what it does, as a transformer of what must hold behind it -/
def mw_Homes_giveEachItsOwn (K : mz_St → Prop) (s0 : mz_St) : Prop :=
  (∀ P2 : Int32 → mz_St → Prop, (∀ (x1_2 : Int32) (s2 : mz_St), mw_Homes_giveEachItsOwn_2 K P2 x1_2 s2 → P2 x1_2 s2) →
  P2 0 s0)
set_option maxRecDepth 100000 in
set_option maxHeartbeats 4000000 in
theorem ms_Homes_giveEachItsOwn (l : Launch) (E : mz_En) (hI : mz_Inj E) (K : mz_St → Prop) (s0 : mz_St) (h : mw_Homes_giveEachItsOwn K s0) : mz_Cv l E my_Homes_giveEachItsOwn mb_Homes_giveEachItsOwn 2 (0) (0) [.ref (E.2.1 6)] s0 K := by
  refine mz_ctv hI (by decide +kernel) (Nat.le_of_ble_eq_true rfl) (fun X C R => ?_)
  show mz_G E X 2 0 [(0, .ref (E.2.1 6))] [] s0
  unfold mw_Homes_giveEachItsOwn at h
  refine mr_iconst C md_Homes_giveEachItsOwn_0 mk_iconst_0 ?_
  refine mr_istore_n C (L' := [(1, .int 0), (0, .ref (E.2.1 6))]) md_Homes_giveEachItsOwn_1 rfl (Nat.le_of_ble_eq_true rfl) rfl ?_
  refine mr_sub [1, 0] rfl ?_
  refine h (fun (x1_2 : Int32) (s2 : mz_St) => mz_G E X 2 2 [(0, .ref (E.2.1 6)), (1, .int x1_2)] [] s2) (fun x1_2 s2 h => ?_)
  unfold mw_Homes_giveEachItsOwn_2 at h
  refine mr_iload_n C 1 md_Homes_giveEachItsOwn_2 rfl rfl ?_
  refine mr_sipush C md_Homes_giveEachItsOwn_3 mk_sipush_221 ?_
  refine mr_icmp_ge C md_Homes_giveEachItsOwn_6 rfl (fun hc => ?_) (fun hc => ?_)
  · replace h := h.1 hc
    refine mr_aload_n C 0 md_Homes_giveEachItsOwn_22 rfl rfl ?_
    refine mr_sipush C md_Homes_giveEachItsOwn_23 mk_sipush_230 ?_
    refine mr_put C (t0 := .int) 6 10 1007 mc_Homes_cls ml_261 rfl (by decide) (by decide) (fun _ => rfl) rfl (by decide +kernel) rfl rfl (Nat.le_of_ble_eq_true rfl) (fun _ => rfl) (mp_1007 E _) md_Homes_giveEachItsOwn_26 ?_
    exact mr_vret C R h md_Homes_giveEachItsOwn_29
  replace h := h.2 hc
  refine mr_aload_n C 0 md_Homes_giveEachItsOwn_9 rfl rfl ?_
  refine mr_get C 6 5 mc_Homes_cls ml_255 rfl (by decide) (by decide) (fun _ => rfl) rfl md_Homes_giveEachItsOwn_10 ?_
  refine mr_iload_n C 1 md_Homes_giveEachItsOwn_13 rfl rfl ?_
  refine mr_iload_n C 1 md_Homes_giveEachItsOwn_14 rfl rfl ?_
  refine mr_iast C 40 221 (by decide) (by decide) (fun _ _ => rfl) h.1 md_Homes_giveEachItsOwn_15 ?_
  replace h := h.2
  refine mr_iinc C (L' := [(1, .int (x1_2 + 1)), (0, .ref (E.2.1 6))]) 1 md_Homes_giveEachItsOwn_16 rfl (mk_inc mk_iconst_1) (Nat.le_of_ble_eq_true rfl) rfl ?_
  refine mr_goto C md_Homes_giveEachItsOwn_19 rfl ?_
  refine mr_sub [1, 0] rfl ?_
  exact h
/-- ValueMill$Homes.addCost(IJ)V: what it does, as a transformer of what must hold behind it -/
def mw_Homes_addCost (K : mz_St → Prop) (a0 : Int32) (a1 : Int64) (s0 : mz_St) : Prop :=
  mw_Stands_isNumber (fun r1 u1 =>
   ((¬ r1 = 0 →
    K u1) ∧
   (r1 = 0 →
    vp_in a0 221 ∧
    vp_in (mz_rd u1 38 a0) 221 ∧ (∀ v1 : Int64,
    vp_in (mz_rd u1 38 a0) 221 ∧
    K u1)))) a0 s0
set_option maxRecDepth 100000 in
set_option maxHeartbeats 4000000 in
theorem ms_Homes_addCost (l : Launch) (E : mz_En) (hI : mz_Inj E) (K : mz_St → Prop) (a0 : Int32) (a1 : Int64) (s0 : mz_St) (h : mw_Homes_addCost K a0 a1 s0) : mz_Cv l E my_Homes_addCost mb_Homes_addCost 4 (1) (21) [.ref (E.2.1 6), .int a0, .long a1] s0 K := by
  refine mz_ctv hI (by decide +kernel) (Nat.le_of_ble_eq_true rfl) (fun X C R => ?_)
  show mz_G E X 4 0 [(0, .ref (E.2.1 6)), (1, .int a0), (2, .long a1)] [] s0
  unfold mw_Homes_addCost at h
  refine mr_aload_n C 0 md_Homes_addCost_0 rfl rfl ?_
  refine mr_get C 6 4 mc_Homes_cls ml_254 rfl (by decide) (by decide) (fun _ => rfl) rfl md_Homes_addCost_1 ?_
  refine mr_iload_n C 1 md_Homes_addCost_4 rfl rfl ?_
  refine mr_cVNi C (As := [.int a0]) (rest := []) 5 (ms_Stands_isNumber _ E hI _ a0 _ h) mo_Stands_isNumber mi_Stands_isNumber mc_Stands_cls ml_782 (by decide) (fun _ => rfl) rfl rfl (Nat.le_of_ble_eq_true rfl) (Nat.le_of_ble_eq_true rfl) (Nat.le_of_ble_eq_true rfl) md_Homes_addCost_5 (fun r1 u1 h => ?_)
  refine mr_if_ne C md_Homes_addCost_8 rfl (fun hc => ?_) (fun hc => ?_)
  · replace h := h.1 hc
    exact mr_vret C R h md_Homes_addCost_29
  replace h := h.2 hc
  refine mr_aload_n C 0 md_Homes_addCost_11 rfl rfl ?_
  refine mr_get C 6 6 mc_Homes_cls ml_257 rfl (by decide) (by decide) (fun _ => rfl) rfl md_Homes_addCost_12 ?_
  refine mr_aload_n C 0 md_Homes_addCost_15 rfl rfl ?_
  refine mr_get C 6 4 mc_Homes_cls ml_254 rfl (by decide) (by decide) (fun _ => rfl) rfl md_Homes_addCost_16 ?_
  refine mr_getN C 5 5 mc_Stands_cls ml_227 rfl (by decide) (by decide) (fun _ => rfl) rfl md_Homes_addCost_19 ?_
  refine mr_iload_n C 1 md_Homes_addCost_22 rfl rfl ?_
  refine mr_iald C 38 221 (by decide) (fun _ => rfl) h.1 md_Homes_addCost_23 ?_
  replace h := h.2
  refine mr_dup2 C md_Homes_addCost_24 rfl rfl ?_
  refine mr_lald C h.1 md_Homes_addCost_25 (fun v1 => ?_)
  replace h := h.2 v1
  refine mr_lload_n C 2 md_Homes_addCost_26 rfl rfl ?_
  refine mr_ladd C md_Homes_addCost_27 ?_
  refine mr_last C h.1 md_Homes_addCost_28 ?_
  replace h := h.2
  exact mr_vret C R h md_Homes_addCost_29
def mw_Homes_addCostsOfEdges_83 (P31 : Int32 → mz_St → Prop) (x6_31 : Int32) (s83 : mz_St) : Prop :=
  P31 (x6_31 + 1) s83
def mw_Homes_addCostsOfEdges_31 (a0 : Int32) (a1 : Int64) (P3 : Int32 → mz_St → Prop) (x4_3 : Int32) (r2 : Int32) (P31 : Int32 → mz_St → Prop) (x6_31 : Int32) (s31 : mz_St) : Prop :=
  ((10 ≤ x6_31 →
   P3 (x4_3 + 1) s31) ∧
  (¬ 10 ≤ x6_31 →
   mw_Stands_keepsPhi (fun r3 u3 =>
    (∀ P83 : mz_St → Prop, (∀ (s83 : mz_St), mw_Homes_addCostsOfEdges_83 P31 x6_31 s83 → P83 s83) →
    ((r3 = 0 →
     P83 u3) ∧
    (¬ r3 = 0 →
     mw_Mill_phiName (fun r4 u4 =>
      vp_in r4 221 ∧ (∀ v1 : Int64,
      vp_in r4 221 ∧
      mw_Names_along (fun r5 u5 =>
       mw_Homes_addCost (fun u6 =>
        P83 u6) r5 a1 u5) a0 x6_31 u4)) r2 x6_31 u3)))) r2 x6_31 s31))
def mw_Homes_addCostsOfEdges_3 (K : mz_St → Prop) (a0 : Int32) (a1 : Int64) (P3 : Int32 → mz_St → Prop) (x4_3 : Int32) (s3 : mz_St) : Prop :=
  mw_Program_edges (fun r1 u1 =>
   ((r1 ≤ x4_3 →
    K u1) ∧
   (¬ r1 ≤ x4_3 →
    mw_Program_target (fun r2 u2 =>
     (∀ P31 : Int32 → mz_St → Prop, (∀ (x6_31 : Int32) (s31 : mz_St), mw_Homes_addCostsOfEdges_31 a0 a1 P3 x4_3 r2 P31 x6_31 s31 → P31 x6_31 s31) →
     P31 0 u2)) a0 x4_3 u1))) a0 s3
/-- ValueMill$Homes.addCostsOfEdges(IJ)V: what it does, as a transformer of what must hold behind it -/
def mw_Homes_addCostsOfEdges (K : mz_St → Prop) (a0 : Int32) (a1 : Int64) (s0 : mz_St) : Prop :=
  (∀ P3 : Int32 → mz_St → Prop, (∀ (x4_3 : Int32) (s3 : mz_St), mw_Homes_addCostsOfEdges_3 K a0 a1 P3 x4_3 s3 → P3 x4_3 s3) →
  P3 0 s0)
set_option maxRecDepth 100000 in
set_option maxHeartbeats 4000000 in
theorem ms_Homes_addCostsOfEdges (l : Launch) (E : mz_En) (hI : mz_Inj E) (K : mz_St → Prop) (a0 : Int32) (a1 : Int64) (s0 : mz_St) (h : mw_Homes_addCostsOfEdges K a0 a1 s0) : mz_Cv l E my_Homes_addCostsOfEdges mb_Homes_addCostsOfEdges 7 (2) (44) [.ref (E.2.1 6), .int a0, .long a1] s0 K := by
  refine mz_ctv hI (by decide +kernel) (Nat.le_of_ble_eq_true rfl) (fun X C R => ?_)
  show mz_G E X 7 0 [(0, .ref (E.2.1 6)), (1, .int a0), (2, .long a1)] [] s0
  unfold mw_Homes_addCostsOfEdges at h
  refine mr_iconst C md_Homes_addCostsOfEdges_0 mk_iconst_0 ?_
  refine mr_istore C (L' := [(4, .int 0), (0, .ref (E.2.1 6)), (1, .int a0), (2, .long a1)]) md_Homes_addCostsOfEdges_1 (Nat.le_of_ble_eq_true rfl) rfl ?_
  refine mr_sub [1, 2, 3, 0] rfl ?_
  refine h (fun (x4_3 : Int32) (s3 : mz_St) => mz_G E X 7 3 [(0, .ref (E.2.1 6)), (1, .int a0), (2, .long a1), (4, .int x4_3)] [] s3) (fun x4_3 s3 h => ?_)
  unfold mw_Homes_addCostsOfEdges_3 at h
  refine mr_iload C 3 md_Homes_addCostsOfEdges_3 rfl ?_
  refine mr_aload_n C 0 md_Homes_addCostsOfEdges_5 rfl rfl ?_
  refine mr_get C 6 0 mc_Homes_cls ml_250 rfl (by decide) (by decide) (fun _ => rfl) rfl md_Homes_addCostsOfEdges_6 ?_
  refine mr_iload_n C 1 md_Homes_addCostsOfEdges_9 rfl rfl ?_
  refine mr_cVNi C (As := [.int a0]) (rest := [.int x4_3]) 1 (ms_Program_edges _ E hI _ a0 _ h) mo_Program_edges mi_Program_edges mc_Program_cls ml_788 (by decide) (fun _ => rfl) rfl rfl (Nat.le_of_ble_eq_true rfl) (Nat.le_of_ble_eq_true rfl) (Nat.le_of_ble_eq_true rfl) md_Homes_addCostsOfEdges_10 (fun r1 u1 h => ?_)
  refine mr_icmp_ge C md_Homes_addCostsOfEdges_13 rfl (fun hc => ?_) (fun hc => ?_)
  · replace h := h.1 hc
    exact mr_vret C R h md_Homes_addCostsOfEdges_95
  replace h := h.2 hc
  refine mr_aload_n C 0 md_Homes_addCostsOfEdges_16 rfl rfl ?_
  refine mr_get C 6 0 mc_Homes_cls ml_250 rfl (by decide) (by decide) (fun _ => rfl) rfl md_Homes_addCostsOfEdges_17 ?_
  refine mr_iload_n C 1 md_Homes_addCostsOfEdges_20 rfl rfl ?_
  refine mr_iload C 3 md_Homes_addCostsOfEdges_21 rfl ?_
  refine mr_cVNi C (As := [.int a0, .int x4_3]) (rest := []) 1 (ms_Program_target _ E hI _ a0 x4_3 _ h) mo_Program_target mi_Program_target mc_Program_cls ml_789 (by decide) (fun _ => rfl) rfl rfl (Nat.le_of_ble_eq_true rfl) (Nat.le_of_ble_eq_true rfl) (Nat.le_of_ble_eq_true rfl) md_Homes_addCostsOfEdges_23 (fun r2 u2 h => ?_)
  refine mr_istore C (L' := [(5, .int r2), (0, .ref (E.2.1 6)), (1, .int a0), (2, .long a1), (4, .int x4_3)]) md_Homes_addCostsOfEdges_26 (Nat.le_of_ble_eq_true rfl) rfl ?_
  refine mr_iconst C md_Homes_addCostsOfEdges_28 mk_iconst_0 ?_
  refine mr_istore C (L' := [(6, .int 0), (5, .int r2), (0, .ref (E.2.1 6)), (1, .int a0), (2, .long a1), (4, .int x4_3)]) md_Homes_addCostsOfEdges_29 (Nat.le_of_ble_eq_true rfl) rfl ?_
  refine mr_sub [2, 3, 4, 5, 1, 0] rfl ?_
  refine h (fun (x6_31 : Int32) (s31 : mz_St) => mz_G E X 7 31 [(0, .ref (E.2.1 6)), (1, .int a0), (2, .long a1), (4, .int x4_3), (5, .int r2), (6, .int x6_31)] [] s31) (fun x6_31 s31 h => ?_)
  unfold mw_Homes_addCostsOfEdges_31 at h
  refine mr_iload C 5 md_Homes_addCostsOfEdges_31 rfl ?_
  refine mr_bipush C md_Homes_addCostsOfEdges_33 mk_bipush_10 ?_
  refine mr_icmp_ge C md_Homes_addCostsOfEdges_35 rfl (fun hc => ?_) (fun hc => ?_)
  · replace h := h.1 hc
    refine mr_iinc C (L' := [(4, .int (x4_3 + 1)), (0, .ref (E.2.1 6)), (1, .int a0), (2, .long a1), (5, .int r2), (6, .int x6_31)]) 3 md_Homes_addCostsOfEdges_89 rfl (mk_inc mk_iconst_1) (Nat.le_of_ble_eq_true rfl) rfl ?_
    refine mr_goto C md_Homes_addCostsOfEdges_92 rfl ?_
    refine mr_sub [1, 2, 3, 0] rfl ?_
    exact h
  replace h := h.2 hc
  refine mr_aload_n C 0 md_Homes_addCostsOfEdges_38 rfl rfl ?_
  refine mr_get C 6 4 mc_Homes_cls ml_254 rfl (by decide) (by decide) (fun _ => rfl) rfl md_Homes_addCostsOfEdges_39 ?_
  refine mr_iload C 4 md_Homes_addCostsOfEdges_42 rfl ?_
  refine mr_iload C 5 md_Homes_addCostsOfEdges_44 rfl ?_
  refine mr_cVNi C (As := [.int r2, .int x6_31]) (rest := []) 5 (ms_Stands_keepsPhi _ E hI _ r2 x6_31 _ h) mo_Stands_keepsPhi mi_Stands_keepsPhi mc_Stands_cls ml_790 (by decide) (fun _ => rfl) rfl rfl (Nat.le_of_ble_eq_true rfl) (Nat.le_of_ble_eq_true rfl) (Nat.le_of_ble_eq_true rfl) md_Homes_addCostsOfEdges_46 (fun r3 u3 h => ?_)
  refine mj (h (fun (s83 : mz_St) => mz_G E X 7 83 [(0, .ref (E.2.1 6)), (1, .int a0), (2, .long a1), (4, .int x4_3), (5, .int r2), (6, .int x6_31)] [] s83) (fun s83 h => ?_)) (fun h => ?_)
  · unfold mw_Homes_addCostsOfEdges_83 at h
    refine mr_iinc C (L' := [(6, .int (x6_31 + 1)), (0, .ref (E.2.1 6)), (1, .int a0), (2, .long a1), (4, .int x4_3), (5, .int r2)]) 5 md_Homes_addCostsOfEdges_83 rfl (mk_inc mk_iconst_1) (Nat.le_of_ble_eq_true rfl) rfl ?_
    refine mr_goto C md_Homes_addCostsOfEdges_86 rfl ?_
    refine mr_sub [1, 2, 3, 4, 5, 0] rfl ?_
    exact h
  refine mr_if_eq C md_Homes_addCostsOfEdges_49 rfl (fun hc => ?_) (fun hc => ?_)
  · replace h := h.1 hc
    exact h
  replace h := h.2 hc
  refine mr_aload_n C 0 md_Homes_addCostsOfEdges_52 rfl rfl ?_
  refine mr_get C 6 6 mc_Homes_cls ml_257 rfl (by decide) (by decide) (fun _ => rfl) rfl md_Homes_addCostsOfEdges_53 ?_
  refine mr_iload C 4 md_Homes_addCostsOfEdges_56 rfl ?_
  refine mr_iload C 5 md_Homes_addCostsOfEdges_58 rfl ?_
  refine mr_cSNi C (As := [.int r2, .int x6_31]) (rest := [.ref (E.2.1 41)]) (ms_Mill_phiName _ E hI _ r2 x6_31 _ h) mo_Mill_phiName mt_Mill_phiName ml_794 rfl rfl (Nat.le_of_ble_eq_true rfl) (Nat.le_of_ble_eq_true rfl) (Nat.le_of_ble_eq_true rfl) md_Homes_addCostsOfEdges_60 (fun r4 u4 h => ?_)
  refine mr_dup2 C md_Homes_addCostsOfEdges_63 rfl rfl ?_
  refine mr_lald C h.1 md_Homes_addCostsOfEdges_64 (fun v1 => ?_)
  replace h := h.2 v1
  refine mr_lload_n C 2 md_Homes_addCostsOfEdges_65 rfl rfl ?_
  refine mr_ladd C md_Homes_addCostsOfEdges_66 ?_
  refine mr_last C h.1 md_Homes_addCostsOfEdges_67 ?_
  replace h := h.2
  refine mr_aload_n C 0 md_Homes_addCostsOfEdges_68 rfl rfl ?_
  refine mr_aload_n C 0 md_Homes_addCostsOfEdges_69 rfl rfl ?_
  refine mr_get C 6 3 mc_Homes_cls ml_253 rfl (by decide) (by decide) (fun _ => rfl) rfl md_Homes_addCostsOfEdges_70 ?_
  refine mr_iload_n C 1 md_Homes_addCostsOfEdges_73 rfl rfl ?_
  refine mr_iload C 5 md_Homes_addCostsOfEdges_74 rfl ?_
  refine mr_cVNi C (As := [.int a0, .int x6_31]) (rest := [.ref (E.2.1 6)]) 4 (ms_Names_along _ E hI _ a0 x6_31 _ h) mo_Names_along mi_Names_along mc_Names_cls ml_795 (by decide) (fun _ => rfl) rfl rfl (Nat.le_of_ble_eq_true rfl) (Nat.le_of_ble_eq_true rfl) (Nat.le_of_ble_eq_true rfl) md_Homes_addCostsOfEdges_76 (fun r5 u5 h => ?_)
  refine mr_lload_n C 2 md_Homes_addCostsOfEdges_79 rfl rfl ?_
  refine mr_cVv C (As := [.int r5, .long a1]) (rest := []) 6 (ms_Homes_addCost _ E hI _ r5 a1 _ h) mo_Homes_addCost mi_Homes_addCost mc_Homes_cls ml_778 (by decide) (fun _ => rfl) rfl rfl (Nat.le_of_ble_eq_true rfl) (Nat.le_of_ble_eq_true rfl) (Nat.le_of_ble_eq_true rfl) md_Homes_addCostsOfEdges_80 (fun u6 h => ?_)
  exact h
def mw_Homes_findCosts_157 (P10 : Int32 → mz_St → Prop) (x1_10 : Int32) (s10 : mz_St) (s157 : mz_St) : Prop :=
  mw_Homes_addCostsOfEdges (fun u2 =>
   P10 (x1_10 + 1) u2) (mz_rd s10 24 x1_10) ((1 : Int64) <<< (((3 : Int32) * (mz_rd s10 28 (mz_rd s10 24 x1_10))).toInt64 &&& 63)) s157
def mw_Homes_findCosts_126 (P51 : Int32 → mz_St → Prop) (x5_51 : Int32) (s126 : mz_St) : Prop :=
  P51 (x5_51 + 1) s126
def mw_Homes_findCosts_51 (P10 : Int32 → mz_St → Prop) (x1_10 : Int32) (s10 : mz_St) (P51 : Int32 → mz_St → Prop) (x5_51 : Int32) (s51 : mz_St) : Prop :=
  vp_in (mz_rd s10 24 x1_10) 10 ∧
  (((((mz_rd s10 24 x1_10) * 12) + (mz_rd s51 16 (mz_rd s10 24 x1_10))) ≤ x5_51 →
   mw_Program_endTakesTemp (fun r1 u1 =>
    (∀ P157 : mz_St → Prop, (∀ (s157 : mz_St), mw_Homes_findCosts_157 P10 x1_10 s10 s157 → P157 s157) →
    ((r1 = 0 →
     P157 u1) ∧
    (¬ r1 = 0 →
     vp_in (mz_rd s10 24 x1_10) 10 ∧
     mw_Homes_addCost (fun u3 =>
      P157 u3) (mz_rd u1 35 (mz_rd s10 24 x1_10)) ((1 : Int64) <<< (((3 : Int32) * (mz_rd s10 28 (mz_rd s10 24 x1_10))).toInt64 &&& 63)) u1)))) (mz_rd s10 24 x1_10) s51) ∧
  (¬ (((mz_rd s10 24 x1_10) * 12) + (mz_rd s51 16 (mz_rd s10 24 x1_10))) ≤ x5_51 →
   mw_Stands_keepsOperation (fun r2 u4 =>
    (∀ P126 : mz_St → Prop, (∀ (s126 : mz_St), mw_Homes_findCosts_126 P51 x5_51 s126 → P126 s126) →
    ((r2 = 0 →
     P126 u4) ∧
    (¬ r2 = 0 →
     mw_Mill_madeName (fun r3 u5 =>
      vp_in r3 221 ∧ (∀ v1 : Int64,
      vp_in r3 221 ∧
      vp_in x5_51 120 ∧
      mw_Homes_addCost (fun u6 =>
       vp_in x5_51 120 ∧
       mw_Homes_addCost (fun u7 =>
        P126 u7) (mz_rd u6 34 x5_51) ((1 : Int64) <<< (((3 : Int32) * (mz_rd s10 28 (mz_rd s10 24 x1_10))).toInt64 &&& 63)) u6) (mz_rd u5 33 x5_51) ((1 : Int64) <<< (((3 : Int32) * (mz_rd s10 28 (mz_rd s10 24 x1_10))).toInt64 &&& 63)) u5)) x5_51 u4)))) x5_51 s51))
def mw_Homes_findCosts_10 (K : mz_St → Prop) (P10 : Int32 → mz_St → Prop) (x1_10 : Int32) (s10 : mz_St) : Prop :=
  (((s10 1006 0) ≤ x1_10 →
   K s10) ∧
  (¬ (s10 1006 0) ≤ x1_10 →
   vp_in x1_10 10 ∧
   vp_in (mz_rd s10 24 x1_10) 10 ∧
   (∀ P51 : Int32 → mz_St → Prop, (∀ (x5_51 : Int32) (s51 : mz_St), mw_Homes_findCosts_51 P10 x1_10 s10 P51 x5_51 s51 → P51 x5_51 s51) →
   P51 ((mz_rd s10 24 x1_10) * 12) s10)))
/-- ValueMill$Homes.findCosts()V: what it does, as a transformer of what must hold behind it -/
def mw_Homes_findCosts (K : mz_St → Prop) (s0 : mz_St) : Prop :=
  (∀ P10 : Int32 → mz_St → Prop, (∀ (x1_10 : Int32) (s10 : mz_St), mw_Homes_findCosts_10 K P10 x1_10 s10 → P10 x1_10 s10) →
  P10 0 s0)
set_option maxRecDepth 100000 in
set_option maxHeartbeats 4000000 in
theorem ms_Homes_findCosts (l : Launch) (E : mz_En) (hI : mz_Inj E) (K : mz_St → Prop) (s0 : mz_St) (h : mw_Homes_findCosts K s0) : mz_Cv l E my_Homes_findCosts mb_Homes_findCosts 6 (3) (70) [.ref (E.2.1 6)] s0 K := by
  refine mz_ctv hI (by decide +kernel) (Nat.le_of_ble_eq_true rfl) (fun X C R => ?_)
  show mz_G E X 6 0 [(0, .ref (E.2.1 6))] [] s0
  unfold mw_Homes_findCosts at h
  refine mr_aload_n C 0 md_Homes_findCosts_0 rfl rfl ?_
  refine mr_get C 6 6 mc_Homes_cls ml_257 rfl (by decide) (by decide) (fun _ => rfl) rfl md_Homes_findCosts_1 ?_
  refine mr_lconst (v := 0) C md_Homes_findCosts_4 (by decide) ?_
  refine mr_fillJ C (Nat.le_of_ble_eq_true rfl) (Nat.le_of_ble_eq_true rfl) ml_766 md_Homes_findCosts_5 ?_
  refine mr_iconst C md_Homes_findCosts_8 mk_iconst_0 ?_
  refine mr_istore_n C (L' := [(1, .int 0), (0, .ref (E.2.1 6))]) md_Homes_findCosts_9 rfl (Nat.le_of_ble_eq_true rfl) rfl ?_
  refine mr_sub [1, 0] rfl ?_
  refine h (fun (x1_10 : Int32) (s10 : mz_St) => mz_G E X 6 10 [(0, .ref (E.2.1 6)), (1, .int x1_10)] [] s10) (fun x1_10 s10 h => ?_)
  unfold mw_Homes_findCosts_10 at h
  refine mr_iload_n C 1 md_Homes_findCosts_10 rfl rfl ?_
  refine mr_aload_n C 0 md_Homes_findCosts_11 rfl rfl ?_
  refine mr_get C 6 1 mc_Homes_cls ml_251 rfl (by decide) (by decide) (fun _ => rfl) rfl md_Homes_findCosts_12 ?_
  refine mr_getN C 2 10 mc_Flow_cls ml_121 rfl (by decide) (by decide) (fun _ => rfl) rfl md_Homes_findCosts_15 ?_
  refine mr_icmp_ge C md_Homes_findCosts_18 rfl (fun hc => ?_) (fun hc => ?_)
  · replace h := h.1 hc
    exact mr_vret C R h md_Homes_findCosts_169
  replace h := h.2 hc
  refine mr_aload_n C 0 md_Homes_findCosts_21 rfl rfl ?_
  refine mr_get C 6 1 mc_Homes_cls ml_251 rfl (by decide) (by decide) (fun _ => rfl) rfl md_Homes_findCosts_22 ?_
  refine mr_getN C 2 3 mc_Flow_cls ml_103 rfl (by decide) (by decide) (fun _ => rfl) rfl md_Homes_findCosts_25 ?_
  refine mr_iload_n C 1 md_Homes_findCosts_28 rfl rfl ?_
  refine mr_iald C 24 10 (by decide) (fun _ => rfl) h.1 md_Homes_findCosts_29 ?_
  replace h := h.2
  refine mr_istore_n C (L' := [(2, .int (mz_rd s10 24 x1_10)), (0, .ref (E.2.1 6)), (1, .int x1_10)]) md_Homes_findCosts_30 rfl (Nat.le_of_ble_eq_true rfl) rfl ?_
  refine mr_lconst (v := 1) C md_Homes_findCosts_31 (by decide) ?_
  refine mr_iconst C md_Homes_findCosts_32 mk_iconst_3 ?_
  refine mr_aload_n C 1 md_Homes_findCosts_33 rfl rfl ?_
  refine mr_get C 6 1 mc_Homes_cls ml_251 rfl (by decide) (by decide) (fun _ => rfl) rfl md_Homes_findCosts_34 ?_
  refine mr_getN C 2 7 mc_Flow_cls ml_114 rfl (by decide) (by decide) (fun _ => rfl) rfl md_Homes_findCosts_37 ?_
  refine mr_iload_n C 0 md_Homes_findCosts_40 rfl rfl ?_
  refine mr_iald C 28 10 (by decide) (fun _ => rfl) h.1 md_Homes_findCosts_41 ?_
  replace h := h.2
  refine mr_imul C md_Homes_findCosts_42 ?_
  refine mr_lshl C md_Homes_findCosts_43 ?_
  refine mr_lstore_n C (L' := [(3, .long ((1 : Int64) <<< (((3 : Int32) * (mz_rd s10 28 (mz_rd s10 24 x1_10))).toInt64 &&& 63))), (2, .int (mz_rd s10 24 x1_10)), (0, .ref (E.2.1 6)), (1, .int x1_10)]) md_Homes_findCosts_44 rfl (Nat.le_of_ble_eq_true rfl) rfl ?_
  refine mr_iload_n C 1 md_Homes_findCosts_45 rfl rfl ?_
  refine mr_bipush C md_Homes_findCosts_46 mk_bipush_12 ?_
  refine mr_imul C md_Homes_findCosts_48 ?_
  refine mr_istore C (L' := [(5, .int ((mz_rd s10 24 x1_10) * 12)), (3, .long ((1 : Int64) <<< (((3 : Int32) * (mz_rd s10 28 (mz_rd s10 24 x1_10))).toInt64 &&& 63))), (2, .int (mz_rd s10 24 x1_10)), (0, .ref (E.2.1 6)), (1, .int x1_10)]) md_Homes_findCosts_49 (Nat.le_of_ble_eq_true rfl) rfl ?_
  refine mr_sub [3, 4, 2, 1, 0] rfl ?_
  refine h (fun (x5_51 : Int32) (s51 : mz_St) => mz_G E X 6 51 [(0, .ref (E.2.1 6)), (1, .int x1_10), (2, .int (mz_rd s10 24 x1_10)), (3, .long ((1 : Int64) <<< (((3 : Int32) * (mz_rd s10 28 (mz_rd s10 24 x1_10))).toInt64 &&& 63))), (5, .int x5_51)] [] s51) (fun x5_51 s51 h => ?_)
  unfold mw_Homes_findCosts_51 at h
  refine mr_iload C 4 md_Homes_findCosts_51 rfl ?_
  refine mr_iload_n C 2 md_Homes_findCosts_53 rfl rfl ?_
  refine mr_bipush C md_Homes_findCosts_54 mk_bipush_12 ?_
  refine mr_imul C md_Homes_findCosts_56 ?_
  refine mr_aload_n C 0 md_Homes_findCosts_57 rfl rfl ?_
  refine mr_get C 6 0 mc_Homes_cls ml_250 rfl (by decide) (by decide) (fun _ => rfl) rfl md_Homes_findCosts_58 ?_
  refine mr_getN C 1 4 mc_Program_cls ml_48 rfl (by decide) (by decide) (fun _ => rfl) rfl md_Homes_findCosts_61 ?_
  refine mr_iload_n C 2 md_Homes_findCosts_64 rfl rfl ?_
  refine mr_iald C 16 10 (by decide) (fun _ => rfl) h.1 md_Homes_findCosts_65 ?_
  replace h := h.2
  refine mr_iadd C md_Homes_findCosts_66 ?_
  refine mr_icmp_ge C md_Homes_findCosts_67 rfl (fun hc => ?_) (fun hc => ?_)
  · replace h := h.1 hc
    refine mr_aload_n C 0 md_Homes_findCosts_132 rfl rfl ?_
    refine mr_get C 6 0 mc_Homes_cls ml_250 rfl (by decide) (by decide) (fun _ => rfl) rfl md_Homes_findCosts_133 ?_
    refine mr_iload_n C 2 md_Homes_findCosts_136 rfl rfl ?_
    refine mr_cVNi C (As := [.int (mz_rd s10 24 x1_10)]) (rest := []) 1 (ms_Program_endTakesTemp _ E hI _ (mz_rd s10 24 x1_10) _ h) mo_Program_endTakesTemp mi_Program_endTakesTemp mc_Program_cls ml_783 (by decide) (fun _ => rfl) rfl rfl (Nat.le_of_ble_eq_true rfl) (Nat.le_of_ble_eq_true rfl) (Nat.le_of_ble_eq_true rfl) md_Homes_findCosts_137 (fun r1 u1 h => ?_)
    refine mj (h (fun (s157 : mz_St) => mz_G E X 6 157 [(0, .ref (E.2.1 6)), (1, .int x1_10), (2, .int (mz_rd s10 24 x1_10)), (3, .long ((1 : Int64) <<< (((3 : Int32) * (mz_rd s10 28 (mz_rd s10 24 x1_10))).toInt64 &&& 63)))] [] s157) (fun s157 h => ?_)) (fun h => ?_)
    · unfold mw_Homes_findCosts_157 at h
      refine mr_aload_n C 0 md_Homes_findCosts_157 rfl rfl ?_
      refine mr_iload_n C 2 md_Homes_findCosts_158 rfl rfl ?_
      refine mr_lload_n C 3 md_Homes_findCosts_159 rfl rfl ?_
      refine mr_cVv C (As := [.int (mz_rd s10 24 x1_10), .long ((1 : Int64) <<< (((3 : Int32) * (mz_rd s10 28 (mz_rd s10 24 x1_10))).toInt64 &&& 63))]) (rest := []) 6 (ms_Homes_addCostsOfEdges _ E hI _ (mz_rd s10 24 x1_10) ((1 : Int64) <<< (((3 : Int32) * (mz_rd s10 28 (mz_rd s10 24 x1_10))).toInt64 &&& 63)) _ h) mo_Homes_addCostsOfEdges mi_Homes_addCostsOfEdges mc_Homes_cls ml_784 (by decide) (fun _ => rfl) rfl rfl (Nat.le_of_ble_eq_true rfl) (Nat.le_of_ble_eq_true rfl) (Nat.le_of_ble_eq_true rfl) md_Homes_findCosts_160 (fun u2 h => ?_)
      refine mr_iinc C (L' := [(1, .int (x1_10 + 1)), (0, .ref (E.2.1 6)), (2, .int (mz_rd s10 24 x1_10)), (3, .long ((1 : Int64) <<< (((3 : Int32) * (mz_rd s10 28 (mz_rd s10 24 x1_10))).toInt64 &&& 63)))]) 1 md_Homes_findCosts_163 rfl (mk_inc mk_iconst_1) (Nat.le_of_ble_eq_true rfl) rfl ?_
      refine mr_goto C md_Homes_findCosts_166 rfl ?_
      refine mr_sub [1, 0] rfl ?_
      exact h
    refine mr_if_eq C md_Homes_findCosts_140 rfl (fun hc => ?_) (fun hc => ?_)
    · replace h := h.1 hc
      refine mr_sub [0, 1, 2, 3] rfl ?_
      exact h
    replace h := h.2 hc
    refine mr_aload_n C 0 md_Homes_findCosts_143 rfl rfl ?_
    refine mr_aload_n C 0 md_Homes_findCosts_144 rfl rfl ?_
    refine mr_get C 6 3 mc_Homes_cls ml_253 rfl (by decide) (by decide) (fun _ => rfl) rfl md_Homes_findCosts_145 ?_
    refine mr_getN C 4 5 mc_Names_cls ml_196 rfl (by decide) (by decide) (fun _ => rfl) rfl md_Homes_findCosts_148 ?_
    refine mr_iload_n C 2 md_Homes_findCosts_151 rfl rfl ?_
    refine mr_iald C 35 10 (by decide) (fun _ => rfl) h.1 md_Homes_findCosts_152 ?_
    replace h := h.2
    refine mr_lload_n C 3 md_Homes_findCosts_153 rfl rfl ?_
    refine mr_cVv C (As := [.int (mz_rd u1 35 (mz_rd s10 24 x1_10)), .long ((1 : Int64) <<< (((3 : Int32) * (mz_rd s10 28 (mz_rd s10 24 x1_10))).toInt64 &&& 63))]) (rest := []) 6 (ms_Homes_addCost _ E hI _ (mz_rd u1 35 (mz_rd s10 24 x1_10)) ((1 : Int64) <<< (((3 : Int32) * (mz_rd s10 28 (mz_rd s10 24 x1_10))).toInt64 &&& 63)) _ h) mo_Homes_addCost mi_Homes_addCost mc_Homes_cls ml_778 (by decide) (fun _ => rfl) rfl rfl (Nat.le_of_ble_eq_true rfl) (Nat.le_of_ble_eq_true rfl) (Nat.le_of_ble_eq_true rfl) md_Homes_findCosts_154 (fun u3 h => ?_)
    refine mr_sub [0, 1, 2, 3] rfl ?_
    exact h
  replace h := h.2 hc
  refine mr_aload_n C 0 md_Homes_findCosts_70 rfl rfl ?_
  refine mr_get C 6 4 mc_Homes_cls ml_254 rfl (by decide) (by decide) (fun _ => rfl) rfl md_Homes_findCosts_71 ?_
  refine mr_iload C 4 md_Homes_findCosts_74 rfl ?_
  refine mr_cVNi C (As := [.int x5_51]) (rest := []) 5 (ms_Stands_keepsOperation _ E hI _ x5_51 _ h) mo_Stands_keepsOperation mi_Stands_keepsOperation mc_Stands_cls ml_769 (by decide) (fun _ => rfl) rfl rfl (Nat.le_of_ble_eq_true rfl) (Nat.le_of_ble_eq_true rfl) (Nat.le_of_ble_eq_true rfl) md_Homes_findCosts_76 (fun r2 u4 h => ?_)
  refine mj (h (fun (s126 : mz_St) => mz_G E X 6 126 [(0, .ref (E.2.1 6)), (1, .int x1_10), (2, .int (mz_rd s10 24 x1_10)), (3, .long ((1 : Int64) <<< (((3 : Int32) * (mz_rd s10 28 (mz_rd s10 24 x1_10))).toInt64 &&& 63))), (5, .int x5_51)] [] s126) (fun s126 h => ?_)) (fun h => ?_)
  · unfold mw_Homes_findCosts_126 at h
    refine mr_iinc C (L' := [(5, .int (x5_51 + 1)), (0, .ref (E.2.1 6)), (1, .int x1_10), (2, .int (mz_rd s10 24 x1_10)), (3, .long ((1 : Int64) <<< (((3 : Int32) * (mz_rd s10 28 (mz_rd s10 24 x1_10))).toInt64 &&& 63)))]) 4 md_Homes_findCosts_126 rfl (mk_inc mk_iconst_1) (Nat.le_of_ble_eq_true rfl) rfl ?_
    refine mr_goto C md_Homes_findCosts_129 rfl ?_
    refine mr_sub [1, 2, 3, 4, 0] rfl ?_
    exact h
  refine mr_if_eq C md_Homes_findCosts_79 rfl (fun hc => ?_) (fun hc => ?_)
  · replace h := h.1 hc
    exact h
  replace h := h.2 hc
  refine mr_aload_n C 0 md_Homes_findCosts_82 rfl rfl ?_
  refine mr_get C 6 6 mc_Homes_cls ml_257 rfl (by decide) (by decide) (fun _ => rfl) rfl md_Homes_findCosts_83 ?_
  refine mr_iload C 4 md_Homes_findCosts_86 rfl ?_
  refine mr_cSNi C (As := [.int x5_51]) (rest := [.ref (E.2.1 41)]) (ms_Mill_madeName _ E hI _ x5_51 _ h) mo_Mill_madeName mt_Mill_madeName ml_777 rfl rfl (Nat.le_of_ble_eq_true rfl) (Nat.le_of_ble_eq_true rfl) (Nat.le_of_ble_eq_true rfl) md_Homes_findCosts_88 (fun r3 u5 h => ?_)
  refine mr_dup2 C md_Homes_findCosts_91 rfl rfl ?_
  refine mr_lald C h.1 md_Homes_findCosts_92 (fun v1 => ?_)
  replace h := h.2 v1
  refine mr_lload_n C 3 md_Homes_findCosts_93 rfl rfl ?_
  refine mr_ladd C md_Homes_findCosts_94 ?_
  refine mr_last C h.1 md_Homes_findCosts_95 ?_
  replace h := h.2
  refine mr_aload_n C 0 md_Homes_findCosts_96 rfl rfl ?_
  refine mr_aload_n C 0 md_Homes_findCosts_97 rfl rfl ?_
  refine mr_get C 6 3 mc_Homes_cls ml_253 rfl (by decide) (by decide) (fun _ => rfl) rfl md_Homes_findCosts_98 ?_
  refine mr_getN C 4 3 mc_Names_cls ml_188 rfl (by decide) (by decide) (fun _ => rfl) rfl md_Homes_findCosts_101 ?_
  refine mr_iload C 4 md_Homes_findCosts_104 rfl ?_
  refine mr_iald C 33 120 (by decide) (fun _ => rfl) h.1 md_Homes_findCosts_106 ?_
  replace h := h.2
  refine mr_lload_n C 3 md_Homes_findCosts_107 rfl rfl ?_
  refine mr_cVv C (As := [.int (mz_rd u5 33 x5_51), .long ((1 : Int64) <<< (((3 : Int32) * (mz_rd s10 28 (mz_rd s10 24 x1_10))).toInt64 &&& 63))]) (rest := []) 6 (ms_Homes_addCost _ E hI _ (mz_rd u5 33 x5_51) ((1 : Int64) <<< (((3 : Int32) * (mz_rd s10 28 (mz_rd s10 24 x1_10))).toInt64 &&& 63)) _ h) mo_Homes_addCost mi_Homes_addCost mc_Homes_cls ml_778 (by decide) (fun _ => rfl) rfl rfl (Nat.le_of_ble_eq_true rfl) (Nat.le_of_ble_eq_true rfl) (Nat.le_of_ble_eq_true rfl) md_Homes_findCosts_108 (fun u6 h => ?_)
  refine mr_aload_n C 0 md_Homes_findCosts_111 rfl rfl ?_
  refine mr_aload_n C 0 md_Homes_findCosts_112 rfl rfl ?_
  refine mr_get C 6 3 mc_Homes_cls ml_253 rfl (by decide) (by decide) (fun _ => rfl) rfl md_Homes_findCosts_113 ?_
  refine mr_getN C 4 4 mc_Names_cls ml_192 rfl (by decide) (by decide) (fun _ => rfl) rfl md_Homes_findCosts_116 ?_
  refine mr_iload C 4 md_Homes_findCosts_119 rfl ?_
  refine mr_iald C 34 120 (by decide) (fun _ => rfl) h.1 md_Homes_findCosts_121 ?_
  replace h := h.2
  refine mr_lload_n C 3 md_Homes_findCosts_122 rfl rfl ?_
  refine mr_cVv C (As := [.int (mz_rd u6 34 x5_51), .long ((1 : Int64) <<< (((3 : Int32) * (mz_rd s10 28 (mz_rd s10 24 x1_10))).toInt64 &&& 63))]) (rest := []) 6 (ms_Homes_addCost _ E hI _ (mz_rd u6 34 x5_51) ((1 : Int64) <<< (((3 : Int32) * (mz_rd s10 28 (mz_rd s10 24 x1_10))).toInt64 &&& 63)) _ h) mo_Homes_addCost mi_Homes_addCost mc_Homes_cls ml_778 (by decide) (fun _ => rfl) rfl rfl (Nat.le_of_ble_eq_true rfl) (Nat.le_of_ble_eq_true rfl) (Nat.le_of_ble_eq_true rfl) md_Homes_findCosts_123 (fun u7 h => ?_)
  exact h
def mw_Homes_findHolders_68 (P10 : Int32 → mz_St → Prop) (x2_10 : Int32) (s68 : mz_St) : Prop :=
  P10 (x2_10 + 1) s68
def mw_Homes_findHolders_10 (K : mz_St → Prop) (a0 : Int32) (P10 : Int32 → mz_St → Prop) (x2_10 : Int32) (s10 : mz_St) : Prop :=
  ((10 ≤ x2_10 →
   K s10) ∧
  (¬ 10 ≤ x2_10 →
   mw_Mill_isIn (fun r1 u1 =>
    (∀ P68 : mz_St → Prop, (∀ (s68 : mz_St), mw_Homes_findHolders_68 P10 x2_10 s68 → P68 s68) →
    ((r1 = 0 →
     P68 u1) ∧
    (¬ r1 = 0 →
     vp_in x2_10 10 ∧
     (((mz_rd u1 42 x2_10) = (-1) →
      P68 u1) ∧
     (¬ (mz_rd u1 42 x2_10) = (-1) →
      vp_in x2_10 10 ∧
      vp_in (mz_rd u1 42 x2_10) 221 ∧
      (((mz_rd u1 40 (mz_rd u1 42 x2_10)) < 0 →
       P68 u1) ∧
      (¬ (mz_rd u1 40 (mz_rd u1 42 x2_10)) < 0 →
       ((8 ≤ (mz_rd u1 40 (mz_rd u1 42 x2_10)) →
        P68 u1) ∧
       (¬ 8 ≤ (mz_rd u1 40 (mz_rd u1 42 x2_10)) →
        vp_in x2_10 10 ∧
        vp_in (mz_rd u1 40 (mz_rd u1 42 x2_10)) 8 ∧
        P68 (mz_wr u1 43 (mz_rd u1 40 (mz_rd u1 42 x2_10)) (mz_rd u1 42 x2_10)))))))))))) a0 x2_10 s10))
/-- ValueMill$Homes.findHolders(I)V: what it does, as a transformer of what must hold behind it -/
def mw_Homes_findHolders (K : mz_St → Prop) (a0 : Int32) (s0 : mz_St) : Prop :=
  (∀ P10 : Int32 → mz_St → Prop, (∀ (x2_10 : Int32) (s10 : mz_St), mw_Homes_findHolders_10 K a0 P10 x2_10 s10 → P10 x2_10 s10) →
  P10 0 (mz_fl s0 43 8 (-1)))
set_option maxRecDepth 100000 in
set_option maxHeartbeats 4000000 in
theorem ms_Homes_findHolders (l : Launch) (E : mz_En) (hI : mz_Inj E) (K : mz_St → Prop) (a0 : Int32) (s0 : mz_St) (h : mw_Homes_findHolders K a0 s0) : mz_Cv l E my_Homes_findHolders mb_Homes_findHolders 4 (1) (24) [.ref (E.2.1 6), .int a0] s0 K := by
  refine mz_ctv hI (by decide +kernel) (Nat.le_of_ble_eq_true rfl) (fun X C R => ?_)
  show mz_G E X 4 0 [(0, .ref (E.2.1 6)), (1, .int a0)] [] s0
  unfold mw_Homes_findHolders at h
  refine mr_aload_n C 0 md_Homes_findHolders_0 rfl rfl ?_
  refine mr_get C 6 8 mc_Homes_cls ml_259 rfl (by decide) (by decide) (fun _ => rfl) rfl md_Homes_findHolders_1 ?_
  refine mr_iconst C md_Homes_findHolders_4 mk_iconst_m1 ?_
  refine mr_fill C 43 8 (by decide) (by decide) (by decide) (fun _ _ => rfl) (Nat.le_of_ble_eq_true rfl) (Nat.le_of_ble_eq_true rfl) ml_800 md_Homes_findHolders_5 ?_
  refine mr_iconst C md_Homes_findHolders_8 mk_iconst_0 ?_
  refine mr_istore_n C (L' := [(2, .int 0), (0, .ref (E.2.1 6)), (1, .int a0)]) md_Homes_findHolders_9 rfl (Nat.le_of_ble_eq_true rfl) rfl ?_
  refine mr_sub [1, 2, 0] rfl ?_
  refine h (fun (x2_10 : Int32) (s10 : mz_St) => mz_G E X 4 10 [(0, .ref (E.2.1 6)), (1, .int a0), (2, .int x2_10)] [] s10) (fun x2_10 s10 h => ?_)
  unfold mw_Homes_findHolders_10 at h
  refine mr_iload_n C 2 md_Homes_findHolders_10 rfl rfl ?_
  refine mr_bipush C md_Homes_findHolders_11 mk_bipush_10 ?_
  refine mr_icmp_ge C md_Homes_findHolders_13 rfl (fun hc => ?_) (fun hc => ?_)
  · replace h := h.1 hc
    exact mr_vret C R h md_Homes_findHolders_74
  replace h := h.2 hc
  refine mr_iload_n C 1 md_Homes_findHolders_16 rfl rfl ?_
  refine mr_iload_n C 2 md_Homes_findHolders_17 rfl rfl ?_
  refine mr_cSNi C (As := [.int a0, .int x2_10]) (rest := []) (ms_Mill_isIn _ E hI _ a0 x2_10 _ h) mo_Mill_isIn mt_Mill_isIn ml_818 rfl rfl (Nat.le_of_ble_eq_true rfl) (Nat.le_of_ble_eq_true rfl) (Nat.le_of_ble_eq_true rfl) md_Homes_findHolders_18 (fun r1 u1 h => ?_)
  refine mj (h (fun (s68 : mz_St) => mz_G E X 4 68 [(0, .ref (E.2.1 6)), (1, .int a0), (2, .int x2_10)] [] s68) (fun s68 h => ?_)) (fun h => ?_)
  · unfold mw_Homes_findHolders_68 at h
    refine mr_iinc C (L' := [(2, .int (x2_10 + 1)), (0, .ref (E.2.1 6)), (1, .int a0)]) 2 md_Homes_findHolders_68 rfl (mk_inc mk_iconst_1) (Nat.le_of_ble_eq_true rfl) rfl ?_
    refine mr_goto C md_Homes_findHolders_71 rfl ?_
    refine mr_sub [1, 2, 0] rfl ?_
    exact h
  refine mr_if_eq C md_Homes_findHolders_21 rfl (fun hc => ?_) (fun hc => ?_)
  · replace h := h.1 hc
    exact h
  replace h := h.2 hc
  refine mr_aload_n C 0 md_Homes_findHolders_24 rfl rfl ?_
  refine mr_get C 6 7 mc_Homes_cls ml_258 rfl (by decide) (by decide) (fun _ => rfl) rfl md_Homes_findHolders_25 ?_
  refine mr_iload_n C 2 md_Homes_findHolders_28 rfl rfl ?_
  refine mr_iald C 42 10 (by decide) (fun _ => rfl) h.1 md_Homes_findHolders_29 ?_
  replace h := h.2
  refine mr_iconst C md_Homes_findHolders_30 mk_iconst_m1 ?_
  refine mr_icmp_eq C md_Homes_findHolders_31 rfl (fun hc => ?_) (fun hc => ?_)
  · replace h := h.1 hc
    exact h
  replace h := h.2 hc
  refine mr_aload_n C 0 md_Homes_findHolders_34 rfl rfl ?_
  refine mr_get C 6 5 mc_Homes_cls ml_255 rfl (by decide) (by decide) (fun _ => rfl) rfl md_Homes_findHolders_35 ?_
  refine mr_aload_n C 0 md_Homes_findHolders_38 rfl rfl ?_
  refine mr_get C 6 7 mc_Homes_cls ml_258 rfl (by decide) (by decide) (fun _ => rfl) rfl md_Homes_findHolders_39 ?_
  refine mr_iload_n C 2 md_Homes_findHolders_42 rfl rfl ?_
  refine mr_iald C 42 10 (by decide) (fun _ => rfl) h.1 md_Homes_findHolders_43 ?_
  replace h := h.2
  refine mr_iald C 40 221 (by decide) (fun _ => rfl) h.1 md_Homes_findHolders_44 ?_
  replace h := h.2
  refine mr_istore_n C (L' := [(3, .int (mz_rd u1 40 (mz_rd u1 42 x2_10))), (0, .ref (E.2.1 6)), (1, .int a0), (2, .int x2_10)]) md_Homes_findHolders_45 rfl (Nat.le_of_ble_eq_true rfl) rfl ?_
  refine mr_iload_n C 0 md_Homes_findHolders_46 rfl rfl ?_
  refine mr_if_lt C md_Homes_findHolders_47 rfl (fun hc => ?_) (fun hc => ?_)
  · replace h := h.1 hc
    refine mr_sub [1, 2, 3] rfl ?_
    exact h
  replace h := h.2 hc
  refine mr_iload_n C 0 md_Homes_findHolders_50 rfl rfl ?_
  refine mr_bipush C md_Homes_findHolders_51 mk_bipush_8 ?_
  refine mr_icmp_ge C md_Homes_findHolders_53 rfl (fun hc => ?_) (fun hc => ?_)
  · replace h := h.1 hc
    refine mr_sub [1, 2, 3] rfl ?_
    exact h
  replace h := h.2 hc
  refine mr_aload_n C 1 md_Homes_findHolders_56 rfl rfl ?_
  refine mr_get C 6 8 mc_Homes_cls ml_259 rfl (by decide) (by decide) (fun _ => rfl) rfl md_Homes_findHolders_57 ?_
  refine mr_iload_n C 0 md_Homes_findHolders_60 rfl rfl ?_
  refine mr_aload_n C 1 md_Homes_findHolders_61 rfl rfl ?_
  refine mr_get C 6 7 mc_Homes_cls ml_258 rfl (by decide) (by decide) (fun _ => rfl) rfl md_Homes_findHolders_62 ?_
  refine mr_iload_n C 3 md_Homes_findHolders_65 rfl rfl ?_
  refine mr_iald C 42 10 (by decide) (fun _ => rfl) h.1 md_Homes_findHolders_66 ?_
  replace h := h.2
  refine mr_iast C 43 8 (by decide) (by decide) (fun _ _ => rfl) h.1 md_Homes_findHolders_67 ?_
  replace h := h.2
  refine mr_sub [1, 2, 3] rfl ?_
  exact h
def mw_Homes_registerFor_68 (P12 : Int32 → Int64 → Int32 → mz_St → Prop) (x5_12 : Int32) (x2_68 : Int32) (x3_68 : Int64) (s68 : mz_St) : Prop :=
  P12 x2_68 x3_68 (x5_12 + 1) s68
def mw_Homes_registerFor_12 (K : Int32 → mz_St → Prop) (P12 : Int32 → Int64 → Int32 → mz_St → Prop) (x2_12 : Int32) (x3_12 : Int64) (x5_12 : Int32) (s12 : mz_St) : Prop :=
  (((s12 1009 0) ≤ x5_12 →
   K x2_12 s12) ∧
  (¬ (s12 1009 0) ≤ x5_12 →
   vp_in x5_12 8 ∧
   ((¬ (mz_rd s12 43 x5_12) = (-1) →
    vp_in x5_12 8 ∧
    vp_in (mz_rd s12 43 x5_12) 221 ∧ (∀ v2 : Int64,
    (∀ P68 : Int32 → Int64 → mz_St → Prop, (∀ (x2_68 : Int32) (x3_68 : Int64) (s68 : mz_St), mw_Homes_registerFor_68 P12 x5_12 x2_68 x3_68 s68 → P68 x2_68 x3_68 s68) →
    ((0 ≤ (lg_cmp v2 x3_12) →
     P68 x2_12 x3_12 s12) ∧
    (¬ 0 ≤ (lg_cmp v2 x3_12) →
     vp_in x5_12 8 ∧
     vp_in (mz_rd s12 43 x5_12) 221 ∧ (∀ v3 : Int64,
     P68 x5_12 v3 s12)))))) ∧
   ((mz_rd s12 43 x5_12) = (-1) →
    K x5_12 s12))))
/-- ValueMill$Homes.registerFor(I)I: what it does, as a transformer of what must hold behind it -/
def mw_Homes_registerFor (K : Int32 → mz_St → Prop) (a0 : Int32) (s0 : mz_St) : Prop :=
  vp_in a0 221 ∧ (∀ v1 : Int64,
  (∀ P12 : Int32 → Int64 → Int32 → mz_St → Prop, (∀ (x2_12 : Int32) (x3_12 : Int64) (x5_12 : Int32) (s12 : mz_St), mw_Homes_registerFor_12 K P12 x2_12 x3_12 x5_12 s12 → P12 x2_12 x3_12 x5_12 s12) →
  P12 (-1) v1 0 s0))
set_option maxRecDepth 100000 in
set_option maxHeartbeats 4000000 in
theorem ms_Homes_registerFor (l : Launch) (E : mz_En) (hI : mz_Inj E) (K : Int32 → mz_St → Prop) (a0 : Int32) (s0 : mz_St) (h : mw_Homes_registerFor K a0 s0) : mz_Ci l E my_Homes_registerFor mb_Homes_registerFor 6 (some .int) (0) (0) [.ref (E.2.1 6), .int a0] s0 K := by
  refine mz_cti hI (by decide +kernel) (Nat.le_of_ble_eq_true rfl) (fun X C R => ?_)
  show mz_G E X 6 0 [(0, .ref (E.2.1 6)), (1, .int a0)] [] s0
  unfold mw_Homes_registerFor at h
  refine mr_iconst C md_Homes_registerFor_0 mk_iconst_m1 ?_
  refine mr_istore_n C (L' := [(2, .int (-1)), (0, .ref (E.2.1 6)), (1, .int a0)]) md_Homes_registerFor_1 rfl (Nat.le_of_ble_eq_true rfl) rfl ?_
  refine mr_aload_n C 1 md_Homes_registerFor_2 rfl rfl ?_
  refine mr_get C 6 6 mc_Homes_cls ml_257 rfl (by decide) (by decide) (fun _ => rfl) rfl md_Homes_registerFor_3 ?_
  refine mr_iload_n C 2 md_Homes_registerFor_6 rfl rfl ?_
  refine mr_lald C h.1 md_Homes_registerFor_7 (fun v1 => ?_)
  replace h := h.2 v1
  refine mr_lstore_n C (L' := [(3, .long v1), (2, .int (-1)), (0, .ref (E.2.1 6)), (1, .int a0)]) md_Homes_registerFor_8 rfl (Nat.le_of_ble_eq_true rfl) rfl ?_
  refine mr_iconst C md_Homes_registerFor_9 mk_iconst_0 ?_
  refine mr_istore C (L' := [(5, .int 0), (3, .long v1), (2, .int (-1)), (0, .ref (E.2.1 6)), (1, .int a0)]) md_Homes_registerFor_10 (Nat.le_of_ble_eq_true rfl) rfl ?_
  refine mr_sub [3, 2, 1, 0] rfl ?_
  refine h (fun (x2_12 : Int32) (x3_12 : Int64) (x5_12 : Int32) (s12 : mz_St) => mz_G E X 6 12 [(0, .ref (E.2.1 6)), (2, .int x2_12), (3, .long x3_12), (5, .int x5_12)] [] s12) (fun x2_12 x3_12 x5_12 s12 h => ?_)
  unfold mw_Homes_registerFor_12 at h
  refine mr_iload C 3 md_Homes_registerFor_12 rfl ?_
  refine mr_aload_n C 0 md_Homes_registerFor_14 rfl rfl ?_
  refine mr_get C 6 12 mc_Homes_cls ml_265 rfl (by decide) (by decide) (fun _ => rfl) rfl md_Homes_registerFor_15 ?_
  refine mr_icmp_ge C md_Homes_registerFor_18 rfl (fun hc => ?_) (fun hc => ?_)
  · replace h := h.1 hc
    refine mr_iload_n C 1 md_Homes_registerFor_74 rfl rfl ?_
    exact mr_iret C R h md_Homes_registerFor_75
  replace h := h.2 hc
  refine mr_aload_n C 0 md_Homes_registerFor_21 rfl rfl ?_
  refine mr_get C 6 8 mc_Homes_cls ml_259 rfl (by decide) (by decide) (fun _ => rfl) rfl md_Homes_registerFor_22 ?_
  refine mr_iload C 3 md_Homes_registerFor_25 rfl ?_
  refine mr_iald C 43 8 (by decide) (fun _ => rfl) h.1 md_Homes_registerFor_27 ?_
  replace h := h.2
  refine mr_iconst C md_Homes_registerFor_28 mk_iconst_m1 ?_
  refine mr_icmp_ne C md_Homes_registerFor_29 rfl (fun hc => ?_) (fun hc => ?_)
  · replace h := h.1 hc
    refine mr_aload_n C 0 md_Homes_registerFor_35 rfl rfl ?_
    refine mr_get C 6 6 mc_Homes_cls ml_257 rfl (by decide) (by decide) (fun _ => rfl) rfl md_Homes_registerFor_36 ?_
    refine mr_aload_n C 0 md_Homes_registerFor_39 rfl rfl ?_
    refine mr_get C 6 8 mc_Homes_cls ml_259 rfl (by decide) (by decide) (fun _ => rfl) rfl md_Homes_registerFor_40 ?_
    refine mr_iload C 3 md_Homes_registerFor_43 rfl ?_
    refine mr_iald C 43 8 (by decide) (fun _ => rfl) h.1 md_Homes_registerFor_45 ?_
    replace h := h.2
    refine mr_lald C h.1 md_Homes_registerFor_46 (fun v2 => ?_)
    replace h := h.2 v2
    refine mr_lload_n C 2 md_Homes_registerFor_47 rfl rfl ?_
    refine mr_lcmp C md_Homes_registerFor_48 ?_
    refine mj (h (fun (x2_68 : Int32) (x3_68 : Int64) (s68 : mz_St) => mz_G E X 6 68 [(0, .ref (E.2.1 6)), (2, .int x2_68), (3, .long x3_68), (5, .int x5_12)] [] s68) (fun x2_68 x3_68 s68 h => ?_)) (fun h => ?_)
    · unfold mw_Homes_registerFor_68 at h
      refine mr_iinc C (L' := [(5, .int (x5_12 + 1)), (0, .ref (E.2.1 6)), (2, .int x2_68), (3, .long x3_68)]) 3 md_Homes_registerFor_68 rfl (mk_inc mk_iconst_1) (Nat.le_of_ble_eq_true rfl) rfl ?_
      refine mr_goto C md_Homes_registerFor_71 rfl ?_
      refine mr_sub [1, 2, 3, 0] rfl ?_
      exact h
    refine mr_if_ge C md_Homes_registerFor_49 rfl (fun hc => ?_) (fun hc => ?_)
    · replace h := h.1 hc
      exact h
    replace h := h.2 hc
    refine mr_aload_n C 0 md_Homes_registerFor_52 rfl rfl ?_
    refine mr_get C 6 6 mc_Homes_cls ml_257 rfl (by decide) (by decide) (fun _ => rfl) rfl md_Homes_registerFor_53 ?_
    refine mr_aload_n C 0 md_Homes_registerFor_56 rfl rfl ?_
    refine mr_get C 6 8 mc_Homes_cls ml_259 rfl (by decide) (by decide) (fun _ => rfl) rfl md_Homes_registerFor_57 ?_
    refine mr_iload C 3 md_Homes_registerFor_60 rfl ?_
    refine mr_iald C 43 8 (by decide) (fun _ => rfl) h.1 md_Homes_registerFor_62 ?_
    replace h := h.2
    refine mr_lald C h.1 md_Homes_registerFor_63 (fun v3 => ?_)
    replace h := h.2 v3
    refine mr_lstore_n C (L' := [(3, .long v3), (0, .ref (E.2.1 6)), (2, .int x2_12), (5, .int x5_12)]) md_Homes_registerFor_64 rfl (Nat.le_of_ble_eq_true rfl) rfl ?_
    refine mr_iload C 3 md_Homes_registerFor_65 rfl ?_
    refine mr_istore_n C (L' := [(2, .int x5_12), (3, .long v3), (0, .ref (E.2.1 6)), (5, .int x5_12)]) md_Homes_registerFor_67 rfl (Nat.le_of_ble_eq_true rfl) rfl ?_
    refine mr_sub [2, 0, 1, 3] rfl ?_
    exact h
  replace h := h.2 hc
  refine mr_iload C 3 md_Homes_registerFor_32 rfl ?_
  exact mr_iret C R h md_Homes_registerFor_34
/-- ValueMill$Homes.putInSlot(I)V: what it does, as a transformer of what must hold behind it -/
def mw_Homes_putInSlot (K : mz_St → Prop) (a0 : Int32) (s0 : mz_St) : Prop :=
  vp_in a0 221 ∧
  K (mz_up (mz_wr s0 40 a0 ((8 : Int32) + a0)) 1010 0 1)
set_option maxRecDepth 100000 in
set_option maxHeartbeats 4000000 in
theorem ms_Homes_putInSlot (l : Launch) (E : mz_En) (hI : mz_Inj E) (K : mz_St → Prop) (a0 : Int32) (s0 : mz_St) (h : mw_Homes_putInSlot K a0 s0) : mz_Cv l E my_Homes_putInSlot mb_Homes_putInSlot 2 (0) (0) [.ref (E.2.1 6), .int a0] s0 K := by
  refine mz_ctv hI (by decide +kernel) (Nat.le_of_ble_eq_true rfl) (fun X C R => ?_)
  show mz_G E X 2 0 [(0, .ref (E.2.1 6)), (1, .int a0)] [] s0
  unfold mw_Homes_putInSlot at h
  refine mr_aload_n C 0 md_Homes_putInSlot_0 rfl rfl ?_
  refine mr_get C 6 5 mc_Homes_cls ml_255 rfl (by decide) (by decide) (fun _ => rfl) rfl md_Homes_putInSlot_1 ?_
  refine mr_iload_n C 1 md_Homes_putInSlot_4 rfl rfl ?_
  refine mr_bipush C md_Homes_putInSlot_5 mk_bipush_8 ?_
  refine mr_iload_n C 1 md_Homes_putInSlot_7 rfl rfl ?_
  refine mr_iadd C md_Homes_putInSlot_8 ?_
  refine mr_iast C 40 221 (by decide) (by decide) (fun _ _ => rfl) h.1 md_Homes_putInSlot_9 ?_
  replace h := h.2
  refine mr_aload_n C 0 md_Homes_putInSlot_10 rfl rfl ?_
  refine mr_iconst C md_Homes_putInSlot_11 mk_iconst_1 ?_
  refine mr_put C (t0 := .boolean) 6 13 1010 mc_Homes_cls ml_266 rfl (by decide) (by decide) (fun _ => rfl) rfl (by decide +kernel) (mb_nar mb_1) (mb_fit mb_1) (Nat.le_of_ble_eq_true rfl) (fun _ => rfl) (mp_1010 E _) md_Homes_putInSlot_12 ?_
  exact mr_vret C R h md_Homes_putInSlot_15
def mw_Homes_giveHome_42 (K : mz_St → Prop) (a0 : Int32) (r1 : Int32) (s42 : mz_St) : Prop :=
  vp_in a0 221 ∧
  K (mz_wr s42 40 a0 r1)
/-- ValueMill$Homes.giveHome(II)V: what it does, as a transformer of what must hold behind it -/
def mw_Homes_giveHome (K : mz_St → Prop) (a0 : Int32) (a1 : Int32) (s0 : mz_St) : Prop :=
  mw_Homes_findHolders (fun u1 =>
   mw_Homes_registerFor (fun r1 u2 =>
    ((¬ r1 = (-1) →
     vp_in r1 8 ∧
     (∀ P42 : mz_St → Prop, (∀ (s42 : mz_St), mw_Homes_giveHome_42 K a0 r1 s42 → P42 s42) →
     (((mz_rd u2 43 r1) = (-1) →
      P42 u2) ∧
     (¬ (mz_rd u2 43 r1) = (-1) →
      vp_in r1 8 ∧
      mw_Homes_putInSlot (fun u3 =>
       P42 u3) (mz_rd u2 43 r1) u2)))) ∧
    (r1 = (-1) →
     mw_Homes_putInSlot (fun u4 =>
      K u4) a0 u2))) a0 u1) a1 s0
set_option maxRecDepth 100000 in
set_option maxHeartbeats 4000000 in
theorem ms_Homes_giveHome (l : Launch) (E : mz_En) (hI : mz_Inj E) (K : mz_St → Prop) (a0 : Int32) (a1 : Int32) (s0 : mz_St) (h : mw_Homes_giveHome K a0 a1 s0) : mz_Cv l E my_Homes_giveHome mb_Homes_giveHome 4 (2) (47) [.ref (E.2.1 6), .int a0, .int a1] s0 K := by
  refine mz_ctv hI (by decide +kernel) (Nat.le_of_ble_eq_true rfl) (fun X C R => ?_)
  show mz_G E X 4 0 [(0, .ref (E.2.1 6)), (1, .int a0), (2, .int a1)] [] s0
  unfold mw_Homes_giveHome at h
  refine mr_aload_n C 0 md_Homes_giveHome_0 rfl rfl ?_
  refine mr_iload_n C 2 md_Homes_giveHome_1 rfl rfl ?_
  refine mr_cVv C (As := [.int a1]) (rest := []) 6 (ms_Homes_findHolders _ E hI _ a1 _ h) mo_Homes_findHolders mi_Homes_findHolders mc_Homes_cls ml_814 (by decide) (fun _ => rfl) rfl rfl (Nat.le_of_ble_eq_true rfl) (Nat.le_of_ble_eq_true rfl) (Nat.le_of_ble_eq_true rfl) md_Homes_giveHome_2 (fun u1 h => ?_)
  refine mr_aload_n C 0 md_Homes_giveHome_5 rfl rfl ?_
  refine mr_iload_n C 1 md_Homes_giveHome_6 rfl rfl ?_
  refine mr_cVi C (As := [.int a0]) (rest := []) 6 (ms_Homes_registerFor _ E hI _ a0 _ h) mo_Homes_registerFor mi_Homes_registerFor mc_Homes_cls ml_819 (by decide) (fun _ => rfl) rfl rfl (Nat.le_of_ble_eq_true rfl) (Nat.le_of_ble_eq_true rfl) (Nat.le_of_ble_eq_true rfl) md_Homes_giveHome_7 (fun r1 u2 h => ?_)
  refine mr_istore_n C (L' := [(3, .int r1), (0, .ref (E.2.1 6)), (1, .int a0), (2, .int a1)]) md_Homes_giveHome_10 rfl (Nat.le_of_ble_eq_true rfl) rfl ?_
  refine mr_iload_n C 0 md_Homes_giveHome_11 rfl rfl ?_
  refine mr_iconst C md_Homes_giveHome_12 mk_iconst_m1 ?_
  refine mr_icmp_ne C md_Homes_giveHome_13 rfl (fun hc => ?_) (fun hc => ?_)
  · replace h := h.1 hc
    refine mr_aload_n C 1 md_Homes_giveHome_22 rfl rfl ?_
    refine mr_get C 6 8 mc_Homes_cls ml_259 rfl (by decide) (by decide) (fun _ => rfl) rfl md_Homes_giveHome_23 ?_
    refine mr_iload_n C 0 md_Homes_giveHome_26 rfl rfl ?_
    refine mr_iald C 43 8 (by decide) (fun _ => rfl) h.1 md_Homes_giveHome_27 ?_
    replace h := h.2
    refine mr_iconst C md_Homes_giveHome_28 mk_iconst_m1 ?_
    refine mj (h (fun (s42 : mz_St) => mz_G E X 4 42 [(0, .ref (E.2.1 6)), (1, .int a0), (3, .int r1)] [] s42) (fun s42 h => ?_)) (fun h => ?_)
    · unfold mw_Homes_giveHome_42 at h
      refine mr_aload_n C 0 md_Homes_giveHome_42 rfl rfl ?_
      refine mr_get C 6 5 mc_Homes_cls ml_255 rfl (by decide) (by decide) (fun _ => rfl) rfl md_Homes_giveHome_43 ?_
      refine mr_iload_n C 1 md_Homes_giveHome_46 rfl rfl ?_
      refine mr_iload_n C 2 md_Homes_giveHome_47 rfl rfl ?_
      refine mr_iast C 40 221 (by decide) (by decide) (fun _ _ => rfl) h.1 md_Homes_giveHome_48 ?_
      replace h := h.2
      exact mr_vret C R h md_Homes_giveHome_49
    refine mr_icmp_eq C md_Homes_giveHome_29 rfl (fun hc => ?_) (fun hc => ?_)
    · replace h := h.1 hc
      refine mr_sub [1, 2, 0] rfl ?_
      exact h
    replace h := h.2 hc
    refine mr_aload_n C 1 md_Homes_giveHome_32 rfl rfl ?_
    refine mr_aload_n C 1 md_Homes_giveHome_33 rfl rfl ?_
    refine mr_get C 6 8 mc_Homes_cls ml_259 rfl (by decide) (by decide) (fun _ => rfl) rfl md_Homes_giveHome_34 ?_
    refine mr_iload_n C 0 md_Homes_giveHome_37 rfl rfl ?_
    refine mr_iald C 43 8 (by decide) (fun _ => rfl) h.1 md_Homes_giveHome_38 ?_
    replace h := h.2
    refine mr_cVv C (As := [.int (mz_rd u2 43 r1)]) (rest := []) 6 (ms_Homes_putInSlot _ E hI _ (mz_rd u2 43 r1) _ h) mo_Homes_putInSlot mi_Homes_putInSlot mc_Homes_cls ml_823 (by decide) (fun _ => rfl) rfl rfl (Nat.le_of_ble_eq_true rfl) (Nat.le_of_ble_eq_true rfl) (Nat.le_of_ble_eq_true rfl) md_Homes_giveHome_39 (fun u3 h => ?_)
    refine mr_sub [1, 2, 0] rfl ?_
    exact h
  replace h := h.2 hc
  refine mr_aload_n C 1 md_Homes_giveHome_16 rfl rfl ?_
  refine mr_iload_n C 2 md_Homes_giveHome_17 rfl rfl ?_
  refine mr_cVv C (As := [.int a0]) (rest := []) 6 (ms_Homes_putInSlot _ E hI _ a0 _ h) mo_Homes_putInSlot mi_Homes_putInSlot mc_Homes_cls ml_823 (by decide) (fun _ => rfl) rfl rfl (Nat.le_of_ble_eq_true rfl) (Nat.le_of_ble_eq_true rfl) (Nat.le_of_ble_eq_true rfl) md_Homes_giveHome_18 (fun u4 h => ?_)
  exact mr_vret C R h md_Homes_giveHome_21
def mw_Homes_giveHomesToPhis_74 (P38 : Int32 → mz_St → Prop) (x2_38 : Int32) (s74 : mz_St) : Prop :=
  P38 (x2_38 + 1) s74
def mw_Homes_giveHomesToPhis_38 (K : mz_St → Prop) (a0 : Int32) (P38 : Int32 → mz_St → Prop) (x2_38 : Int32) (s38 : mz_St) : Prop :=
  ((10 ≤ x2_38 →
   K s38) ∧
  (¬ 10 ≤ x2_38 →
   mw_Stands_keepsPhi (fun r1 u1 =>
    (∀ P74 : mz_St → Prop, (∀ (s74 : mz_St), mw_Homes_giveHomesToPhis_74 P38 x2_38 s74 → P74 s74) →
    ((r1 = 0 →
     P74 u1) ∧
    (¬ r1 = 0 →
     mw_Mill_phiName (fun r2 u2 =>
      vp_in a0 10 ∧
      mw_Homes_giveHome (fun u3 =>
       P74 u3) r2 (mz_rd u2 31 a0) u2) a0 x2_38 u1)))) a0 x2_38 s38))
def mw_Homes_giveHomesToPhis_2 (K : mz_St → Prop) (a0 : Int32) (P2 : Int32 → mz_St → Prop) (x2_2 : Int32) (s2 : mz_St) : Prop :=
  ((10 ≤ x2_2 →
   (∀ P38 : Int32 → mz_St → Prop, (∀ (x2_38 : Int32) (s38 : mz_St), mw_Homes_giveHomesToPhis_38 K a0 P38 x2_38 s38 → P38 x2_38 s38) →
   P38 0 s2)) ∧
  (¬ 10 ≤ x2_2 →
   mw_Names_nameBefore (fun r3 u4 =>
    mw_Stands_nameFor (fun r4 u5 =>
     vp_in x2_2 10 ∧
     P2 (x2_2 + 1) (mz_wr u5 42 x2_2 r4)) r3 u4) a0 x2_2 s2))
/-- ValueMill$Homes.giveHomesToPhis(I)V: what it does, as a transformer of what must hold behind it -/
def mw_Homes_giveHomesToPhis (K : mz_St → Prop) (a0 : Int32) (s0 : mz_St) : Prop :=
  (∀ P2 : Int32 → mz_St → Prop, (∀ (x2_2 : Int32) (s2 : mz_St), mw_Homes_giveHomesToPhis_2 K a0 P2 x2_2 s2 → P2 x2_2 s2) →
  P2 0 s0)
set_option maxRecDepth 100000 in
set_option maxHeartbeats 4000000 in
theorem ms_Homes_giveHomesToPhis (l : Launch) (E : mz_En) (hI : mz_Inj E) (K : mz_St → Prop) (a0 : Int32) (s0 : mz_St) (h : mw_Homes_giveHomesToPhis K a0 s0) : mz_Cv l E my_Homes_giveHomesToPhis mb_Homes_giveHomesToPhis 3 (3) (70) [.ref (E.2.1 6), .int a0] s0 K := by
  refine mz_ctv hI (by decide +kernel) (Nat.le_of_ble_eq_true rfl) (fun X C R => ?_)
  show mz_G E X 3 0 [(0, .ref (E.2.1 6)), (1, .int a0)] [] s0
  unfold mw_Homes_giveHomesToPhis at h
  refine mr_iconst C md_Homes_giveHomesToPhis_0 mk_iconst_0 ?_
  refine mr_istore_n C (L' := [(2, .int 0), (0, .ref (E.2.1 6)), (1, .int a0)]) md_Homes_giveHomesToPhis_1 rfl (Nat.le_of_ble_eq_true rfl) rfl ?_
  refine mr_sub [1, 2, 0] rfl ?_
  refine h (fun (x2_2 : Int32) (s2 : mz_St) => mz_G E X 3 2 [(0, .ref (E.2.1 6)), (1, .int a0), (2, .int x2_2)] [] s2) (fun x2_2 s2 h => ?_)
  unfold mw_Homes_giveHomesToPhis_2 at h
  refine mr_iload_n C 2 md_Homes_giveHomesToPhis_2 rfl rfl ?_
  refine mr_bipush C md_Homes_giveHomesToPhis_3 mk_bipush_10 ?_
  refine mr_icmp_ge C md_Homes_giveHomesToPhis_5 rfl (fun hc => ?_) (fun hc => ?_)
  · replace h := h.1 hc
    refine mr_iconst C md_Homes_giveHomesToPhis_36 mk_iconst_0 ?_
    refine mr_istore_n C (L' := [(2, .int 0), (0, .ref (E.2.1 6)), (1, .int a0)]) md_Homes_giveHomesToPhis_37 rfl (Nat.le_of_ble_eq_true rfl) rfl ?_
    refine mr_sub [1, 2, 0] rfl ?_
    refine h (fun (x2_38 : Int32) (s38 : mz_St) => mz_G E X 3 38 [(0, .ref (E.2.1 6)), (1, .int a0), (2, .int x2_38)] [] s38) (fun x2_38 s38 h => ?_)
    unfold mw_Homes_giveHomesToPhis_38 at h
    refine mr_iload_n C 2 md_Homes_giveHomesToPhis_38 rfl rfl ?_
    refine mr_bipush C md_Homes_giveHomesToPhis_39 mk_bipush_10 ?_
    refine mr_icmp_ge C md_Homes_giveHomesToPhis_41 rfl (fun hc => ?_) (fun hc => ?_)
    · replace h := h.1 hc
      exact mr_vret C R h md_Homes_giveHomesToPhis_80
    replace h := h.2 hc
    refine mr_aload_n C 0 md_Homes_giveHomesToPhis_44 rfl rfl ?_
    refine mr_get C 6 4 mc_Homes_cls ml_254 rfl (by decide) (by decide) (fun _ => rfl) rfl md_Homes_giveHomesToPhis_45 ?_
    refine mr_iload_n C 1 md_Homes_giveHomesToPhis_48 rfl rfl ?_
    refine mr_iload_n C 2 md_Homes_giveHomesToPhis_49 rfl rfl ?_
    refine mr_cVNi C (As := [.int a0, .int x2_38]) (rest := []) 5 (ms_Stands_keepsPhi _ E hI _ a0 x2_38 _ h) mo_Stands_keepsPhi mi_Stands_keepsPhi mc_Stands_cls ml_790 (by decide) (fun _ => rfl) rfl rfl (Nat.le_of_ble_eq_true rfl) (Nat.le_of_ble_eq_true rfl) (Nat.le_of_ble_eq_true rfl) md_Homes_giveHomesToPhis_50 (fun r1 u1 h => ?_)
    refine mj (h (fun (s74 : mz_St) => mz_G E X 3 74 [(0, .ref (E.2.1 6)), (1, .int a0), (2, .int x2_38)] [] s74) (fun s74 h => ?_)) (fun h => ?_)
    · unfold mw_Homes_giveHomesToPhis_74 at h
      refine mr_iinc C (L' := [(2, .int (x2_38 + 1)), (0, .ref (E.2.1 6)), (1, .int a0)]) 2 md_Homes_giveHomesToPhis_74 rfl (mk_inc mk_iconst_1) (Nat.le_of_ble_eq_true rfl) rfl ?_
      refine mr_goto C md_Homes_giveHomesToPhis_77 rfl ?_
      refine mr_sub [1, 2, 0] rfl ?_
      exact h
    refine mr_if_eq C md_Homes_giveHomesToPhis_53 rfl (fun hc => ?_) (fun hc => ?_)
    · replace h := h.1 hc
      exact h
    replace h := h.2 hc
    refine mr_aload_n C 0 md_Homes_giveHomesToPhis_56 rfl rfl ?_
    refine mr_iload_n C 1 md_Homes_giveHomesToPhis_57 rfl rfl ?_
    refine mr_iload_n C 2 md_Homes_giveHomesToPhis_58 rfl rfl ?_
    refine mr_cSNi C (As := [.int a0, .int x2_38]) (rest := [.ref (E.2.1 6)]) (ms_Mill_phiName _ E hI _ a0 x2_38 _ h) mo_Mill_phiName mt_Mill_phiName ml_794 rfl rfl (Nat.le_of_ble_eq_true rfl) (Nat.le_of_ble_eq_true rfl) (Nat.le_of_ble_eq_true rfl) md_Homes_giveHomesToPhis_59 (fun r2 u2 h => ?_)
    refine mr_aload_n C 0 md_Homes_giveHomesToPhis_62 rfl rfl ?_
    refine mr_get C 6 2 mc_Homes_cls ml_252 rfl (by decide) (by decide) (fun _ => rfl) rfl md_Homes_giveHomesToPhis_63 ?_
    refine mr_getN C 3 4 mc_Lives_cls ml_159 rfl (by decide) (by decide) (fun _ => rfl) rfl md_Homes_giveHomesToPhis_66 ?_
    refine mr_iload_n C 1 md_Homes_giveHomesToPhis_69 rfl rfl ?_
    refine mr_iald C 31 10 (by decide) (fun _ => rfl) h.1 md_Homes_giveHomesToPhis_70 ?_
    replace h := h.2
    refine mr_cVv C (As := [.int r2, .int (mz_rd u2 31 a0)]) (rest := []) 6 (ms_Homes_giveHome _ E hI _ r2 (mz_rd u2 31 a0) _ h) mo_Homes_giveHome mi_Homes_giveHome mc_Homes_cls ml_810 (by decide) (fun _ => rfl) rfl rfl (Nat.le_of_ble_eq_true rfl) (Nat.le_of_ble_eq_true rfl) (Nat.le_of_ble_eq_true rfl) md_Homes_giveHomesToPhis_71 (fun u3 h => ?_)
    exact h
  replace h := h.2 hc
  refine mr_aload_n C 0 md_Homes_giveHomesToPhis_8 rfl rfl ?_
  refine mr_get C 6 7 mc_Homes_cls ml_258 rfl (by decide) (by decide) (fun _ => rfl) rfl md_Homes_giveHomesToPhis_9 ?_
  refine mr_iload_n C 2 md_Homes_giveHomesToPhis_12 rfl rfl ?_
  refine mr_aload_n C 0 md_Homes_giveHomesToPhis_13 rfl rfl ?_
  refine mr_get C 6 4 mc_Homes_cls ml_254 rfl (by decide) (by decide) (fun _ => rfl) rfl md_Homes_giveHomesToPhis_14 ?_
  refine mr_aload_n C 0 md_Homes_giveHomesToPhis_17 rfl rfl ?_
  refine mr_get C 6 3 mc_Homes_cls ml_253 rfl (by decide) (by decide) (fun _ => rfl) rfl md_Homes_giveHomesToPhis_18 ?_
  refine mr_iload_n C 1 md_Homes_giveHomesToPhis_21 rfl rfl ?_
  refine mr_iload_n C 2 md_Homes_giveHomesToPhis_22 rfl rfl ?_
  refine mr_cVNi C (As := [.int a0, .int x2_2]) (rest := [.ref (E.2.1 5), .int x2_2, .ref (E.2.1 42)]) 4 (ms_Names_nameBefore _ E hI _ a0 x2_2 _ h) mo_Names_nameBefore mi_Names_nameBefore mc_Names_cls ml_805 (by decide) (fun _ => rfl) rfl rfl (Nat.le_of_ble_eq_true rfl) (Nat.le_of_ble_eq_true rfl) (Nat.le_of_ble_eq_true rfl) md_Homes_giveHomesToPhis_23 (fun r3 u4 h => ?_)
  refine mr_cVNi C (As := [.int r3]) (rest := [.int x2_2, .ref (E.2.1 42)]) 5 (ms_Stands_nameFor _ E hI _ r3 _ h) mo_Stands_nameFor mi_Stands_nameFor mc_Stands_cls ml_806 (by decide) (fun _ => rfl) rfl rfl (Nat.le_of_ble_eq_true rfl) (Nat.le_of_ble_eq_true rfl) (Nat.le_of_ble_eq_true rfl) md_Homes_giveHomesToPhis_26 (fun r4 u5 h => ?_)
  refine mr_iast C 42 10 (by decide) (by decide) (fun _ _ => rfl) h.1 md_Homes_giveHomesToPhis_29 ?_
  replace h := h.2
  refine mr_iinc C (L' := [(2, .int (x2_2 + 1)), (0, .ref (E.2.1 6)), (1, .int a0)]) 2 md_Homes_giveHomesToPhis_30 rfl (mk_inc mk_iconst_1) (Nat.le_of_ble_eq_true rfl) rfl ?_
  refine mr_goto C md_Homes_giveHomesToPhis_33 rfl ?_
  refine mr_sub [1, 2, 0] rfl ?_
  exact h
def mw_Homes_findLiveBehind_30 (K : mz_St → Prop) (a0 : Int32) (P30 : Int32 → Int32 → mz_St → Prop) (x2_30 : Int32) (x3_30 : Int32) (s30 : mz_St) : Prop :=
  ((x3_30 < 0 →
   K s30) ∧
  (¬ x3_30 < 0 →
   vp_in x3_30 12 ∧
   mw_Program_madeSet (fun r3 u3 =>
    mw_Program_usedSet (fun r4 u4 =>
     P30 ((x2_30 &&& (r3 ^^^ (-1))) ||| r4) (x3_30 + (-1)) u4) ((a0 * 12) + x3_30) u3) ((a0 * 12) + x3_30) (mz_wr s30 44 x3_30 x2_30)))
/-- ValueMill$Homes.findLiveBehind(I)V: what it does, as a transformer of what must hold behind it -/
def mw_Homes_findLiveBehind (K : mz_St → Prop) (a0 : Int32) (s0 : mz_St) : Prop :=
  mw_Lives_liveBehind (fun r1 u1 =>
   mw_Program_usedAtEndSet (fun r2 u2 =>
    vp_in a0 10 ∧
    (∀ P30 : Int32 → Int32 → mz_St → Prop, (∀ (x2_30 : Int32) (x3_30 : Int32) (s30 : mz_St), mw_Homes_findLiveBehind_30 K a0 P30 x2_30 x3_30 s30 → P30 x2_30 x3_30 s30) →
    P30 (r1 ||| r2) ((mz_rd u2 16 a0) - 1) u2)) a0 u1) a0 s0
set_option maxRecDepth 100000 in
set_option maxHeartbeats 4000000 in
theorem ms_Homes_findLiveBehind (l : Launch) (E : mz_En) (hI : mz_Inj E) (K : mz_St → Prop) (a0 : Int32) (s0 : mz_St) (h : mw_Homes_findLiveBehind K a0 s0) : mz_Cv l E my_Homes_findLiveBehind mb_Homes_findLiveBehind 5 (2) (45) [.ref (E.2.1 6), .int a0] s0 K := by
  refine mz_ctv hI (by decide +kernel) (Nat.le_of_ble_eq_true rfl) (fun X C R => ?_)
  show mz_G E X 5 0 [(0, .ref (E.2.1 6)), (1, .int a0)] [] s0
  unfold mw_Homes_findLiveBehind at h
  refine mr_aload_n C 0 md_Homes_findLiveBehind_0 rfl rfl ?_
  refine mr_get C 6 2 mc_Homes_cls ml_252 rfl (by decide) (by decide) (fun _ => rfl) rfl md_Homes_findLiveBehind_1 ?_
  refine mr_iload_n C 1 md_Homes_findLiveBehind_4 rfl rfl ?_
  refine mr_cVNi C (As := [.int a0]) (rest := []) 3 (ms_Lives_liveBehind _ E hI _ a0 _ h) mo_Lives_liveBehind mi_Lives_liveBehind mc_Lives_cls ml_831 (by decide) (fun _ => rfl) rfl rfl (Nat.le_of_ble_eq_true rfl) (Nat.le_of_ble_eq_true rfl) (Nat.le_of_ble_eq_true rfl) md_Homes_findLiveBehind_5 (fun r1 u1 h => ?_)
  refine mr_aload_n C 0 md_Homes_findLiveBehind_8 rfl rfl ?_
  refine mr_get C 6 0 mc_Homes_cls ml_250 rfl (by decide) (by decide) (fun _ => rfl) rfl md_Homes_findLiveBehind_9 ?_
  refine mr_iload_n C 1 md_Homes_findLiveBehind_12 rfl rfl ?_
  refine mr_cVNi C (As := [.int a0]) (rest := [.int r1]) 1 (ms_Program_usedAtEndSet _ E hI _ a0 _ h) mo_Program_usedAtEndSet mi_Program_usedAtEndSet mc_Program_cls ml_832 (by decide) (fun _ => rfl) rfl rfl (Nat.le_of_ble_eq_true rfl) (Nat.le_of_ble_eq_true rfl) (Nat.le_of_ble_eq_true rfl) md_Homes_findLiveBehind_13 (fun r2 u2 h => ?_)
  refine mr_ior C md_Homes_findLiveBehind_16 ?_
  refine mr_istore_n C (L' := [(2, .int (r1 ||| r2)), (0, .ref (E.2.1 6)), (1, .int a0)]) md_Homes_findLiveBehind_17 rfl (Nat.le_of_ble_eq_true rfl) rfl ?_
  refine mr_aload_n C 1 md_Homes_findLiveBehind_18 rfl rfl ?_
  refine mr_get C 6 0 mc_Homes_cls ml_250 rfl (by decide) (by decide) (fun _ => rfl) rfl md_Homes_findLiveBehind_19 ?_
  refine mr_getN C 1 4 mc_Program_cls ml_48 rfl (by decide) (by decide) (fun _ => rfl) rfl md_Homes_findLiveBehind_22 ?_
  refine mr_iload_n C 2 md_Homes_findLiveBehind_25 rfl rfl ?_
  refine mr_iald C 16 10 (by decide) (fun _ => rfl) h.1 md_Homes_findLiveBehind_26 ?_
  replace h := h.2
  refine mr_iconst C md_Homes_findLiveBehind_27 mk_iconst_1 ?_
  refine mr_isub C md_Homes_findLiveBehind_28 ?_
  refine mr_istore_n C (L' := [(3, .int ((mz_rd u2 16 a0) - 1)), (2, .int (r1 ||| r2)), (0, .ref (E.2.1 6)), (1, .int a0)]) md_Homes_findLiveBehind_29 rfl (Nat.le_of_ble_eq_true rfl) rfl ?_
  refine mr_sub [2, 3, 1, 0] rfl ?_
  refine h (fun (x2_30 : Int32) (x3_30 : Int32) (s30 : mz_St) => mz_G E X 5 30 [(0, .ref (E.2.1 6)), (1, .int a0), (2, .int x2_30), (3, .int x3_30)] [] s30) (fun x2_30 x3_30 s30 h => ?_)
  unfold mw_Homes_findLiveBehind_30 at h
  refine mr_iload_n C 3 md_Homes_findLiveBehind_30 rfl rfl ?_
  refine mr_if_lt C md_Homes_findLiveBehind_31 rfl (fun hc => ?_) (fun hc => ?_)
  · replace h := h.1 hc
    exact mr_vret C R h md_Homes_findLiveBehind_79
  replace h := h.2 hc
  refine mr_iload_n C 1 md_Homes_findLiveBehind_34 rfl rfl ?_
  refine mr_bipush C md_Homes_findLiveBehind_35 mk_bipush_12 ?_
  refine mr_imul C md_Homes_findLiveBehind_37 ?_
  refine mr_iload_n C 3 md_Homes_findLiveBehind_38 rfl rfl ?_
  refine mr_iadd C md_Homes_findLiveBehind_39 ?_
  refine mr_istore C (L' := [(4, .int ((a0 * 12) + x3_30)), (0, .ref (E.2.1 6)), (1, .int a0), (2, .int x2_30), (3, .int x3_30)]) md_Homes_findLiveBehind_40 (Nat.le_of_ble_eq_true rfl) rfl ?_
  refine mr_aload_n C 1 md_Homes_findLiveBehind_42 rfl rfl ?_
  refine mr_get C 6 9 mc_Homes_cls ml_260 rfl (by decide) (by decide) (fun _ => rfl) rfl md_Homes_findLiveBehind_43 ?_
  refine mr_iload_n C 4 md_Homes_findLiveBehind_46 rfl rfl ?_
  refine mr_iload_n C 3 md_Homes_findLiveBehind_47 rfl rfl ?_
  refine mr_iast C 44 12 (by decide) (by decide) (fun _ _ => rfl) h.1 md_Homes_findLiveBehind_48 ?_
  replace h := h.2
  refine mr_iload_n C 3 md_Homes_findLiveBehind_49 rfl rfl ?_
  refine mr_aload_n C 1 md_Homes_findLiveBehind_50 rfl rfl ?_
  refine mr_get C 6 0 mc_Homes_cls ml_250 rfl (by decide) (by decide) (fun _ => rfl) rfl md_Homes_findLiveBehind_51 ?_
  refine mr_iload C 0 md_Homes_findLiveBehind_54 rfl ?_
  refine mr_cVNi C (As := [.int ((a0 * 12) + x3_30)]) (rest := [.int x2_30]) 1 (ms_Program_madeSet _ E hI _ ((a0 * 12) + x3_30) _ h) mo_Program_madeSet mi_Program_madeSet mc_Program_cls ml_833 (by decide) (fun _ => rfl) rfl rfl (Nat.le_of_ble_eq_true rfl) (Nat.le_of_ble_eq_true rfl) (Nat.le_of_ble_eq_true rfl) md_Homes_findLiveBehind_56 (fun r3 u3 h => ?_)
  refine mr_iconst C md_Homes_findLiveBehind_59 mk_iconst_m1 ?_
  refine mr_ixor C md_Homes_findLiveBehind_60 ?_
  refine mr_iand C md_Homes_findLiveBehind_61 ?_
  refine mr_aload_n C 1 md_Homes_findLiveBehind_62 rfl rfl ?_
  refine mr_get C 6 0 mc_Homes_cls ml_250 rfl (by decide) (by decide) (fun _ => rfl) rfl md_Homes_findLiveBehind_63 ?_
  refine mr_iload C 0 md_Homes_findLiveBehind_66 rfl ?_
  refine mr_cVNi C (As := [.int ((a0 * 12) + x3_30)]) (rest := [.int (x2_30 &&& (r3 ^^^ (-1)))]) 1 (ms_Program_usedSet _ E hI _ ((a0 * 12) + x3_30) _ h) mo_Program_usedSet mi_Program_usedSet mc_Program_cls ml_834 (by decide) (fun _ => rfl) rfl rfl (Nat.le_of_ble_eq_true rfl) (Nat.le_of_ble_eq_true rfl) (Nat.le_of_ble_eq_true rfl) md_Homes_findLiveBehind_68 (fun r4 u4 h => ?_)
  refine mr_ior C md_Homes_findLiveBehind_71 ?_
  refine mr_istore_n C (L' := [(2, .int ((x2_30 &&& (r3 ^^^ (-1))) ||| r4)), (4, .int ((a0 * 12) + x3_30)), (0, .ref (E.2.1 6)), (1, .int a0), (3, .int x3_30)]) md_Homes_findLiveBehind_72 rfl (Nat.le_of_ble_eq_true rfl) rfl ?_
  refine mr_iinc C (L' := [(3, .int (x3_30 + (-1))), (2, .int ((x2_30 &&& (r3 ^^^ (-1))) ||| r4)), (4, .int ((a0 * 12) + x3_30)), (0, .ref (E.2.1 6)), (1, .int a0)]) 4 md_Homes_findLiveBehind_73 rfl (mk_inc mk_iconst_m1) (Nat.le_of_ble_eq_true rfl) rfl ?_
  refine mr_goto C md_Homes_findLiveBehind_76 rfl ?_
  refine mr_sub [3, 4, 1, 0] rfl ?_
  exact h
/-- ValueMill$Homes.giveHomeToMade(II)V: what it does, as a transformer of what must hold behind it -/
def mw_Homes_giveHomeToMade (K : mz_St → Prop) (a0 : Int32) (a1 : Int32) (s0 : mz_St) : Prop :=
  mw_Program_makesValue (fun r1 u1 =>
   ((¬ r1 = 0 →
    vp_in a0 120 ∧
    mw_Mill_madeName (fun r2 u2 =>
     mw_Stands_nameFor (fun r3 u3 =>
      vp_in (mz_rd u1 13 a0) 10 ∧
      mw_Stands_keepsOperation (fun r4 u4 =>
       ((r4 = 0 →
        K u4) ∧
       (¬ r4 = 0 →
        mw_Mill_madeName (fun r5 u5 =>
         mw_Homes_giveHome (fun u6 =>
          K u6) r5 a1 u5) a0 u4))) a0 (mz_wr u3 42 (mz_rd u1 13 a0) r3)) r2 u2) a0 u1) ∧
   (r1 = 0 →
    K u1))) a0 s0
set_option maxRecDepth 100000 in
set_option maxHeartbeats 4000000 in
theorem ms_Homes_giveHomeToMade (l : Launch) (E : mz_En) (hI : mz_Inj E) (K : mz_St → Prop) (a0 : Int32) (a1 : Int32) (s0 : mz_St) (h : mw_Homes_giveHomeToMade K a0 a1 s0) : mz_Cv l E my_Homes_giveHomeToMade mb_Homes_giveHomeToMade 3 (3) (70) [.ref (E.2.1 6), .int a0, .int a1] s0 K := by
  refine mz_ctv hI (by decide +kernel) (Nat.le_of_ble_eq_true rfl) (fun X C R => ?_)
  show mz_G E X 3 0 [(0, .ref (E.2.1 6)), (1, .int a0), (2, .int a1)] [] s0
  unfold mw_Homes_giveHomeToMade at h
  refine mr_aload_n C 0 md_Homes_giveHomeToMade_0 rfl rfl ?_
  refine mr_get C 6 0 mc_Homes_cls ml_250 rfl (by decide) (by decide) (fun _ => rfl) rfl md_Homes_giveHomeToMade_1 ?_
  refine mr_iload_n C 1 md_Homes_giveHomeToMade_4 rfl rfl ?_
  refine mr_cVNi C (As := [.int a0]) (rest := []) 1 (ms_Program_makesValue _ E hI _ a0 _ h) mo_Program_makesValue mi_Program_makesValue mc_Program_cls ml_839 (by decide) (fun _ => rfl) rfl rfl (Nat.le_of_ble_eq_true rfl) (Nat.le_of_ble_eq_true rfl) (Nat.le_of_ble_eq_true rfl) md_Homes_giveHomeToMade_5 (fun r1 u1 h => ?_)
  refine mr_if_ne C md_Homes_giveHomeToMade_8 rfl (fun hc => ?_) (fun hc => ?_)
  · replace h := h.1 hc
    refine mr_aload_n C 0 md_Homes_giveHomeToMade_12 rfl rfl ?_
    refine mr_get C 6 7 mc_Homes_cls ml_258 rfl (by decide) (by decide) (fun _ => rfl) rfl md_Homes_giveHomeToMade_13 ?_
    refine mr_aload_n C 0 md_Homes_giveHomeToMade_16 rfl rfl ?_
    refine mr_get C 6 0 mc_Homes_cls ml_250 rfl (by decide) (by decide) (fun _ => rfl) rfl md_Homes_giveHomeToMade_17 ?_
    refine mr_getN C 1 1 mc_Program_cls ml_35 rfl (by decide) (by decide) (fun _ => rfl) rfl md_Homes_giveHomeToMade_20 ?_
    refine mr_iload_n C 1 md_Homes_giveHomeToMade_23 rfl rfl ?_
    refine mr_iald C 13 120 (by decide) (fun _ => rfl) h.1 md_Homes_giveHomeToMade_24 ?_
    replace h := h.2
    refine mr_aload_n C 0 md_Homes_giveHomeToMade_25 rfl rfl ?_
    refine mr_get C 6 4 mc_Homes_cls ml_254 rfl (by decide) (by decide) (fun _ => rfl) rfl md_Homes_giveHomeToMade_26 ?_
    refine mr_iload_n C 1 md_Homes_giveHomeToMade_29 rfl rfl ?_
    refine mr_cSNi C (As := [.int a0]) (rest := [.ref (E.2.1 5), .int (mz_rd u1 13 a0), .ref (E.2.1 42)]) (ms_Mill_madeName _ E hI _ a0 _ h) mo_Mill_madeName mt_Mill_madeName ml_777 rfl rfl (Nat.le_of_ble_eq_true rfl) (Nat.le_of_ble_eq_true rfl) (Nat.le_of_ble_eq_true rfl) md_Homes_giveHomeToMade_30 (fun r2 u2 h => ?_)
    refine mr_cVNi C (As := [.int r2]) (rest := [.int (mz_rd u1 13 a0), .ref (E.2.1 42)]) 5 (ms_Stands_nameFor _ E hI _ r2 _ h) mo_Stands_nameFor mi_Stands_nameFor mc_Stands_cls ml_806 (by decide) (fun _ => rfl) rfl rfl (Nat.le_of_ble_eq_true rfl) (Nat.le_of_ble_eq_true rfl) (Nat.le_of_ble_eq_true rfl) md_Homes_giveHomeToMade_33 (fun r3 u3 h => ?_)
    refine mr_iast C 42 10 (by decide) (by decide) (fun _ _ => rfl) h.1 md_Homes_giveHomeToMade_36 ?_
    replace h := h.2
    refine mr_aload_n C 0 md_Homes_giveHomeToMade_37 rfl rfl ?_
    refine mr_get C 6 4 mc_Homes_cls ml_254 rfl (by decide) (by decide) (fun _ => rfl) rfl md_Homes_giveHomeToMade_38 ?_
    refine mr_iload_n C 1 md_Homes_giveHomeToMade_41 rfl rfl ?_
    refine mr_cVNi C (As := [.int a0]) (rest := []) 5 (ms_Stands_keepsOperation _ E hI _ a0 _ h) mo_Stands_keepsOperation mi_Stands_keepsOperation mc_Stands_cls ml_769 (by decide) (fun _ => rfl) rfl rfl (Nat.le_of_ble_eq_true rfl) (Nat.le_of_ble_eq_true rfl) (Nat.le_of_ble_eq_true rfl) md_Homes_giveHomeToMade_42 (fun r4 u4 h => ?_)
    refine mr_if_eq C md_Homes_giveHomeToMade_45 rfl (fun hc => ?_) (fun hc => ?_)
    · replace h := h.1 hc
      exact mr_vret C R h md_Homes_giveHomeToMade_57
    replace h := h.2 hc
    refine mr_aload_n C 0 md_Homes_giveHomeToMade_48 rfl rfl ?_
    refine mr_iload_n C 1 md_Homes_giveHomeToMade_49 rfl rfl ?_
    refine mr_cSNi C (As := [.int a0]) (rest := [.ref (E.2.1 6)]) (ms_Mill_madeName _ E hI _ a0 _ h) mo_Mill_madeName mt_Mill_madeName ml_777 rfl rfl (Nat.le_of_ble_eq_true rfl) (Nat.le_of_ble_eq_true rfl) (Nat.le_of_ble_eq_true rfl) md_Homes_giveHomeToMade_50 (fun r5 u5 h => ?_)
    refine mr_iload_n C 2 md_Homes_giveHomeToMade_53 rfl rfl ?_
    refine mr_cVv C (As := [.int r5, .int a1]) (rest := []) 6 (ms_Homes_giveHome _ E hI _ r5 a1 _ h) mo_Homes_giveHome mi_Homes_giveHome mc_Homes_cls ml_810 (by decide) (fun _ => rfl) rfl rfl (Nat.le_of_ble_eq_true rfl) (Nat.le_of_ble_eq_true rfl) (Nat.le_of_ble_eq_true rfl) md_Homes_giveHomeToMade_54 (fun u6 h => ?_)
    exact mr_vret C R h md_Homes_giveHomeToMade_57
  replace h := h.2 hc
  exact mr_vret C R h md_Homes_giveHomeToMade_11
def mw_Homes_giveHomes_54 (P20 : Int32 → mz_St → Prop) (x2_20 : Int32) (s20 : mz_St) (P54 : Int32 → mz_St → Prop) (x4_54 : Int32) (s54 : mz_St) : Prop :=
  vp_in (mz_rd s20 24 x2_20) 10 ∧
  (((mz_rd s54 16 (mz_rd s20 24 x2_20)) ≤ x4_54 →
   P20 (x2_20 + 1) s54) ∧
  (¬ (mz_rd s54 16 (mz_rd s20 24 x2_20)) ≤ x4_54 →
   vp_in x4_54 12 ∧
   mw_Homes_giveHomeToMade (fun u3 =>
    P54 (x4_54 + 1) u3) (((mz_rd s20 24 x2_20) * 12) + x4_54) (mz_rd s54 44 x4_54) s54))
def mw_Homes_giveHomes_20 (K : mz_St → Prop) (P20 : Int32 → mz_St → Prop) (x2_20 : Int32) (s20 : mz_St) : Prop :=
  (((s20 1006 0) ≤ x2_20 →
   K s20) ∧
  (¬ (s20 1006 0) ≤ x2_20 →
   vp_in x2_20 10 ∧
   mw_Homes_giveHomesToPhis (fun u1 =>
    mw_Homes_findLiveBehind (fun u2 =>
     (∀ P54 : Int32 → mz_St → Prop, (∀ (x4_54 : Int32) (s54 : mz_St), mw_Homes_giveHomes_54 P20 x2_20 s20 P54 x4_54 s54 → P54 x4_54 s54) →
     P54 0 u2)) (mz_rd s20 24 x2_20) u1) (mz_rd s20 24 x2_20) s20))
/-- ValueMill$Homes.giveHomes(I)V: what it does, as a transformer of what must hold behind it -/
def mw_Homes_giveHomes (K : mz_St → Prop) (a0 : Int32) (s0 : mz_St) : Prop :=
  (∀ P20 : Int32 → mz_St → Prop, (∀ (x2_20 : Int32) (s20 : mz_St), mw_Homes_giveHomes_20 K P20 x2_20 s20 → P20 x2_20 s20) →
  P20 0 (mz_fl (mz_up (mz_up s0 1009 0 a0) 1010 0 0) 40 221 (-1)))
set_option maxRecDepth 100000 in
set_option maxHeartbeats 4000000 in
theorem ms_Homes_giveHomes (l : Launch) (E : mz_En) (hI : mz_Inj E) (K : mz_St → Prop) (a0 : Int32) (s0 : mz_St) (h : mw_Homes_giveHomes K a0 s0) : mz_Cv l E my_Homes_giveHomes mb_Homes_giveHomes 5 (4) (92) [.ref (E.2.1 6), .int a0] s0 K := by
  refine mz_ctv hI (by decide +kernel) (Nat.le_of_ble_eq_true rfl) (fun X C R => ?_)
  show mz_G E X 5 0 [(0, .ref (E.2.1 6)), (1, .int a0)] [] s0
  unfold mw_Homes_giveHomes at h
  refine mr_aload_n C 0 md_Homes_giveHomes_0 rfl rfl ?_
  refine mr_iload_n C 1 md_Homes_giveHomes_1 rfl rfl ?_
  refine mr_put C (t0 := .int) 6 12 1009 mc_Homes_cls ml_265 rfl (by decide) (by decide) (fun _ => rfl) rfl (by decide +kernel) rfl rfl (Nat.le_of_ble_eq_true rfl) (fun _ => rfl) (mp_1009 E _) md_Homes_giveHomes_2 ?_
  refine mr_aload_n C 0 md_Homes_giveHomes_5 rfl rfl ?_
  refine mr_iconst C md_Homes_giveHomes_6 mk_iconst_0 ?_
  refine mr_put C (t0 := .boolean) 6 13 1010 mc_Homes_cls ml_266 rfl (by decide) (by decide) (fun _ => rfl) rfl (by decide +kernel) (mb_nar mb_0) (mb_fit mb_0) (Nat.le_of_ble_eq_true rfl) (fun _ => rfl) (mp_1010 E _) md_Homes_giveHomes_7 ?_
  refine mr_aload_n C 0 md_Homes_giveHomes_10 rfl rfl ?_
  refine mr_get C 6 5 mc_Homes_cls ml_255 rfl (by decide) (by decide) (fun _ => rfl) rfl md_Homes_giveHomes_11 ?_
  refine mr_iconst C md_Homes_giveHomes_14 mk_iconst_m1 ?_
  refine mr_fill C 40 221 (by decide) (by decide) (by decide) (fun _ _ => rfl) (Nat.le_of_ble_eq_true rfl) (Nat.le_of_ble_eq_true rfl) ml_800 md_Homes_giveHomes_15 ?_
  refine mr_iconst C md_Homes_giveHomes_18 mk_iconst_0 ?_
  refine mr_istore_n C (L' := [(2, .int 0), (0, .ref (E.2.1 6)), (1, .int a0)]) md_Homes_giveHomes_19 rfl (Nat.le_of_ble_eq_true rfl) rfl ?_
  refine mr_sub [1, 0] rfl ?_
  refine h (fun (x2_20 : Int32) (s20 : mz_St) => mz_G E X 5 20 [(0, .ref (E.2.1 6)), (2, .int x2_20)] [] s20) (fun x2_20 s20 h => ?_)
  unfold mw_Homes_giveHomes_20 at h
  refine mr_iload_n C 1 md_Homes_giveHomes_20 rfl rfl ?_
  refine mr_aload_n C 0 md_Homes_giveHomes_21 rfl rfl ?_
  refine mr_get C 6 1 mc_Homes_cls ml_251 rfl (by decide) (by decide) (fun _ => rfl) rfl md_Homes_giveHomes_22 ?_
  refine mr_getN C 2 10 mc_Flow_cls ml_121 rfl (by decide) (by decide) (fun _ => rfl) rfl md_Homes_giveHomes_25 ?_
  refine mr_icmp_ge C md_Homes_giveHomes_28 rfl (fun hc => ?_) (fun hc => ?_)
  · replace h := h.1 hc
    exact mr_vret C R h md_Homes_giveHomes_98
  replace h := h.2 hc
  refine mr_aload_n C 0 md_Homes_giveHomes_31 rfl rfl ?_
  refine mr_get C 6 1 mc_Homes_cls ml_251 rfl (by decide) (by decide) (fun _ => rfl) rfl md_Homes_giveHomes_32 ?_
  refine mr_getN C 2 3 mc_Flow_cls ml_103 rfl (by decide) (by decide) (fun _ => rfl) rfl md_Homes_giveHomes_35 ?_
  refine mr_iload_n C 1 md_Homes_giveHomes_38 rfl rfl ?_
  refine mr_iald C 24 10 (by decide) (fun _ => rfl) h.1 md_Homes_giveHomes_39 ?_
  replace h := h.2
  refine mr_istore_n C (L' := [(3, .int (mz_rd s20 24 x2_20)), (0, .ref (E.2.1 6)), (2, .int x2_20)]) md_Homes_giveHomes_40 rfl (Nat.le_of_ble_eq_true rfl) rfl ?_
  refine mr_aload_n C 1 md_Homes_giveHomes_41 rfl rfl ?_
  refine mr_iload_n C 0 md_Homes_giveHomes_42 rfl rfl ?_
  refine mr_cVv C (As := [.int (mz_rd s20 24 x2_20)]) (rest := []) 6 (ms_Homes_giveHomesToPhis _ E hI _ (mz_rd s20 24 x2_20) _ h) mo_Homes_giveHomesToPhis mi_Homes_giveHomesToPhis mc_Homes_cls ml_801 (by decide) (fun _ => rfl) rfl rfl (Nat.le_of_ble_eq_true rfl) (Nat.le_of_ble_eq_true rfl) (Nat.le_of_ble_eq_true rfl) md_Homes_giveHomes_43 (fun u1 h => ?_)
  refine mr_aload_n C 1 md_Homes_giveHomes_46 rfl rfl ?_
  refine mr_iload_n C 0 md_Homes_giveHomes_47 rfl rfl ?_
  refine mr_cVv C (As := [.int (mz_rd s20 24 x2_20)]) (rest := []) 6 (ms_Homes_findLiveBehind _ E hI _ (mz_rd s20 24 x2_20) _ h) mo_Homes_findLiveBehind mi_Homes_findLiveBehind mc_Homes_cls ml_827 (by decide) (fun _ => rfl) rfl rfl (Nat.le_of_ble_eq_true rfl) (Nat.le_of_ble_eq_true rfl) (Nat.le_of_ble_eq_true rfl) md_Homes_giveHomes_48 (fun u2 h => ?_)
  refine mr_iconst C md_Homes_giveHomes_51 mk_iconst_0 ?_
  refine mr_istore C (L' := [(4, .int 0), (3, .int (mz_rd s20 24 x2_20)), (0, .ref (E.2.1 6)), (2, .int x2_20)]) md_Homes_giveHomes_52 (Nat.le_of_ble_eq_true rfl) rfl ?_
  refine mr_sub [2, 3, 1, 0] rfl ?_
  refine h (fun (x4_54 : Int32) (s54 : mz_St) => mz_G E X 5 54 [(0, .ref (E.2.1 6)), (2, .int x2_20), (3, .int (mz_rd s20 24 x2_20)), (4, .int x4_54)] [] s54) (fun x4_54 s54 h => ?_)
  unfold mw_Homes_giveHomes_54 at h
  refine mr_iload C 3 md_Homes_giveHomes_54 rfl ?_
  refine mr_aload_n C 0 md_Homes_giveHomes_56 rfl rfl ?_
  refine mr_get C 6 0 mc_Homes_cls ml_250 rfl (by decide) (by decide) (fun _ => rfl) rfl md_Homes_giveHomes_57 ?_
  refine mr_getN C 1 4 mc_Program_cls ml_48 rfl (by decide) (by decide) (fun _ => rfl) rfl md_Homes_giveHomes_60 ?_
  refine mr_iload_n C 2 md_Homes_giveHomes_63 rfl rfl ?_
  refine mr_iald C 16 10 (by decide) (fun _ => rfl) h.1 md_Homes_giveHomes_64 ?_
  replace h := h.2
  refine mr_icmp_ge C md_Homes_giveHomes_65 rfl (fun hc => ?_) (fun hc => ?_)
  · replace h := h.1 hc
    refine mr_iinc C (L' := [(2, .int (x2_20 + 1)), (0, .ref (E.2.1 6)), (3, .int (mz_rd s20 24 x2_20)), (4, .int x4_54)]) 1 md_Homes_giveHomes_92 rfl (mk_inc mk_iconst_1) (Nat.le_of_ble_eq_true rfl) rfl ?_
    refine mr_goto C md_Homes_giveHomes_95 rfl ?_
    refine mr_sub [1, 0] rfl ?_
    exact h
  replace h := h.2 hc
  refine mr_aload_n C 0 md_Homes_giveHomes_68 rfl rfl ?_
  refine mr_iload_n C 2 md_Homes_giveHomes_69 rfl rfl ?_
  refine mr_bipush C md_Homes_giveHomes_70 mk_bipush_12 ?_
  refine mr_imul C md_Homes_giveHomes_72 ?_
  refine mr_iload C 3 md_Homes_giveHomes_73 rfl ?_
  refine mr_iadd C md_Homes_giveHomes_75 ?_
  refine mr_aload_n C 0 md_Homes_giveHomes_76 rfl rfl ?_
  refine mr_get C 6 9 mc_Homes_cls ml_260 rfl (by decide) (by decide) (fun _ => rfl) rfl md_Homes_giveHomes_77 ?_
  refine mr_iload C 3 md_Homes_giveHomes_80 rfl ?_
  refine mr_iald C 44 12 (by decide) (fun _ => rfl) h.1 md_Homes_giveHomes_82 ?_
  replace h := h.2
  refine mr_cVv C (As := [.int (((mz_rd s20 24 x2_20) * 12) + x4_54), .int (mz_rd s54 44 x4_54)]) (rest := []) 6 (ms_Homes_giveHomeToMade _ E hI _ (((mz_rd s20 24 x2_20) * 12) + x4_54) (mz_rd s54 44 x4_54) _ h) mo_Homes_giveHomeToMade mi_Homes_giveHomeToMade mc_Homes_cls ml_835 (by decide) (fun _ => rfl) rfl rfl (Nat.le_of_ble_eq_true rfl) (Nat.le_of_ble_eq_true rfl) (Nat.le_of_ble_eq_true rfl) md_Homes_giveHomes_83 (fun u3 h => ?_)
  refine mr_iinc C (L' := [(4, .int (x4_54 + 1)), (0, .ref (E.2.1 6)), (2, .int x2_20), (3, .int (mz_rd s20 24 x2_20))]) 3 md_Homes_giveHomes_86 rfl (mk_inc mk_iconst_1) (Nat.le_of_ble_eq_true rfl) rfl ?_
  refine mr_goto C md_Homes_giveHomes_89 rfl ?_
  refine mr_sub [1, 2, 3, 0] rfl ?_
  exact h
/-- ValueMill$Homes.shareRegisters(I)V: what it does, as a transformer of what must hold behind it -/
def mw_Homes_shareRegisters (K : mz_St → Prop) (a0 : Int32) (s0 : mz_St) : Prop :=
  mw_Homes_findCosts (fun u1 =>
   mw_Homes_giveHomes (fun u2 =>
    (((u2 1010 0) = 0 →
     K u2) ∧
    (¬ (u2 1010 0) = 0 →
     mw_Homes_giveHomes (fun u3 =>
      K u3) (u2 1008 0) u2))) a0 u1) (mz_up (mz_up s0 1007 0 8) 1008 0 (a0 - 2))
set_option maxRecDepth 100000 in
set_option maxHeartbeats 4000000 in
theorem ms_Homes_shareRegisters (l : Launch) (E : mz_En) (hI : mz_Inj E) (K : mz_St → Prop) (a0 : Int32) (s0 : mz_St) (h : mw_Homes_shareRegisters K a0 s0) : mz_Cv l E my_Homes_shareRegisters mb_Homes_shareRegisters 2 (5) (116) [.ref (E.2.1 6), .int a0] s0 K := by
  refine mz_ctv hI (by decide +kernel) (Nat.le_of_ble_eq_true rfl) (fun X C R => ?_)
  show mz_G E X 2 0 [(0, .ref (E.2.1 6)), (1, .int a0)] [] s0
  unfold mw_Homes_shareRegisters at h
  refine mr_aload_n C 0 md_Homes_shareRegisters_0 rfl rfl ?_
  refine mr_bipush C md_Homes_shareRegisters_1 mk_bipush_8 ?_
  refine mr_put C (t0 := .int) 6 10 1007 mc_Homes_cls ml_261 rfl (by decide) (by decide) (fun _ => rfl) rfl (by decide +kernel) rfl rfl (Nat.le_of_ble_eq_true rfl) (fun _ => rfl) (mp_1007 E _) md_Homes_shareRegisters_3 ?_
  refine mr_aload_n C 0 md_Homes_shareRegisters_6 rfl rfl ?_
  refine mr_iload_n C 1 md_Homes_shareRegisters_7 rfl rfl ?_
  refine mr_iconst C md_Homes_shareRegisters_8 mk_iconst_2 ?_
  refine mr_isub C md_Homes_shareRegisters_9 ?_
  refine mr_put C (t0 := .int) 6 11 1008 mc_Homes_cls ml_262 rfl (by decide) (by decide) (fun _ => rfl) rfl (by decide +kernel) rfl rfl (Nat.le_of_ble_eq_true rfl) (fun _ => rfl) (mp_1008 E _) md_Homes_shareRegisters_10 ?_
  refine mr_aload_n C 0 md_Homes_shareRegisters_13 rfl rfl ?_
  refine mr_cVv C (As := []) (rest := []) 6 (ms_Homes_findCosts _ E hI _  _ h) mo_Homes_findCosts mi_Homes_findCosts mc_Homes_cls ml_762 (by decide) (fun _ => rfl) rfl rfl (Nat.le_of_ble_eq_true rfl) (Nat.le_of_ble_eq_true rfl) (Nat.le_of_ble_eq_true rfl) md_Homes_shareRegisters_14 (fun u1 h => ?_)
  refine mr_aload_n C 0 md_Homes_shareRegisters_17 rfl rfl ?_
  refine mr_iload_n C 1 md_Homes_shareRegisters_18 rfl rfl ?_
  refine mr_cVv C (As := [.int a0]) (rest := []) 6 (ms_Homes_giveHomes _ E hI _ a0 _ h) mo_Homes_giveHomes mi_Homes_giveHomes mc_Homes_cls ml_796 (by decide) (fun _ => rfl) rfl rfl (Nat.le_of_ble_eq_true rfl) (Nat.le_of_ble_eq_true rfl) (Nat.le_of_ble_eq_true rfl) md_Homes_shareRegisters_19 (fun u2 h => ?_)
  refine mr_aload_n C 0 md_Homes_shareRegisters_22 rfl rfl ?_
  refine mr_get C 6 13 mc_Homes_cls ml_266 rfl (by decide) (by decide) (fun _ => rfl) rfl md_Homes_shareRegisters_23 ?_
  refine mr_if_eq C md_Homes_shareRegisters_26 rfl (fun hc => ?_) (fun hc => ?_)
  · replace h := h.1 hc
    exact mr_vret C R h md_Homes_shareRegisters_37
  replace h := h.2 hc
  refine mr_aload_n C 0 md_Homes_shareRegisters_29 rfl rfl ?_
  refine mr_aload_n C 0 md_Homes_shareRegisters_30 rfl rfl ?_
  refine mr_get C 6 11 mc_Homes_cls ml_262 rfl (by decide) (by decide) (fun _ => rfl) rfl md_Homes_shareRegisters_31 ?_
  refine mr_cVv C (As := [.int (u2 1008 0)]) (rest := []) 6 (ms_Homes_giveHomes _ E hI _ (u2 1008 0) _ h) mo_Homes_giveHomes mi_Homes_giveHomes mc_Homes_cls ml_796 (by decide) (fun _ => rfl) rfl rfl (Nat.le_of_ble_eq_true rfl) (Nat.le_of_ble_eq_true rfl) (Nat.le_of_ble_eq_true rfl) md_Homes_shareRegisters_34 (fun u3 h => ?_)
  exact mr_vret C R h md_Homes_shareRegisters_37
/-- ValueMill$Homes.isSlot(I)Z: what it does, as a transformer of what must hold behind it -/
def mw_Homes_isSlot (K : Int32 → mz_St → Prop) (a0 : Int32) (s0 : mz_St) : Prop :=
  ((a0 < (s0 1007 0) →
   K 0 s0) ∧
  (¬ a0 < (s0 1007 0) →
   K 1 s0))
set_option maxRecDepth 100000 in
set_option maxHeartbeats 4000000 in
theorem ms_Homes_isSlot (l : Launch) (E : mz_En) (hI : mz_Inj E) (K : Int32 → mz_St → Prop) (a0 : Int32) (s0 : mz_St) (h : mw_Homes_isSlot K a0 s0) : mz_Ci l E my_Homes_isSlot mb_Homes_isSlot 2 (some .boolean) (0) (0) [.ref (E.2.1 6), .int a0] s0 K := by
  refine mz_cti hI (by decide +kernel) (Nat.le_of_ble_eq_true rfl) (fun X C R => ?_)
  show mz_G E X 2 0 [(0, .ref (E.2.1 6)), (1, .int a0)] [] s0
  unfold mw_Homes_isSlot at h
  refine mr_iload_n C 1 md_Homes_isSlot_0 rfl rfl ?_
  refine mr_aload_n C 0 md_Homes_isSlot_1 rfl rfl ?_
  refine mr_get C 6 10 mc_Homes_cls ml_261 rfl (by decide) (by decide) (fun _ => rfl) rfl md_Homes_isSlot_2 ?_
  refine mr_icmp_lt C md_Homes_isSlot_5 rfl (fun hc => ?_) (fun hc => ?_)
  · replace h := h.1 hc
    refine mr_iconst C md_Homes_isSlot_12 mk_iconst_0 ?_
    exact mr_zret C R mb_0 h md_Homes_isSlot_13
  replace h := h.2 hc
  refine mr_iconst C md_Homes_isSlot_8 mk_iconst_1 ?_
  refine mr_goto C md_Homes_isSlot_9 rfl ?_
  exact mr_zret C R mb_1 h md_Homes_isSlot_13

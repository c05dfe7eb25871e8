/-! BEGIN Names: its instructions, what each method does (mw_), that its bytecode does it (ms_): printed -/
theorem md_Names_nameBefore_0 : mz_d mb_Names_nameBefore 0 (.aload_n 0) 1 1 := ⟨by decide +kernel, rfl⟩
theorem md_Names_nameBefore_1 : mz_d mb_Names_nameBefore 1 (.getfield 32) 3 4 := ⟨by decide +kernel, rfl⟩
theorem md_Names_nameBefore_4 : mz_d mb_Names_nameBefore 4 (.getfield 58) 3 7 := ⟨by decide +kernel, rfl⟩
theorem md_Names_nameBefore_7 : mz_d mb_Names_nameBefore 7 (.iload_n 1) 1 8 := ⟨by decide +kernel, rfl⟩
theorem md_Names_nameBefore_8 : mz_d mb_Names_nameBefore 8 (.iaload) 1 9 := ⟨by decide +kernel, rfl⟩
theorem md_Names_nameBefore_9 : mz_d mb_Names_nameBefore 9 (.iload_n 2) 1 10 := ⟨by decide +kernel, rfl⟩
theorem md_Names_nameBefore_10 : mz_d mb_Names_nameBefore 10 (.invokestatic 63) 3 13 := ⟨by decide +kernel, rfl⟩
theorem md_Names_nameBefore_13 : mz_d mb_Names_nameBefore 13 (.ifCond .eq 9) 3 16 := ⟨by decide +kernel, rfl⟩
theorem md_Names_nameBefore_16 : mz_d mb_Names_nameBefore 16 (.iload_n 1) 1 17 := ⟨by decide +kernel, rfl⟩
theorem md_Names_nameBefore_17 : mz_d mb_Names_nameBefore 17 (.iload_n 2) 1 18 := ⟨by decide +kernel, rfl⟩
theorem md_Names_nameBefore_18 : mz_d mb_Names_nameBefore 18 (.invokestatic 67) 3 21 := ⟨by decide +kernel, rfl⟩
theorem md_Names_nameBefore_21 : mz_d mb_Names_nameBefore 21 (.ireturn) 1 22 := ⟨by decide +kernel, rfl⟩
theorem md_Names_nameBefore_22 : mz_d mb_Names_nameBefore 22 (.aload_n 0) 1 23 := ⟨by decide +kernel, rfl⟩
theorem md_Names_nameBefore_23 : mz_d mb_Names_nameBefore 23 (.getfield 28) 3 26 := ⟨by decide +kernel, rfl⟩
theorem md_Names_nameBefore_26 : mz_d mb_Names_nameBefore 26 (.getfield 70) 3 29 := ⟨by decide +kernel, rfl⟩
theorem md_Names_nameBefore_29 : mz_d mb_Names_nameBefore 29 (.iload_n 1) 1 30 := ⟨by decide +kernel, rfl⟩
theorem md_Names_nameBefore_30 : mz_d mb_Names_nameBefore 30 (.iaload) 1 31 := ⟨by decide +kernel, rfl⟩
theorem md_Names_nameBefore_31 : mz_d mb_Names_nameBefore 31 (.istore_n 3) 1 32 := ⟨by decide +kernel, rfl⟩
theorem md_Names_nameBefore_32 : mz_d mb_Names_nameBefore 32 (.iload_n 3) 1 33 := ⟨by decide +kernel, rfl⟩
theorem md_Names_nameBefore_33 : mz_d mb_Names_nameBefore 33 (.iconst (-1)) 1 34 := ⟨by decide +kernel, rfl⟩
theorem md_Names_nameBefore_34 : mz_d mb_Names_nameBefore 34 (.if_icmp .ne 7) 3 37 := ⟨by decide +kernel, rfl⟩
theorem md_Names_nameBefore_37 : mz_d mb_Names_nameBefore 37 (.iconst 0) 1 38 := ⟨by decide +kernel, rfl⟩
theorem md_Names_nameBefore_38 : mz_d mb_Names_nameBefore 38 (.goto 14) 3 41 := ⟨by decide +kernel, rfl⟩
theorem md_Names_nameBefore_41 : mz_d mb_Names_nameBefore 41 (.aload_n 0) 1 42 := ⟨by decide +kernel, rfl⟩
theorem md_Names_nameBefore_42 : mz_d mb_Names_nameBefore 42 (.getfield 21) 3 45 := ⟨by decide +kernel, rfl⟩
theorem md_Names_nameBefore_45 : mz_d mb_Names_nameBefore 45 (.iload_n 3) 1 46 := ⟨by decide +kernel, rfl⟩
theorem md_Names_nameBefore_46 : mz_d mb_Names_nameBefore 46 (.bipush 10) 2 48 := ⟨by decide +kernel, rfl⟩
theorem md_Names_nameBefore_48 : mz_d mb_Names_nameBefore 48 (.imul) 1 49 := ⟨by decide +kernel, rfl⟩
theorem md_Names_nameBefore_49 : mz_d mb_Names_nameBefore 49 (.iload_n 2) 1 50 := ⟨by decide +kernel, rfl⟩
theorem md_Names_nameBefore_50 : mz_d mb_Names_nameBefore 50 (.iadd) 1 51 := ⟨by decide +kernel, rfl⟩
theorem md_Names_nameBefore_51 : mz_d mb_Names_nameBefore 51 (.iaload) 1 52 := ⟨by decide +kernel, rfl⟩
theorem md_Names_nameBefore_52 : mz_d mb_Names_nameBefore 52 (.ireturn) 1 53 := ⟨by decide +kernel, rfl⟩
theorem md_Names_nameOperations_0 : mz_d mb_Names_nameOperations 0 (.iload_n 1) 1 1 := ⟨by decide +kernel, rfl⟩
theorem md_Names_nameOperations_1 : mz_d mb_Names_nameOperations 1 (.bipush 10) 2 3 := ⟨by decide +kernel, rfl⟩
theorem md_Names_nameOperations_3 : mz_d mb_Names_nameOperations 3 (.imul) 1 4 := ⟨by decide +kernel, rfl⟩
theorem md_Names_nameOperations_4 : mz_d mb_Names_nameOperations 4 (.istore_n 2) 1 5 := ⟨by decide +kernel, rfl⟩
theorem md_Names_nameOperations_5 : mz_d mb_Names_nameOperations 5 (.iload_n 1) 1 6 := ⟨by decide +kernel, rfl⟩
theorem md_Names_nameOperations_6 : mz_d mb_Names_nameOperations 6 (.bipush 12) 2 8 := ⟨by decide +kernel, rfl⟩
theorem md_Names_nameOperations_8 : mz_d mb_Names_nameOperations 8 (.imul) 1 9 := ⟨by decide +kernel, rfl⟩
theorem md_Names_nameOperations_9 : mz_d mb_Names_nameOperations 9 (.istore_n 3) 1 10 := ⟨by decide +kernel, rfl⟩
theorem md_Names_nameOperations_10 : mz_d mb_Names_nameOperations 10 (.iload_n 3) 1 11 := ⟨by decide +kernel, rfl⟩
theorem md_Names_nameOperations_11 : mz_d mb_Names_nameOperations 11 (.iload_n 1) 1 12 := ⟨by decide +kernel, rfl⟩
theorem md_Names_nameOperations_12 : mz_d mb_Names_nameOperations 12 (.bipush 12) 2 14 := ⟨by decide +kernel, rfl⟩
theorem md_Names_nameOperations_14 : mz_d mb_Names_nameOperations 14 (.imul) 1 15 := ⟨by decide +kernel, rfl⟩
theorem md_Names_nameOperations_15 : mz_d mb_Names_nameOperations 15 (.aload_n 0) 1 16 := ⟨by decide +kernel, rfl⟩
theorem md_Names_nameOperations_16 : mz_d mb_Names_nameOperations 16 (.getfield 24) 3 19 := ⟨by decide +kernel, rfl⟩
theorem md_Names_nameOperations_19 : mz_d mb_Names_nameOperations 19 (.getfield 73) 3 22 := ⟨by decide +kernel, rfl⟩
theorem md_Names_nameOperations_22 : mz_d mb_Names_nameOperations 22 (.iload_n 1) 1 23 := ⟨by decide +kernel, rfl⟩
theorem md_Names_nameOperations_23 : mz_d mb_Names_nameOperations 23 (.iaload) 1 24 := ⟨by decide +kernel, rfl⟩
theorem md_Names_nameOperations_24 : mz_d mb_Names_nameOperations 24 (.iadd) 1 25 := ⟨by decide +kernel, rfl⟩
theorem md_Names_nameOperations_25 : mz_d mb_Names_nameOperations 25 (.if_icmp .ge 114) 3 28 := ⟨by decide +kernel, rfl⟩
theorem md_Names_nameOperations_28 : mz_d mb_Names_nameOperations 28 (.aload_n 0) 1 29 := ⟨by decide +kernel, rfl⟩
theorem md_Names_nameOperations_29 : mz_d mb_Names_nameOperations 29 (.getfield 9) 3 32 := ⟨by decide +kernel, rfl⟩
theorem md_Names_nameOperations_32 : mz_d mb_Names_nameOperations 32 (.iload_n 3) 1 33 := ⟨by decide +kernel, rfl⟩
theorem md_Names_nameOperations_33 : mz_d mb_Names_nameOperations 33 (.aload_n 0) 1 34 := ⟨by decide +kernel, rfl⟩
theorem md_Names_nameOperations_34 : mz_d mb_Names_nameOperations 34 (.getfield 24) 3 37 := ⟨by decide +kernel, rfl⟩
theorem md_Names_nameOperations_37 : mz_d mb_Names_nameOperations 37 (.iload_n 3) 1 38 := ⟨by decide +kernel, rfl⟩
theorem md_Names_nameOperations_38 : mz_d mb_Names_nameOperations 38 (.invokevirtual 76) 3 41 := ⟨by decide +kernel, rfl⟩
theorem md_Names_nameOperations_41 : mz_d mb_Names_nameOperations 41 (.ifCond .eq 22) 3 44 := ⟨by decide +kernel, rfl⟩
theorem md_Names_nameOperations_44 : mz_d mb_Names_nameOperations 44 (.aload_n 0) 1 45 := ⟨by decide +kernel, rfl⟩
theorem md_Names_nameOperations_45 : mz_d mb_Names_nameOperations 45 (.getfield 21) 3 48 := ⟨by decide +kernel, rfl⟩
theorem md_Names_nameOperations_48 : mz_d mb_Names_nameOperations 48 (.iload_n 2) 1 49 := ⟨by decide +kernel, rfl⟩
theorem md_Names_nameOperations_49 : mz_d mb_Names_nameOperations 49 (.aload_n 0) 1 50 := ⟨by decide +kernel, rfl⟩
theorem md_Names_nameOperations_50 : mz_d mb_Names_nameOperations 50 (.getfield 24) 3 53 := ⟨by decide +kernel, rfl⟩
theorem md_Names_nameOperations_53 : mz_d mb_Names_nameOperations 53 (.getfield 80) 3 56 := ⟨by decide +kernel, rfl⟩
theorem md_Names_nameOperations_56 : mz_d mb_Names_nameOperations 56 (.iload_n 3) 1 57 := ⟨by decide +kernel, rfl⟩
theorem md_Names_nameOperations_57 : mz_d mb_Names_nameOperations 57 (.iaload) 1 58 := ⟨by decide +kernel, rfl⟩
theorem md_Names_nameOperations_58 : mz_d mb_Names_nameOperations 58 (.iadd) 1 59 := ⟨by decide +kernel, rfl⟩
theorem md_Names_nameOperations_59 : mz_d mb_Names_nameOperations 59 (.iaload) 1 60 := ⟨by decide +kernel, rfl⟩
theorem md_Names_nameOperations_60 : mz_d mb_Names_nameOperations 60 (.goto 4) 3 63 := ⟨by decide +kernel, rfl⟩
theorem md_Names_nameOperations_63 : mz_d mb_Names_nameOperations 63 (.iconst 0) 1 64 := ⟨by decide +kernel, rfl⟩
theorem md_Names_nameOperations_64 : mz_d mb_Names_nameOperations 64 (.iastore) 1 65 := ⟨by decide +kernel, rfl⟩
theorem md_Names_nameOperations_65 : mz_d mb_Names_nameOperations 65 (.aload_n 0) 1 66 := ⟨by decide +kernel, rfl⟩
theorem md_Names_nameOperations_66 : mz_d mb_Names_nameOperations 66 (.getfield 15) 3 69 := ⟨by decide +kernel, rfl⟩
theorem md_Names_nameOperations_69 : mz_d mb_Names_nameOperations 69 (.iload_n 3) 1 70 := ⟨by decide +kernel, rfl⟩
theorem md_Names_nameOperations_70 : mz_d mb_Names_nameOperations 70 (.aload_n 0) 1 71 := ⟨by decide +kernel, rfl⟩
theorem md_Names_nameOperations_71 : mz_d mb_Names_nameOperations 71 (.getfield 24) 3 74 := ⟨by decide +kernel, rfl⟩
theorem md_Names_nameOperations_74 : mz_d mb_Names_nameOperations 74 (.iload_n 3) 1 75 := ⟨by decide +kernel, rfl⟩
theorem md_Names_nameOperations_75 : mz_d mb_Names_nameOperations 75 (.invokevirtual 81) 3 78 := ⟨by decide +kernel, rfl⟩
theorem md_Names_nameOperations_78 : mz_d mb_Names_nameOperations 78 (.ifCond .eq 22) 3 81 := ⟨by decide +kernel, rfl⟩
theorem md_Names_nameOperations_81 : mz_d mb_Names_nameOperations 81 (.aload_n 0) 1 82 := ⟨by decide +kernel, rfl⟩
theorem md_Names_nameOperations_82 : mz_d mb_Names_nameOperations 82 (.getfield 21) 3 85 := ⟨by decide +kernel, rfl⟩
theorem md_Names_nameOperations_85 : mz_d mb_Names_nameOperations 85 (.iload_n 2) 1 86 := ⟨by decide +kernel, rfl⟩
theorem md_Names_nameOperations_86 : mz_d mb_Names_nameOperations 86 (.aload_n 0) 1 87 := ⟨by decide +kernel, rfl⟩
theorem md_Names_nameOperations_87 : mz_d mb_Names_nameOperations 87 (.getfield 24) 3 90 := ⟨by decide +kernel, rfl⟩
theorem md_Names_nameOperations_90 : mz_d mb_Names_nameOperations 90 (.getfield 84) 3 93 := ⟨by decide +kernel, rfl⟩
theorem md_Names_nameOperations_93 : mz_d mb_Names_nameOperations 93 (.iload_n 3) 1 94 := ⟨by decide +kernel, rfl⟩
theorem md_Names_nameOperations_94 : mz_d mb_Names_nameOperations 94 (.iaload) 1 95 := ⟨by decide +kernel, rfl⟩
theorem md_Names_nameOperations_95 : mz_d mb_Names_nameOperations 95 (.iadd) 1 96 := ⟨by decide +kernel, rfl⟩
theorem md_Names_nameOperations_96 : mz_d mb_Names_nameOperations 96 (.iaload) 1 97 := ⟨by decide +kernel, rfl⟩
theorem md_Names_nameOperations_97 : mz_d mb_Names_nameOperations 97 (.goto 4) 3 100 := ⟨by decide +kernel, rfl⟩
theorem md_Names_nameOperations_100 : mz_d mb_Names_nameOperations 100 (.iconst 0) 1 101 := ⟨by decide +kernel, rfl⟩
theorem md_Names_nameOperations_101 : mz_d mb_Names_nameOperations 101 (.iastore) 1 102 := ⟨by decide +kernel, rfl⟩
theorem md_Names_nameOperations_102 : mz_d mb_Names_nameOperations 102 (.aload_n 0) 1 103 := ⟨by decide +kernel, rfl⟩
theorem md_Names_nameOperations_103 : mz_d mb_Names_nameOperations 103 (.getfield 24) 3 106 := ⟨by decide +kernel, rfl⟩
theorem md_Names_nameOperations_106 : mz_d mb_Names_nameOperations 106 (.iload_n 3) 1 107 := ⟨by decide +kernel, rfl⟩
theorem md_Names_nameOperations_107 : mz_d mb_Names_nameOperations 107 (.invokevirtual 85) 3 110 := ⟨by decide +kernel, rfl⟩
theorem md_Names_nameOperations_110 : mz_d mb_Names_nameOperations 110 (.ifCond .eq 23) 3 113 := ⟨by decide +kernel, rfl⟩
theorem md_Names_nameOperations_113 : mz_d mb_Names_nameOperations 113 (.aload_n 0) 1 114 := ⟨by decide +kernel, rfl⟩
theorem md_Names_nameOperations_114 : mz_d mb_Names_nameOperations 114 (.getfield 21) 3 117 := ⟨by decide +kernel, rfl⟩
theorem md_Names_nameOperations_117 : mz_d mb_Names_nameOperations 117 (.iload_n 2) 1 118 := ⟨by decide +kernel, rfl⟩
theorem md_Names_nameOperations_118 : mz_d mb_Names_nameOperations 118 (.aload_n 0) 1 119 := ⟨by decide +kernel, rfl⟩
theorem md_Names_nameOperations_119 : mz_d mb_Names_nameOperations 119 (.getfield 24) 3 122 := ⟨by decide +kernel, rfl⟩
theorem md_Names_nameOperations_122 : mz_d mb_Names_nameOperations 122 (.getfield 88) 3 125 := ⟨by decide +kernel, rfl⟩
theorem md_Names_nameOperations_125 : mz_d mb_Names_nameOperations 125 (.iload_n 3) 1 126 := ⟨by decide +kernel, rfl⟩
theorem md_Names_nameOperations_126 : mz_d mb_Names_nameOperations 126 (.iaload) 1 127 := ⟨by decide +kernel, rfl⟩
theorem md_Names_nameOperations_127 : mz_d mb_Names_nameOperations 127 (.iadd) 1 128 := ⟨by decide +kernel, rfl⟩
theorem md_Names_nameOperations_128 : mz_d mb_Names_nameOperations 128 (.iload_n 3) 1 129 := ⟨by decide +kernel, rfl⟩
theorem md_Names_nameOperations_129 : mz_d mb_Names_nameOperations 129 (.invokestatic 91) 3 132 := ⟨by decide +kernel, rfl⟩
theorem md_Names_nameOperations_132 : mz_d mb_Names_nameOperations 132 (.iastore) 1 133 := ⟨by decide +kernel, rfl⟩
theorem md_Names_nameOperations_133 : mz_d mb_Names_nameOperations 133 (.iinc 3 1) 3 136 := ⟨by decide +kernel, rfl⟩
theorem md_Names_nameOperations_136 : mz_d mb_Names_nameOperations 136 (.goto (-126)) 3 139 := ⟨by decide +kernel, rfl⟩
theorem md_Names_nameOperations_139 : mz_d mb_Names_nameOperations 139 (.return_) 1 140 := ⟨by decide +kernel, rfl⟩
theorem md_Names_giveNames_0 : mz_d mb_Names_giveNames 0 (.iconst 0) 1 1 := ⟨by decide +kernel, rfl⟩
theorem md_Names_giveNames_1 : mz_d mb_Names_giveNames 1 (.istore_n 1) 1 2 := ⟨by decide +kernel, rfl⟩
theorem md_Names_giveNames_2 : mz_d mb_Names_giveNames 2 (.iload_n 1) 1 3 := ⟨by decide +kernel, rfl⟩
theorem md_Names_giveNames_3 : mz_d mb_Names_giveNames 3 (.aload_n 0) 1 4 := ⟨by decide +kernel, rfl⟩
theorem md_Names_giveNames_4 : mz_d mb_Names_giveNames 4 (.getfield 28) 3 7 := ⟨by decide +kernel, rfl⟩
theorem md_Names_giveNames_7 : mz_d mb_Names_giveNames 7 (.getfield 36) 3 10 := ⟨by decide +kernel, rfl⟩
theorem md_Names_giveNames_10 : mz_d mb_Names_giveNames 10 (.if_icmp .ge 80) 3 13 := ⟨by decide +kernel, rfl⟩
theorem md_Names_giveNames_13 : mz_d mb_Names_giveNames 13 (.aload_n 0) 1 14 := ⟨by decide +kernel, rfl⟩
theorem md_Names_giveNames_14 : mz_d mb_Names_giveNames 14 (.getfield 28) 3 17 := ⟨by decide +kernel, rfl⟩
theorem md_Names_giveNames_17 : mz_d mb_Names_giveNames 17 (.getfield 42) 3 20 := ⟨by decide +kernel, rfl⟩
theorem md_Names_giveNames_20 : mz_d mb_Names_giveNames 20 (.iload_n 1) 1 21 := ⟨by decide +kernel, rfl⟩
theorem md_Names_giveNames_21 : mz_d mb_Names_giveNames 21 (.iaload) 1 22 := ⟨by decide +kernel, rfl⟩
theorem md_Names_giveNames_22 : mz_d mb_Names_giveNames 22 (.istore_n 2) 1 23 := ⟨by decide +kernel, rfl⟩
theorem md_Names_giveNames_23 : mz_d mb_Names_giveNames 23 (.iconst 0) 1 24 := ⟨by decide +kernel, rfl⟩
theorem md_Names_giveNames_24 : mz_d mb_Names_giveNames 24 (.istore_n 3) 1 25 := ⟨by decide +kernel, rfl⟩
theorem md_Names_giveNames_25 : mz_d mb_Names_giveNames 25 (.iload_n 3) 1 26 := ⟨by decide +kernel, rfl⟩
theorem md_Names_giveNames_26 : mz_d mb_Names_giveNames 26 (.bipush 10) 2 28 := ⟨by decide +kernel, rfl⟩
theorem md_Names_giveNames_28 : mz_d mb_Names_giveNames 28 (.if_icmp .ge 26) 3 31 := ⟨by decide +kernel, rfl⟩
theorem md_Names_giveNames_31 : mz_d mb_Names_giveNames 31 (.aload_n 0) 1 32 := ⟨by decide +kernel, rfl⟩
theorem md_Names_giveNames_32 : mz_d mb_Names_giveNames 32 (.getfield 21) 3 35 := ⟨by decide +kernel, rfl⟩
theorem md_Names_giveNames_35 : mz_d mb_Names_giveNames 35 (.iload_n 2) 1 36 := ⟨by decide +kernel, rfl⟩
theorem md_Names_giveNames_36 : mz_d mb_Names_giveNames 36 (.bipush 10) 2 38 := ⟨by decide +kernel, rfl⟩
theorem md_Names_giveNames_38 : mz_d mb_Names_giveNames 38 (.imul) 1 39 := ⟨by decide +kernel, rfl⟩
theorem md_Names_giveNames_39 : mz_d mb_Names_giveNames 39 (.iload_n 3) 1 40 := ⟨by decide +kernel, rfl⟩
theorem md_Names_giveNames_40 : mz_d mb_Names_giveNames 40 (.iadd) 1 41 := ⟨by decide +kernel, rfl⟩
theorem md_Names_giveNames_41 : mz_d mb_Names_giveNames 41 (.aload_n 0) 1 42 := ⟨by decide +kernel, rfl⟩
theorem md_Names_giveNames_42 : mz_d mb_Names_giveNames 42 (.iload_n 2) 1 43 := ⟨by decide +kernel, rfl⟩
theorem md_Names_giveNames_43 : mz_d mb_Names_giveNames 43 (.iload_n 3) 1 44 := ⟨by decide +kernel, rfl⟩
theorem md_Names_giveNames_44 : mz_d mb_Names_giveNames 44 (.invokevirtual 45) 3 47 := ⟨by decide +kernel, rfl⟩
theorem md_Names_giveNames_47 : mz_d mb_Names_giveNames 47 (.iastore) 1 48 := ⟨by decide +kernel, rfl⟩
theorem md_Names_giveNames_48 : mz_d mb_Names_giveNames 48 (.iinc 3 1) 3 51 := ⟨by decide +kernel, rfl⟩
theorem md_Names_giveNames_51 : mz_d mb_Names_giveNames 51 (.goto (-26)) 3 54 := ⟨by decide +kernel, rfl⟩
theorem md_Names_giveNames_54 : mz_d mb_Names_giveNames 54 (.aload_n 0) 1 55 := ⟨by decide +kernel, rfl⟩
theorem md_Names_giveNames_55 : mz_d mb_Names_giveNames 55 (.iload_n 2) 1 56 := ⟨by decide +kernel, rfl⟩
theorem md_Names_giveNames_56 : mz_d mb_Names_giveNames 56 (.invokevirtual 49) 3 59 := ⟨by decide +kernel, rfl⟩
theorem md_Names_giveNames_59 : mz_d mb_Names_giveNames 59 (.aload_n 0) 1 60 := ⟨by decide +kernel, rfl⟩
theorem md_Names_giveNames_60 : mz_d mb_Names_giveNames 60 (.getfield 18) 3 63 := ⟨by decide +kernel, rfl⟩
theorem md_Names_giveNames_63 : mz_d mb_Names_giveNames 63 (.iload_n 2) 1 64 := ⟨by decide +kernel, rfl⟩
theorem md_Names_giveNames_64 : mz_d mb_Names_giveNames 64 (.aload_n 0) 1 65 := ⟨by decide +kernel, rfl⟩
theorem md_Names_giveNames_65 : mz_d mb_Names_giveNames 65 (.getfield 21) 3 68 := ⟨by decide +kernel, rfl⟩
theorem md_Names_giveNames_68 : mz_d mb_Names_giveNames 68 (.iload_n 2) 1 69 := ⟨by decide +kernel, rfl⟩
theorem md_Names_giveNames_69 : mz_d mb_Names_giveNames 69 (.bipush 10) 2 71 := ⟨by decide +kernel, rfl⟩
theorem md_Names_giveNames_71 : mz_d mb_Names_giveNames 71 (.imul) 1 72 := ⟨by decide +kernel, rfl⟩
theorem md_Names_giveNames_72 : mz_d mb_Names_giveNames 72 (.aload_n 0) 1 73 := ⟨by decide +kernel, rfl⟩
theorem md_Names_giveNames_73 : mz_d mb_Names_giveNames 73 (.getfield 24) 3 76 := ⟨by decide +kernel, rfl⟩
theorem md_Names_giveNames_76 : mz_d mb_Names_giveNames 76 (.getfield 53) 3 79 := ⟨by decide +kernel, rfl⟩
theorem md_Names_giveNames_79 : mz_d mb_Names_giveNames 79 (.iload_n 2) 1 80 := ⟨by decide +kernel, rfl⟩
theorem md_Names_giveNames_80 : mz_d mb_Names_giveNames 80 (.iaload) 1 81 := ⟨by decide +kernel, rfl⟩
theorem md_Names_giveNames_81 : mz_d mb_Names_giveNames 81 (.iadd) 1 82 := ⟨by decide +kernel, rfl⟩
theorem md_Names_giveNames_82 : mz_d mb_Names_giveNames 82 (.iaload) 1 83 := ⟨by decide +kernel, rfl⟩
theorem md_Names_giveNames_83 : mz_d mb_Names_giveNames 83 (.iastore) 1 84 := ⟨by decide +kernel, rfl⟩
theorem md_Names_giveNames_84 : mz_d mb_Names_giveNames 84 (.iinc 1 1) 3 87 := ⟨by decide +kernel, rfl⟩
theorem md_Names_giveNames_87 : mz_d mb_Names_giveNames 87 (.goto (-85)) 3 90 := ⟨by decide +kernel, rfl⟩
theorem md_Names_giveNames_90 : mz_d mb_Names_giveNames 90 (.return_) 1 91 := ⟨by decide +kernel, rfl⟩
theorem md_Names_along_0 : mz_d mb_Names_along 0 (.aload_n 0) 1 1 := ⟨by decide +kernel, rfl⟩
theorem md_Names_along_1 : mz_d mb_Names_along 1 (.getfield 21) 3 4 := ⟨by decide +kernel, rfl⟩
theorem md_Names_along_4 : mz_d mb_Names_along 4 (.iload_n 1) 1 5 := ⟨by decide +kernel, rfl⟩
theorem md_Names_along_5 : mz_d mb_Names_along 5 (.bipush 10) 2 7 := ⟨by decide +kernel, rfl⟩
theorem md_Names_along_7 : mz_d mb_Names_along 7 (.imul) 1 8 := ⟨by decide +kernel, rfl⟩
theorem md_Names_along_8 : mz_d mb_Names_along 8 (.iload_n 2) 1 9 := ⟨by decide +kernel, rfl⟩
theorem md_Names_along_9 : mz_d mb_Names_along 9 (.iadd) 1 10 := ⟨by decide +kernel, rfl⟩
theorem md_Names_along_10 : mz_d mb_Names_along 10 (.iaload) 1 11 := ⟨by decide +kernel, rfl⟩
theorem md_Names_along_11 : mz_d mb_Names_along 11 (.ireturn) 1 12 := ⟨by decide +kernel, rfl⟩
/-- ValueMill$Names.nameBefore(II)I: what it does, as a transformer of what must hold behind it -/
def mw_Names_nameBefore (K : Int32 → mz_St → Prop) (a0 : Int32) (a1 : Int32) (s0 : mz_St) : Prop :=
  vp_in a0 10 ∧
  mw_Mill_isIn (fun r1 u1 =>
   ((r1 = 0 →
    vp_in a0 10 ∧
    ((¬ (mz_rd u1 26 a0) = (-1) →
     vp_in (((mz_rd u1 26 a0) * 10) + a1) 100 ∧
     K (mz_rd u1 36 (((mz_rd u1 26 a0) * 10) + a1)) u1) ∧
    ((mz_rd u1 26 a0) = (-1) →
     K 0 u1))) ∧
   (¬ r1 = 0 →
    mw_Mill_phiName (fun r2 u2 =>
     K r2 u2) a0 a1 u1))) (mz_rd s0 32 a0) a1 s0
set_option maxRecDepth 100000 in
set_option maxHeartbeats 4000000 in
theorem ms_Names_nameBefore (l : Launch) (E : mz_En) (hI : mz_Inj E) (K : Int32 → mz_St → Prop) (a0 : Int32) (a1 : Int32) (s0 : mz_St) (h : mw_Names_nameBefore K a0 a1 s0) : mz_Ci l E my_Names_nameBefore mb_Names_nameBefore 4 (some .int) (1) (21) [.ref (E.2.1 4), .int a0, .int a1] s0 K := by
  refine mz_cti hI (by decide +kernel) (Nat.le_of_ble_eq_true rfl) (fun X C R => ?_)
  show mz_G E X 4 0 [(0, .ref (E.2.1 4)), (1, .int a0), (2, .int a1)] [] s0
  unfold mw_Names_nameBefore at h
  refine mr_aload_n C 0 md_Names_nameBefore_0 rfl rfl ?_
  refine mr_get C 4 2 mc_Names_cls ml_186 rfl (by decide) (by decide) (fun _ => rfl) rfl md_Names_nameBefore_1 ?_
  refine mr_getN C 3 5 mc_Lives_cls ml_162 rfl (by decide) (by decide) (fun _ => rfl) rfl md_Names_nameBefore_4 ?_
  refine mr_iload_n C 1 md_Names_nameBefore_7 rfl rfl ?_
  refine mr_iald C 32 10 (by decide) (fun _ => rfl) h.1 md_Names_nameBefore_8 ?_
  replace h := h.2
  refine mr_iload_n C 2 md_Names_nameBefore_9 rfl rfl ?_
  refine mr_cSNi C (As := [.int (mz_rd s0 32 a0), .int a1]) (rest := []) (ms_Mill_isIn _ E hI _ (mz_rd s0 32 a0) a1 _ h) mo_Mill_isIn mt_Mill_isIn ml_672 rfl rfl (Nat.le_of_ble_eq_true rfl) (Nat.le_of_ble_eq_true rfl) (Nat.le_of_ble_eq_true rfl) md_Names_nameBefore_10 (fun r1 u1 h => ?_)
  refine mr_if_eq C md_Names_nameBefore_13 rfl (fun hc => ?_) (fun hc => ?_)
  · replace h := h.1 hc
    refine mr_aload_n C 0 md_Names_nameBefore_22 rfl rfl ?_
    refine mr_get C 4 1 mc_Names_cls ml_185 rfl (by decide) (by decide) (fun _ => rfl) rfl md_Names_nameBefore_23 ?_
    refine mr_getN C 2 5 mc_Flow_cls ml_108 rfl (by decide) (by decide) (fun _ => rfl) rfl md_Names_nameBefore_26 ?_
    refine mr_iload_n C 1 md_Names_nameBefore_29 rfl rfl ?_
    refine mr_iald C 26 10 (by decide) (fun _ => rfl) h.1 md_Names_nameBefore_30 ?_
    replace h := h.2
    refine mr_istore_n C (L' := [(3, .int (mz_rd u1 26 a0)), (0, .ref (E.2.1 4)), (1, .int a0), (2, .int a1)]) md_Names_nameBefore_31 rfl (Nat.le_of_ble_eq_true rfl) rfl ?_
    refine mr_iload_n C 0 md_Names_nameBefore_32 rfl rfl ?_
    refine mr_iconst C md_Names_nameBefore_33 mk_iconst_m1 ?_
    refine mr_icmp_ne C md_Names_nameBefore_34 rfl (fun hc => ?_) (fun hc => ?_)
    · replace h := h.1 hc
      refine mr_aload_n C 1 md_Names_nameBefore_41 rfl rfl ?_
      refine mr_get C 4 6 mc_Names_cls ml_198 rfl (by decide) (by decide) (fun _ => rfl) rfl md_Names_nameBefore_42 ?_
      refine mr_iload_n C 0 md_Names_nameBefore_45 rfl rfl ?_
      refine mr_bipush C md_Names_nameBefore_46 mk_bipush_10 ?_
      refine mr_imul C md_Names_nameBefore_48 ?_
      refine mr_iload_n C 3 md_Names_nameBefore_49 rfl rfl ?_
      refine mr_iadd C md_Names_nameBefore_50 ?_
      refine mr_iald C 36 100 (by decide) (fun _ => rfl) h.1 md_Names_nameBefore_51 ?_
      replace h := h.2
      exact mr_iret C R h md_Names_nameBefore_52
    replace h := h.2 hc
    refine mr_iconst C md_Names_nameBefore_37 mk_iconst_0 ?_
    refine mr_goto C md_Names_nameBefore_38 rfl ?_
    exact mr_iret C R h md_Names_nameBefore_52
  replace h := h.2 hc
  refine mr_iload_n C 1 md_Names_nameBefore_16 rfl rfl ?_
  refine mr_iload_n C 2 md_Names_nameBefore_17 rfl rfl ?_
  refine mr_cSNi C (As := [.int a0, .int a1]) (rest := []) (ms_Mill_phiName _ E hI _ a0 a1 _ h) mo_Mill_phiName mt_Mill_phiName ml_673 rfl rfl (Nat.le_of_ble_eq_true rfl) (Nat.le_of_ble_eq_true rfl) (Nat.le_of_ble_eq_true rfl) md_Names_nameBefore_18 (fun r2 u2 h => ?_)
  exact mr_iret C R h md_Names_nameBefore_21
def mw_Names_nameOperations_133 (P10 : Int32 → mz_St → Prop) (x3_10 : Int32) (s133 : mz_St) : Prop :=
  P10 (x3_10 + 1) s133
def mw_Names_nameOperations_101 (a0 : Int32) (P10 : Int32 → mz_St → Prop) (x3_10 : Int32) (y0_101 : Int32) (y1_101 : Int32) (s101 : mz_St) : Prop :=
  vp_in y1_101 120 ∧
  mw_Program_makesValue (fun r3 u3 =>
   (∀ P133 : mz_St → Prop, (∀ (s133 : mz_St), mw_Names_nameOperations_133 P10 x3_10 s133 → P133 s133) →
   ((r3 = 0 →
    P133 u3) ∧
   (¬ r3 = 0 →
    vp_in x3_10 120 ∧
    mw_Mill_madeName (fun r4 u4 =>
     vp_in ((a0 * 10) + (mz_rd u3 13 x3_10)) 100 ∧
     P133 (mz_wr u4 36 ((a0 * 10) + (mz_rd u3 13 x3_10)) r4)) x3_10 u3)))) x3_10 (mz_wr s101 34 y1_101 y0_101)
def mw_Names_nameOperations_64 (a0 : Int32) (P10 : Int32 → mz_St → Prop) (x3_10 : Int32) (y0_64 : Int32) (y1_64 : Int32) (s64 : mz_St) : Prop :=
  vp_in y1_64 120 ∧
  mw_Program_takesB (fun r2 u2 =>
   (∀ P101 : Int32 → Int32 → mz_St → Prop, (∀ (y0_101 : Int32) (y1_101 : Int32) (s101 : mz_St), mw_Names_nameOperations_101 a0 P10 x3_10 y0_101 y1_101 s101 → P101 y0_101 y1_101 s101) →
   ((r2 = 0 →
    P101 0 x3_10 u2) ∧
   (¬ r2 = 0 →
    vp_in x3_10 120 ∧
    vp_in ((a0 * 10) + (mz_rd u2 15 x3_10)) 100 ∧
    P101 (mz_rd u2 36 ((a0 * 10) + (mz_rd u2 15 x3_10))) x3_10 u2)))) x3_10 (mz_wr s64 33 y1_64 y0_64)
def mw_Names_nameOperations_10 (K : mz_St → Prop) (a0 : Int32) (P10 : Int32 → mz_St → Prop) (x3_10 : Int32) (s10 : mz_St) : Prop :=
  vp_in a0 10 ∧
  ((((a0 * 12) + (mz_rd s10 16 a0)) ≤ x3_10 →
   K s10) ∧
  (¬ ((a0 * 12) + (mz_rd s10 16 a0)) ≤ x3_10 →
   mw_Program_takesA (fun r1 u1 =>
    (∀ P64 : Int32 → Int32 → mz_St → Prop, (∀ (y0_64 : Int32) (y1_64 : Int32) (s64 : mz_St), mw_Names_nameOperations_64 a0 P10 x3_10 y0_64 y1_64 s64 → P64 y0_64 y1_64 s64) →
    ((r1 = 0 →
     P64 0 x3_10 u1) ∧
    (¬ r1 = 0 →
     vp_in x3_10 120 ∧
     vp_in ((a0 * 10) + (mz_rd u1 14 x3_10)) 100 ∧
     P64 (mz_rd u1 36 ((a0 * 10) + (mz_rd u1 14 x3_10))) x3_10 u1)))) x3_10 s10))
/-- ValueMill$Names.nameOperations(I)V: what it does, as a transformer of what must hold behind it -/
def mw_Names_nameOperations (K : mz_St → Prop) (a0 : Int32) (s0 : mz_St) : Prop :=
  (∀ P10 : Int32 → mz_St → Prop, (∀ (x3_10 : Int32) (s10 : mz_St), mw_Names_nameOperations_10 K a0 P10 x3_10 s10 → P10 x3_10 s10) →
  P10 (a0 * 12) s0)
set_option maxRecDepth 100000 in
set_option maxHeartbeats 4000000 in
theorem ms_Names_nameOperations (l : Launch) (E : mz_En) (hI : mz_Inj E) (K : mz_St → Prop) (a0 : Int32) (s0 : mz_St) (h : mw_Names_nameOperations K a0 s0) : mz_Cv l E my_Names_nameOperations mb_Names_nameOperations 4 (1) (21) [.ref (E.2.1 4), .int a0] s0 K := by
  refine mz_ctv hI (by decide +kernel) (Nat.le_of_ble_eq_true rfl) (fun X C R => ?_)
  show mz_G E X 4 0 [(0, .ref (E.2.1 4)), (1, .int a0)] [] s0
  unfold mw_Names_nameOperations at h
  refine mr_iload_n C 1 md_Names_nameOperations_0 rfl rfl ?_
  refine mr_bipush C md_Names_nameOperations_1 mk_bipush_10 ?_
  refine mr_imul C md_Names_nameOperations_3 ?_
  refine mr_istore_n C (L' := [(2, .int (a0 * 10)), (0, .ref (E.2.1 4)), (1, .int a0)]) md_Names_nameOperations_4 rfl (Nat.le_of_ble_eq_true rfl) rfl ?_
  refine mr_iload_n C 2 md_Names_nameOperations_5 rfl rfl ?_
  refine mr_bipush C md_Names_nameOperations_6 mk_bipush_12 ?_
  refine mr_imul C md_Names_nameOperations_8 ?_
  refine mr_istore_n C (L' := [(3, .int (a0 * 12)), (2, .int (a0 * 10)), (0, .ref (E.2.1 4)), (1, .int a0)]) md_Names_nameOperations_9 rfl (Nat.le_of_ble_eq_true rfl) rfl ?_
  refine mr_sub [2, 3, 1, 0] rfl ?_
  refine h (fun (x3_10 : Int32) (s10 : mz_St) => mz_G E X 4 10 [(0, .ref (E.2.1 4)), (1, .int a0), (2, .int (a0 * 10)), (3, .int x3_10)] [] s10) (fun x3_10 s10 h => ?_)
  unfold mw_Names_nameOperations_10 at h
  refine mr_iload_n C 3 md_Names_nameOperations_10 rfl rfl ?_
  refine mr_iload_n C 1 md_Names_nameOperations_11 rfl rfl ?_
  refine mr_bipush C md_Names_nameOperations_12 mk_bipush_12 ?_
  refine mr_imul C md_Names_nameOperations_14 ?_
  refine mr_aload_n C 0 md_Names_nameOperations_15 rfl rfl ?_
  refine mr_get C 4 0 mc_Names_cls ml_184 rfl (by decide) (by decide) (fun _ => rfl) rfl md_Names_nameOperations_16 ?_
  refine mr_getN C 1 4 mc_Program_cls ml_47 rfl (by decide) (by decide) (fun _ => rfl) rfl md_Names_nameOperations_19 ?_
  refine mr_iload_n C 1 md_Names_nameOperations_22 rfl rfl ?_
  refine mr_iald C 16 10 (by decide) (fun _ => rfl) h.1 md_Names_nameOperations_23 ?_
  replace h := h.2
  refine mr_iadd C md_Names_nameOperations_24 ?_
  refine mr_icmp_ge C md_Names_nameOperations_25 rfl (fun hc => ?_) (fun hc => ?_)
  · replace h := h.1 hc
    exact mr_vret C R h md_Names_nameOperations_139
  replace h := h.2 hc
  refine mr_aload_n C 0 md_Names_nameOperations_28 rfl rfl ?_
  refine mr_get C 4 3 mc_Names_cls ml_187 rfl (by decide) (by decide) (fun _ => rfl) rfl md_Names_nameOperations_29 ?_
  refine mr_iload_n C 3 md_Names_nameOperations_32 rfl rfl ?_
  refine mr_aload_n C 0 md_Names_nameOperations_33 rfl rfl ?_
  refine mr_get C 4 0 mc_Names_cls ml_184 rfl (by decide) (by decide) (fun _ => rfl) rfl md_Names_nameOperations_34 ?_
  refine mr_iload_n C 3 md_Names_nameOperations_37 rfl rfl ?_
  refine mr_cVNi C (As := [.int x3_10]) (rest := [.int x3_10, .ref (E.2.1 33)]) 1 (ms_Program_takesA _ E hI _ x3_10 _ h) mo_Program_takesA mi_Program_takesA mc_Program_cls ml_680 (by decide) (fun _ => rfl) rfl rfl (Nat.le_of_ble_eq_true rfl) (Nat.le_of_ble_eq_true rfl) (Nat.le_of_ble_eq_true rfl) md_Names_nameOperations_38 (fun r1 u1 h => ?_)
  refine mj (h (fun (y0_64 : Int32) (y1_64 : Int32) (s64 : mz_St) => mz_G E X 4 64 [(0, .ref (E.2.1 4)), (1, .int a0), (2, .int (a0 * 10)), (3, .int x3_10)] [.int y0_64, .int y1_64, .ref (E.2.1 33)] s64) (fun y0_64 y1_64 s64 h => ?_)) (fun h => ?_)
  · unfold mw_Names_nameOperations_64 at h
    refine mr_iast C 33 120 (by decide) (by decide) (fun _ _ => rfl) h.1 md_Names_nameOperations_64 ?_
    replace h := h.2
    refine mr_aload_n C 0 md_Names_nameOperations_65 rfl rfl ?_
    refine mr_get C 4 4 mc_Names_cls ml_191 rfl (by decide) (by decide) (fun _ => rfl) rfl md_Names_nameOperations_66 ?_
    refine mr_iload_n C 3 md_Names_nameOperations_69 rfl rfl ?_
    refine mr_aload_n C 0 md_Names_nameOperations_70 rfl rfl ?_
    refine mr_get C 4 0 mc_Names_cls ml_184 rfl (by decide) (by decide) (fun _ => rfl) rfl md_Names_nameOperations_71 ?_
    refine mr_iload_n C 3 md_Names_nameOperations_74 rfl rfl ?_
    refine mr_cVNi C (As := [.int x3_10]) (rest := [.int x3_10, .ref (E.2.1 34)]) 1 (ms_Program_takesB _ E hI _ x3_10 _ h) mo_Program_takesB mi_Program_takesB mc_Program_cls ml_681 (by decide) (fun _ => rfl) rfl rfl (Nat.le_of_ble_eq_true rfl) (Nat.le_of_ble_eq_true rfl) (Nat.le_of_ble_eq_true rfl) md_Names_nameOperations_75 (fun r2 u2 h => ?_)
    refine mj (h (fun (y0_101 : Int32) (y1_101 : Int32) (s101 : mz_St) => mz_G E X 4 101 [(0, .ref (E.2.1 4)), (1, .int a0), (2, .int (a0 * 10)), (3, .int x3_10)] [.int y0_101, .int y1_101, .ref (E.2.1 34)] s101) (fun y0_101 y1_101 s101 h => ?_)) (fun h => ?_)
    · unfold mw_Names_nameOperations_101 at h
      refine mr_iast C 34 120 (by decide) (by decide) (fun _ _ => rfl) h.1 md_Names_nameOperations_101 ?_
      replace h := h.2
      refine mr_aload_n C 0 md_Names_nameOperations_102 rfl rfl ?_
      refine mr_get C 4 0 mc_Names_cls ml_184 rfl (by decide) (by decide) (fun _ => rfl) rfl md_Names_nameOperations_103 ?_
      refine mr_iload_n C 3 md_Names_nameOperations_106 rfl rfl ?_
      refine mr_cVNi C (As := [.int x3_10]) (rest := []) 1 (ms_Program_makesValue _ E hI _ x3_10 _ h) mo_Program_makesValue mi_Program_makesValue mc_Program_cls ml_682 (by decide) (fun _ => rfl) rfl rfl (Nat.le_of_ble_eq_true rfl) (Nat.le_of_ble_eq_true rfl) (Nat.le_of_ble_eq_true rfl) md_Names_nameOperations_107 (fun r3 u3 h => ?_)
      refine mj (h (fun (s133 : mz_St) => mz_G E X 4 133 [(0, .ref (E.2.1 4)), (1, .int a0), (2, .int (a0 * 10)), (3, .int x3_10)] [] s133) (fun s133 h => ?_)) (fun h => ?_)
      · unfold mw_Names_nameOperations_133 at h
        refine mr_iinc C (L' := [(3, .int (x3_10 + 1)), (0, .ref (E.2.1 4)), (1, .int a0), (2, .int (a0 * 10))]) 3 md_Names_nameOperations_133 rfl (mk_inc mk_iconst_1) (Nat.le_of_ble_eq_true rfl) rfl ?_
        refine mr_goto C md_Names_nameOperations_136 rfl ?_
        refine mr_sub [1, 2, 3, 0] rfl ?_
        exact h
      refine mr_if_eq C md_Names_nameOperations_110 rfl (fun hc => ?_) (fun hc => ?_)
      · replace h := h.1 hc
        exact h
      replace h := h.2 hc
      refine mr_aload_n C 0 md_Names_nameOperations_113 rfl rfl ?_
      refine mr_get C 4 6 mc_Names_cls ml_198 rfl (by decide) (by decide) (fun _ => rfl) rfl md_Names_nameOperations_114 ?_
      refine mr_iload_n C 2 md_Names_nameOperations_117 rfl rfl ?_
      refine mr_aload_n C 0 md_Names_nameOperations_118 rfl rfl ?_
      refine mr_get C 4 0 mc_Names_cls ml_184 rfl (by decide) (by decide) (fun _ => rfl) rfl md_Names_nameOperations_119 ?_
      refine mr_getN C 1 1 mc_Program_cls ml_34 rfl (by decide) (by decide) (fun _ => rfl) rfl md_Names_nameOperations_122 ?_
      refine mr_iload_n C 3 md_Names_nameOperations_125 rfl rfl ?_
      refine mr_iald C 13 120 (by decide) (fun _ => rfl) h.1 md_Names_nameOperations_126 ?_
      replace h := h.2
      refine mr_iadd C md_Names_nameOperations_127 ?_
      refine mr_iload_n C 3 md_Names_nameOperations_128 rfl rfl ?_
      refine mr_cSNi C (As := [.int x3_10]) (rest := [.int ((a0 * 10) + (mz_rd u3 13 x3_10)), .ref (E.2.1 36)]) (ms_Mill_madeName _ E hI _ x3_10 _ h) mo_Mill_madeName mt_Mill_madeName ml_683 rfl rfl (Nat.le_of_ble_eq_true rfl) (Nat.le_of_ble_eq_true rfl) (Nat.le_of_ble_eq_true rfl) md_Names_nameOperations_129 (fun r4 u4 h => ?_)
      refine mr_iast C 36 100 (by decide) (by decide) (fun _ _ => rfl) h.1 md_Names_nameOperations_132 ?_
      replace h := h.2
      exact h
    refine mr_if_eq C md_Names_nameOperations_78 rfl (fun hc => ?_) (fun hc => ?_)
    · replace h := h.1 hc
      refine mr_iconst C md_Names_nameOperations_100 mk_iconst_0 ?_
      exact h
    replace h := h.2 hc
    refine mr_aload_n C 0 md_Names_nameOperations_81 rfl rfl ?_
    refine mr_get C 4 6 mc_Names_cls ml_198 rfl (by decide) (by decide) (fun _ => rfl) rfl md_Names_nameOperations_82 ?_
    refine mr_iload_n C 2 md_Names_nameOperations_85 rfl rfl ?_
    refine mr_aload_n C 0 md_Names_nameOperations_86 rfl rfl ?_
    refine mr_get C 4 0 mc_Names_cls ml_184 rfl (by decide) (by decide) (fun _ => rfl) rfl md_Names_nameOperations_87 ?_
    refine mr_getN C 1 3 mc_Program_cls ml_42 rfl (by decide) (by decide) (fun _ => rfl) rfl md_Names_nameOperations_90 ?_
    refine mr_iload_n C 3 md_Names_nameOperations_93 rfl rfl ?_
    refine mr_iald C 15 120 (by decide) (fun _ => rfl) h.1 md_Names_nameOperations_94 ?_
    replace h := h.2
    refine mr_iadd C md_Names_nameOperations_95 ?_
    refine mr_iald C 36 100 (by decide) (fun _ => rfl) h.1 md_Names_nameOperations_96 ?_
    replace h := h.2
    refine mr_goto C md_Names_nameOperations_97 rfl ?_
    exact h
  refine mr_if_eq C md_Names_nameOperations_41 rfl (fun hc => ?_) (fun hc => ?_)
  · replace h := h.1 hc
    refine mr_iconst C md_Names_nameOperations_63 mk_iconst_0 ?_
    exact h
  replace h := h.2 hc
  refine mr_aload_n C 0 md_Names_nameOperations_44 rfl rfl ?_
  refine mr_get C 4 6 mc_Names_cls ml_198 rfl (by decide) (by decide) (fun _ => rfl) rfl md_Names_nameOperations_45 ?_
  refine mr_iload_n C 2 md_Names_nameOperations_48 rfl rfl ?_
  refine mr_aload_n C 0 md_Names_nameOperations_49 rfl rfl ?_
  refine mr_get C 4 0 mc_Names_cls ml_184 rfl (by decide) (by decide) (fun _ => rfl) rfl md_Names_nameOperations_50 ?_
  refine mr_getN C 1 2 mc_Program_cls ml_38 rfl (by decide) (by decide) (fun _ => rfl) rfl md_Names_nameOperations_53 ?_
  refine mr_iload_n C 3 md_Names_nameOperations_56 rfl rfl ?_
  refine mr_iald C 14 120 (by decide) (fun _ => rfl) h.1 md_Names_nameOperations_57 ?_
  replace h := h.2
  refine mr_iadd C md_Names_nameOperations_58 ?_
  refine mr_iald C 36 100 (by decide) (fun _ => rfl) h.1 md_Names_nameOperations_59 ?_
  replace h := h.2
  refine mr_goto C md_Names_nameOperations_60 rfl ?_
  exact h
def mw_Names_giveNames_25 (P2 : Int32 → mz_St → Prop) (x1_2 : Int32) (s2 : mz_St) (P25 : Int32 → mz_St → Prop) (x3_25 : Int32) (s25 : mz_St) : Prop :=
  ((10 ≤ x3_25 →
   mw_Names_nameOperations (fun u1 =>
    vp_in (mz_rd s2 24 x1_2) 10 ∧
    vp_in (((mz_rd s2 24 x1_2) * 10) + (mz_rd u1 18 (mz_rd s2 24 x1_2))) 100 ∧
    vp_in (mz_rd s2 24 x1_2) 10 ∧
    P2 (x1_2 + 1) (mz_wr u1 35 (mz_rd s2 24 x1_2) (mz_rd u1 36 (((mz_rd s2 24 x1_2) * 10) + (mz_rd u1 18 (mz_rd s2 24 x1_2)))))) (mz_rd s2 24 x1_2) s25) ∧
  (¬ 10 ≤ x3_25 →
   mw_Names_nameBefore (fun r1 u2 =>
    vp_in (((mz_rd s2 24 x1_2) * 10) + x3_25) 100 ∧
    P25 (x3_25 + 1) (mz_wr u2 36 (((mz_rd s2 24 x1_2) * 10) + x3_25) r1)) (mz_rd s2 24 x1_2) x3_25 s25))
def mw_Names_giveNames_2 (K : mz_St → Prop) (P2 : Int32 → mz_St → Prop) (x1_2 : Int32) (s2 : mz_St) : Prop :=
  (((s2 1006 0) ≤ x1_2 →
   K s2) ∧
  (¬ (s2 1006 0) ≤ x1_2 →
   vp_in x1_2 10 ∧
   (∀ P25 : Int32 → mz_St → Prop, (∀ (x3_25 : Int32) (s25 : mz_St), mw_Names_giveNames_25 P2 x1_2 s2 P25 x3_25 s25 → P25 x3_25 s25) →
   P25 0 s2)))
/-- ValueMill$Names.giveNames()V: what it does, as a transformer of what must hold behind it -/
def mw_Names_giveNames (K : mz_St → Prop) (s0 : mz_St) : Prop :=
  (∀ P2 : Int32 → mz_St → Prop, (∀ (x1_2 : Int32) (s2 : mz_St), mw_Names_giveNames_2 K P2 x1_2 s2 → P2 x1_2 s2) →
  P2 0 s0)
set_option maxRecDepth 100000 in
set_option maxHeartbeats 4000000 in
theorem ms_Names_giveNames (l : Launch) (E : mz_En) (hI : mz_Inj E) (K : mz_St → Prop) (s0 : mz_St) (h : mw_Names_giveNames K s0) : mz_Cv l E my_Names_giveNames mb_Names_giveNames 4 (2) (44) [.ref (E.2.1 4)] s0 K := by
  refine mz_ctv hI (by decide +kernel) (Nat.le_of_ble_eq_true rfl) (fun X C R => ?_)
  show mz_G E X 4 0 [(0, .ref (E.2.1 4))] [] s0
  unfold mw_Names_giveNames at h
  refine mr_iconst C md_Names_giveNames_0 mk_iconst_0 ?_
  refine mr_istore_n C (L' := [(1, .int 0), (0, .ref (E.2.1 4))]) md_Names_giveNames_1 rfl (Nat.le_of_ble_eq_true rfl) rfl ?_
  refine mr_sub [1, 0] rfl ?_
  refine h (fun (x1_2 : Int32) (s2 : mz_St) => mz_G E X 4 2 [(0, .ref (E.2.1 4)), (1, .int x1_2)] [] s2) (fun x1_2 s2 h => ?_)
  unfold mw_Names_giveNames_2 at h
  refine mr_iload_n C 1 md_Names_giveNames_2 rfl rfl ?_
  refine mr_aload_n C 0 md_Names_giveNames_3 rfl rfl ?_
  refine mr_get C 4 1 mc_Names_cls ml_185 rfl (by decide) (by decide) (fun _ => rfl) rfl md_Names_giveNames_4 ?_
  refine mr_getN C 2 10 mc_Flow_cls ml_119 rfl (by decide) (by decide) (fun _ => rfl) rfl md_Names_giveNames_7 ?_
  refine mr_icmp_ge C md_Names_giveNames_10 rfl (fun hc => ?_) (fun hc => ?_)
  · replace h := h.1 hc
    exact mr_vret C R h md_Names_giveNames_90
  replace h := h.2 hc
  refine mr_aload_n C 0 md_Names_giveNames_13 rfl rfl ?_
  refine mr_get C 4 1 mc_Names_cls ml_185 rfl (by decide) (by decide) (fun _ => rfl) rfl md_Names_giveNames_14 ?_
  refine mr_getN C 2 3 mc_Flow_cls ml_101 rfl (by decide) (by decide) (fun _ => rfl) rfl md_Names_giveNames_17 ?_
  refine mr_iload_n C 1 md_Names_giveNames_20 rfl rfl ?_
  refine mr_iald C 24 10 (by decide) (fun _ => rfl) h.1 md_Names_giveNames_21 ?_
  replace h := h.2
  refine mr_istore_n C (L' := [(2, .int (mz_rd s2 24 x1_2)), (0, .ref (E.2.1 4)), (1, .int x1_2)]) md_Names_giveNames_22 rfl (Nat.le_of_ble_eq_true rfl) rfl ?_
  refine mr_iconst C md_Names_giveNames_23 mk_iconst_0 ?_
  refine mr_istore_n C (L' := [(3, .int 0), (2, .int (mz_rd s2 24 x1_2)), (0, .ref (E.2.1 4)), (1, .int x1_2)]) md_Names_giveNames_24 rfl (Nat.le_of_ble_eq_true rfl) rfl ?_
  refine mr_sub [2, 3, 1, 0] rfl ?_
  refine h (fun (x3_25 : Int32) (s25 : mz_St) => mz_G E X 4 25 [(0, .ref (E.2.1 4)), (1, .int x1_2), (2, .int (mz_rd s2 24 x1_2)), (3, .int x3_25)] [] s25) (fun x3_25 s25 h => ?_)
  unfold mw_Names_giveNames_25 at h
  refine mr_iload_n C 3 md_Names_giveNames_25 rfl rfl ?_
  refine mr_bipush C md_Names_giveNames_26 mk_bipush_10 ?_
  refine mr_icmp_ge C md_Names_giveNames_28 rfl (fun hc => ?_) (fun hc => ?_)
  · replace h := h.1 hc
    refine mr_aload_n C 0 md_Names_giveNames_54 rfl rfl ?_
    refine mr_iload_n C 2 md_Names_giveNames_55 rfl rfl ?_
    refine mr_cVv C (As := [.int (mz_rd s2 24 x1_2)]) (rest := []) 4 (ms_Names_nameOperations _ E hI _ (mz_rd s2 24 x1_2) _ h) mo_Names_nameOperations mi_Names_nameOperations mc_Names_cls ml_676 (by decide) (fun _ => rfl) rfl rfl (Nat.le_of_ble_eq_true rfl) (Nat.le_of_ble_eq_true rfl) (Nat.le_of_ble_eq_true rfl) md_Names_giveNames_56 (fun u1 h => ?_)
    refine mr_aload_n C 0 md_Names_giveNames_59 rfl rfl ?_
    refine mr_get C 4 5 mc_Names_cls ml_195 rfl (by decide) (by decide) (fun _ => rfl) rfl md_Names_giveNames_60 ?_
    refine mr_iload_n C 2 md_Names_giveNames_63 rfl rfl ?_
    refine mr_aload_n C 0 md_Names_giveNames_64 rfl rfl ?_
    refine mr_get C 4 6 mc_Names_cls ml_198 rfl (by decide) (by decide) (fun _ => rfl) rfl md_Names_giveNames_65 ?_
    refine mr_iload_n C 2 md_Names_giveNames_68 rfl rfl ?_
    refine mr_bipush C md_Names_giveNames_69 mk_bipush_10 ?_
    refine mr_imul C md_Names_giveNames_71 ?_
    refine mr_aload_n C 0 md_Names_giveNames_72 rfl rfl ?_
    refine mr_get C 4 0 mc_Names_cls ml_184 rfl (by decide) (by decide) (fun _ => rfl) rfl md_Names_giveNames_73 ?_
    refine mr_getN C 1 6 mc_Program_cls ml_53 rfl (by decide) (by decide) (fun _ => rfl) rfl md_Names_giveNames_76 ?_
    refine mr_iload_n C 2 md_Names_giveNames_79 rfl rfl ?_
    refine mr_iald C 18 10 (by decide) (fun _ => rfl) h.1 md_Names_giveNames_80 ?_
    replace h := h.2
    refine mr_iadd C md_Names_giveNames_81 ?_
    refine mr_iald C 36 100 (by decide) (fun _ => rfl) h.1 md_Names_giveNames_82 ?_
    replace h := h.2
    refine mr_iast C 35 10 (by decide) (by decide) (fun _ _ => rfl) h.1 md_Names_giveNames_83 ?_
    replace h := h.2
    refine mr_iinc C (L' := [(1, .int (x1_2 + 1)), (0, .ref (E.2.1 4)), (2, .int (mz_rd s2 24 x1_2)), (3, .int x3_25)]) 1 md_Names_giveNames_84 rfl (mk_inc mk_iconst_1) (Nat.le_of_ble_eq_true rfl) rfl ?_
    refine mr_goto C md_Names_giveNames_87 rfl ?_
    refine mr_sub [1, 0] rfl ?_
    exact h
  replace h := h.2 hc
  refine mr_aload_n C 0 md_Names_giveNames_31 rfl rfl ?_
  refine mr_get C 4 6 mc_Names_cls ml_198 rfl (by decide) (by decide) (fun _ => rfl) rfl md_Names_giveNames_32 ?_
  refine mr_iload_n C 2 md_Names_giveNames_35 rfl rfl ?_
  refine mr_bipush C md_Names_giveNames_36 mk_bipush_10 ?_
  refine mr_imul C md_Names_giveNames_38 ?_
  refine mr_iload_n C 3 md_Names_giveNames_39 rfl rfl ?_
  refine mr_iadd C md_Names_giveNames_40 ?_
  refine mr_aload_n C 0 md_Names_giveNames_41 rfl rfl ?_
  refine mr_iload_n C 2 md_Names_giveNames_42 rfl rfl ?_
  refine mr_iload_n C 3 md_Names_giveNames_43 rfl rfl ?_
  refine mr_cVi C (As := [.int (mz_rd s2 24 x1_2), .int x3_25]) (rest := [.int (((mz_rd s2 24 x1_2) * 10) + x3_25), .ref (E.2.1 36)]) 4 (ms_Names_nameBefore _ E hI _ (mz_rd s2 24 x1_2) x3_25 _ h) mo_Names_nameBefore mi_Names_nameBefore mc_Names_cls ml_668 (by decide) (fun _ => rfl) rfl rfl (Nat.le_of_ble_eq_true rfl) (Nat.le_of_ble_eq_true rfl) (Nat.le_of_ble_eq_true rfl) md_Names_giveNames_44 (fun r1 u2 h => ?_)
  refine mr_iast C 36 100 (by decide) (by decide) (fun _ _ => rfl) h.1 md_Names_giveNames_47 ?_
  replace h := h.2
  refine mr_iinc C (L' := [(3, .int (x3_25 + 1)), (0, .ref (E.2.1 4)), (1, .int x1_2), (2, .int (mz_rd s2 24 x1_2))]) 3 md_Names_giveNames_48 rfl (mk_inc mk_iconst_1) (Nat.le_of_ble_eq_true rfl) rfl ?_
  refine mr_goto C md_Names_giveNames_51 rfl ?_
  refine mr_sub [1, 2, 3, 0] rfl ?_
  exact h
/-- ValueMill$Names.along(II)I: what it does, as a transformer of what must hold behind it -/
def mw_Names_along (K : Int32 → mz_St → Prop) (a0 : Int32) (a1 : Int32) (s0 : mz_St) : Prop :=
  vp_in ((a0 * 10) + a1) 100 ∧
  K (mz_rd s0 36 ((a0 * 10) + a1)) s0
set_option maxRecDepth 100000 in
set_option maxHeartbeats 4000000 in
theorem ms_Names_along (l : Launch) (E : mz_En) (hI : mz_Inj E) (K : Int32 → mz_St → Prop) (a0 : Int32) (a1 : Int32) (s0 : mz_St) (h : mw_Names_along K a0 a1 s0) : mz_Ci l E my_Names_along mb_Names_along 3 (some .int) (0) (0) [.ref (E.2.1 4), .int a0, .int a1] s0 K := by
  refine mz_cti hI (by decide +kernel) (Nat.le_of_ble_eq_true rfl) (fun X C R => ?_)
  show mz_G E X 3 0 [(0, .ref (E.2.1 4)), (1, .int a0), (2, .int a1)] [] s0
  unfold mw_Names_along at h
  refine mr_aload_n C 0 md_Names_along_0 rfl rfl ?_
  refine mr_get C 4 6 mc_Names_cls ml_198 rfl (by decide) (by decide) (fun _ => rfl) rfl md_Names_along_1 ?_
  refine mr_iload_n C 1 md_Names_along_4 rfl rfl ?_
  refine mr_bipush C md_Names_along_5 mk_bipush_10 ?_
  refine mr_imul C md_Names_along_7 ?_
  refine mr_iload_n C 2 md_Names_along_8 rfl rfl ?_
  refine mr_iadd C md_Names_along_9 ?_
  refine mr_iald C 36 100 (by decide) (fun _ => rfl) h.1 md_Names_along_10 ?_
  replace h := h.2
  exact mr_iret C R h md_Names_along_11

/-! BEGIN Machine: its instructions, what each method does (mw_), that its bytecode does it (ms_): printed -/
theorem md_Machine_begin_0 : mz_d mb_Machine_begin 0 (.aload_n 0) 1 1 := ⟨by decide +kernel, rfl⟩
theorem md_Machine_begin_1 : mz_d mb_Machine_begin 1 (.getfield 9) 3 4 := ⟨by decide +kernel, rfl⟩
theorem md_Machine_begin_4 : mz_d mb_Machine_begin 4 (.iconst 0) 1 5 := ⟨by decide +kernel, rfl⟩
theorem md_Machine_begin_5 : mz_d mb_Machine_begin 5 (.invokestatic 58) 3 8 := ⟨by decide +kernel, rfl⟩
theorem md_Machine_begin_8 : mz_d mb_Machine_begin 8 (.aload_n 1) 1 9 := ⟨by decide +kernel, rfl⟩
theorem md_Machine_begin_9 : mz_d mb_Machine_begin 9 (.iconst 0) 1 10 := ⟨by decide +kernel, rfl⟩
theorem md_Machine_begin_10 : mz_d mb_Machine_begin 10 (.aload_n 0) 1 11 := ⟨by decide +kernel, rfl⟩
theorem md_Machine_begin_11 : mz_d mb_Machine_begin 11 (.getfield 15) 3 14 := ⟨by decide +kernel, rfl⟩
theorem md_Machine_begin_14 : mz_d mb_Machine_begin 14 (.iconst 0) 1 15 := ⟨by decide +kernel, rfl⟩
theorem md_Machine_begin_15 : mz_d mb_Machine_begin 15 (.bipush 32) 2 17 := ⟨by decide +kernel, rfl⟩
theorem md_Machine_begin_17 : mz_d mb_Machine_begin 17 (.invokestatic 64) 3 20 := ⟨by decide +kernel, rfl⟩
theorem md_Machine_begin_20 : mz_d mb_Machine_begin 20 (.aload_n 0) 1 21 := ⟨by decide +kernel, rfl⟩
theorem md_Machine_begin_21 : mz_d mb_Machine_begin 21 (.iconst 0) 1 22 := ⟨by decide +kernel, rfl⟩
theorem md_Machine_begin_22 : mz_d mb_Machine_begin 22 (.putfield 48) 3 25 := ⟨by decide +kernel, rfl⟩
theorem md_Machine_begin_25 : mz_d mb_Machine_begin 25 (.aload_n 0) 1 26 := ⟨by decide +kernel, rfl⟩
theorem md_Machine_begin_26 : mz_d mb_Machine_begin 26 (.iconst 0) 1 27 := ⟨by decide +kernel, rfl⟩
theorem md_Machine_begin_27 : mz_d mb_Machine_begin 27 (.putfield 30) 3 30 := ⟨by decide +kernel, rfl⟩
theorem md_Machine_begin_30 : mz_d mb_Machine_begin 30 (.aload_n 0) 1 31 := ⟨by decide +kernel, rfl⟩
theorem md_Machine_begin_31 : mz_d mb_Machine_begin 31 (.iconst 0) 1 32 := ⟨by decide +kernel, rfl⟩
theorem md_Machine_begin_32 : mz_d mb_Machine_begin 32 (.putfield 70) 3 35 := ⟨by decide +kernel, rfl⟩
theorem md_Machine_begin_35 : mz_d mb_Machine_begin 35 (.return_) 1 36 := ⟨by decide +kernel, rfl⟩
theorem md_Machine_callOut_0 : mz_d mb_Machine_callOut 0 (.iload_n 2) 1 1 := ⟨by decide +kernel, rfl⟩
theorem md_Machine_callOut_1 : mz_d mb_Machine_callOut 1 (.bipush 31) 2 3 := ⟨by decide +kernel, rfl⟩
theorem md_Machine_callOut_3 : mz_d mb_Machine_callOut 3 (.imul) 1 4 := ⟨by decide +kernel, rfl⟩
theorem md_Machine_callOut_4 : mz_d mb_Machine_callOut 4 (.iload_n 1) 1 5 := ⟨by decide +kernel, rfl⟩
theorem md_Machine_callOut_5 : mz_d mb_Machine_callOut 5 (.iadd) 1 6 := ⟨by decide +kernel, rfl⟩
theorem md_Machine_callOut_6 : mz_d mb_Machine_callOut 6 (.bipush 7) 2 8 := ⟨by decide +kernel, rfl⟩
theorem md_Machine_callOut_8 : mz_d mb_Machine_callOut 8 (.aload_n 0) 1 9 := ⟨by decide +kernel, rfl⟩
theorem md_Machine_callOut_9 : mz_d mb_Machine_callOut 9 (.getfield 70) 3 12 := ⟨by decide +kernel, rfl⟩
theorem md_Machine_callOut_12 : mz_d mb_Machine_callOut 12 (.imul) 1 13 := ⟨by decide +kernel, rfl⟩
theorem md_Machine_callOut_13 : mz_d mb_Machine_callOut 13 (.iadd) 1 14 := ⟨by decide +kernel, rfl⟩
theorem md_Machine_callOut_14 : mz_d mb_Machine_callOut 14 (.istore_n 3) 1 15 := ⟨by decide +kernel, rfl⟩
theorem md_Machine_callOut_15 : mz_d mb_Machine_callOut 15 (.aload_n 0) 1 16 := ⟨by decide +kernel, rfl⟩
theorem md_Machine_callOut_16 : mz_d mb_Machine_callOut 16 (.getfield 70) 3 19 := ⟨by decide +kernel, rfl⟩
theorem md_Machine_callOut_19 : mz_d mb_Machine_callOut 19 (.sipush 200) 3 22 := ⟨by decide +kernel, rfl⟩
theorem md_Machine_callOut_22 : mz_d mb_Machine_callOut 22 (.if_icmp .ge 43) 3 25 := ⟨by decide +kernel, rfl⟩
theorem md_Machine_callOut_25 : mz_d mb_Machine_callOut 25 (.aload_n 0) 1 26 := ⟨by decide +kernel, rfl⟩
theorem md_Machine_callOut_26 : mz_d mb_Machine_callOut 26 (.getfield 18) 3 29 := ⟨by decide +kernel, rfl⟩
theorem md_Machine_callOut_29 : mz_d mb_Machine_callOut 29 (.aload_n 0) 1 30 := ⟨by decide +kernel, rfl⟩
theorem md_Machine_callOut_30 : mz_d mb_Machine_callOut 30 (.getfield 70) 3 33 := ⟨by decide +kernel, rfl⟩
theorem md_Machine_callOut_33 : mz_d mb_Machine_callOut 33 (.iconst 3) 1 34 := ⟨by decide +kernel, rfl⟩
theorem md_Machine_callOut_34 : mz_d mb_Machine_callOut 34 (.imul) 1 35 := ⟨by decide +kernel, rfl⟩
theorem md_Machine_callOut_35 : mz_d mb_Machine_callOut 35 (.iload_n 1) 1 36 := ⟨by decide +kernel, rfl⟩
theorem md_Machine_callOut_36 : mz_d mb_Machine_callOut 36 (.iastore) 1 37 := ⟨by decide +kernel, rfl⟩
theorem md_Machine_callOut_37 : mz_d mb_Machine_callOut 37 (.aload_n 0) 1 38 := ⟨by decide +kernel, rfl⟩
theorem md_Machine_callOut_38 : mz_d mb_Machine_callOut 38 (.getfield 18) 3 41 := ⟨by decide +kernel, rfl⟩
theorem md_Machine_callOut_41 : mz_d mb_Machine_callOut 41 (.aload_n 0) 1 42 := ⟨by decide +kernel, rfl⟩
theorem md_Machine_callOut_42 : mz_d mb_Machine_callOut 42 (.getfield 70) 3 45 := ⟨by decide +kernel, rfl⟩
theorem md_Machine_callOut_45 : mz_d mb_Machine_callOut 45 (.iconst 3) 1 46 := ⟨by decide +kernel, rfl⟩
theorem md_Machine_callOut_46 : mz_d mb_Machine_callOut 46 (.imul) 1 47 := ⟨by decide +kernel, rfl⟩
theorem md_Machine_callOut_47 : mz_d mb_Machine_callOut 47 (.iconst 1) 1 48 := ⟨by decide +kernel, rfl⟩
theorem md_Machine_callOut_48 : mz_d mb_Machine_callOut 48 (.iadd) 1 49 := ⟨by decide +kernel, rfl⟩
theorem md_Machine_callOut_49 : mz_d mb_Machine_callOut 49 (.iload_n 2) 1 50 := ⟨by decide +kernel, rfl⟩
theorem md_Machine_callOut_50 : mz_d mb_Machine_callOut 50 (.iastore) 1 51 := ⟨by decide +kernel, rfl⟩
theorem md_Machine_callOut_51 : mz_d mb_Machine_callOut 51 (.aload_n 0) 1 52 := ⟨by decide +kernel, rfl⟩
theorem md_Machine_callOut_52 : mz_d mb_Machine_callOut 52 (.getfield 18) 3 55 := ⟨by decide +kernel, rfl⟩
theorem md_Machine_callOut_55 : mz_d mb_Machine_callOut 55 (.aload_n 0) 1 56 := ⟨by decide +kernel, rfl⟩
theorem md_Machine_callOut_56 : mz_d mb_Machine_callOut 56 (.getfield 70) 3 59 := ⟨by decide +kernel, rfl⟩
theorem md_Machine_callOut_59 : mz_d mb_Machine_callOut 59 (.iconst 3) 1 60 := ⟨by decide +kernel, rfl⟩
theorem md_Machine_callOut_60 : mz_d mb_Machine_callOut 60 (.imul) 1 61 := ⟨by decide +kernel, rfl⟩
theorem md_Machine_callOut_61 : mz_d mb_Machine_callOut 61 (.iconst 2) 1 62 := ⟨by decide +kernel, rfl⟩
theorem md_Machine_callOut_62 : mz_d mb_Machine_callOut 62 (.iadd) 1 63 := ⟨by decide +kernel, rfl⟩
theorem md_Machine_callOut_63 : mz_d mb_Machine_callOut 63 (.iload_n 3) 1 64 := ⟨by decide +kernel, rfl⟩
theorem md_Machine_callOut_64 : mz_d mb_Machine_callOut 64 (.iastore) 1 65 := ⟨by decide +kernel, rfl⟩
theorem md_Machine_callOut_65 : mz_d mb_Machine_callOut 65 (.aload_n 0) 1 66 := ⟨by decide +kernel, rfl⟩
theorem md_Machine_callOut_66 : mz_d mb_Machine_callOut 66 (.dup) 1 67 := ⟨by decide +kernel, rfl⟩
theorem md_Machine_callOut_67 : mz_d mb_Machine_callOut 67 (.getfield 70) 3 70 := ⟨by decide +kernel, rfl⟩
theorem md_Machine_callOut_70 : mz_d mb_Machine_callOut 70 (.iconst 1) 1 71 := ⟨by decide +kernel, rfl⟩
theorem md_Machine_callOut_71 : mz_d mb_Machine_callOut 71 (.iadd) 1 72 := ⟨by decide +kernel, rfl⟩
theorem md_Machine_callOut_72 : mz_d mb_Machine_callOut 72 (.putfield 70) 3 75 := ⟨by decide +kernel, rfl⟩
theorem md_Machine_callOut_75 : mz_d mb_Machine_callOut 75 (.iload_n 3) 1 76 := ⟨by decide +kernel, rfl⟩
theorem md_Machine_callOut_76 : mz_d mb_Machine_callOut 76 (.ireturn) 1 77 := ⟨by decide +kernel, rfl⟩
theorem md_Machine_performOne_0 : mz_d mb_Machine_performOne 0 (.aload_n 1) 1 1 := ⟨by decide +kernel, rfl⟩
theorem md_Machine_performOne_1 : mz_d mb_Machine_performOne 1 (.getfield 82) 3 4 := ⟨by decide +kernel, rfl⟩
theorem md_Machine_performOne_4 : mz_d mb_Machine_performOne 4 (.iload_n 2) 1 5 := ⟨by decide +kernel, rfl⟩
theorem md_Machine_performOne_5 : mz_d mb_Machine_performOne 5 (.iaload) 1 6 := ⟨by decide +kernel, rfl⟩
theorem md_Machine_performOne_6 : mz_d mb_Machine_performOne 6 (.istore_n 3) 1 7 := ⟨by decide +kernel, rfl⟩
theorem md_Machine_performOne_7 : mz_d mb_Machine_performOne 7 (.aload_n 1) 1 8 := ⟨by decide +kernel, rfl⟩
theorem md_Machine_performOne_8 : mz_d mb_Machine_performOne 8 (.getfield 85) 3 11 := ⟨by decide +kernel, rfl⟩
theorem md_Machine_performOne_11 : mz_d mb_Machine_performOne 11 (.iload_n 2) 1 12 := ⟨by decide +kernel, rfl⟩
theorem md_Machine_performOne_12 : mz_d mb_Machine_performOne 12 (.iaload) 1 13 := ⟨by decide +kernel, rfl⟩
theorem md_Machine_performOne_13 : mz_d mb_Machine_performOne 13 (.istore 4) 2 15 := ⟨by decide +kernel, rfl⟩
theorem md_Machine_performOne_15 : mz_d mb_Machine_performOne 15 (.aload_n 1) 1 16 := ⟨by decide +kernel, rfl⟩
theorem md_Machine_performOne_16 : mz_d mb_Machine_performOne 16 (.getfield 88) 3 19 := ⟨by decide +kernel, rfl⟩
theorem md_Machine_performOne_19 : mz_d mb_Machine_performOne 19 (.iload_n 2) 1 20 := ⟨by decide +kernel, rfl⟩
theorem md_Machine_performOne_20 : mz_d mb_Machine_performOne 20 (.iaload) 1 21 := ⟨by decide +kernel, rfl⟩
theorem md_Machine_performOne_21 : mz_d mb_Machine_performOne 21 (.iconst 1) 1 22 := ⟨by decide +kernel, rfl⟩
theorem md_Machine_performOne_22 : mz_d mb_Machine_performOne 22 (.iand) 1 23 := ⟨by decide +kernel, rfl⟩
theorem md_Machine_performOne_23 : mz_d mb_Machine_performOne 23 (.ifCond .eq 12) 3 26 := ⟨by decide +kernel, rfl⟩
theorem md_Machine_performOne_26 : mz_d mb_Machine_performOne 26 (.aload_n 1) 1 27 := ⟨by decide +kernel, rfl⟩
theorem md_Machine_performOne_27 : mz_d mb_Machine_performOne 27 (.getfield 91) 3 30 := ⟨by decide +kernel, rfl⟩
theorem md_Machine_performOne_30 : mz_d mb_Machine_performOne 30 (.iload_n 2) 1 31 := ⟨by decide +kernel, rfl⟩
theorem md_Machine_performOne_31 : mz_d mb_Machine_performOne 31 (.iaload) 1 32 := ⟨by decide +kernel, rfl⟩
theorem md_Machine_performOne_32 : mz_d mb_Machine_performOne 32 (.goto 14) 3 35 := ⟨by decide +kernel, rfl⟩
theorem md_Machine_performOne_35 : mz_d mb_Machine_performOne 35 (.aload_n 0) 1 36 := ⟨by decide +kernel, rfl⟩
theorem md_Machine_performOne_36 : mz_d mb_Machine_performOne 36 (.getfield 9) 3 39 := ⟨by decide +kernel, rfl⟩
theorem md_Machine_performOne_39 : mz_d mb_Machine_performOne 39 (.aload_n 1) 1 40 := ⟨by decide +kernel, rfl⟩
theorem md_Machine_performOne_40 : mz_d mb_Machine_performOne 40 (.getfield 91) 3 43 := ⟨by decide +kernel, rfl⟩
theorem md_Machine_performOne_43 : mz_d mb_Machine_performOne 43 (.iload_n 2) 1 44 := ⟨by decide +kernel, rfl⟩
theorem md_Machine_performOne_44 : mz_d mb_Machine_performOne 44 (.iaload) 1 45 := ⟨by decide +kernel, rfl⟩
theorem md_Machine_performOne_45 : mz_d mb_Machine_performOne 45 (.iaload) 1 46 := ⟨by decide +kernel, rfl⟩
theorem md_Machine_performOne_46 : mz_d mb_Machine_performOne 46 (.istore 5) 2 48 := ⟨by decide +kernel, rfl⟩
theorem md_Machine_performOne_48 : mz_d mb_Machine_performOne 48 (.aload_n 1) 1 49 := ⟨by decide +kernel, rfl⟩
theorem md_Machine_performOne_49 : mz_d mb_Machine_performOne 49 (.getfield 88) 3 52 := ⟨by decide +kernel, rfl⟩
theorem md_Machine_performOne_52 : mz_d mb_Machine_performOne 52 (.iload_n 2) 1 53 := ⟨by decide +kernel, rfl⟩
theorem md_Machine_performOne_53 : mz_d mb_Machine_performOne 53 (.iaload) 1 54 := ⟨by decide +kernel, rfl⟩
theorem md_Machine_performOne_54 : mz_d mb_Machine_performOne 54 (.iconst 2) 1 55 := ⟨by decide +kernel, rfl⟩
theorem md_Machine_performOne_55 : mz_d mb_Machine_performOne 55 (.iand) 1 56 := ⟨by decide +kernel, rfl⟩
theorem md_Machine_performOne_56 : mz_d mb_Machine_performOne 56 (.ifCond .eq 12) 3 59 := ⟨by decide +kernel, rfl⟩
theorem md_Machine_performOne_59 : mz_d mb_Machine_performOne 59 (.aload_n 1) 1 60 := ⟨by decide +kernel, rfl⟩
theorem md_Machine_performOne_60 : mz_d mb_Machine_performOne 60 (.getfield 94) 3 63 := ⟨by decide +kernel, rfl⟩
theorem md_Machine_performOne_63 : mz_d mb_Machine_performOne 63 (.iload_n 2) 1 64 := ⟨by decide +kernel, rfl⟩
theorem md_Machine_performOne_64 : mz_d mb_Machine_performOne 64 (.iaload) 1 65 := ⟨by decide +kernel, rfl⟩
theorem md_Machine_performOne_65 : mz_d mb_Machine_performOne 65 (.goto 14) 3 68 := ⟨by decide +kernel, rfl⟩
theorem md_Machine_performOne_68 : mz_d mb_Machine_performOne 68 (.aload_n 0) 1 69 := ⟨by decide +kernel, rfl⟩
theorem md_Machine_performOne_69 : mz_d mb_Machine_performOne 69 (.getfield 9) 3 72 := ⟨by decide +kernel, rfl⟩
theorem md_Machine_performOne_72 : mz_d mb_Machine_performOne 72 (.aload_n 1) 1 73 := ⟨by decide +kernel, rfl⟩
theorem md_Machine_performOne_73 : mz_d mb_Machine_performOne 73 (.getfield 94) 3 76 := ⟨by decide +kernel, rfl⟩
theorem md_Machine_performOne_76 : mz_d mb_Machine_performOne 76 (.iload_n 2) 1 77 := ⟨by decide +kernel, rfl⟩
theorem md_Machine_performOne_77 : mz_d mb_Machine_performOne 77 (.iaload) 1 78 := ⟨by decide +kernel, rfl⟩
theorem md_Machine_performOne_78 : mz_d mb_Machine_performOne 78 (.iaload) 1 79 := ⟨by decide +kernel, rfl⟩
theorem md_Machine_performOne_79 : mz_d mb_Machine_performOne 79 (.istore 6) 2 81 := ⟨by decide +kernel, rfl⟩
theorem md_Machine_performOne_81 : mz_d mb_Machine_performOne 81 (.iload_n 3) 1 82 := ⟨by decide +kernel, rfl⟩
theorem md_Machine_performOne_82 : mz_d mb_Machine_performOne 82 (.iload 5) 2 84 := ⟨by decide +kernel, rfl⟩
theorem md_Machine_performOne_84 : mz_d mb_Machine_performOne 84 (.iload 6) 2 86 := ⟨by decide +kernel, rfl⟩
theorem md_Machine_performOne_86 : mz_d mb_Machine_performOne 86 (.invokestatic 97) 3 89 := ⟨by decide +kernel, rfl⟩
theorem md_Machine_performOne_89 : mz_d mb_Machine_performOne 89 (.ifCond .eq 5) 3 92 := ⟨by decide +kernel, rfl⟩
theorem md_Machine_performOne_92 : mz_d mb_Machine_performOne 92 (.iconst 1) 1 93 := ⟨by decide +kernel, rfl⟩
theorem md_Machine_performOne_93 : mz_d mb_Machine_performOne 93 (.ireturn) 1 94 := ⟨by decide +kernel, rfl⟩
theorem md_Machine_performOne_94 : mz_d mb_Machine_performOne 94 (.iload_n 3) 1 95 := ⟨by decide +kernel, rfl⟩
theorem md_Machine_performOne_95 : mz_d mb_Machine_performOne 95 (.bipush 16) 2 97 := ⟨by decide +kernel, rfl⟩
theorem md_Machine_performOne_97 : mz_d mb_Machine_performOne 97 (.if_icmp .ne 11) 3 100 := ⟨by decide +kernel, rfl⟩
theorem md_Machine_performOne_100 : mz_d mb_Machine_performOne 100 (.iload 5) 2 102 := ⟨by decide +kernel, rfl⟩
theorem md_Machine_performOne_102 : mz_d mb_Machine_performOne 102 (.invokestatic 101) 3 105 := ⟨by decide +kernel, rfl⟩
theorem md_Machine_performOne_105 : mz_d mb_Machine_performOne 105 (.ifCond .eq 17) 3 108 := ⟨by decide +kernel, rfl⟩
theorem md_Machine_performOne_108 : mz_d mb_Machine_performOne 108 (.iload_n 3) 1 109 := ⟨by decide +kernel, rfl⟩
theorem md_Machine_performOne_109 : mz_d mb_Machine_performOne 109 (.bipush 17) 2 111 := ⟨by decide +kernel, rfl⟩
theorem md_Machine_performOne_111 : mz_d mb_Machine_performOne 111 (.if_icmp .ne 13) 3 114 := ⟨by decide +kernel, rfl⟩
theorem md_Machine_performOne_114 : mz_d mb_Machine_performOne 114 (.iload 6) 2 116 := ⟨by decide +kernel, rfl⟩
theorem md_Machine_performOne_116 : mz_d mb_Machine_performOne 116 (.invokestatic 101) 3 119 := ⟨by decide +kernel, rfl⟩
theorem md_Machine_performOne_119 : mz_d mb_Machine_performOne 119 (.ifCond .ne 5) 3 122 := ⟨by decide +kernel, rfl⟩
theorem md_Machine_performOne_122 : mz_d mb_Machine_performOne 122 (.iconst 2) 1 123 := ⟨by decide +kernel, rfl⟩
theorem md_Machine_performOne_123 : mz_d mb_Machine_performOne 123 (.ireturn) 1 124 := ⟨by decide +kernel, rfl⟩
theorem md_Machine_performOne_124 : mz_d mb_Machine_performOne 124 (.iload_n 3) 1 125 := ⟨by decide +kernel, rfl⟩
theorem md_Machine_performOne_125 : mz_d mb_Machine_performOne 125 (.bipush 16) 2 127 := ⟨by decide +kernel, rfl⟩
theorem md_Machine_performOne_127 : mz_d mb_Machine_performOne 127 (.if_icmp .ne 20) 3 130 := ⟨by decide +kernel, rfl⟩
theorem md_Machine_performOne_130 : mz_d mb_Machine_performOne 130 (.aload_n 0) 1 131 := ⟨by decide +kernel, rfl⟩
theorem md_Machine_performOne_131 : mz_d mb_Machine_performOne 131 (.getfield 9) 3 134 := ⟨by decide +kernel, rfl⟩
theorem md_Machine_performOne_134 : mz_d mb_Machine_performOne 134 (.iload 4) 2 136 := ⟨by decide +kernel, rfl⟩
theorem md_Machine_performOne_136 : mz_d mb_Machine_performOne 136 (.aload_n 0) 1 137 := ⟨by decide +kernel, rfl⟩
theorem md_Machine_performOne_137 : mz_d mb_Machine_performOne 137 (.getfield 15) 3 140 := ⟨by decide +kernel, rfl⟩
theorem md_Machine_performOne_140 : mz_d mb_Machine_performOne 140 (.iload 5) 2 142 := ⟨by decide +kernel, rfl⟩
theorem md_Machine_performOne_142 : mz_d mb_Machine_performOne 142 (.iaload) 1 143 := ⟨by decide +kernel, rfl⟩
theorem md_Machine_performOne_143 : mz_d mb_Machine_performOne 143 (.iastore) 1 144 := ⟨by decide +kernel, rfl⟩
theorem md_Machine_performOne_144 : mz_d mb_Machine_performOne 144 (.goto 60) 3 147 := ⟨by decide +kernel, rfl⟩
theorem md_Machine_performOne_147 : mz_d mb_Machine_performOne 147 (.iload_n 3) 1 148 := ⟨by decide +kernel, rfl⟩
theorem md_Machine_performOne_148 : mz_d mb_Machine_performOne 148 (.bipush 17) 2 150 := ⟨by decide +kernel, rfl⟩
theorem md_Machine_performOne_150 : mz_d mb_Machine_performOne 150 (.if_icmp .ne 15) 3 153 := ⟨by decide +kernel, rfl⟩
theorem md_Machine_performOne_153 : mz_d mb_Machine_performOne 153 (.aload_n 0) 1 154 := ⟨by decide +kernel, rfl⟩
theorem md_Machine_performOne_154 : mz_d mb_Machine_performOne 154 (.getfield 15) 3 157 := ⟨by decide +kernel, rfl⟩
theorem md_Machine_performOne_157 : mz_d mb_Machine_performOne 157 (.iload 6) 2 159 := ⟨by decide +kernel, rfl⟩
theorem md_Machine_performOne_159 : mz_d mb_Machine_performOne 159 (.iload 5) 2 161 := ⟨by decide +kernel, rfl⟩
theorem md_Machine_performOne_161 : mz_d mb_Machine_performOne 161 (.iastore) 1 162 := ⟨by decide +kernel, rfl⟩
theorem md_Machine_performOne_162 : mz_d mb_Machine_performOne 162 (.goto 42) 3 165 := ⟨by decide +kernel, rfl⟩
theorem md_Machine_performOne_165 : mz_d mb_Machine_performOne 165 (.iload_n 3) 1 166 := ⟨by decide +kernel, rfl⟩
theorem md_Machine_performOne_166 : mz_d mb_Machine_performOne 166 (.bipush 18) 2 168 := ⟨by decide +kernel, rfl⟩
theorem md_Machine_performOne_168 : mz_d mb_Machine_performOne 168 (.if_icmp .ne 21) 3 171 := ⟨by decide +kernel, rfl⟩
theorem md_Machine_performOne_171 : mz_d mb_Machine_performOne 171 (.aload_n 0) 1 172 := ⟨by decide +kernel, rfl⟩
theorem md_Machine_performOne_172 : mz_d mb_Machine_performOne 172 (.getfield 9) 3 175 := ⟨by decide +kernel, rfl⟩
theorem md_Machine_performOne_175 : mz_d mb_Machine_performOne 175 (.iload 4) 2 177 := ⟨by decide +kernel, rfl⟩
theorem md_Machine_performOne_177 : mz_d mb_Machine_performOne 177 (.aload_n 0) 1 178 := ⟨by decide +kernel, rfl⟩
theorem md_Machine_performOne_178 : mz_d mb_Machine_performOne 178 (.iload 6) 2 180 := ⟨by decide +kernel, rfl⟩
theorem md_Machine_performOne_180 : mz_d mb_Machine_performOne 180 (.iload 5) 2 182 := ⟨by decide +kernel, rfl⟩
theorem md_Machine_performOne_182 : mz_d mb_Machine_performOne 182 (.invokevirtual 105) 3 185 := ⟨by decide +kernel, rfl⟩
theorem md_Machine_performOne_185 : mz_d mb_Machine_performOne 185 (.iastore) 1 186 := ⟨by decide +kernel, rfl⟩
theorem md_Machine_performOne_186 : mz_d mb_Machine_performOne 186 (.goto 18) 3 189 := ⟨by decide +kernel, rfl⟩
theorem md_Machine_performOne_189 : mz_d mb_Machine_performOne 189 (.aload_n 0) 1 190 := ⟨by decide +kernel, rfl⟩
theorem md_Machine_performOne_190 : mz_d mb_Machine_performOne 190 (.getfield 9) 3 193 := ⟨by decide +kernel, rfl⟩
theorem md_Machine_performOne_193 : mz_d mb_Machine_performOne 193 (.iload 4) 2 195 := ⟨by decide +kernel, rfl⟩
theorem md_Machine_performOne_195 : mz_d mb_Machine_performOne 195 (.iload_n 3) 1 196 := ⟨by decide +kernel, rfl⟩
theorem md_Machine_performOne_196 : mz_d mb_Machine_performOne 196 (.iload 5) 2 198 := ⟨by decide +kernel, rfl⟩
theorem md_Machine_performOne_198 : mz_d mb_Machine_performOne 198 (.iload 6) 2 200 := ⟨by decide +kernel, rfl⟩
theorem md_Machine_performOne_200 : mz_d mb_Machine_performOne 200 (.invokestatic 108) 3 203 := ⟨by decide +kernel, rfl⟩
theorem md_Machine_performOne_203 : mz_d mb_Machine_performOne 203 (.iastore) 1 204 := ⟨by decide +kernel, rfl⟩
theorem md_Machine_performOne_204 : mz_d mb_Machine_performOne 204 (.iconst (-1)) 1 205 := ⟨by decide +kernel, rfl⟩
theorem md_Machine_performOne_205 : mz_d mb_Machine_performOne 205 (.ireturn) 1 206 := ⟨by decide +kernel, rfl⟩
theorem md_Machine_perform_0 : mz_d mb_Machine_perform 0 (.aload_n 1) 1 1 := ⟨by decide +kernel, rfl⟩
theorem md_Machine_perform_1 : mz_d mb_Machine_perform 1 (.getfield 73) 3 4 := ⟨by decide +kernel, rfl⟩
theorem md_Machine_perform_4 : mz_d mb_Machine_perform 4 (.iload_n 2) 1 5 := ⟨by decide +kernel, rfl⟩
theorem md_Machine_perform_5 : mz_d mb_Machine_perform 5 (.iaload) 1 6 := ⟨by decide +kernel, rfl⟩
theorem md_Machine_perform_6 : mz_d mb_Machine_perform 6 (.istore_n 3) 1 7 := ⟨by decide +kernel, rfl⟩
theorem md_Machine_perform_7 : mz_d mb_Machine_perform 7 (.iload_n 3) 1 8 := ⟨by decide +kernel, rfl⟩
theorem md_Machine_perform_8 : mz_d mb_Machine_perform 8 (.aload_n 1) 1 9 := ⟨by decide +kernel, rfl⟩
theorem md_Machine_perform_9 : mz_d mb_Machine_perform 9 (.getfield 76) 3 12 := ⟨by decide +kernel, rfl⟩
theorem md_Machine_perform_12 : mz_d mb_Machine_perform 12 (.iload_n 2) 1 13 := ⟨by decide +kernel, rfl⟩
theorem md_Machine_perform_13 : mz_d mb_Machine_perform 13 (.iaload) 1 14 := ⟨by decide +kernel, rfl⟩
theorem md_Machine_perform_14 : mz_d mb_Machine_perform 14 (.if_icmp .ge 26) 3 17 := ⟨by decide +kernel, rfl⟩
theorem md_Machine_perform_17 : mz_d mb_Machine_perform 17 (.aload_n 0) 1 18 := ⟨by decide +kernel, rfl⟩
theorem md_Machine_perform_18 : mz_d mb_Machine_perform 18 (.aload_n 1) 1 19 := ⟨by decide +kernel, rfl⟩
theorem md_Machine_perform_19 : mz_d mb_Machine_perform 19 (.iload_n 3) 1 20 := ⟨by decide +kernel, rfl⟩
theorem md_Machine_perform_20 : mz_d mb_Machine_perform 20 (.invokevirtual 79) 3 23 := ⟨by decide +kernel, rfl⟩
theorem md_Machine_perform_23 : mz_d mb_Machine_perform 23 (.istore 4) 2 25 := ⟨by decide +kernel, rfl⟩
theorem md_Machine_perform_25 : mz_d mb_Machine_perform 25 (.iload 4) 2 27 := ⟨by decide +kernel, rfl⟩
theorem md_Machine_perform_27 : mz_d mb_Machine_perform 27 (.iconst (-1)) 1 28 := ⟨by decide +kernel, rfl⟩
theorem md_Machine_perform_28 : mz_d mb_Machine_perform 28 (.if_icmp .eq 6) 3 31 := ⟨by decide +kernel, rfl⟩
theorem md_Machine_perform_31 : mz_d mb_Machine_perform 31 (.iload 4) 2 33 := ⟨by decide +kernel, rfl⟩
theorem md_Machine_perform_33 : mz_d mb_Machine_perform 33 (.ireturn) 1 34 := ⟨by decide +kernel, rfl⟩
theorem md_Machine_perform_34 : mz_d mb_Machine_perform 34 (.iinc 3 1) 3 37 := ⟨by decide +kernel, rfl⟩
theorem md_Machine_perform_37 : mz_d mb_Machine_perform 37 (.goto (-30)) 3 40 := ⟨by decide +kernel, rfl⟩
theorem md_Machine_perform_40 : mz_d mb_Machine_perform 40 (.iconst (-1)) 1 41 := ⟨by decide +kernel, rfl⟩
theorem md_Machine_perform_41 : mz_d mb_Machine_perform 41 (.ireturn) 1 42 := ⟨by decide +kernel, rfl⟩
theorem md_Machine_follow_0 : mz_d mb_Machine_follow 0 (.aload_n 0) 1 1 := ⟨by decide +kernel, rfl⟩
theorem md_Machine_follow_1 : mz_d mb_Machine_follow 1 (.aload_n 2) 1 2 := ⟨by decide +kernel, rfl⟩
theorem md_Machine_follow_2 : mz_d mb_Machine_follow 2 (.getfield 21) 3 5 := ⟨by decide +kernel, rfl⟩
theorem md_Machine_follow_5 : mz_d mb_Machine_follow 5 (.invokevirtual 26) 3 8 := ⟨by decide +kernel, rfl⟩
theorem md_Machine_follow_8 : mz_d mb_Machine_follow 8 (.iconst 0) 1 9 := ⟨by decide +kernel, rfl⟩
theorem md_Machine_follow_9 : mz_d mb_Machine_follow 9 (.istore 4) 2 11 := ⟨by decide +kernel, rfl⟩
theorem md_Machine_follow_11 : mz_d mb_Machine_follow 11 (.iload_n 3) 1 12 := ⟨by decide +kernel, rfl⟩
theorem md_Machine_follow_12 : mz_d mb_Machine_follow 12 (.istore 5) 2 14 := ⟨by decide +kernel, rfl⟩
theorem md_Machine_follow_14 : mz_d mb_Machine_follow 14 (.iload 5) 2 16 := ⟨by decide +kernel, rfl⟩
theorem md_Machine_follow_16 : mz_d mb_Machine_follow 16 (.ifCond .le 135) 3 19 := ⟨by decide +kernel, rfl⟩
theorem md_Machine_follow_19 : mz_d mb_Machine_follow 19 (.aload_n 0) 1 20 := ⟨by decide +kernel, rfl⟩
theorem md_Machine_follow_20 : mz_d mb_Machine_follow 20 (.dup) 1 21 := ⟨by decide +kernel, rfl⟩
theorem md_Machine_follow_21 : mz_d mb_Machine_follow 21 (.getfield 30) 3 24 := ⟨by decide +kernel, rfl⟩
theorem md_Machine_follow_24 : mz_d mb_Machine_follow 24 (.iconst 1) 1 25 := ⟨by decide +kernel, rfl⟩
theorem md_Machine_follow_25 : mz_d mb_Machine_follow 25 (.iadd) 1 26 := ⟨by decide +kernel, rfl⟩
theorem md_Machine_follow_26 : mz_d mb_Machine_follow 26 (.putfield 30) 3 29 := ⟨by decide +kernel, rfl⟩
theorem md_Machine_follow_29 : mz_d mb_Machine_follow 29 (.aload_n 0) 1 30 := ⟨by decide +kernel, rfl⟩
theorem md_Machine_follow_30 : mz_d mb_Machine_follow 30 (.aload_n 1) 1 31 := ⟨by decide +kernel, rfl⟩
theorem md_Machine_follow_31 : mz_d mb_Machine_follow 31 (.iload 4) 2 33 := ⟨by decide +kernel, rfl⟩
theorem md_Machine_follow_33 : mz_d mb_Machine_follow 33 (.invokevirtual 34) 3 36 := ⟨by decide +kernel, rfl⟩
theorem md_Machine_follow_36 : mz_d mb_Machine_follow 36 (.istore 6) 2 38 := ⟨by decide +kernel, rfl⟩
theorem md_Machine_follow_38 : mz_d mb_Machine_follow 38 (.iload 6) 2 40 := ⟨by decide +kernel, rfl⟩
theorem md_Machine_follow_40 : mz_d mb_Machine_follow 40 (.iconst (-1)) 1 41 := ⟨by decide +kernel, rfl⟩
theorem md_Machine_follow_41 : mz_d mb_Machine_follow 41 (.if_icmp .eq 6) 3 44 := ⟨by decide +kernel, rfl⟩
theorem md_Machine_follow_44 : mz_d mb_Machine_follow 44 (.iload 6) 2 46 := ⟨by decide +kernel, rfl⟩
theorem md_Machine_follow_46 : mz_d mb_Machine_follow 46 (.ireturn) 1 47 := ⟨by decide +kernel, rfl⟩
theorem md_Machine_follow_47 : mz_d mb_Machine_follow 47 (.aload_n 1) 1 48 := ⟨by decide +kernel, rfl⟩
theorem md_Machine_follow_48 : mz_d mb_Machine_follow 48 (.getfield 38) 3 51 := ⟨by decide +kernel, rfl⟩
theorem md_Machine_follow_51 : mz_d mb_Machine_follow 51 (.iload 4) 2 53 := ⟨by decide +kernel, rfl⟩
theorem md_Machine_follow_53 : mz_d mb_Machine_follow 53 (.baload) 1 54 := ⟨by decide +kernel, rfl⟩
theorem md_Machine_follow_54 : mz_d mb_Machine_follow 54 (.ifCond .eq 13) 3 57 := ⟨by decide +kernel, rfl⟩
theorem md_Machine_follow_57 : mz_d mb_Machine_follow 57 (.aload_n 1) 1 58 := ⟨by decide +kernel, rfl⟩
theorem md_Machine_follow_58 : mz_d mb_Machine_follow 58 (.getfield 44) 3 61 := ⟨by decide +kernel, rfl⟩
theorem md_Machine_follow_61 : mz_d mb_Machine_follow 61 (.iload 4) 2 63 := ⟨by decide +kernel, rfl⟩
theorem md_Machine_follow_63 : mz_d mb_Machine_follow 63 (.iaload) 1 64 := ⟨by decide +kernel, rfl⟩
theorem md_Machine_follow_64 : mz_d mb_Machine_follow 64 (.goto 15) 3 67 := ⟨by decide +kernel, rfl⟩
theorem md_Machine_follow_67 : mz_d mb_Machine_follow 67 (.aload_n 0) 1 68 := ⟨by decide +kernel, rfl⟩
theorem md_Machine_follow_68 : mz_d mb_Machine_follow 68 (.getfield 9) 3 71 := ⟨by decide +kernel, rfl⟩
theorem md_Machine_follow_71 : mz_d mb_Machine_follow 71 (.aload_n 1) 1 72 := ⟨by decide +kernel, rfl⟩
theorem md_Machine_follow_72 : mz_d mb_Machine_follow 72 (.getfield 44) 3 75 := ⟨by decide +kernel, rfl⟩
theorem md_Machine_follow_75 : mz_d mb_Machine_follow 75 (.iload 4) 2 77 := ⟨by decide +kernel, rfl⟩
theorem md_Machine_follow_77 : mz_d mb_Machine_follow 77 (.iaload) 1 78 := ⟨by decide +kernel, rfl⟩
theorem md_Machine_follow_78 : mz_d mb_Machine_follow 78 (.iaload) 1 79 := ⟨by decide +kernel, rfl⟩
theorem md_Machine_follow_79 : mz_d mb_Machine_follow 79 (.istore 7) 2 81 := ⟨by decide +kernel, rfl⟩
theorem md_Machine_follow_81 : mz_d mb_Machine_follow 81 (.aload_n 2) 1 82 := ⟨by decide +kernel, rfl⟩
theorem md_Machine_follow_82 : mz_d mb_Machine_follow 82 (.getfield 47) 3 85 := ⟨by decide +kernel, rfl⟩
theorem md_Machine_follow_85 : mz_d mb_Machine_follow 85 (.iload 4) 2 87 := ⟨by decide +kernel, rfl⟩
theorem md_Machine_follow_87 : mz_d mb_Machine_follow 87 (.iaload) 1 88 := ⟨by decide +kernel, rfl⟩
theorem md_Machine_follow_88 : mz_d mb_Machine_follow 88 (.ifCond .ne 11) 3 91 := ⟨by decide +kernel, rfl⟩
theorem md_Machine_follow_91 : mz_d mb_Machine_follow 91 (.aload_n 0) 1 92 := ⟨by decide +kernel, rfl⟩
theorem md_Machine_follow_92 : mz_d mb_Machine_follow 92 (.iload 7) 2 94 := ⟨by decide +kernel, rfl⟩
theorem md_Machine_follow_94 : mz_d mb_Machine_follow 94 (.putfield 48) 3 97 := ⟨by decide +kernel, rfl⟩
theorem md_Machine_follow_97 : mz_d mb_Machine_follow 97 (.iconst 0) 1 98 := ⟨by decide +kernel, rfl⟩
theorem md_Machine_follow_98 : mz_d mb_Machine_follow 98 (.ireturn) 1 99 := ⟨by decide +kernel, rfl⟩
theorem md_Machine_follow_99 : mz_d mb_Machine_follow 99 (.aload_n 2) 1 100 := ⟨by decide +kernel, rfl⟩
theorem md_Machine_follow_100 : mz_d mb_Machine_follow 100 (.getfield 47) 3 103 := ⟨by decide +kernel, rfl⟩
theorem md_Machine_follow_103 : mz_d mb_Machine_follow 103 (.iload 4) 2 105 := ⟨by decide +kernel, rfl⟩
theorem md_Machine_follow_105 : mz_d mb_Machine_follow 105 (.iaload) 1 106 := ⟨by decide +kernel, rfl⟩
theorem md_Machine_follow_106 : mz_d mb_Machine_follow 106 (.iconst 2) 1 107 := ⟨by decide +kernel, rfl⟩
theorem md_Machine_follow_107 : mz_d mb_Machine_follow 107 (.if_icmp .ne 12) 3 110 := ⟨by decide +kernel, rfl⟩
theorem md_Machine_follow_110 : mz_d mb_Machine_follow 110 (.iload 7) 2 112 := ⟨by decide +kernel, rfl⟩
theorem md_Machine_follow_112 : mz_d mb_Machine_follow 112 (.ifCond .ne 7) 3 115 := ⟨by decide +kernel, rfl⟩
theorem md_Machine_follow_115 : mz_d mb_Machine_follow 115 (.iconst 1) 1 116 := ⟨by decide +kernel, rfl⟩
theorem md_Machine_follow_116 : mz_d mb_Machine_follow 116 (.goto 4) 3 119 := ⟨by decide +kernel, rfl⟩
theorem md_Machine_follow_119 : mz_d mb_Machine_follow 119 (.iconst 0) 1 120 := ⟨by decide +kernel, rfl⟩
theorem md_Machine_follow_120 : mz_d mb_Machine_follow 120 (.istore 8) 2 122 := ⟨by decide +kernel, rfl⟩
theorem md_Machine_follow_122 : mz_d mb_Machine_follow 122 (.aload_n 0) 1 123 := ⟨by decide +kernel, rfl⟩
theorem md_Machine_follow_123 : mz_d mb_Machine_follow 123 (.aload_n 1) 1 124 := ⟨by decide +kernel, rfl⟩
theorem md_Machine_follow_124 : mz_d mb_Machine_follow 124 (.iload 4) 2 126 := ⟨by decide +kernel, rfl⟩
theorem md_Machine_follow_126 : mz_d mb_Machine_follow 126 (.iload 8) 2 128 := ⟨by decide +kernel, rfl⟩
theorem md_Machine_follow_128 : mz_d mb_Machine_follow 128 (.invokestatic 51) 3 131 := ⟨by decide +kernel, rfl⟩
theorem md_Machine_follow_131 : mz_d mb_Machine_follow 131 (.invokevirtual 34) 3 134 := ⟨by decide +kernel, rfl⟩
theorem md_Machine_follow_134 : mz_d mb_Machine_follow 134 (.pop) 1 135 := ⟨by decide +kernel, rfl⟩
theorem md_Machine_follow_135 : mz_d mb_Machine_follow 135 (.aload_n 2) 1 136 := ⟨by decide +kernel, rfl⟩
theorem md_Machine_follow_136 : mz_d mb_Machine_follow 136 (.iload 4) 2 138 := ⟨by decide +kernel, rfl⟩
theorem md_Machine_follow_138 : mz_d mb_Machine_follow 138 (.iload 8) 2 140 := ⟨by decide +kernel, rfl⟩
theorem md_Machine_follow_140 : mz_d mb_Machine_follow 140 (.invokevirtual 55) 3 143 := ⟨by decide +kernel, rfl⟩
theorem md_Machine_follow_143 : mz_d mb_Machine_follow 143 (.istore 4) 2 145 := ⟨by decide +kernel, rfl⟩
theorem md_Machine_follow_145 : mz_d mb_Machine_follow 145 (.iinc 5 (-1)) 3 148 := ⟨by decide +kernel, rfl⟩
theorem md_Machine_follow_148 : mz_d mb_Machine_follow 148 (.goto (-134)) 3 151 := ⟨by decide +kernel, rfl⟩
theorem md_Machine_follow_151 : mz_d mb_Machine_follow 151 (.iconst 3) 1 152 := ⟨by decide +kernel, rfl⟩
theorem md_Machine_follow_152 : mz_d mb_Machine_follow 152 (.ireturn) 1 153 := ⟨by decide +kernel, rfl⟩
theorem md_Machine_told_0 : mz_d mb_Machine_told 0 (.iload_n 1) 1 1 := ⟨by decide +kernel, rfl⟩
theorem md_Machine_told_1 : mz_d mb_Machine_told 1 (.ifCond .lt 22) 3 4 := ⟨by decide +kernel, rfl⟩
theorem md_Machine_told_4 : mz_d mb_Machine_told 4 (.iload_n 1) 1 5 := ⟨by decide +kernel, rfl⟩
theorem md_Machine_told_5 : mz_d mb_Machine_told 5 (.sipush 200) 3 8 := ⟨by decide +kernel, rfl⟩
theorem md_Machine_told_8 : mz_d mb_Machine_told 8 (.if_icmp .ge 15) 3 11 := ⟨by decide +kernel, rfl⟩
theorem md_Machine_told_11 : mz_d mb_Machine_told 11 (.iload_n 1) 1 12 := ⟨by decide +kernel, rfl⟩
theorem md_Machine_told_12 : mz_d mb_Machine_told 12 (.aload_n 0) 1 13 := ⟨by decide +kernel, rfl⟩
theorem md_Machine_told_13 : mz_d mb_Machine_told 13 (.getfield 70) 3 16 := ⟨by decide +kernel, rfl⟩
theorem md_Machine_told_16 : mz_d mb_Machine_told 16 (.if_icmp .ge 7) 3 19 := ⟨by decide +kernel, rfl⟩
theorem md_Machine_told_19 : mz_d mb_Machine_told 19 (.iconst 1) 1 20 := ⟨by decide +kernel, rfl⟩
theorem md_Machine_told_20 : mz_d mb_Machine_told 20 (.goto 4) 3 23 := ⟨by decide +kernel, rfl⟩
theorem md_Machine_told_23 : mz_d mb_Machine_told 23 (.iconst 0) 1 24 := ⟨by decide +kernel, rfl⟩
theorem md_Machine_told_24 : mz_d mb_Machine_told 24 (.istore_n 3) 1 25 := ⟨by decide +kernel, rfl⟩
theorem md_Machine_told_25 : mz_d mb_Machine_told 25 (.iload_n 3) 1 26 := ⟨by decide +kernel, rfl⟩
theorem md_Machine_told_26 : mz_d mb_Machine_told 26 (.ifCond .eq 25) 3 29 := ⟨by decide +kernel, rfl⟩
theorem md_Machine_told_29 : mz_d mb_Machine_told 29 (.iload_n 2) 1 30 := ⟨by decide +kernel, rfl⟩
theorem md_Machine_told_30 : mz_d mb_Machine_told 30 (.ifCond .lt 21) 3 33 := ⟨by decide +kernel, rfl⟩
theorem md_Machine_told_33 : mz_d mb_Machine_told 33 (.iload_n 2) 1 34 := ⟨by decide +kernel, rfl⟩
theorem md_Machine_told_34 : mz_d mb_Machine_told 34 (.iconst 3) 1 35 := ⟨by decide +kernel, rfl⟩
theorem md_Machine_told_35 : mz_d mb_Machine_told 35 (.if_icmp .ge 16) 3 38 := ⟨by decide +kernel, rfl⟩
theorem md_Machine_told_38 : mz_d mb_Machine_told 38 (.aload_n 0) 1 39 := ⟨by decide +kernel, rfl⟩
theorem md_Machine_told_39 : mz_d mb_Machine_told 39 (.getfield 18) 3 42 := ⟨by decide +kernel, rfl⟩
theorem md_Machine_told_42 : mz_d mb_Machine_told 42 (.iload_n 1) 1 43 := ⟨by decide +kernel, rfl⟩
theorem md_Machine_told_43 : mz_d mb_Machine_told 43 (.iconst 3) 1 44 := ⟨by decide +kernel, rfl⟩
theorem md_Machine_told_44 : mz_d mb_Machine_told 44 (.imul) 1 45 := ⟨by decide +kernel, rfl⟩
theorem md_Machine_told_45 : mz_d mb_Machine_told 45 (.iload_n 2) 1 46 := ⟨by decide +kernel, rfl⟩
theorem md_Machine_told_46 : mz_d mb_Machine_told 46 (.iadd) 1 47 := ⟨by decide +kernel, rfl⟩
theorem md_Machine_told_47 : mz_d mb_Machine_told 47 (.iaload) 1 48 := ⟨by decide +kernel, rfl⟩
theorem md_Machine_told_48 : mz_d mb_Machine_told 48 (.goto 4) 3 51 := ⟨by decide +kernel, rfl⟩
theorem md_Machine_told_51 : mz_d mb_Machine_told 51 (.iconst 0) 1 52 := ⟨by decide +kernel, rfl⟩
theorem md_Machine_told_52 : mz_d mb_Machine_told 52 (.ireturn) 1 53 := ⟨by decide +kernel, rfl⟩
/-- ValueMill$Machine.begin([I)V: what it does, as a transformer of what must hold behind it -/
def mw_Machine_begin (K : mz_St → Prop) (s0 : mz_St) : Prop :=
  K (mz_up (mz_up (mz_up (mz_cp (mz_fl s0 57 230 0)) 1013 0 0) 1014 0 0) 1015 0 0)
set_option maxRecDepth 100000 in
set_option maxHeartbeats 4000000 in
theorem ms_Machine_begin (l : Launch) (E : mz_En) (hI : mz_Inj E) (K : mz_St → Prop) (s0 : mz_St) (h : mw_Machine_begin K s0) : mz_Cv l E my_Machine_begin mb_Machine_begin 2 (1) (40) [.ref (E.2.1 10), .ref (E.2.1 21)] s0 K := by
  refine mz_ctv hI (by decide +kernel) (Nat.le_of_ble_eq_true rfl) (fun X C R => ?_)
  show mz_G E X 2 0 [(0, .ref (E.2.1 10)), (1, .ref (E.2.1 21))] [] s0
  unfold mw_Machine_begin at h
  refine mr_aload_n C 0 md_Machine_begin_0 rfl rfl ?_
  refine mr_get C 10 0 mc_Machine_cls ml_403 rfl (by decide) (by decide) (fun _ => rfl) rfl md_Machine_begin_1 ?_
  refine mr_iconst C md_Machine_begin_4 mk_iconst_0 ?_
  refine mr_fill C 57 230 (by decide) (by decide) (by decide) (fun _ _ => rfl) (Nat.le_of_ble_eq_true rfl) (Nat.le_of_ble_eq_true rfl) ml_932 md_Machine_begin_5 ?_
  refine mr_aload_n C 1 md_Machine_begin_8 rfl rfl ?_
  refine mr_iconst C md_Machine_begin_9 mk_iconst_0 ?_
  refine mr_aload_n C 0 md_Machine_begin_10 rfl rfl ?_
  refine mr_get C 10 1 mc_Machine_cls ml_404 rfl (by decide) (by decide) (fun _ => rfl) rfl md_Machine_begin_11 ?_
  refine mr_iconst C md_Machine_begin_14 mk_iconst_0 ?_
  refine mr_bipush C md_Machine_begin_15 mk_bipush_32 ?_
  refine mr_copy C (Nat.le_of_ble_eq_true rfl) (Nat.le_of_ble_eq_true rfl) ml_933 md_Machine_begin_17 ?_
  refine mr_aload_n C 0 md_Machine_begin_20 rfl rfl ?_
  refine mr_iconst C md_Machine_begin_21 mk_iconst_0 ?_
  refine mr_put C (t0 := .int) 10 3 1013 mc_Machine_cls ml_407 rfl (by decide) (by decide) (fun _ => rfl) rfl (by decide +kernel) rfl rfl (Nat.le_of_ble_eq_true rfl) (fun _ => rfl) (mp_1013 E _) md_Machine_begin_22 ?_
  refine mr_aload_n C 0 md_Machine_begin_25 rfl rfl ?_
  refine mr_iconst C md_Machine_begin_26 mk_iconst_0 ?_
  refine mr_put C (t0 := .int) 10 4 1014 mc_Machine_cls ml_409 rfl (by decide) (by decide) (fun _ => rfl) rfl (by decide +kernel) rfl rfl (Nat.le_of_ble_eq_true rfl) (fun _ => rfl) (mp_1014 E _) md_Machine_begin_27 ?_
  refine mr_aload_n C 0 md_Machine_begin_30 rfl rfl ?_
  refine mr_iconst C md_Machine_begin_31 mk_iconst_0 ?_
  refine mr_put C (t0 := .int) 10 5 1015 mc_Machine_cls ml_411 rfl (by decide) (by decide) (fun _ => rfl) rfl (by decide +kernel) rfl rfl (Nat.le_of_ble_eq_true rfl) (fun _ => rfl) (mp_1015 E _) md_Machine_begin_32 ?_
  exact mr_vret C R h md_Machine_begin_35
def mw_Machine_callOut_65 (K : Int32 → mz_St → Prop) (a0 : Int32) (a1 : Int32) (s0 : mz_St) (s65 : mz_St) : Prop :=
  K (((a1 * 31) + a0) + ((7 : Int32) * (s0 1015 0))) (mz_up s65 1015 0 ((s65 1015 0) + 1))
/-- ValueMill$Machine.callOut(II)I: what it does, as a transformer of what must hold behind it -/
def mw_Machine_callOut (K : Int32 → mz_St → Prop) (a0 : Int32) (a1 : Int32) (s0 : mz_St) : Prop :=
  (∀ P65 : mz_St → Prop, (∀ (s65 : mz_St), mw_Machine_callOut_65 K a0 a1 s0 s65 → P65 s65) →
  ((200 ≤ (s0 1015 0) →
   P65 s0) ∧
  (¬ 200 ≤ (s0 1015 0) →
   vp_in ((s0 1015 0) * 3) 600 ∧
   vp_in ((((mz_wr s0 59 ((s0 1015 0) * 3) a0) 1015 0) * 3) + 1) 600 ∧
   vp_in ((((mz_wr (mz_wr s0 59 ((s0 1015 0) * 3) a0) 59 ((((mz_wr s0 59 ((s0 1015 0) * 3) a0) 1015 0) * 3) + 1) a1) 1015 0) * 3) + 2) 600 ∧
   P65 (mz_wr (mz_wr (mz_wr s0 59 ((s0 1015 0) * 3) a0) 59 ((((mz_wr s0 59 ((s0 1015 0) * 3) a0) 1015 0) * 3) + 1) a1) 59 ((((mz_wr (mz_wr s0 59 ((s0 1015 0) * 3) a0) 59 ((((mz_wr s0 59 ((s0 1015 0) * 3) a0) 1015 0) * 3) + 1) a1) 1015 0) * 3) + 2) (((a1 * 31) + a0) + ((7 : Int32) * (s0 1015 0)))))))
set_option maxRecDepth 100000 in
set_option maxHeartbeats 4000000 in
theorem ms_Machine_callOut (l : Launch) (E : mz_En) (hI : mz_Inj E) (K : Int32 → mz_St → Prop) (a0 : Int32) (a1 : Int32) (s0 : mz_St) (h : mw_Machine_callOut K a0 a1 s0) : mz_Ci l E my_Machine_callOut mb_Machine_callOut 4 (some .int) (0) (0) [.ref (E.2.1 10), .int a0, .int a1] s0 K := by
  refine mz_cti hI (by decide +kernel) (Nat.le_of_ble_eq_true rfl) (fun X C R => ?_)
  show mz_G E X 4 0 [(0, .ref (E.2.1 10)), (1, .int a0), (2, .int a1)] [] s0
  unfold mw_Machine_callOut at h
  refine mr_iload_n C 2 md_Machine_callOut_0 rfl rfl ?_
  refine mr_bipush C md_Machine_callOut_1 mk_bipush_31 ?_
  refine mr_imul C md_Machine_callOut_3 ?_
  refine mr_iload_n C 1 md_Machine_callOut_4 rfl rfl ?_
  refine mr_iadd C md_Machine_callOut_5 ?_
  refine mr_bipush C md_Machine_callOut_6 mk_bipush_7 ?_
  refine mr_aload_n C 0 md_Machine_callOut_8 rfl rfl ?_
  refine mr_get C 10 5 mc_Machine_cls ml_411 rfl (by decide) (by decide) (fun _ => rfl) rfl md_Machine_callOut_9 ?_
  refine mr_imul C md_Machine_callOut_12 ?_
  refine mr_iadd C md_Machine_callOut_13 ?_
  refine mr_istore_n C (L' := [(3, .int (((a1 * 31) + a0) + ((7 : Int32) * (s0 1015 0)))), (0, .ref (E.2.1 10)), (1, .int a0), (2, .int a1)]) md_Machine_callOut_14 rfl (Nat.le_of_ble_eq_true rfl) rfl ?_
  refine mr_aload_n C 1 md_Machine_callOut_15 rfl rfl ?_
  refine mr_get C 10 5 mc_Machine_cls ml_411 rfl (by decide) (by decide) (fun _ => rfl) rfl md_Machine_callOut_16 ?_
  refine mr_sipush C md_Machine_callOut_19 mk_sipush_200 ?_
  refine mj (h (fun (s65 : mz_St) => mz_G E X 4 65 [(0, .ref (E.2.1 10)), (3, .int (((a1 * 31) + a0) + ((7 : Int32) * (s0 1015 0))))] [] s65) (fun s65 h => ?_)) (fun h => ?_)
  · unfold mw_Machine_callOut_65 at h
    refine mr_aload_n C 0 md_Machine_callOut_65 rfl rfl ?_
    refine mr_dup C md_Machine_callOut_66 rfl ?_
    refine mr_get C 10 5 mc_Machine_cls ml_411 rfl (by decide) (by decide) (fun _ => rfl) rfl md_Machine_callOut_67 ?_
    refine mr_iconst C md_Machine_callOut_70 mk_iconst_1 ?_
    refine mr_iadd C md_Machine_callOut_71 ?_
    refine mr_put C (t0 := .int) 10 5 1015 mc_Machine_cls ml_411 rfl (by decide) (by decide) (fun _ => rfl) rfl (by decide +kernel) rfl rfl (Nat.le_of_ble_eq_true rfl) (fun _ => rfl) (mp_1015 E _) md_Machine_callOut_72 ?_
    refine mr_iload_n C 1 md_Machine_callOut_75 rfl rfl ?_
    exact mr_iret C R h md_Machine_callOut_76
  refine mr_icmp_ge C md_Machine_callOut_22 rfl (fun hc => ?_) (fun hc => ?_)
  · replace h := h.1 hc
    refine mr_sub [1, 0] rfl ?_
    exact h
  replace h := h.2 hc
  refine mr_aload_n C 1 md_Machine_callOut_25 rfl rfl ?_
  refine mr_get C 10 2 mc_Machine_cls ml_406 rfl (by decide) (by decide) (fun _ => rfl) rfl md_Machine_callOut_26 ?_
  refine mr_aload_n C 1 md_Machine_callOut_29 rfl rfl ?_
  refine mr_get C 10 5 mc_Machine_cls ml_411 rfl (by decide) (by decide) (fun _ => rfl) rfl md_Machine_callOut_30 ?_
  refine mr_iconst C md_Machine_callOut_33 mk_iconst_3 ?_
  refine mr_imul C md_Machine_callOut_34 ?_
  refine mr_iload_n C 2 md_Machine_callOut_35 rfl rfl ?_
  refine mr_iast C 59 600 (by decide) (by decide) (fun _ _ => rfl) h.1 md_Machine_callOut_36 ?_
  replace h := h.2
  refine mr_aload_n C 1 md_Machine_callOut_37 rfl rfl ?_
  refine mr_get C 10 2 mc_Machine_cls ml_406 rfl (by decide) (by decide) (fun _ => rfl) rfl md_Machine_callOut_38 ?_
  refine mr_aload_n C 1 md_Machine_callOut_41 rfl rfl ?_
  refine mr_get C 10 5 mc_Machine_cls ml_411 rfl (by decide) (by decide) (fun _ => rfl) rfl md_Machine_callOut_42 ?_
  refine mr_iconst C md_Machine_callOut_45 mk_iconst_3 ?_
  refine mr_imul C md_Machine_callOut_46 ?_
  refine mr_iconst C md_Machine_callOut_47 mk_iconst_1 ?_
  refine mr_iadd C md_Machine_callOut_48 ?_
  refine mr_iload_n C 3 md_Machine_callOut_49 rfl rfl ?_
  refine mr_iast C 59 600 (by decide) (by decide) (fun _ _ => rfl) h.1 md_Machine_callOut_50 ?_
  replace h := h.2
  refine mr_aload_n C 1 md_Machine_callOut_51 rfl rfl ?_
  refine mr_get C 10 2 mc_Machine_cls ml_406 rfl (by decide) (by decide) (fun _ => rfl) rfl md_Machine_callOut_52 ?_
  refine mr_aload_n C 1 md_Machine_callOut_55 rfl rfl ?_
  refine mr_get C 10 5 mc_Machine_cls ml_411 rfl (by decide) (by decide) (fun _ => rfl) rfl md_Machine_callOut_56 ?_
  refine mr_iconst C md_Machine_callOut_59 mk_iconst_3 ?_
  refine mr_imul C md_Machine_callOut_60 ?_
  refine mr_iconst C md_Machine_callOut_61 mk_iconst_2 ?_
  refine mr_iadd C md_Machine_callOut_62 ?_
  refine mr_iload_n C 0 md_Machine_callOut_63 rfl rfl ?_
  refine mr_iast C 59 600 (by decide) (by decide) (fun _ _ => rfl) h.1 md_Machine_callOut_64 ?_
  replace h := h.2
  refine mr_sub [1, 0] rfl ?_
  exact h
def mw_Machine_performOne_124 (K : Int32 → mz_St → Prop) (a1 : Int32) (s0 : mz_St) (y0_46 : Int32) (y0_79 : Int32) (s124 : mz_St) : Prop :=
  ((¬ (mz_rd s0 47 a1) = 16 →
   ((¬ (mz_rd s0 47 a1) = 17 →
    ((¬ (mz_rd s0 47 a1) = 18 →
     mw_Mill_reckon (fun r2 u2 =>
      vp_in (mz_rd s0 48 a1) 230 ∧
      K (-1) (mz_wr u2 57 (mz_rd s0 48 a1) r2)) (mz_rd s0 47 a1) y0_46 y0_79 s124) ∧
    ((mz_rd s0 47 a1) = 18 →
     mw_Machine_callOut (fun r3 u3 =>
      vp_in (mz_rd s0 48 a1) 230 ∧
      K (-1) (mz_wr u3 57 (mz_rd s0 48 a1) r3)) y0_79 y0_46 s124))) ∧
   ((mz_rd s0 47 a1) = 17 →
    vp_in y0_79 32 ∧
    K (-1) (mz_wr s124 58 y0_79 y0_46)))) ∧
  ((mz_rd s0 47 a1) = 16 →
   vp_in y0_46 32 ∧
   vp_in (mz_rd s0 48 a1) 230 ∧
   K (-1) (mz_wr s124 57 (mz_rd s0 48 a1) (mz_rd s124 58 y0_46))))
def mw_Machine_performOne_108 (K : Int32 → mz_St → Prop) (a1 : Int32) (s0 : mz_St) (y0_46 : Int32) (y0_79 : Int32) (s108 : mz_St) : Prop :=
  (∀ P124 : mz_St → Prop, (∀ (s124 : mz_St), mw_Machine_performOne_124 K a1 s0 y0_46 y0_79 s124 → P124 s124) →
  ((¬ (mz_rd s0 47 a1) = 17 →
   P124 s108) ∧
  ((mz_rd s0 47 a1) = 17 →
   mw_Mill_isWord (fun r4 u4 =>
    ((¬ r4 = 0 →
     P124 u4) ∧
    (r4 = 0 →
     K 2 u4))) y0_79 s108)))
def mw_Machine_performOne_79 (K : Int32 → mz_St → Prop) (a1 : Int32) (s0 : mz_St) (y0_46 : Int32) (y0_79 : Int32) (s79 : mz_St) : Prop :=
  mw_Mill_failsToDivide (fun r1 u1 =>
   ((r1 = 0 →
    (∀ P108 : mz_St → Prop, (∀ (s108 : mz_St), mw_Machine_performOne_108 K a1 s0 y0_46 y0_79 s108 → P108 s108) →
    ((¬ (mz_rd s0 47 a1) = 16 →
     P108 u1) ∧
    ((mz_rd s0 47 a1) = 16 →
     mw_Mill_isWord (fun r5 u5 =>
      ((r5 = 0 →
       K 2 u5) ∧
      (¬ r5 = 0 →
       P108 u5))) y0_46 u1)))) ∧
   (¬ r1 = 0 →
    K 1 u1))) (mz_rd s0 47 a1) y0_46 y0_79 s79
def mw_Machine_performOne_46 (K : Int32 → mz_St → Prop) (a1 : Int32) (s0 : mz_St) (y0_46 : Int32) (s46 : mz_St) : Prop :=
  vp_in a1 1090 ∧
  (∀ P79 : Int32 → mz_St → Prop, (∀ (y0_79 : Int32) (s79 : mz_St), mw_Machine_performOne_79 K a1 s0 y0_46 y0_79 s79 → P79 y0_79 s79) →
  ((((mz_rd s46 51 a1) &&& 2) = 0 →
   vp_in a1 1090 ∧
   vp_in (mz_rd s46 50 a1) 230 ∧
   P79 (mz_rd s46 57 (mz_rd s46 50 a1)) s46) ∧
  (¬ ((mz_rd s46 51 a1) &&& 2) = 0 →
   vp_in a1 1090 ∧
   P79 (mz_rd s46 50 a1) s46)))
/-- ValueMill$Machine.performOne(LValueMill$Code;I)I: what it does, as a transformer of what must hold behind it -/
def mw_Machine_performOne (K : Int32 → mz_St → Prop) (a1 : Int32) (s0 : mz_St) : Prop :=
  vp_in a1 1090 ∧
  vp_in a1 1090 ∧
  vp_in a1 1090 ∧
  (∀ P46 : Int32 → mz_St → Prop, (∀ (y0_46 : Int32) (s46 : mz_St), mw_Machine_performOne_46 K a1 s0 y0_46 s46 → P46 y0_46 s46) →
  ((((mz_rd s0 51 a1) &&& 1) = 0 →
   vp_in a1 1090 ∧
   vp_in (mz_rd s0 49 a1) 230 ∧
   P46 (mz_rd s0 57 (mz_rd s0 49 a1)) s0) ∧
  (¬ ((mz_rd s0 51 a1) &&& 1) = 0 →
   vp_in a1 1090 ∧
   P46 (mz_rd s0 49 a1) s0)))
set_option maxRecDepth 100000 in
set_option maxHeartbeats 4000000 in
theorem ms_Machine_performOne (l : Launch) (E : mz_En) (hI : mz_Inj E) (K : Int32 → mz_St → Prop) (a1 : Int32) (s0 : mz_St) (h : mw_Machine_performOne K a1 s0) : mz_Ci l E my_Machine_performOne mb_Machine_performOne 7 (some .int) (1) (23) [.ref (E.2.1 10), .ref (E.2.1 7), .int a1] s0 K := by
  refine mz_cti hI (by decide +kernel) (Nat.le_of_ble_eq_true rfl) (fun X C R => ?_)
  show mz_G E X 7 0 [(0, .ref (E.2.1 10)), (1, .ref (E.2.1 7)), (2, .int a1)] [] s0
  unfold mw_Machine_performOne at h
  refine mr_aload_n C 1 md_Machine_performOne_0 rfl rfl ?_
  refine mr_getN C 7 2 mc_Code_cls ml_308 rfl (by decide) (by decide) (fun _ => rfl) rfl md_Machine_performOne_1 ?_
  refine mr_iload_n C 2 md_Machine_performOne_4 rfl rfl ?_
  refine mr_iald C 47 1090 (by decide) (fun _ => rfl) h.1 md_Machine_performOne_5 ?_
  replace h := h.2
  refine mr_istore_n C (L' := [(3, .int (mz_rd s0 47 a1)), (0, .ref (E.2.1 10)), (1, .ref (E.2.1 7)), (2, .int a1)]) md_Machine_performOne_6 rfl (Nat.le_of_ble_eq_true rfl) rfl ?_
  refine mr_aload_n C 2 md_Machine_performOne_7 rfl rfl ?_
  refine mr_getN C 7 3 mc_Code_cls ml_310 rfl (by decide) (by decide) (fun _ => rfl) rfl md_Machine_performOne_8 ?_
  refine mr_iload_n C 3 md_Machine_performOne_11 rfl rfl ?_
  refine mr_iald C 48 1090 (by decide) (fun _ => rfl) h.1 md_Machine_performOne_12 ?_
  replace h := h.2
  refine mr_istore C (L' := [(4, .int (mz_rd s0 48 a1)), (3, .int (mz_rd s0 47 a1)), (0, .ref (E.2.1 10)), (1, .ref (E.2.1 7)), (2, .int a1)]) md_Machine_performOne_13 (Nat.le_of_ble_eq_true rfl) rfl ?_
  refine mr_aload_n C 3 md_Machine_performOne_15 rfl rfl ?_
  refine mr_getN C 7 6 mc_Code_cls ml_316 rfl (by decide) (by decide) (fun _ => rfl) rfl md_Machine_performOne_16 ?_
  refine mr_iload_n C 4 md_Machine_performOne_19 rfl rfl ?_
  refine mr_iald C 51 1090 (by decide) (fun _ => rfl) h.1 md_Machine_performOne_20 ?_
  replace h := h.2
  refine mr_iconst C md_Machine_performOne_21 mk_iconst_1 ?_
  refine mr_iand C md_Machine_performOne_22 ?_
  refine mj (h (fun (y0_46 : Int32) (s46 : mz_St) => mz_G E X 7 46 [(0, .ref (E.2.1 10)), (1, .ref (E.2.1 7)), (2, .int a1), (3, .int (mz_rd s0 47 a1)), (4, .int (mz_rd s0 48 a1))] [.int y0_46] s46) (fun y0_46 s46 h => ?_)) (fun h => ?_)
  · unfold mw_Machine_performOne_46 at h
    refine mr_istore C (L' := [(5, .int y0_46), (0, .ref (E.2.1 10)), (1, .ref (E.2.1 7)), (2, .int a1), (3, .int (mz_rd s0 47 a1)), (4, .int (mz_rd s0 48 a1))]) md_Machine_performOne_46 (Nat.le_of_ble_eq_true rfl) rfl ?_
    refine mr_aload_n C 2 md_Machine_performOne_48 rfl rfl ?_
    refine mr_getN C 7 6 mc_Code_cls ml_316 rfl (by decide) (by decide) (fun _ => rfl) rfl md_Machine_performOne_49 ?_
    refine mr_iload_n C 3 md_Machine_performOne_52 rfl rfl ?_
    refine mr_iald C 51 1090 (by decide) (fun _ => rfl) h.1 md_Machine_performOne_53 ?_
    replace h := h.2
    refine mr_iconst C md_Machine_performOne_54 mk_iconst_2 ?_
    refine mr_iand C md_Machine_performOne_55 ?_
    refine mj (h (fun (y0_79 : Int32) (s79 : mz_St) => mz_G E X 7 79 [(0, .ref (E.2.1 10)), (3, .int (mz_rd s0 47 a1)), (4, .int (mz_rd s0 48 a1)), (5, .int y0_46)] [.int y0_79] s79) (fun y0_79 s79 h => ?_)) (fun h => ?_)
    · unfold mw_Machine_performOne_79 at h
      refine mr_istore C (L' := [(6, .int y0_79), (0, .ref (E.2.1 10)), (3, .int (mz_rd s0 47 a1)), (4, .int (mz_rd s0 48 a1)), (5, .int y0_46)]) md_Machine_performOne_79 (Nat.le_of_ble_eq_true rfl) rfl ?_
      refine mr_iload_n C 2 md_Machine_performOne_81 rfl rfl ?_
      refine mr_iload C 4 md_Machine_performOne_82 rfl ?_
      refine mr_iload C 0 md_Machine_performOne_84 rfl ?_
      refine mr_cSNi C (As := [.int (mz_rd s0 47 a1), .int y0_46, .int y0_79]) (rest := []) (ms_Mill_failsToDivide _ E hI _ (mz_rd s0 47 a1) y0_46 y0_79 _ h) mo_Mill_failsToDivide mt_Mill_failsToDivide ml_944 rfl rfl (Nat.le_of_ble_eq_true rfl) (Nat.le_of_ble_eq_true rfl) (Nat.le_of_ble_eq_true rfl) md_Machine_performOne_86 (fun r1 u1 h => ?_)
      refine mr_if_eq C md_Machine_performOne_89 rfl (fun hc => ?_) (fun hc => ?_)
      · replace h := h.1 hc
        refine mr_iload_n C 2 md_Machine_performOne_94 rfl rfl ?_
        refine mr_bipush C md_Machine_performOne_95 mk_bipush_16 ?_
        refine mj (h (fun (s108 : mz_St) => mz_G E X 7 108 [(0, .ref (E.2.1 10)), (3, .int (mz_rd s0 47 a1)), (4, .int (mz_rd s0 48 a1)), (5, .int y0_46), (6, .int y0_79)] [] s108) (fun s108 h => ?_)) (fun h => ?_)
        · unfold mw_Machine_performOne_108 at h
          refine mr_iload_n C 1 md_Machine_performOne_108 rfl rfl ?_
          refine mr_bipush C md_Machine_performOne_109 mk_bipush_17 ?_
          refine mj (h (fun (s124 : mz_St) => mz_G E X 7 124 [(0, .ref (E.2.1 10)), (3, .int (mz_rd s0 47 a1)), (4, .int (mz_rd s0 48 a1)), (5, .int y0_46), (6, .int y0_79)] [] s124) (fun s124 h => ?_)) (fun h => ?_)
          · unfold mw_Machine_performOne_124 at h
            refine mr_iload_n C 1 md_Machine_performOne_124 rfl rfl ?_
            refine mr_bipush C md_Machine_performOne_125 mk_bipush_16 ?_
            refine mr_icmp_ne C md_Machine_performOne_127 rfl (fun hc => ?_) (fun hc => ?_)
            · replace h := h.1 hc
              refine mr_iload_n C 1 md_Machine_performOne_147 rfl rfl ?_
              refine mr_bipush C md_Machine_performOne_148 mk_bipush_17 ?_
              refine mr_icmp_ne C md_Machine_performOne_150 rfl (fun hc => ?_) (fun hc => ?_)
              · replace h := h.1 hc
                refine mr_iload_n C 1 md_Machine_performOne_165 rfl rfl ?_
                refine mr_bipush C md_Machine_performOne_166 mk_bipush_18 ?_
                refine mr_icmp_ne C md_Machine_performOne_168 rfl (fun hc => ?_) (fun hc => ?_)
                · replace h := h.1 hc
                  refine mr_aload_n C 0 md_Machine_performOne_189 rfl rfl ?_
                  refine mr_get C 10 0 mc_Machine_cls ml_403 rfl (by decide) (by decide) (fun _ => rfl) rfl md_Machine_performOne_190 ?_
                  refine mr_iload C 2 md_Machine_performOne_193 rfl ?_
                  refine mr_iload_n C 1 md_Machine_performOne_195 rfl rfl ?_
                  refine mr_iload C 3 md_Machine_performOne_196 rfl ?_
                  refine mr_iload C 4 md_Machine_performOne_198 rfl ?_
                  refine mr_cSNi C (As := [.int (mz_rd s0 47 a1), .int y0_46, .int y0_79]) (rest := [.int (mz_rd s0 48 a1), .ref (E.2.1 57)]) (ms_Mill_reckon _ E hI _ (mz_rd s0 47 a1) y0_46 y0_79 _ h) mo_Mill_reckon mt_Mill_reckon ml_950 rfl rfl (Nat.le_of_ble_eq_true rfl) (Nat.le_of_ble_eq_true rfl) (Nat.le_of_ble_eq_true rfl) md_Machine_performOne_200 (fun r2 u2 h => ?_)
                  refine mr_iast C 57 230 (by decide) (by decide) (fun _ _ => rfl) h.1 md_Machine_performOne_203 ?_
                  replace h := h.2
                  refine mr_iconst C md_Machine_performOne_204 mk_iconst_m1 ?_
                  exact mr_iret C R h md_Machine_performOne_205
                replace h := h.2 hc
                refine mr_aload_n C 0 md_Machine_performOne_171 rfl rfl ?_
                refine mr_get C 10 0 mc_Machine_cls ml_403 rfl (by decide) (by decide) (fun _ => rfl) rfl md_Machine_performOne_172 ?_
                refine mr_iload C 2 md_Machine_performOne_175 rfl ?_
                refine mr_aload_n C 0 md_Machine_performOne_177 rfl rfl ?_
                refine mr_iload C 4 md_Machine_performOne_178 rfl ?_
                refine mr_iload C 3 md_Machine_performOne_180 rfl ?_
                refine mr_cVi C (As := [.int y0_79, .int y0_46]) (rest := [.int (mz_rd s0 48 a1), .ref (E.2.1 57)]) 10 (ms_Machine_callOut _ E hI _ y0_79 y0_46 _ h) mo_Machine_callOut mi_Machine_callOut mc_Machine_cls ml_946 (by decide) (fun _ => rfl) rfl rfl (Nat.le_of_ble_eq_true rfl) (Nat.le_of_ble_eq_true rfl) (Nat.le_of_ble_eq_true rfl) md_Machine_performOne_182 (fun r3 u3 h => ?_)
                refine mr_iast C 57 230 (by decide) (by decide) (fun _ _ => rfl) h.1 md_Machine_performOne_185 ?_
                replace h := h.2
                refine mr_goto C md_Machine_performOne_186 rfl ?_
                refine mr_iconst C md_Machine_performOne_204 mk_iconst_m1 ?_
                exact mr_iret C R h md_Machine_performOne_205
              replace h := h.2 hc
              refine mr_aload_n C 0 md_Machine_performOne_153 rfl rfl ?_
              refine mr_get C 10 1 mc_Machine_cls ml_404 rfl (by decide) (by decide) (fun _ => rfl) rfl md_Machine_performOne_154 ?_
              refine mr_iload C 4 md_Machine_performOne_157 rfl ?_
              refine mr_iload C 3 md_Machine_performOne_159 rfl ?_
              refine mr_iast C 58 32 (by decide) (by decide) (fun _ _ => rfl) h.1 md_Machine_performOne_161 ?_
              replace h := h.2
              refine mr_goto C md_Machine_performOne_162 rfl ?_
              refine mr_iconst C md_Machine_performOne_204 mk_iconst_m1 ?_
              exact mr_iret C R h md_Machine_performOne_205
            replace h := h.2 hc
            refine mr_aload_n C 0 md_Machine_performOne_130 rfl rfl ?_
            refine mr_get C 10 0 mc_Machine_cls ml_403 rfl (by decide) (by decide) (fun _ => rfl) rfl md_Machine_performOne_131 ?_
            refine mr_iload C 2 md_Machine_performOne_134 rfl ?_
            refine mr_aload_n C 0 md_Machine_performOne_136 rfl rfl ?_
            refine mr_get C 10 1 mc_Machine_cls ml_404 rfl (by decide) (by decide) (fun _ => rfl) rfl md_Machine_performOne_137 ?_
            refine mr_iload C 3 md_Machine_performOne_140 rfl ?_
            refine mr_iald C 58 32 (by decide) (fun _ => rfl) h.1 md_Machine_performOne_142 ?_
            replace h := h.2
            refine mr_iast C 57 230 (by decide) (by decide) (fun _ _ => rfl) h.1 md_Machine_performOne_143 ?_
            replace h := h.2
            refine mr_goto C md_Machine_performOne_144 rfl ?_
            refine mr_iconst C md_Machine_performOne_204 mk_iconst_m1 ?_
            exact mr_iret C R h md_Machine_performOne_205
          refine mr_icmp_ne C md_Machine_performOne_111 rfl (fun hc => ?_) (fun hc => ?_)
          · replace h := h.1 hc
            exact h
          replace h := h.2 hc
          refine mr_iload C 4 md_Machine_performOne_114 rfl ?_
          refine mr_cSNi C (As := [.int y0_79]) (rest := []) (ms_Mill_isWord _ E hI _ y0_79 _ h) mo_Mill_isWord mt_Mill_isWord ml_945 rfl rfl (Nat.le_of_ble_eq_true rfl) (Nat.le_of_ble_eq_true rfl) (Nat.le_of_ble_eq_true rfl) md_Machine_performOne_116 (fun r4 u4 h => ?_)
          refine mr_if_ne C md_Machine_performOne_119 rfl (fun hc => ?_) (fun hc => ?_)
          · replace h := h.1 hc
            exact h
          replace h := h.2 hc
          refine mr_iconst C md_Machine_performOne_122 mk_iconst_2 ?_
          exact mr_iret C R h md_Machine_performOne_123
        refine mr_icmp_ne C md_Machine_performOne_97 rfl (fun hc => ?_) (fun hc => ?_)
        · replace h := h.1 hc
          refine mr_sub [1, 2, 3, 4, 0] rfl ?_
          exact h
        replace h := h.2 hc
        refine mr_iload C 4 md_Machine_performOne_100 rfl ?_
        refine mr_cSNi C (As := [.int y0_46]) (rest := []) (ms_Mill_isWord _ E hI _ y0_46 _ h) mo_Mill_isWord mt_Mill_isWord ml_945 rfl rfl (Nat.le_of_ble_eq_true rfl) (Nat.le_of_ble_eq_true rfl) (Nat.le_of_ble_eq_true rfl) md_Machine_performOne_102 (fun r5 u5 h => ?_)
        refine mr_if_eq C md_Machine_performOne_105 rfl (fun hc => ?_) (fun hc => ?_)
        · replace h := h.1 hc
          refine mr_iconst C md_Machine_performOne_122 mk_iconst_2 ?_
          exact mr_iret C R h md_Machine_performOne_123
        replace h := h.2 hc
        refine mr_sub [1, 2, 3, 4, 0] rfl ?_
        exact h
      replace h := h.2 hc
      refine mr_iconst C md_Machine_performOne_92 mk_iconst_1 ?_
      exact mr_iret C R h md_Machine_performOne_93
    refine mr_if_eq C md_Machine_performOne_56 rfl (fun hc => ?_) (fun hc => ?_)
    · replace h := h.1 hc
      refine mr_aload_n C 1 md_Machine_performOne_68 rfl rfl ?_
      refine mr_get C 10 0 mc_Machine_cls ml_403 rfl (by decide) (by decide) (fun _ => rfl) rfl md_Machine_performOne_69 ?_
      refine mr_aload_n C 2 md_Machine_performOne_72 rfl rfl ?_
      refine mr_getN C 7 5 mc_Code_cls ml_314 rfl (by decide) (by decide) (fun _ => rfl) rfl md_Machine_performOne_73 ?_
      refine mr_iload_n C 3 md_Machine_performOne_76 rfl rfl ?_
      refine mr_iald C 50 1090 (by decide) (fun _ => rfl) h.1 md_Machine_performOne_77 ?_
      replace h := h.2
      refine mr_iald C 57 230 (by decide) (fun _ => rfl) h.1 md_Machine_performOne_78 ?_
      replace h := h.2
      refine mr_sub [1, 4, 5, 0] rfl ?_
      exact h
    replace h := h.2 hc
    refine mr_aload_n C 2 md_Machine_performOne_59 rfl rfl ?_
    refine mr_getN C 7 5 mc_Code_cls ml_314 rfl (by decide) (by decide) (fun _ => rfl) rfl md_Machine_performOne_60 ?_
    refine mr_iload_n C 3 md_Machine_performOne_63 rfl rfl ?_
    refine mr_iald C 50 1090 (by decide) (fun _ => rfl) h.1 md_Machine_performOne_64 ?_
    replace h := h.2
    refine mr_goto C md_Machine_performOne_65 rfl ?_
    refine mr_sub [1, 4, 5, 0] rfl ?_
    exact h
  refine mr_if_eq C md_Machine_performOne_23 rfl (fun hc => ?_) (fun hc => ?_)
  · replace h := h.1 hc
    refine mr_aload_n C 2 md_Machine_performOne_35 rfl rfl ?_
    refine mr_get C 10 0 mc_Machine_cls ml_403 rfl (by decide) (by decide) (fun _ => rfl) rfl md_Machine_performOne_36 ?_
    refine mr_aload_n C 3 md_Machine_performOne_39 rfl rfl ?_
    refine mr_getN C 7 4 mc_Code_cls ml_312 rfl (by decide) (by decide) (fun _ => rfl) rfl md_Machine_performOne_40 ?_
    refine mr_iload_n C 4 md_Machine_performOne_43 rfl rfl ?_
    refine mr_iald C 49 1090 (by decide) (fun _ => rfl) h.1 md_Machine_performOne_44 ?_
    replace h := h.2
    refine mr_iald C 57 230 (by decide) (fun _ => rfl) h.1 md_Machine_performOne_45 ?_
    replace h := h.2
    refine mr_sub [2, 3, 4, 1, 0] rfl ?_
    exact h
  replace h := h.2 hc
  refine mr_aload_n C 3 md_Machine_performOne_26 rfl rfl ?_
  refine mr_getN C 7 4 mc_Code_cls ml_312 rfl (by decide) (by decide) (fun _ => rfl) rfl md_Machine_performOne_27 ?_
  refine mr_iload_n C 4 md_Machine_performOne_30 rfl rfl ?_
  refine mr_iald C 49 1090 (by decide) (fun _ => rfl) h.1 md_Machine_performOne_31 ?_
  replace h := h.2
  refine mr_goto C md_Machine_performOne_32 rfl ?_
  refine mr_sub [2, 3, 4, 1, 0] rfl ?_
  exact h
def mw_Machine_perform_7 (K : Int32 → mz_St → Prop) (a1 : Int32) (P7 : Int32 → mz_St → Prop) (x3_7 : Int32) (s7 : mz_St) : Prop :=
  vp_in a1 30 ∧
  (((mz_rd s7 46 a1) ≤ x3_7 →
   K (-1) s7) ∧
  (¬ (mz_rd s7 46 a1) ≤ x3_7 →
   mw_Machine_performOne (fun r1 u1 =>
    ((r1 = (-1) →
     P7 (x3_7 + 1) u1) ∧
    (¬ r1 = (-1) →
     K r1 u1))) x3_7 s7))
/-- ValueMill$Machine.perform(LValueMill$Code;I)I: what it does, as a transformer of what must hold behind it -/
def mw_Machine_perform (K : Int32 → mz_St → Prop) (a1 : Int32) (s0 : mz_St) : Prop :=
  vp_in a1 30 ∧
  (∀ P7 : Int32 → mz_St → Prop, (∀ (x3_7 : Int32) (s7 : mz_St), mw_Machine_perform_7 K a1 P7 x3_7 s7 → P7 x3_7 s7) →
  P7 (mz_rd s0 45 a1) s0)
set_option maxRecDepth 100000 in
set_option maxHeartbeats 4000000 in
theorem ms_Machine_perform (l : Launch) (E : mz_En) (hI : mz_Inj E) (K : Int32 → mz_St → Prop) (a1 : Int32) (s0 : mz_St) (h : mw_Machine_perform K a1 s0) : mz_Ci l E my_Machine_perform mb_Machine_perform 5 (some .int) (2) (49) [.ref (E.2.1 10), .ref (E.2.1 7), .int a1] s0 K := by
  refine mz_cti hI (by decide +kernel) (Nat.le_of_ble_eq_true rfl) (fun X C R => ?_)
  show mz_G E X 5 0 [(0, .ref (E.2.1 10)), (1, .ref (E.2.1 7)), (2, .int a1)] [] s0
  unfold mw_Machine_perform at h
  refine mr_aload_n C 1 md_Machine_perform_0 rfl rfl ?_
  refine mr_getN C 7 0 mc_Code_cls ml_304 rfl (by decide) (by decide) (fun _ => rfl) rfl md_Machine_perform_1 ?_
  refine mr_iload_n C 2 md_Machine_perform_4 rfl rfl ?_
  refine mr_iald C 45 30 (by decide) (fun _ => rfl) h.1 md_Machine_perform_5 ?_
  replace h := h.2
  refine mr_istore_n C (L' := [(3, .int (mz_rd s0 45 a1)), (0, .ref (E.2.1 10)), (1, .ref (E.2.1 7)), (2, .int a1)]) md_Machine_perform_6 rfl (Nat.le_of_ble_eq_true rfl) rfl ?_
  refine mr_sub [1, 2, 3, 0] rfl ?_
  refine h (fun (x3_7 : Int32) (s7 : mz_St) => mz_G E X 5 7 [(0, .ref (E.2.1 10)), (1, .ref (E.2.1 7)), (2, .int a1), (3, .int x3_7)] [] s7) (fun x3_7 s7 h => ?_)
  unfold mw_Machine_perform_7 at h
  refine mr_iload_n C 3 md_Machine_perform_7 rfl rfl ?_
  refine mr_aload_n C 1 md_Machine_perform_8 rfl rfl ?_
  refine mr_getN C 7 1 mc_Code_cls ml_306 rfl (by decide) (by decide) (fun _ => rfl) rfl md_Machine_perform_9 ?_
  refine mr_iload_n C 2 md_Machine_perform_12 rfl rfl ?_
  refine mr_iald C 46 30 (by decide) (fun _ => rfl) h.1 md_Machine_perform_13 ?_
  replace h := h.2
  refine mr_icmp_ge C md_Machine_perform_14 rfl (fun hc => ?_) (fun hc => ?_)
  · replace h := h.1 hc
    refine mr_iconst C md_Machine_perform_40 mk_iconst_m1 ?_
    exact mr_iret C R h md_Machine_perform_41
  replace h := h.2 hc
  refine mr_aload_n C 0 md_Machine_perform_17 rfl rfl ?_
  refine mr_aload_n C 1 md_Machine_perform_18 rfl rfl ?_
  refine mr_iload_n C 3 md_Machine_perform_19 rfl rfl ?_
  refine mr_cVi C (As := [.ref (E.2.1 7), .int x3_7]) (rest := []) 10 (ms_Machine_performOne _ E hI _ x3_7 _ h) mo_Machine_performOne mi_Machine_performOne mc_Machine_cls ml_940 (by decide) (fun _ => rfl) rfl rfl (Nat.le_of_ble_eq_true rfl) (Nat.le_of_ble_eq_true rfl) (Nat.le_of_ble_eq_true rfl) md_Machine_perform_20 (fun r1 u1 h => ?_)
  refine mr_istore C (L' := [(4, .int r1), (0, .ref (E.2.1 10)), (1, .ref (E.2.1 7)), (2, .int a1), (3, .int x3_7)]) md_Machine_perform_23 (Nat.le_of_ble_eq_true rfl) rfl ?_
  refine mr_iload C 0 md_Machine_perform_25 rfl ?_
  refine mr_iconst C md_Machine_perform_27 mk_iconst_m1 ?_
  refine mr_icmp_eq C md_Machine_perform_28 rfl (fun hc => ?_) (fun hc => ?_)
  · replace h := h.1 hc
    refine mr_iinc C (L' := [(3, .int (x3_7 + 1)), (4, .int r1), (0, .ref (E.2.1 10)), (1, .ref (E.2.1 7)), (2, .int a1)]) 4 md_Machine_perform_34 rfl (mk_inc mk_iconst_1) (Nat.le_of_ble_eq_true rfl) rfl ?_
    refine mr_goto C md_Machine_perform_37 rfl ?_
    refine mr_sub [2, 3, 4, 0] rfl ?_
    exact h
  replace h := h.2 hc
  refine mr_iload C 0 md_Machine_perform_31 rfl ?_
  exact mr_iret C R h md_Machine_perform_33
def mw_Machine_follow_120 (P14 : Int32 → Int32 → mz_St → Prop) (x4_14 : Int32) (x5_14 : Int32) (y0_120 : Int32) (s120 : mz_St) : Prop :=
  mw_Mill_roadOf (fun r2 u3 =>
   mw_Machine_perform (fun r3 u4 =>
    mw_Program_target (fun r4 u5 =>
     P14 r4 (x5_14 + (-1)) u5) x4_14 y0_120 u4) r2 u3) x4_14 y0_120 s120
def mw_Machine_follow_119 (P120 : Int32 → mz_St → Prop) (s119 : mz_St) : Prop :=
  P120 0 s119
def mw_Machine_follow_79 (K : Int32 → mz_St → Prop) (P14 : Int32 → Int32 → mz_St → Prop) (x4_14 : Int32) (x5_14 : Int32) (y0_79 : Int32) (s79 : mz_St) : Prop :=
  vp_in x4_14 10 ∧
  ((¬ (mz_rd s79 17 x4_14) = 0 →
   vp_in x4_14 10 ∧
   (∀ P120 : Int32 → mz_St → Prop, (∀ (y0_120 : Int32) (s120 : mz_St), mw_Machine_follow_120 P14 x4_14 x5_14 y0_120 s120 → P120 y0_120 s120) →
   (∀ P119 : mz_St → Prop, (∀ (s119 : mz_St), mw_Machine_follow_119 P120 s119 → P119 s119) →
   ((¬ (mz_rd s79 17 x4_14) = 2 →
    P119 s79) ∧
   ((mz_rd s79 17 x4_14) = 2 →
    ((¬ y0_79 = 0 →
     P119 s79) ∧
    (y0_79 = 0 →
     P120 1 s79))))))) ∧
  ((mz_rd s79 17 x4_14) = 0 →
   K 0 (mz_up s79 1013 0 y0_79)))
def mw_Machine_follow_14 (K : Int32 → mz_St → Prop) (P14 : Int32 → Int32 → mz_St → Prop) (x4_14 : Int32) (x5_14 : Int32) (s14 : mz_St) : Prop :=
  ((x5_14 ≤ 0 →
   K 3 s14) ∧
  (¬ x5_14 ≤ 0 →
   mw_Machine_perform (fun r1 u2 =>
    ((r1 = (-1) →
     vp_in x4_14 10 ∧
     (∀ P79 : Int32 → mz_St → Prop, (∀ (y0_79 : Int32) (s79 : mz_St), mw_Machine_follow_79 K P14 x4_14 x5_14 y0_79 s79 → P79 y0_79 s79) →
     (((mz_rd u2 53 x4_14) = 0 →
      vp_in x4_14 10 ∧
      vp_in (mz_rd u2 52 x4_14) 230 ∧
      P79 (mz_rd u2 57 (mz_rd u2 52 x4_14)) u2) ∧
     (¬ (mz_rd u2 53 x4_14) = 0 →
      vp_in x4_14 10 ∧
      P79 (mz_rd u2 52 x4_14) u2)))) ∧
    (¬ r1 = (-1) →
     K r1 u2))) x4_14 (mz_up s14 1014 0 ((s14 1014 0) + 1))))
/-- ValueMill$Machine.follow(LValueMill$Code;LValueMill$Program;I)I: what it does, as a transformer of what must hold behind it -/
def mw_Machine_follow (K : Int32 → mz_St → Prop) (a2 : Int32) (s0 : mz_St) : Prop :=
  mw_Machine_begin (fun u1 =>
   (∀ P14 : Int32 → Int32 → mz_St → Prop, (∀ (x4_14 : Int32) (x5_14 : Int32) (s14 : mz_St), mw_Machine_follow_14 K P14 x4_14 x5_14 s14 → P14 x4_14 x5_14 s14) →
   P14 0 a2 u1)) s0
set_option maxRecDepth 100000 in
set_option maxHeartbeats 4000000 in
theorem ms_Machine_follow (l : Launch) (E : mz_En) (hI : mz_Inj E) (K : Int32 → mz_St → Prop) (a2 : Int32) (s0 : mz_St) (h : mw_Machine_follow K a2 s0) : mz_Ci l E my_Machine_follow mb_Machine_follow 9 (some .int) (3) (73) [.ref (E.2.1 10), .ref (E.2.1 7), .ref (E.2.1 1), .int a2] s0 K := by
  refine mz_cti hI (by decide +kernel) (Nat.le_of_ble_eq_true rfl) (fun X C R => ?_)
  show mz_G E X 9 0 [(0, .ref (E.2.1 10)), (1, .ref (E.2.1 7)), (2, .ref (E.2.1 1)), (3, .int a2)] [] s0
  unfold mw_Machine_follow at h
  refine mr_aload_n C 0 md_Machine_follow_0 rfl rfl ?_
  refine mr_aload_n C 2 md_Machine_follow_1 rfl rfl ?_
  refine mr_getN C 1 9 mc_Program_cls ml_58 rfl (by decide) (by decide) (fun _ => rfl) rfl md_Machine_follow_2 ?_
  refine mr_cVv C (As := [.ref (E.2.1 21)]) (rest := []) 10 (ms_Machine_begin _ E hI _  _ h) mo_Machine_begin mi_Machine_begin mc_Machine_cls ml_928 (by decide) (fun _ => rfl) rfl rfl (Nat.le_of_ble_eq_true rfl) (Nat.le_of_ble_eq_true rfl) (Nat.le_of_ble_eq_true rfl) md_Machine_follow_5 (fun u1 h => ?_)
  refine mr_iconst C md_Machine_follow_8 mk_iconst_0 ?_
  refine mr_istore C (L' := [(4, .int 0), (0, .ref (E.2.1 10)), (1, .ref (E.2.1 7)), (2, .ref (E.2.1 1)), (3, .int a2)]) md_Machine_follow_9 (Nat.le_of_ble_eq_true rfl) rfl ?_
  refine mr_iload_n C 4 md_Machine_follow_11 rfl rfl ?_
  refine mr_istore C (L' := [(5, .int a2), (4, .int 0), (0, .ref (E.2.1 10)), (1, .ref (E.2.1 7)), (2, .ref (E.2.1 1)), (3, .int a2)]) md_Machine_follow_12 (Nat.le_of_ble_eq_true rfl) rfl ?_
  refine mr_sub [2, 3, 4, 1, 0] rfl ?_
  refine h (fun (x4_14 : Int32) (x5_14 : Int32) (s14 : mz_St) => mz_G E X 9 14 [(0, .ref (E.2.1 10)), (1, .ref (E.2.1 7)), (2, .ref (E.2.1 1)), (4, .int x4_14), (5, .int x5_14)] [] s14) (fun x4_14 x5_14 s14 h => ?_)
  unfold mw_Machine_follow_14 at h
  refine mr_iload C 4 md_Machine_follow_14 rfl ?_
  refine mr_if_le C md_Machine_follow_16 rfl (fun hc => ?_) (fun hc => ?_)
  · replace h := h.1 hc
    refine mr_iconst C md_Machine_follow_151 mk_iconst_3 ?_
    exact mr_iret C R h md_Machine_follow_152
  replace h := h.2 hc
  refine mr_aload_n C 0 md_Machine_follow_19 rfl rfl ?_
  refine mr_dup C md_Machine_follow_20 rfl ?_
  refine mr_get C 10 4 mc_Machine_cls ml_409 rfl (by decide) (by decide) (fun _ => rfl) rfl md_Machine_follow_21 ?_
  refine mr_iconst C md_Machine_follow_24 mk_iconst_1 ?_
  refine mr_iadd C md_Machine_follow_25 ?_
  refine mr_put C (t0 := .int) 10 4 1014 mc_Machine_cls ml_409 rfl (by decide) (by decide) (fun _ => rfl) rfl (by decide +kernel) rfl rfl (Nat.le_of_ble_eq_true rfl) (fun _ => rfl) (mp_1014 E _) md_Machine_follow_26 ?_
  refine mr_aload_n C 0 md_Machine_follow_29 rfl rfl ?_
  refine mr_aload_n C 1 md_Machine_follow_30 rfl rfl ?_
  refine mr_iload C 3 md_Machine_follow_31 rfl ?_
  refine mr_cVi C (As := [.ref (E.2.1 7), .int x4_14]) (rest := []) 10 (ms_Machine_perform _ E hI _ x4_14 _ h) mo_Machine_perform mi_Machine_perform mc_Machine_cls ml_936 (by decide) (fun _ => rfl) rfl rfl (Nat.le_of_ble_eq_true rfl) (Nat.le_of_ble_eq_true rfl) (Nat.le_of_ble_eq_true rfl) md_Machine_follow_33 (fun r1 u2 h => ?_)
  refine mr_istore C (L' := [(6, .int r1), (0, .ref (E.2.1 10)), (1, .ref (E.2.1 7)), (2, .ref (E.2.1 1)), (4, .int x4_14), (5, .int x5_14)]) md_Machine_follow_36 (Nat.le_of_ble_eq_true rfl) rfl ?_
  refine mr_iload C 0 md_Machine_follow_38 rfl ?_
  refine mr_iconst C md_Machine_follow_40 mk_iconst_m1 ?_
  refine mr_icmp_eq C md_Machine_follow_41 rfl (fun hc => ?_) (fun hc => ?_)
  · replace h := h.1 hc
    refine mr_aload_n C 2 md_Machine_follow_47 rfl rfl ?_
    refine mr_getN C 7 8 mc_Code_cls ml_320 rfl (by decide) (by decide) (fun _ => rfl) rfl md_Machine_follow_48 ?_
    refine mr_iload C 4 md_Machine_follow_51 rfl ?_
    refine mr_zald C 53 10 (by decide) (fun _ => rfl) h.1 md_Machine_follow_53 ?_
    replace h := h.2
    refine mj (h (fun (y0_79 : Int32) (s79 : mz_St) => mz_G E X 9 79 [(0, .ref (E.2.1 10)), (1, .ref (E.2.1 7)), (2, .ref (E.2.1 1)), (4, .int x4_14), (5, .int x5_14)] [.int y0_79] s79) (fun y0_79 s79 h => ?_)) (fun h => ?_)
    · unfold mw_Machine_follow_79 at h
      refine mr_istore C (L' := [(7, .int y0_79), (0, .ref (E.2.1 10)), (1, .ref (E.2.1 7)), (2, .ref (E.2.1 1)), (4, .int x4_14), (5, .int x5_14)]) md_Machine_follow_79 (Nat.le_of_ble_eq_true rfl) rfl ?_
      refine mr_aload_n C 3 md_Machine_follow_81 rfl rfl ?_
      refine mr_getN C 1 5 mc_Program_cls ml_51 rfl (by decide) (by decide) (fun _ => rfl) rfl md_Machine_follow_82 ?_
      refine mr_iload C 4 md_Machine_follow_85 rfl ?_
      refine mr_iald C 17 10 (by decide) (fun _ => rfl) h.1 md_Machine_follow_87 ?_
      replace h := h.2
      refine mr_if_ne C md_Machine_follow_88 rfl (fun hc => ?_) (fun hc => ?_)
      · replace h := h.1 hc
        refine mr_aload_n C 3 md_Machine_follow_99 rfl rfl ?_
        refine mr_getN C 1 5 mc_Program_cls ml_51 rfl (by decide) (by decide) (fun _ => rfl) rfl md_Machine_follow_100 ?_
        refine mr_iload C 4 md_Machine_follow_103 rfl ?_
        refine mr_iald C 17 10 (by decide) (fun _ => rfl) h.1 md_Machine_follow_105 ?_
        replace h := h.2
        refine mr_iconst C md_Machine_follow_106 mk_iconst_2 ?_
        refine mj (h (fun (y0_120 : Int32) (s120 : mz_St) => mz_G E X 9 120 [(0, .ref (E.2.1 10)), (1, .ref (E.2.1 7)), (2, .ref (E.2.1 1)), (4, .int x4_14), (5, .int x5_14)] [.int y0_120] s120) (fun y0_120 s120 h => ?_)) (fun h => ?_)
        · unfold mw_Machine_follow_120 at h
          refine mr_istore C (L' := [(8, .int y0_120), (0, .ref (E.2.1 10)), (1, .ref (E.2.1 7)), (2, .ref (E.2.1 1)), (4, .int x4_14), (5, .int x5_14)]) md_Machine_follow_120 (Nat.le_of_ble_eq_true rfl) rfl ?_
          refine mr_aload_n C 1 md_Machine_follow_122 rfl rfl ?_
          refine mr_aload_n C 2 md_Machine_follow_123 rfl rfl ?_
          refine mr_iload C 4 md_Machine_follow_124 rfl ?_
          refine mr_iload C 0 md_Machine_follow_126 rfl ?_
          refine mr_cSNi C (As := [.int x4_14, .int y0_120]) (rest := [.ref (E.2.1 7), .ref (E.2.1 10)]) (ms_Mill_roadOf _ E hI _ x4_14 y0_120 _ h) mo_Mill_roadOf mt_Mill_roadOf ml_951 rfl rfl (Nat.le_of_ble_eq_true rfl) (Nat.le_of_ble_eq_true rfl) (Nat.le_of_ble_eq_true rfl) md_Machine_follow_128 (fun r2 u3 h => ?_)
          refine mr_cVi C (As := [.ref (E.2.1 7), .int r2]) (rest := []) 10 (ms_Machine_perform _ E hI _ r2 _ h) mo_Machine_perform mi_Machine_perform mc_Machine_cls ml_936 (by decide) (fun _ => rfl) rfl rfl (Nat.le_of_ble_eq_true rfl) (Nat.le_of_ble_eq_true rfl) (Nat.le_of_ble_eq_true rfl) md_Machine_follow_131 (fun r3 u4 h => ?_)
          refine mr_pop C md_Machine_follow_134 rfl ?_
          refine mr_aload_n C 3 md_Machine_follow_135 rfl rfl ?_
          refine mr_iload C 4 md_Machine_follow_136 rfl ?_
          refine mr_iload C 0 md_Machine_follow_138 rfl ?_
          refine mr_cVNi C (As := [.int x4_14, .int y0_120]) (rest := []) 1 (ms_Program_target _ E hI _ x4_14 y0_120 _ h) mo_Program_target mi_Program_target mc_Program_cls ml_952 (by decide) (fun _ => rfl) rfl rfl (Nat.le_of_ble_eq_true rfl) (Nat.le_of_ble_eq_true rfl) (Nat.le_of_ble_eq_true rfl) md_Machine_follow_140 (fun r4 u5 h => ?_)
          refine mr_istore C (L' := [(4, .int r4), (8, .int y0_120), (0, .ref (E.2.1 10)), (1, .ref (E.2.1 7)), (2, .ref (E.2.1 1)), (5, .int x5_14)]) md_Machine_follow_143 (Nat.le_of_ble_eq_true rfl) rfl ?_
          refine mr_iinc C (L' := [(5, .int (x5_14 + (-1))), (4, .int r4), (8, .int y0_120), (0, .ref (E.2.1 10)), (1, .ref (E.2.1 7)), (2, .ref (E.2.1 1))]) 5 md_Machine_follow_145 rfl (mk_inc mk_iconst_m1) (Nat.le_of_ble_eq_true rfl) rfl ?_
          refine mr_goto C md_Machine_follow_148 rfl ?_
          refine mr_sub [3, 4, 5, 1, 0] rfl ?_
          exact h
        refine mj (h (fun (s119 : mz_St) => mz_G E X 9 119 [(0, .ref (E.2.1 10)), (1, .ref (E.2.1 7)), (2, .ref (E.2.1 1)), (4, .int x4_14), (5, .int x5_14)] [] s119) (fun s119 h => ?_)) (fun h => ?_)
        · unfold mw_Machine_follow_119 at h
          refine mr_iconst C md_Machine_follow_119 mk_iconst_0 ?_
          exact h
        refine mr_icmp_ne C md_Machine_follow_107 rfl (fun hc => ?_) (fun hc => ?_)
        · replace h := h.1 hc
          refine mr_sub [1, 2, 3, 4, 5] rfl ?_
          exact h
        replace h := h.2 hc
        refine mr_iload C 0 md_Machine_follow_110 rfl ?_
        refine mr_if_ne C md_Machine_follow_112 rfl (fun hc => ?_) (fun hc => ?_)
        · replace h := h.1 hc
          refine mr_sub [1, 2, 3, 4, 5] rfl ?_
          exact h
        replace h := h.2 hc
        refine mr_iconst C md_Machine_follow_115 mk_iconst_1 ?_
        refine mr_goto C md_Machine_follow_116 rfl ?_
        refine mr_sub [1, 2, 3, 4, 5] rfl ?_
        exact h
      replace h := h.2 hc
      refine mr_aload_n C 1 md_Machine_follow_91 rfl rfl ?_
      refine mr_iload C 0 md_Machine_follow_92 rfl ?_
      refine mr_put C (t0 := .int) 10 3 1013 mc_Machine_cls ml_407 rfl (by decide) (by decide) (fun _ => rfl) rfl (by decide +kernel) rfl rfl (Nat.le_of_ble_eq_true rfl) (fun _ => rfl) (mp_1013 E _) md_Machine_follow_94 ?_
      refine mr_iconst C md_Machine_follow_97 mk_iconst_0 ?_
      exact mr_iret C R h md_Machine_follow_98
    refine mr_if_eq C md_Machine_follow_54 rfl (fun hc => ?_) (fun hc => ?_)
    · replace h := h.1 hc
      refine mr_aload_n C 1 md_Machine_follow_67 rfl rfl ?_
      refine mr_get C 10 0 mc_Machine_cls ml_403 rfl (by decide) (by decide) (fun _ => rfl) rfl md_Machine_follow_68 ?_
      refine mr_aload_n C 2 md_Machine_follow_71 rfl rfl ?_
      refine mr_getN C 7 7 mc_Code_cls ml_318 rfl (by decide) (by decide) (fun _ => rfl) rfl md_Machine_follow_72 ?_
      refine mr_iload C 4 md_Machine_follow_75 rfl ?_
      refine mr_iald C 52 10 (by decide) (fun _ => rfl) h.1 md_Machine_follow_77 ?_
      replace h := h.2
      refine mr_iald C 57 230 (by decide) (fun _ => rfl) h.1 md_Machine_follow_78 ?_
      replace h := h.2
      refine mr_sub [1, 2, 3, 4, 5] rfl ?_
      exact h
    replace h := h.2 hc
    refine mr_aload_n C 2 md_Machine_follow_57 rfl rfl ?_
    refine mr_getN C 7 7 mc_Code_cls ml_318 rfl (by decide) (by decide) (fun _ => rfl) rfl md_Machine_follow_58 ?_
    refine mr_iload C 4 md_Machine_follow_61 rfl ?_
    refine mr_iald C 52 10 (by decide) (fun _ => rfl) h.1 md_Machine_follow_63 ?_
    replace h := h.2
    refine mr_goto C md_Machine_follow_64 rfl ?_
    refine mr_sub [1, 2, 3, 4, 5] rfl ?_
    exact h
  replace h := h.2 hc
  refine mr_iload C 0 md_Machine_follow_44 rfl ?_
  exact mr_iret C R h md_Machine_follow_46
def mw_Machine_told_24 (K : Int32 → mz_St → Prop) (a0 : Int32) (a1 : Int32) (y0_24 : Int32) (s24 : mz_St) : Prop :=
  ((y0_24 = 0 →
   K 0 s24) ∧
  (¬ y0_24 = 0 →
   ((a1 < 0 →
    K 0 s24) ∧
   (¬ a1 < 0 →
    ((3 ≤ a1 →
     K 0 s24) ∧
    (¬ 3 ≤ a1 →
     vp_in ((a0 * 3) + a1) 600 ∧
     K (mz_rd s24 59 ((a0 * 3) + a1)) s24))))))
def mw_Machine_told_23 (P24 : Int32 → mz_St → Prop) (s23 : mz_St) : Prop :=
  P24 0 s23
/-- ValueMill$Machine.told(II)I: what it does, as a transformer of what must hold behind it -/
def mw_Machine_told (K : Int32 → mz_St → Prop) (a0 : Int32) (a1 : Int32) (s0 : mz_St) : Prop :=
  (∀ P24 : Int32 → mz_St → Prop, (∀ (y0_24 : Int32) (s24 : mz_St), mw_Machine_told_24 K a0 a1 y0_24 s24 → P24 y0_24 s24) →
  (∀ P23 : mz_St → Prop, (∀ (s23 : mz_St), mw_Machine_told_23 P24 s23 → P23 s23) →
  ((a0 < 0 →
   P23 s0) ∧
  (¬ a0 < 0 →
   ((200 ≤ a0 →
    P23 s0) ∧
   (¬ 200 ≤ a0 →
    (((s0 1015 0) ≤ a0 →
     P23 s0) ∧
    (¬ (s0 1015 0) ≤ a0 →
     P24 1 s0))))))))
set_option maxRecDepth 100000 in
set_option maxHeartbeats 4000000 in
theorem ms_Machine_told (l : Launch) (E : mz_En) (hI : mz_Inj E) (K : Int32 → mz_St → Prop) (a0 : Int32) (a1 : Int32) (s0 : mz_St) (h : mw_Machine_told K a0 a1 s0) : mz_Ci l E my_Machine_told mb_Machine_told 4 (some .int) (0) (0) [.ref (E.2.1 10), .int a0, .int a1] s0 K := by
  refine mz_cti hI (by decide +kernel) (Nat.le_of_ble_eq_true rfl) (fun X C R => ?_)
  show mz_G E X 4 0 [(0, .ref (E.2.1 10)), (1, .int a0), (2, .int a1)] [] s0
  unfold mw_Machine_told at h
  refine mr_iload_n C 1 md_Machine_told_0 rfl rfl ?_
  refine mj (h (fun (y0_24 : Int32) (s24 : mz_St) => mz_G E X 4 24 [(0, .ref (E.2.1 10)), (1, .int a0), (2, .int a1)] [.int y0_24] s24) (fun y0_24 s24 h => ?_)) (fun h => ?_)
  · unfold mw_Machine_told_24 at h
    refine mr_istore_n C (L' := [(3, .int y0_24), (0, .ref (E.2.1 10)), (1, .int a0), (2, .int a1)]) md_Machine_told_24 rfl (Nat.le_of_ble_eq_true rfl) rfl ?_
    refine mr_iload_n C 0 md_Machine_told_25 rfl rfl ?_
    refine mr_if_eq C md_Machine_told_26 rfl (fun hc => ?_) (fun hc => ?_)
    · replace h := h.1 hc
      refine mr_iconst C md_Machine_told_51 mk_iconst_0 ?_
      exact mr_iret C R h md_Machine_told_52
    replace h := h.2 hc
    refine mr_iload_n C 3 md_Machine_told_29 rfl rfl ?_
    refine mr_if_lt C md_Machine_told_30 rfl (fun hc => ?_) (fun hc => ?_)
    · replace h := h.1 hc
      refine mr_iconst C md_Machine_told_51 mk_iconst_0 ?_
      exact mr_iret C R h md_Machine_told_52
    replace h := h.2 hc
    refine mr_iload_n C 3 md_Machine_told_33 rfl rfl ?_
    refine mr_iconst C md_Machine_told_34 mk_iconst_3 ?_
    refine mr_icmp_ge C md_Machine_told_35 rfl (fun hc => ?_) (fun hc => ?_)
    · replace h := h.1 hc
      refine mr_iconst C md_Machine_told_51 mk_iconst_0 ?_
      exact mr_iret C R h md_Machine_told_52
    replace h := h.2 hc
    refine mr_aload_n C 1 md_Machine_told_38 rfl rfl ?_
    refine mr_get C 10 2 mc_Machine_cls ml_406 rfl (by decide) (by decide) (fun _ => rfl) rfl md_Machine_told_39 ?_
    refine mr_iload_n C 2 md_Machine_told_42 rfl rfl ?_
    refine mr_iconst C md_Machine_told_43 mk_iconst_3 ?_
    refine mr_imul C md_Machine_told_44 ?_
    refine mr_iload_n C 3 md_Machine_told_45 rfl rfl ?_
    refine mr_iadd C md_Machine_told_46 ?_
    refine mr_iald C 59 600 (by decide) (fun _ => rfl) h.1 md_Machine_told_47 ?_
    replace h := h.2
    refine mr_goto C md_Machine_told_48 rfl ?_
    exact mr_iret C R h md_Machine_told_52
  refine mj (h (fun (s23 : mz_St) => mz_G E X 4 23 [(0, .ref (E.2.1 10)), (1, .int a0), (2, .int a1)] [] s23) (fun s23 h => ?_)) (fun h => ?_)
  · unfold mw_Machine_told_23 at h
    refine mr_iconst C md_Machine_told_23 mk_iconst_0 ?_
    exact h
  refine mr_if_lt C md_Machine_told_1 rfl (fun hc => ?_) (fun hc => ?_)
  · replace h := h.1 hc
    exact h
  replace h := h.2 hc
  refine mr_iload_n C 1 md_Machine_told_4 rfl rfl ?_
  refine mr_sipush C md_Machine_told_5 mk_sipush_200 ?_
  refine mr_icmp_ge C md_Machine_told_8 rfl (fun hc => ?_) (fun hc => ?_)
  · replace h := h.1 hc
    exact h
  replace h := h.2 hc
  refine mr_iload_n C 1 md_Machine_told_11 rfl rfl ?_
  refine mr_aload_n C 0 md_Machine_told_12 rfl rfl ?_
  refine mr_get C 10 5 mc_Machine_cls ml_411 rfl (by decide) (by decide) (fun _ => rfl) rfl md_Machine_told_13 ?_
  refine mr_icmp_ge C md_Machine_told_16 rfl (fun hc => ?_) (fun hc => ?_)
  · replace h := h.1 hc
    exact h
  replace h := h.2 hc
  refine mr_iconst C md_Machine_told_19 mk_iconst_1 ?_
  refine mr_goto C md_Machine_told_20 rfl ?_
  exact h

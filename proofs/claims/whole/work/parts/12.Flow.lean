/-! BEGIN Flow: its instructions, what each method does (mw_), that its bytecode does it (ms_): printed -/
theorem md_Flow_reachedFrom_0 : mz_d mb_Flow_reachedFrom 0 (.iconst 1) 1 1 := ⟨by decide +kernel, rfl⟩
theorem md_Flow_reachedFrom_1 : mz_d mb_Flow_reachedFrom 1 (.iload_n 1) 1 2 := ⟨by decide +kernel, rfl⟩
theorem md_Flow_reachedFrom_2 : mz_d mb_Flow_reachedFrom 2 (.ishl) 1 3 := ⟨by decide +kernel, rfl⟩
theorem md_Flow_reachedFrom_3 : mz_d mb_Flow_reachedFrom 3 (.iload_n 2) 1 4 := ⟨by decide +kernel, rfl⟩
theorem md_Flow_reachedFrom_4 : mz_d mb_Flow_reachedFrom 4 (.iconst (-1)) 1 5 := ⟨by decide +kernel, rfl⟩
theorem md_Flow_reachedFrom_5 : mz_d mb_Flow_reachedFrom 5 (.ixor) 1 6 := ⟨by decide +kernel, rfl⟩
theorem md_Flow_reachedFrom_6 : mz_d mb_Flow_reachedFrom 6 (.iand) 1 7 := ⟨by decide +kernel, rfl⟩
theorem md_Flow_reachedFrom_7 : mz_d mb_Flow_reachedFrom 7 (.istore_n 3) 1 8 := ⟨by decide +kernel, rfl⟩
theorem md_Flow_reachedFrom_8 : mz_d mb_Flow_reachedFrom 8 (.iconst 0) 1 9 := ⟨by decide +kernel, rfl⟩
theorem md_Flow_reachedFrom_9 : mz_d mb_Flow_reachedFrom 9 (.istore 4) 2 11 := ⟨by decide +kernel, rfl⟩
theorem md_Flow_reachedFrom_11 : mz_d mb_Flow_reachedFrom 11 (.iload 4) 2 13 := ⟨by decide +kernel, rfl⟩
theorem md_Flow_reachedFrom_13 : mz_d mb_Flow_reachedFrom 13 (.bipush 10) 2 15 := ⟨by decide +kernel, rfl⟩
theorem md_Flow_reachedFrom_15 : mz_d mb_Flow_reachedFrom 15 (.if_icmp .ge 69) 3 18 := ⟨by decide +kernel, rfl⟩
theorem md_Flow_reachedFrom_18 : mz_d mb_Flow_reachedFrom 18 (.iload_n 3) 1 19 := ⟨by decide +kernel, rfl⟩
theorem md_Flow_reachedFrom_19 : mz_d mb_Flow_reachedFrom 19 (.istore 5) 2 21 := ⟨by decide +kernel, rfl⟩
theorem md_Flow_reachedFrom_21 : mz_d mb_Flow_reachedFrom 21 (.iconst 0) 1 22 := ⟨by decide +kernel, rfl⟩
theorem md_Flow_reachedFrom_22 : mz_d mb_Flow_reachedFrom 22 (.istore 6) 2 24 := ⟨by decide +kernel, rfl⟩
theorem md_Flow_reachedFrom_24 : mz_d mb_Flow_reachedFrom 24 (.iload 6) 2 26 := ⟨by decide +kernel, rfl⟩
theorem md_Flow_reachedFrom_26 : mz_d mb_Flow_reachedFrom 26 (.aload_n 0) 1 27 := ⟨by decide +kernel, rfl⟩
theorem md_Flow_reachedFrom_27 : mz_d mb_Flow_reachedFrom 27 (.getfield 33) 3 30 := ⟨by decide +kernel, rfl⟩
theorem md_Flow_reachedFrom_30 : mz_d mb_Flow_reachedFrom 30 (.getfield 46) 3 33 := ⟨by decide +kernel, rfl⟩
theorem md_Flow_reachedFrom_33 : mz_d mb_Flow_reachedFrom 33 (.if_icmp .ge 34) 3 36 := ⟨by decide +kernel, rfl⟩
theorem md_Flow_reachedFrom_36 : mz_d mb_Flow_reachedFrom 36 (.iload_n 3) 1 37 := ⟨by decide +kernel, rfl⟩
theorem md_Flow_reachedFrom_37 : mz_d mb_Flow_reachedFrom 37 (.iload 6) 2 39 := ⟨by decide +kernel, rfl⟩
theorem md_Flow_reachedFrom_39 : mz_d mb_Flow_reachedFrom 39 (.invokestatic 75) 3 42 := ⟨by decide +kernel, rfl⟩
theorem md_Flow_reachedFrom_42 : mz_d mb_Flow_reachedFrom 42 (.ifCond .eq 19) 3 45 := ⟨by decide +kernel, rfl⟩
theorem md_Flow_reachedFrom_45 : mz_d mb_Flow_reachedFrom 45 (.iload 5) 2 47 := ⟨by decide +kernel, rfl⟩
theorem md_Flow_reachedFrom_47 : mz_d mb_Flow_reachedFrom 47 (.aload_n 0) 1 48 := ⟨by decide +kernel, rfl⟩
theorem md_Flow_reachedFrom_48 : mz_d mb_Flow_reachedFrom 48 (.getfield 9) 3 51 := ⟨by decide +kernel, rfl⟩
theorem md_Flow_reachedFrom_51 : mz_d mb_Flow_reachedFrom 51 (.iload 6) 2 53 := ⟨by decide +kernel, rfl⟩
theorem md_Flow_reachedFrom_53 : mz_d mb_Flow_reachedFrom 53 (.iaload) 1 54 := ⟨by decide +kernel, rfl⟩
theorem md_Flow_reachedFrom_54 : mz_d mb_Flow_reachedFrom 54 (.iload_n 2) 1 55 := ⟨by decide +kernel, rfl⟩
theorem md_Flow_reachedFrom_55 : mz_d mb_Flow_reachedFrom 55 (.iconst (-1)) 1 56 := ⟨by decide +kernel, rfl⟩
theorem md_Flow_reachedFrom_56 : mz_d mb_Flow_reachedFrom 56 (.ixor) 1 57 := ⟨by decide +kernel, rfl⟩
theorem md_Flow_reachedFrom_57 : mz_d mb_Flow_reachedFrom 57 (.iand) 1 58 := ⟨by decide +kernel, rfl⟩
theorem md_Flow_reachedFrom_58 : mz_d mb_Flow_reachedFrom 58 (.ior) 1 59 := ⟨by decide +kernel, rfl⟩
theorem md_Flow_reachedFrom_59 : mz_d mb_Flow_reachedFrom 59 (.istore 5) 2 61 := ⟨by decide +kernel, rfl⟩
theorem md_Flow_reachedFrom_61 : mz_d mb_Flow_reachedFrom 61 (.iinc 6 1) 3 64 := ⟨by decide +kernel, rfl⟩
theorem md_Flow_reachedFrom_64 : mz_d mb_Flow_reachedFrom 64 (.goto (-40)) 3 67 := ⟨by decide +kernel, rfl⟩
theorem md_Flow_reachedFrom_67 : mz_d mb_Flow_reachedFrom 67 (.iload 5) 2 69 := ⟨by decide +kernel, rfl⟩
theorem md_Flow_reachedFrom_69 : mz_d mb_Flow_reachedFrom 69 (.iload_n 3) 1 70 := ⟨by decide +kernel, rfl⟩
theorem md_Flow_reachedFrom_70 : mz_d mb_Flow_reachedFrom 70 (.if_icmp .ne 5) 3 73 := ⟨by decide +kernel, rfl⟩
theorem md_Flow_reachedFrom_73 : mz_d mb_Flow_reachedFrom 73 (.iload_n 3) 1 74 := ⟨by decide +kernel, rfl⟩
theorem md_Flow_reachedFrom_74 : mz_d mb_Flow_reachedFrom 74 (.ireturn) 1 75 := ⟨by decide +kernel, rfl⟩
theorem md_Flow_reachedFrom_75 : mz_d mb_Flow_reachedFrom 75 (.iload 5) 2 77 := ⟨by decide +kernel, rfl⟩
theorem md_Flow_reachedFrom_77 : mz_d mb_Flow_reachedFrom 77 (.istore_n 3) 1 78 := ⟨by decide +kernel, rfl⟩
theorem md_Flow_reachedFrom_78 : mz_d mb_Flow_reachedFrom 78 (.iinc 4 1) 3 81 := ⟨by decide +kernel, rfl⟩
theorem md_Flow_reachedFrom_81 : mz_d mb_Flow_reachedFrom 81 (.goto (-70)) 3 84 := ⟨by decide +kernel, rfl⟩
theorem md_Flow_reachedFrom_84 : mz_d mb_Flow_reachedFrom 84 (.iload_n 3) 1 85 := ⟨by decide +kernel, rfl⟩
theorem md_Flow_reachedFrom_85 : mz_d mb_Flow_reachedFrom 85 (.ireturn) 1 86 := ⟨by decide +kernel, rfl⟩
theorem md_Flow_findEdges_0 : mz_d mb_Flow_findEdges 0 (.iconst 0) 1 1 := ⟨by decide +kernel, rfl⟩
theorem md_Flow_findEdges_1 : mz_d mb_Flow_findEdges 1 (.istore_n 1) 1 2 := ⟨by decide +kernel, rfl⟩
theorem md_Flow_findEdges_2 : mz_d mb_Flow_findEdges 2 (.iload_n 1) 1 3 := ⟨by decide +kernel, rfl⟩
theorem md_Flow_findEdges_3 : mz_d mb_Flow_findEdges 3 (.aload_n 0) 1 4 := ⟨by decide +kernel, rfl⟩
theorem md_Flow_findEdges_4 : mz_d mb_Flow_findEdges 4 (.getfield 33) 3 7 := ⟨by decide +kernel, rfl⟩
theorem md_Flow_findEdges_7 : mz_d mb_Flow_findEdges 7 (.getfield 46) 3 10 := ⟨by decide +kernel, rfl⟩
theorem md_Flow_findEdges_10 : mz_d mb_Flow_findEdges 10 (.if_icmp .ge 56) 3 13 := ⟨by decide +kernel, rfl⟩
theorem md_Flow_findEdges_13 : mz_d mb_Flow_findEdges 13 (.aload_n 0) 1 14 := ⟨by decide +kernel, rfl⟩
theorem md_Flow_findEdges_14 : mz_d mb_Flow_findEdges 14 (.getfield 9) 3 17 := ⟨by decide +kernel, rfl⟩
theorem md_Flow_findEdges_17 : mz_d mb_Flow_findEdges 17 (.iload_n 1) 1 18 := ⟨by decide +kernel, rfl⟩
theorem md_Flow_findEdges_18 : mz_d mb_Flow_findEdges 18 (.iconst 0) 1 19 := ⟨by decide +kernel, rfl⟩
theorem md_Flow_findEdges_19 : mz_d mb_Flow_findEdges 19 (.iastore) 1 20 := ⟨by decide +kernel, rfl⟩
theorem md_Flow_findEdges_20 : mz_d mb_Flow_findEdges 20 (.iconst 0) 1 21 := ⟨by decide +kernel, rfl⟩
theorem md_Flow_findEdges_21 : mz_d mb_Flow_findEdges 21 (.istore_n 2) 1 22 := ⟨by decide +kernel, rfl⟩
theorem md_Flow_findEdges_22 : mz_d mb_Flow_findEdges 22 (.iload_n 2) 1 23 := ⟨by decide +kernel, rfl⟩
theorem md_Flow_findEdges_23 : mz_d mb_Flow_findEdges 23 (.aload_n 0) 1 24 := ⟨by decide +kernel, rfl⟩
theorem md_Flow_findEdges_24 : mz_d mb_Flow_findEdges 24 (.getfield 33) 3 27 := ⟨by decide +kernel, rfl⟩
theorem md_Flow_findEdges_27 : mz_d mb_Flow_findEdges 27 (.iload_n 1) 1 28 := ⟨by decide +kernel, rfl⟩
theorem md_Flow_findEdges_28 : mz_d mb_Flow_findEdges 28 (.invokevirtual 79) 3 31 := ⟨by decide +kernel, rfl⟩
theorem md_Flow_findEdges_31 : mz_d mb_Flow_findEdges 31 (.if_icmp .ge 29) 3 34 := ⟨by decide +kernel, rfl⟩
theorem md_Flow_findEdges_34 : mz_d mb_Flow_findEdges 34 (.aload_n 0) 1 35 := ⟨by decide +kernel, rfl⟩
theorem md_Flow_findEdges_35 : mz_d mb_Flow_findEdges 35 (.getfield 9) 3 38 := ⟨by decide +kernel, rfl⟩
theorem md_Flow_findEdges_38 : mz_d mb_Flow_findEdges 38 (.iload_n 1) 1 39 := ⟨by decide +kernel, rfl⟩
theorem md_Flow_findEdges_39 : mz_d mb_Flow_findEdges 39 (.dup2) 1 40 := ⟨by decide +kernel, rfl⟩
theorem md_Flow_findEdges_40 : mz_d mb_Flow_findEdges 40 (.iaload) 1 41 := ⟨by decide +kernel, rfl⟩
theorem md_Flow_findEdges_41 : mz_d mb_Flow_findEdges 41 (.iconst 1) 1 42 := ⟨by decide +kernel, rfl⟩
theorem md_Flow_findEdges_42 : mz_d mb_Flow_findEdges 42 (.aload_n 0) 1 43 := ⟨by decide +kernel, rfl⟩
theorem md_Flow_findEdges_43 : mz_d mb_Flow_findEdges 43 (.getfield 33) 3 46 := ⟨by decide +kernel, rfl⟩
theorem md_Flow_findEdges_46 : mz_d mb_Flow_findEdges 46 (.iload_n 1) 1 47 := ⟨by decide +kernel, rfl⟩
theorem md_Flow_findEdges_47 : mz_d mb_Flow_findEdges 47 (.iload_n 2) 1 48 := ⟨by decide +kernel, rfl⟩
theorem md_Flow_findEdges_48 : mz_d mb_Flow_findEdges 48 (.invokevirtual 83) 3 51 := ⟨by decide +kernel, rfl⟩
theorem md_Flow_findEdges_51 : mz_d mb_Flow_findEdges 51 (.ishl) 1 52 := ⟨by decide +kernel, rfl⟩
theorem md_Flow_findEdges_52 : mz_d mb_Flow_findEdges 52 (.ior) 1 53 := ⟨by decide +kernel, rfl⟩
theorem md_Flow_findEdges_53 : mz_d mb_Flow_findEdges 53 (.iastore) 1 54 := ⟨by decide +kernel, rfl⟩
theorem md_Flow_findEdges_54 : mz_d mb_Flow_findEdges 54 (.iinc 2 1) 3 57 := ⟨by decide +kernel, rfl⟩
theorem md_Flow_findEdges_57 : mz_d mb_Flow_findEdges 57 (.goto (-35)) 3 60 := ⟨by decide +kernel, rfl⟩
theorem md_Flow_findEdges_60 : mz_d mb_Flow_findEdges 60 (.iinc 1 1) 3 63 := ⟨by decide +kernel, rfl⟩
theorem md_Flow_findEdges_63 : mz_d mb_Flow_findEdges 63 (.goto (-61)) 3 66 := ⟨by decide +kernel, rfl⟩
theorem md_Flow_findEdges_66 : mz_d mb_Flow_findEdges 66 (.aload_n 0) 1 67 := ⟨by decide +kernel, rfl⟩
theorem md_Flow_findEdges_67 : mz_d mb_Flow_findEdges 67 (.aload_n 0) 1 68 := ⟨by decide +kernel, rfl⟩
theorem md_Flow_findEdges_68 : mz_d mb_Flow_findEdges 68 (.getfield 33) 3 71 := ⟨by decide +kernel, rfl⟩
theorem md_Flow_findEdges_71 : mz_d mb_Flow_findEdges 71 (.getfield 46) 3 74 := ⟨by decide +kernel, rfl⟩
theorem md_Flow_findEdges_74 : mz_d mb_Flow_findEdges 74 (.ifCond .ne 7) 3 77 := ⟨by decide +kernel, rfl⟩
theorem md_Flow_findEdges_77 : mz_d mb_Flow_findEdges 77 (.iconst 0) 1 78 := ⟨by decide +kernel, rfl⟩
theorem md_Flow_findEdges_78 : mz_d mb_Flow_findEdges 78 (.goto 9) 3 81 := ⟨by decide +kernel, rfl⟩
theorem md_Flow_findEdges_81 : mz_d mb_Flow_findEdges 81 (.aload_n 0) 1 82 := ⟨by decide +kernel, rfl⟩
theorem md_Flow_findEdges_82 : mz_d mb_Flow_findEdges 82 (.iconst 0) 1 83 := ⟨by decide +kernel, rfl⟩
theorem md_Flow_findEdges_83 : mz_d mb_Flow_findEdges 83 (.iconst 0) 1 84 := ⟨by decide +kernel, rfl⟩
theorem md_Flow_findEdges_84 : mz_d mb_Flow_findEdges 84 (.invokevirtual 87) 3 87 := ⟨by decide +kernel, rfl⟩
theorem md_Flow_findEdges_87 : mz_d mb_Flow_findEdges 87 (.putfield 72) 3 90 := ⟨by decide +kernel, rfl⟩
theorem md_Flow_findEdges_90 : mz_d mb_Flow_findEdges 90 (.aload_n 0) 1 91 := ⟨by decide +kernel, rfl⟩
theorem md_Flow_findEdges_91 : mz_d mb_Flow_findEdges 91 (.getfield 15) 3 94 := ⟨by decide +kernel, rfl⟩
theorem md_Flow_findEdges_94 : mz_d mb_Flow_findEdges 94 (.iconst 0) 1 95 := ⟨by decide +kernel, rfl⟩
theorem md_Flow_findEdges_95 : mz_d mb_Flow_findEdges 95 (.invokestatic 59) 3 98 := ⟨by decide +kernel, rfl⟩
theorem md_Flow_findEdges_98 : mz_d mb_Flow_findEdges 98 (.iconst 0) 1 99 := ⟨by decide +kernel, rfl⟩
theorem md_Flow_findEdges_99 : mz_d mb_Flow_findEdges 99 (.istore_n 1) 1 100 := ⟨by decide +kernel, rfl⟩
theorem md_Flow_findEdges_100 : mz_d mb_Flow_findEdges 100 (.iload_n 1) 1 101 := ⟨by decide +kernel, rfl⟩
theorem md_Flow_findEdges_101 : mz_d mb_Flow_findEdges 101 (.aload_n 0) 1 102 := ⟨by decide +kernel, rfl⟩
theorem md_Flow_findEdges_102 : mz_d mb_Flow_findEdges 102 (.getfield 33) 3 105 := ⟨by decide +kernel, rfl⟩
theorem md_Flow_findEdges_105 : mz_d mb_Flow_findEdges 105 (.getfield 46) 3 108 := ⟨by decide +kernel, rfl⟩
theorem md_Flow_findEdges_108 : mz_d mb_Flow_findEdges 108 (.if_icmp .ge 60) 3 111 := ⟨by decide +kernel, rfl⟩
theorem md_Flow_findEdges_111 : mz_d mb_Flow_findEdges 111 (.iconst 0) 1 112 := ⟨by decide +kernel, rfl⟩
theorem md_Flow_findEdges_112 : mz_d mb_Flow_findEdges 112 (.istore_n 2) 1 113 := ⟨by decide +kernel, rfl⟩
theorem md_Flow_findEdges_113 : mz_d mb_Flow_findEdges 113 (.iload_n 2) 1 114 := ⟨by decide +kernel, rfl⟩
theorem md_Flow_findEdges_114 : mz_d mb_Flow_findEdges 114 (.aload_n 0) 1 115 := ⟨by decide +kernel, rfl⟩
theorem md_Flow_findEdges_115 : mz_d mb_Flow_findEdges 115 (.getfield 33) 3 118 := ⟨by decide +kernel, rfl⟩
theorem md_Flow_findEdges_118 : mz_d mb_Flow_findEdges 118 (.iload_n 1) 1 119 := ⟨by decide +kernel, rfl⟩
theorem md_Flow_findEdges_119 : mz_d mb_Flow_findEdges 119 (.invokevirtual 79) 3 122 := ⟨by decide +kernel, rfl⟩
theorem md_Flow_findEdges_122 : mz_d mb_Flow_findEdges 122 (.if_icmp .ge 40) 3 125 := ⟨by decide +kernel, rfl⟩
theorem md_Flow_findEdges_125 : mz_d mb_Flow_findEdges 125 (.aload_n 0) 1 126 := ⟨by decide +kernel, rfl⟩
theorem md_Flow_findEdges_126 : mz_d mb_Flow_findEdges 126 (.getfield 72) 3 129 := ⟨by decide +kernel, rfl⟩
theorem md_Flow_findEdges_129 : mz_d mb_Flow_findEdges 129 (.iload_n 1) 1 130 := ⟨by decide +kernel, rfl⟩
theorem md_Flow_findEdges_130 : mz_d mb_Flow_findEdges 130 (.invokestatic 75) 3 133 := ⟨by decide +kernel, rfl⟩
theorem md_Flow_findEdges_133 : mz_d mb_Flow_findEdges 133 (.ifCond .eq 29) 3 136 := ⟨by decide +kernel, rfl⟩
theorem md_Flow_findEdges_136 : mz_d mb_Flow_findEdges 136 (.aload_n 0) 1 137 := ⟨by decide +kernel, rfl⟩
theorem md_Flow_findEdges_137 : mz_d mb_Flow_findEdges 137 (.getfield 15) 3 140 := ⟨by decide +kernel, rfl⟩
theorem md_Flow_findEdges_140 : mz_d mb_Flow_findEdges 140 (.aload_n 0) 1 141 := ⟨by decide +kernel, rfl⟩
theorem md_Flow_findEdges_141 : mz_d mb_Flow_findEdges 141 (.getfield 33) 3 144 := ⟨by decide +kernel, rfl⟩
theorem md_Flow_findEdges_144 : mz_d mb_Flow_findEdges 144 (.iload_n 1) 1 145 := ⟨by decide +kernel, rfl⟩
theorem md_Flow_findEdges_145 : mz_d mb_Flow_findEdges 145 (.iload_n 2) 1 146 := ⟨by decide +kernel, rfl⟩
theorem md_Flow_findEdges_146 : mz_d mb_Flow_findEdges 146 (.invokevirtual 83) 3 149 := ⟨by decide +kernel, rfl⟩
theorem md_Flow_findEdges_149 : mz_d mb_Flow_findEdges 149 (.dup2) 1 150 := ⟨by decide +kernel, rfl⟩
theorem md_Flow_findEdges_150 : mz_d mb_Flow_findEdges 150 (.iaload) 1 151 := ⟨by decide +kernel, rfl⟩
theorem md_Flow_findEdges_151 : mz_d mb_Flow_findEdges 151 (.iconst 1) 1 152 := ⟨by decide +kernel, rfl⟩
theorem md_Flow_findEdges_152 : mz_d mb_Flow_findEdges 152 (.iload_n 1) 1 153 := ⟨by decide +kernel, rfl⟩
theorem md_Flow_findEdges_153 : mz_d mb_Flow_findEdges 153 (.ishl) 1 154 := ⟨by decide +kernel, rfl⟩
theorem md_Flow_findEdges_154 : mz_d mb_Flow_findEdges 154 (.ior) 1 155 := ⟨by decide +kernel, rfl⟩
theorem md_Flow_findEdges_155 : mz_d mb_Flow_findEdges 155 (.iastore) 1 156 := ⟨by decide +kernel, rfl⟩
theorem md_Flow_findEdges_156 : mz_d mb_Flow_findEdges 156 (.iinc 2 1) 3 159 := ⟨by decide +kernel, rfl⟩
theorem md_Flow_findEdges_159 : mz_d mb_Flow_findEdges 159 (.goto (-46)) 3 162 := ⟨by decide +kernel, rfl⟩
theorem md_Flow_findEdges_162 : mz_d mb_Flow_findEdges 162 (.iinc 1 1) 3 165 := ⟨by decide +kernel, rfl⟩
theorem md_Flow_findEdges_165 : mz_d mb_Flow_findEdges 165 (.goto (-65)) 3 168 := ⟨by decide +kernel, rfl⟩
theorem md_Flow_findEdges_168 : mz_d mb_Flow_findEdges 168 (.return_) 1 169 := ⟨by decide +kernel, rfl⟩
theorem md_Flow_goThrough_0 : mz_d mb_Flow_goThrough 0 (.aload_n 0) 1 1 := ⟨by decide +kernel, rfl⟩
theorem md_Flow_goThrough_1 : mz_d mb_Flow_goThrough 1 (.getfield 90) 3 4 := ⟨by decide +kernel, rfl⟩
theorem md_Flow_goThrough_4 : mz_d mb_Flow_goThrough 4 (.iload_n 1) 1 5 := ⟨by decide +kernel, rfl⟩
theorem md_Flow_goThrough_5 : mz_d mb_Flow_goThrough 5 (.invokestatic 75) 3 8 := ⟨by decide +kernel, rfl⟩
theorem md_Flow_goThrough_8 : mz_d mb_Flow_goThrough 8 (.ifCond .ne 9) 3 11 := ⟨by decide +kernel, rfl⟩
theorem md_Flow_goThrough_11 : mz_d mb_Flow_goThrough 11 (.iload_n 2) 1 12 := ⟨by decide +kernel, rfl⟩
theorem md_Flow_goThrough_12 : mz_d mb_Flow_goThrough 12 (.bipush 10) 2 14 := ⟨by decide +kernel, rfl⟩
theorem md_Flow_goThrough_14 : mz_d mb_Flow_goThrough 14 (.if_icmp .lt 4) 3 17 := ⟨by decide +kernel, rfl⟩
theorem md_Flow_goThrough_17 : mz_d mb_Flow_goThrough 17 (.return_) 1 18 := ⟨by decide +kernel, rfl⟩
theorem md_Flow_goThrough_18 : mz_d mb_Flow_goThrough 18 (.aload_n 0) 1 19 := ⟨by decide +kernel, rfl⟩
theorem md_Flow_goThrough_19 : mz_d mb_Flow_goThrough 19 (.dup) 1 20 := ⟨by decide +kernel, rfl⟩
theorem md_Flow_goThrough_20 : mz_d mb_Flow_goThrough 20 (.getfield 90) 3 23 := ⟨by decide +kernel, rfl⟩
theorem md_Flow_goThrough_23 : mz_d mb_Flow_goThrough 23 (.iconst 1) 1 24 := ⟨by decide +kernel, rfl⟩
theorem md_Flow_goThrough_24 : mz_d mb_Flow_goThrough 24 (.iload_n 1) 1 25 := ⟨by decide +kernel, rfl⟩
theorem md_Flow_goThrough_25 : mz_d mb_Flow_goThrough 25 (.ishl) 1 26 := ⟨by decide +kernel, rfl⟩
theorem md_Flow_goThrough_26 : mz_d mb_Flow_goThrough 26 (.ior) 1 27 := ⟨by decide +kernel, rfl⟩
theorem md_Flow_goThrough_27 : mz_d mb_Flow_goThrough 27 (.putfield 90) 3 30 := ⟨by decide +kernel, rfl⟩
theorem md_Flow_goThrough_30 : mz_d mb_Flow_goThrough 30 (.iconst 0) 1 31 := ⟨by decide +kernel, rfl⟩
theorem md_Flow_goThrough_31 : mz_d mb_Flow_goThrough 31 (.istore_n 3) 1 32 := ⟨by decide +kernel, rfl⟩
theorem md_Flow_goThrough_32 : mz_d mb_Flow_goThrough 32 (.iload_n 3) 1 33 := ⟨by decide +kernel, rfl⟩
theorem md_Flow_goThrough_33 : mz_d mb_Flow_goThrough 33 (.aload_n 0) 1 34 := ⟨by decide +kernel, rfl⟩
theorem md_Flow_goThrough_34 : mz_d mb_Flow_goThrough 34 (.getfield 33) 3 37 := ⟨by decide +kernel, rfl⟩
theorem md_Flow_goThrough_37 : mz_d mb_Flow_goThrough 37 (.iload_n 1) 1 38 := ⟨by decide +kernel, rfl⟩
theorem md_Flow_goThrough_38 : mz_d mb_Flow_goThrough 38 (.invokevirtual 79) 3 41 := ⟨by decide +kernel, rfl⟩
theorem md_Flow_goThrough_41 : mz_d mb_Flow_goThrough 41 (.if_icmp .ge 25) 3 44 := ⟨by decide +kernel, rfl⟩
theorem md_Flow_goThrough_44 : mz_d mb_Flow_goThrough 44 (.aload_n 0) 1 45 := ⟨by decide +kernel, rfl⟩
theorem md_Flow_goThrough_45 : mz_d mb_Flow_goThrough 45 (.aload_n 0) 1 46 := ⟨by decide +kernel, rfl⟩
theorem md_Flow_goThrough_46 : mz_d mb_Flow_goThrough 46 (.getfield 33) 3 49 := ⟨by decide +kernel, rfl⟩
theorem md_Flow_goThrough_49 : mz_d mb_Flow_goThrough 49 (.iload_n 1) 1 50 := ⟨by decide +kernel, rfl⟩
theorem md_Flow_goThrough_50 : mz_d mb_Flow_goThrough 50 (.iload_n 3) 1 51 := ⟨by decide +kernel, rfl⟩
theorem md_Flow_goThrough_51 : mz_d mb_Flow_goThrough 51 (.invokevirtual 83) 3 54 := ⟨by decide +kernel, rfl⟩
theorem md_Flow_goThrough_54 : mz_d mb_Flow_goThrough 54 (.iload_n 2) 1 55 := ⟨by decide +kernel, rfl⟩
theorem md_Flow_goThrough_55 : mz_d mb_Flow_goThrough 55 (.iconst 1) 1 56 := ⟨by decide +kernel, rfl⟩
theorem md_Flow_goThrough_56 : mz_d mb_Flow_goThrough 56 (.iadd) 1 57 := ⟨by decide +kernel, rfl⟩
theorem md_Flow_goThrough_57 : mz_d mb_Flow_goThrough 57 (.invokevirtual 96) 3 60 := ⟨by decide +kernel, rfl⟩
theorem md_Flow_goThrough_60 : mz_d mb_Flow_goThrough 60 (.iinc 3 1) 3 63 := ⟨by decide +kernel, rfl⟩
theorem md_Flow_goThrough_63 : mz_d mb_Flow_goThrough 63 (.goto (-31)) 3 66 := ⟨by decide +kernel, rfl⟩
theorem md_Flow_goThrough_66 : mz_d mb_Flow_goThrough 66 (.aload_n 0) 1 67 := ⟨by decide +kernel, rfl⟩
theorem md_Flow_goThrough_67 : mz_d mb_Flow_goThrough 67 (.getfield 18) 3 70 := ⟨by decide +kernel, rfl⟩
theorem md_Flow_goThrough_70 : mz_d mb_Flow_goThrough 70 (.aload_n 0) 1 71 := ⟨by decide +kernel, rfl⟩
theorem md_Flow_goThrough_71 : mz_d mb_Flow_goThrough 71 (.getfield 93) 3 74 := ⟨by decide +kernel, rfl⟩
theorem md_Flow_goThrough_74 : mz_d mb_Flow_goThrough 74 (.iload_n 1) 1 75 := ⟨by decide +kernel, rfl⟩
theorem md_Flow_goThrough_75 : mz_d mb_Flow_goThrough 75 (.iastore) 1 76 := ⟨by decide +kernel, rfl⟩
theorem md_Flow_goThrough_76 : mz_d mb_Flow_goThrough 76 (.aload_n 0) 1 77 := ⟨by decide +kernel, rfl⟩
theorem md_Flow_goThrough_77 : mz_d mb_Flow_goThrough 77 (.dup) 1 78 := ⟨by decide +kernel, rfl⟩
theorem md_Flow_goThrough_78 : mz_d mb_Flow_goThrough 78 (.getfield 93) 3 81 := ⟨by decide +kernel, rfl⟩
theorem md_Flow_goThrough_81 : mz_d mb_Flow_goThrough 81 (.iconst 1) 1 82 := ⟨by decide +kernel, rfl⟩
theorem md_Flow_goThrough_82 : mz_d mb_Flow_goThrough 82 (.iadd) 1 83 := ⟨by decide +kernel, rfl⟩
theorem md_Flow_goThrough_83 : mz_d mb_Flow_goThrough 83 (.putfield 93) 3 86 := ⟨by decide +kernel, rfl⟩
theorem md_Flow_goThrough_86 : mz_d mb_Flow_goThrough 86 (.return_) 1 87 := ⟨by decide +kernel, rfl⟩
theorem md_Flow_findOrder_0 : mz_d mb_Flow_findOrder 0 (.aload_n 0) 1 1 := ⟨by decide +kernel, rfl⟩
theorem md_Flow_findOrder_1 : mz_d mb_Flow_findOrder 1 (.iconst 0) 1 2 := ⟨by decide +kernel, rfl⟩
theorem md_Flow_findOrder_2 : mz_d mb_Flow_findOrder 2 (.putfield 90) 3 5 := ⟨by decide +kernel, rfl⟩
theorem md_Flow_findOrder_5 : mz_d mb_Flow_findOrder 5 (.aload_n 0) 1 6 := ⟨by decide +kernel, rfl⟩
theorem md_Flow_findOrder_6 : mz_d mb_Flow_findOrder 6 (.iconst 0) 1 7 := ⟨by decide +kernel, rfl⟩
theorem md_Flow_findOrder_7 : mz_d mb_Flow_findOrder 7 (.putfield 93) 3 10 := ⟨by decide +kernel, rfl⟩
theorem md_Flow_findOrder_10 : mz_d mb_Flow_findOrder 10 (.aload_n 0) 1 11 := ⟨by decide +kernel, rfl⟩
theorem md_Flow_findOrder_11 : mz_d mb_Flow_findOrder 11 (.getfield 33) 3 14 := ⟨by decide +kernel, rfl⟩
theorem md_Flow_findOrder_14 : mz_d mb_Flow_findOrder 14 (.getfield 46) 3 17 := ⟨by decide +kernel, rfl⟩
theorem md_Flow_findOrder_17 : mz_d mb_Flow_findOrder 17 (.ifCond .le 9) 3 20 := ⟨by decide +kernel, rfl⟩
theorem md_Flow_findOrder_20 : mz_d mb_Flow_findOrder 20 (.aload_n 0) 1 21 := ⟨by decide +kernel, rfl⟩
theorem md_Flow_findOrder_21 : mz_d mb_Flow_findOrder 21 (.iconst 0) 1 22 := ⟨by decide +kernel, rfl⟩
theorem md_Flow_findOrder_22 : mz_d mb_Flow_findOrder 22 (.iconst 0) 1 23 := ⟨by decide +kernel, rfl⟩
theorem md_Flow_findOrder_23 : mz_d mb_Flow_findOrder 23 (.invokevirtual 96) 3 26 := ⟨by decide +kernel, rfl⟩
theorem md_Flow_findOrder_26 : mz_d mb_Flow_findOrder 26 (.iconst 0) 1 27 := ⟨by decide +kernel, rfl⟩
theorem md_Flow_findOrder_27 : mz_d mb_Flow_findOrder 27 (.istore_n 1) 1 28 := ⟨by decide +kernel, rfl⟩
theorem md_Flow_findOrder_28 : mz_d mb_Flow_findOrder 28 (.iload_n 1) 1 29 := ⟨by decide +kernel, rfl⟩
theorem md_Flow_findOrder_29 : mz_d mb_Flow_findOrder 29 (.aload_n 0) 1 30 := ⟨by decide +kernel, rfl⟩
theorem md_Flow_findOrder_30 : mz_d mb_Flow_findOrder 30 (.getfield 93) 3 33 := ⟨by decide +kernel, rfl⟩
theorem md_Flow_findOrder_33 : mz_d mb_Flow_findOrder 33 (.iconst 2) 1 34 := ⟨by decide +kernel, rfl⟩
theorem md_Flow_findOrder_34 : mz_d mb_Flow_findOrder 34 (.idiv) 1 35 := ⟨by decide +kernel, rfl⟩
theorem md_Flow_findOrder_35 : mz_d mb_Flow_findOrder 35 (.if_icmp .ge 49) 3 38 := ⟨by decide +kernel, rfl⟩
theorem md_Flow_findOrder_38 : mz_d mb_Flow_findOrder 38 (.aload_n 0) 1 39 := ⟨by decide +kernel, rfl⟩
theorem md_Flow_findOrder_39 : mz_d mb_Flow_findOrder 39 (.getfield 18) 3 42 := ⟨by decide +kernel, rfl⟩
theorem md_Flow_findOrder_42 : mz_d mb_Flow_findOrder 42 (.iload_n 1) 1 43 := ⟨by decide +kernel, rfl⟩
theorem md_Flow_findOrder_43 : mz_d mb_Flow_findOrder 43 (.iaload) 1 44 := ⟨by decide +kernel, rfl⟩
theorem md_Flow_findOrder_44 : mz_d mb_Flow_findOrder 44 (.istore_n 2) 1 45 := ⟨by decide +kernel, rfl⟩
theorem md_Flow_findOrder_45 : mz_d mb_Flow_findOrder 45 (.aload_n 0) 1 46 := ⟨by decide +kernel, rfl⟩
theorem md_Flow_findOrder_46 : mz_d mb_Flow_findOrder 46 (.getfield 18) 3 49 := ⟨by decide +kernel, rfl⟩
theorem md_Flow_findOrder_49 : mz_d mb_Flow_findOrder 49 (.iload_n 1) 1 50 := ⟨by decide +kernel, rfl⟩
theorem md_Flow_findOrder_50 : mz_d mb_Flow_findOrder 50 (.aload_n 0) 1 51 := ⟨by decide +kernel, rfl⟩
theorem md_Flow_findOrder_51 : mz_d mb_Flow_findOrder 51 (.getfield 18) 3 54 := ⟨by decide +kernel, rfl⟩
theorem md_Flow_findOrder_54 : mz_d mb_Flow_findOrder 54 (.aload_n 0) 1 55 := ⟨by decide +kernel, rfl⟩
theorem md_Flow_findOrder_55 : mz_d mb_Flow_findOrder 55 (.getfield 93) 3 58 := ⟨by decide +kernel, rfl⟩
theorem md_Flow_findOrder_58 : mz_d mb_Flow_findOrder 58 (.iconst 1) 1 59 := ⟨by decide +kernel, rfl⟩
theorem md_Flow_findOrder_59 : mz_d mb_Flow_findOrder 59 (.isub) 1 60 := ⟨by decide +kernel, rfl⟩
theorem md_Flow_findOrder_60 : mz_d mb_Flow_findOrder 60 (.iload_n 1) 1 61 := ⟨by decide +kernel, rfl⟩
theorem md_Flow_findOrder_61 : mz_d mb_Flow_findOrder 61 (.isub) 1 62 := ⟨by decide +kernel, rfl⟩
theorem md_Flow_findOrder_62 : mz_d mb_Flow_findOrder 62 (.iaload) 1 63 := ⟨by decide +kernel, rfl⟩
theorem md_Flow_findOrder_63 : mz_d mb_Flow_findOrder 63 (.iastore) 1 64 := ⟨by decide +kernel, rfl⟩
theorem md_Flow_findOrder_64 : mz_d mb_Flow_findOrder 64 (.aload_n 0) 1 65 := ⟨by decide +kernel, rfl⟩
theorem md_Flow_findOrder_65 : mz_d mb_Flow_findOrder 65 (.getfield 18) 3 68 := ⟨by decide +kernel, rfl⟩
theorem md_Flow_findOrder_68 : mz_d mb_Flow_findOrder 68 (.aload_n 0) 1 69 := ⟨by decide +kernel, rfl⟩
theorem md_Flow_findOrder_69 : mz_d mb_Flow_findOrder 69 (.getfield 93) 3 72 := ⟨by decide +kernel, rfl⟩
theorem md_Flow_findOrder_72 : mz_d mb_Flow_findOrder 72 (.iconst 1) 1 73 := ⟨by decide +kernel, rfl⟩
theorem md_Flow_findOrder_73 : mz_d mb_Flow_findOrder 73 (.isub) 1 74 := ⟨by decide +kernel, rfl⟩
theorem md_Flow_findOrder_74 : mz_d mb_Flow_findOrder 74 (.iload_n 1) 1 75 := ⟨by decide +kernel, rfl⟩
theorem md_Flow_findOrder_75 : mz_d mb_Flow_findOrder 75 (.isub) 1 76 := ⟨by decide +kernel, rfl⟩
theorem md_Flow_findOrder_76 : mz_d mb_Flow_findOrder 76 (.iload_n 2) 1 77 := ⟨by decide +kernel, rfl⟩
theorem md_Flow_findOrder_77 : mz_d mb_Flow_findOrder 77 (.iastore) 1 78 := ⟨by decide +kernel, rfl⟩
theorem md_Flow_findOrder_78 : mz_d mb_Flow_findOrder 78 (.iinc 1 1) 3 81 := ⟨by decide +kernel, rfl⟩
theorem md_Flow_findOrder_81 : mz_d mb_Flow_findOrder 81 (.goto (-53)) 3 84 := ⟨by decide +kernel, rfl⟩
theorem md_Flow_findOrder_84 : mz_d mb_Flow_findOrder 84 (.return_) 1 85 := ⟨by decide +kernel, rfl⟩
theorem md_Flow_findDominators_0 : mz_d mb_Flow_findDominators 0 (.aload_n 0) 1 1 := ⟨by decide +kernel, rfl⟩
theorem md_Flow_findDominators_1 : mz_d mb_Flow_findDominators 1 (.getfield 21) 3 4 := ⟨by decide +kernel, rfl⟩
theorem md_Flow_findDominators_4 : mz_d mb_Flow_findDominators 4 (.iconst 0) 1 5 := ⟨by decide +kernel, rfl⟩
theorem md_Flow_findDominators_5 : mz_d mb_Flow_findDominators 5 (.invokestatic 59) 3 8 := ⟨by decide +kernel, rfl⟩
theorem md_Flow_findDominators_8 : mz_d mb_Flow_findDominators 8 (.iconst 0) 1 9 := ⟨by decide +kernel, rfl⟩
theorem md_Flow_findDominators_9 : mz_d mb_Flow_findDominators 9 (.istore_n 1) 1 10 := ⟨by decide +kernel, rfl⟩
theorem md_Flow_findDominators_10 : mz_d mb_Flow_findDominators 10 (.iload_n 1) 1 11 := ⟨by decide +kernel, rfl⟩
theorem md_Flow_findDominators_11 : mz_d mb_Flow_findDominators 11 (.aload_n 0) 1 12 := ⟨by decide +kernel, rfl⟩
theorem md_Flow_findDominators_12 : mz_d mb_Flow_findDominators 12 (.getfield 33) 3 15 := ⟨by decide +kernel, rfl⟩
theorem md_Flow_findDominators_15 : mz_d mb_Flow_findDominators 15 (.getfield 46) 3 18 := ⟨by decide +kernel, rfl⟩
theorem md_Flow_findDominators_18 : mz_d mb_Flow_findDominators 18 (.if_icmp .ge 64) 3 21 := ⟨by decide +kernel, rfl⟩
theorem md_Flow_findDominators_21 : mz_d mb_Flow_findDominators 21 (.aload_n 0) 1 22 := ⟨by decide +kernel, rfl⟩
theorem md_Flow_findDominators_22 : mz_d mb_Flow_findDominators 22 (.iconst 0) 1 23 := ⟨by decide +kernel, rfl⟩
theorem md_Flow_findDominators_23 : mz_d mb_Flow_findDominators 23 (.iconst 1) 1 24 := ⟨by decide +kernel, rfl⟩
theorem md_Flow_findDominators_24 : mz_d mb_Flow_findDominators 24 (.iload_n 1) 1 25 := ⟨by decide +kernel, rfl⟩
theorem md_Flow_findDominators_25 : mz_d mb_Flow_findDominators 25 (.ishl) 1 26 := ⟨by decide +kernel, rfl⟩
theorem md_Flow_findDominators_26 : mz_d mb_Flow_findDominators 26 (.invokevirtual 87) 3 29 := ⟨by decide +kernel, rfl⟩
theorem md_Flow_findDominators_29 : mz_d mb_Flow_findDominators 29 (.istore_n 2) 1 30 := ⟨by decide +kernel, rfl⟩
theorem md_Flow_findDominators_30 : mz_d mb_Flow_findDominators 30 (.iconst 0) 1 31 := ⟨by decide +kernel, rfl⟩
theorem md_Flow_findDominators_31 : mz_d mb_Flow_findDominators 31 (.istore_n 3) 1 32 := ⟨by decide +kernel, rfl⟩
theorem md_Flow_findDominators_32 : mz_d mb_Flow_findDominators 32 (.iload_n 3) 1 33 := ⟨by decide +kernel, rfl⟩
theorem md_Flow_findDominators_33 : mz_d mb_Flow_findDominators 33 (.aload_n 0) 1 34 := ⟨by decide +kernel, rfl⟩
theorem md_Flow_findDominators_34 : mz_d mb_Flow_findDominators 34 (.getfield 33) 3 37 := ⟨by decide +kernel, rfl⟩
theorem md_Flow_findDominators_37 : mz_d mb_Flow_findDominators 37 (.getfield 46) 3 40 := ⟨by decide +kernel, rfl⟩
theorem md_Flow_findDominators_40 : mz_d mb_Flow_findDominators 40 (.if_icmp .ge 36) 3 43 := ⟨by decide +kernel, rfl⟩
theorem md_Flow_findDominators_43 : mz_d mb_Flow_findDominators 43 (.aload_n 0) 1 44 := ⟨by decide +kernel, rfl⟩
theorem md_Flow_findDominators_44 : mz_d mb_Flow_findDominators 44 (.getfield 72) 3 47 := ⟨by decide +kernel, rfl⟩
theorem md_Flow_findDominators_47 : mz_d mb_Flow_findDominators 47 (.iload_n 2) 1 48 := ⟨by decide +kernel, rfl⟩
theorem md_Flow_findDominators_48 : mz_d mb_Flow_findDominators 48 (.iconst (-1)) 1 49 := ⟨by decide +kernel, rfl⟩
theorem md_Flow_findDominators_49 : mz_d mb_Flow_findDominators 49 (.ixor) 1 50 := ⟨by decide +kernel, rfl⟩
theorem md_Flow_findDominators_50 : mz_d mb_Flow_findDominators 50 (.iand) 1 51 := ⟨by decide +kernel, rfl⟩
theorem md_Flow_findDominators_51 : mz_d mb_Flow_findDominators 51 (.iload_n 3) 1 52 := ⟨by decide +kernel, rfl⟩
theorem md_Flow_findDominators_52 : mz_d mb_Flow_findDominators 52 (.invokestatic 75) 3 55 := ⟨by decide +kernel, rfl⟩
theorem md_Flow_findDominators_55 : mz_d mb_Flow_findDominators 55 (.ifCond .eq 15) 3 58 := ⟨by decide +kernel, rfl⟩
theorem md_Flow_findDominators_58 : mz_d mb_Flow_findDominators 58 (.aload_n 0) 1 59 := ⟨by decide +kernel, rfl⟩
theorem md_Flow_findDominators_59 : mz_d mb_Flow_findDominators 59 (.getfield 21) 3 62 := ⟨by decide +kernel, rfl⟩
theorem md_Flow_findDominators_62 : mz_d mb_Flow_findDominators 62 (.iload_n 3) 1 63 := ⟨by decide +kernel, rfl⟩
theorem md_Flow_findDominators_63 : mz_d mb_Flow_findDominators 63 (.dup2) 1 64 := ⟨by decide +kernel, rfl⟩
theorem md_Flow_findDominators_64 : mz_d mb_Flow_findDominators 64 (.iaload) 1 65 := ⟨by decide +kernel, rfl⟩
theorem md_Flow_findDominators_65 : mz_d mb_Flow_findDominators 65 (.iconst 1) 1 66 := ⟨by decide +kernel, rfl⟩
theorem md_Flow_findDominators_66 : mz_d mb_Flow_findDominators 66 (.iload_n 1) 1 67 := ⟨by decide +kernel, rfl⟩
theorem md_Flow_findDominators_67 : mz_d mb_Flow_findDominators 67 (.ishl) 1 68 := ⟨by decide +kernel, rfl⟩
theorem md_Flow_findDominators_68 : mz_d mb_Flow_findDominators 68 (.ior) 1 69 := ⟨by decide +kernel, rfl⟩
theorem md_Flow_findDominators_69 : mz_d mb_Flow_findDominators 69 (.iastore) 1 70 := ⟨by decide +kernel, rfl⟩
theorem md_Flow_findDominators_70 : mz_d mb_Flow_findDominators 70 (.iinc 3 1) 3 73 := ⟨by decide +kernel, rfl⟩
theorem md_Flow_findDominators_73 : mz_d mb_Flow_findDominators 73 (.goto (-41)) 3 76 := ⟨by decide +kernel, rfl⟩
theorem md_Flow_findDominators_76 : mz_d mb_Flow_findDominators 76 (.iinc 1 1) 3 79 := ⟨by decide +kernel, rfl⟩
theorem md_Flow_findDominators_79 : mz_d mb_Flow_findDominators 79 (.goto (-69)) 3 82 := ⟨by decide +kernel, rfl⟩
theorem md_Flow_findDominators_82 : mz_d mb_Flow_findDominators 82 (.return_) 1 83 := ⟨by decide +kernel, rfl⟩
theorem md_Flow_findNearest_0 : mz_d mb_Flow_findNearest 0 (.aload_n 0) 1 1 := ⟨by decide +kernel, rfl⟩
theorem md_Flow_findNearest_1 : mz_d mb_Flow_findNearest 1 (.getfield 24) 3 4 := ⟨by decide +kernel, rfl⟩
theorem md_Flow_findNearest_4 : mz_d mb_Flow_findNearest 4 (.iload_n 1) 1 5 := ⟨by decide +kernel, rfl⟩
theorem md_Flow_findNearest_5 : mz_d mb_Flow_findNearest 5 (.iconst (-1)) 1 6 := ⟨by decide +kernel, rfl⟩
theorem md_Flow_findNearest_6 : mz_d mb_Flow_findNearest 6 (.iastore) 1 7 := ⟨by decide +kernel, rfl⟩
theorem md_Flow_findNearest_7 : mz_d mb_Flow_findNearest 7 (.aload_n 0) 1 8 := ⟨by decide +kernel, rfl⟩
theorem md_Flow_findNearest_8 : mz_d mb_Flow_findNearest 8 (.getfield 21) 3 11 := ⟨by decide +kernel, rfl⟩
theorem md_Flow_findNearest_11 : mz_d mb_Flow_findNearest 11 (.iload_n 1) 1 12 := ⟨by decide +kernel, rfl⟩
theorem md_Flow_findNearest_12 : mz_d mb_Flow_findNearest 12 (.iaload) 1 13 := ⟨by decide +kernel, rfl⟩
theorem md_Flow_findNearest_13 : mz_d mb_Flow_findNearest 13 (.iconst 1) 1 14 := ⟨by decide +kernel, rfl⟩
theorem md_Flow_findNearest_14 : mz_d mb_Flow_findNearest 14 (.iload_n 1) 1 15 := ⟨by decide +kernel, rfl⟩
theorem md_Flow_findNearest_15 : mz_d mb_Flow_findNearest 15 (.ishl) 1 16 := ⟨by decide +kernel, rfl⟩
theorem md_Flow_findNearest_16 : mz_d mb_Flow_findNearest 16 (.iconst (-1)) 1 17 := ⟨by decide +kernel, rfl⟩
theorem md_Flow_findNearest_17 : mz_d mb_Flow_findNearest 17 (.ixor) 1 18 := ⟨by decide +kernel, rfl⟩
theorem md_Flow_findNearest_18 : mz_d mb_Flow_findNearest 18 (.iand) 1 19 := ⟨by decide +kernel, rfl⟩
theorem md_Flow_findNearest_19 : mz_d mb_Flow_findNearest 19 (.istore_n 2) 1 20 := ⟨by decide +kernel, rfl⟩
theorem md_Flow_findNearest_20 : mz_d mb_Flow_findNearest 20 (.iconst 0) 1 21 := ⟨by decide +kernel, rfl⟩
theorem md_Flow_findNearest_21 : mz_d mb_Flow_findNearest 21 (.istore_n 3) 1 22 := ⟨by decide +kernel, rfl⟩
theorem md_Flow_findNearest_22 : mz_d mb_Flow_findNearest 22 (.iload_n 3) 1 23 := ⟨by decide +kernel, rfl⟩
theorem md_Flow_findNearest_23 : mz_d mb_Flow_findNearest 23 (.aload_n 0) 1 24 := ⟨by decide +kernel, rfl⟩
theorem md_Flow_findNearest_24 : mz_d mb_Flow_findNearest 24 (.getfield 33) 3 27 := ⟨by decide +kernel, rfl⟩
theorem md_Flow_findNearest_27 : mz_d mb_Flow_findNearest 27 (.getfield 46) 3 30 := ⟨by decide +kernel, rfl⟩
theorem md_Flow_findNearest_30 : mz_d mb_Flow_findNearest 30 (.if_icmp .ge 34) 3 33 := ⟨by decide +kernel, rfl⟩
theorem md_Flow_findNearest_33 : mz_d mb_Flow_findNearest 33 (.iload_n 2) 1 34 := ⟨by decide +kernel, rfl⟩
theorem md_Flow_findNearest_34 : mz_d mb_Flow_findNearest 34 (.iload_n 3) 1 35 := ⟨by decide +kernel, rfl⟩
theorem md_Flow_findNearest_35 : mz_d mb_Flow_findNearest 35 (.invokestatic 75) 3 38 := ⟨by decide +kernel, rfl⟩
theorem md_Flow_findNearest_38 : mz_d mb_Flow_findNearest 38 (.ifCond .eq 20) 3 41 := ⟨by decide +kernel, rfl⟩
theorem md_Flow_findNearest_41 : mz_d mb_Flow_findNearest 41 (.aload_n 0) 1 42 := ⟨by decide +kernel, rfl⟩
theorem md_Flow_findNearest_42 : mz_d mb_Flow_findNearest 42 (.getfield 21) 3 45 := ⟨by decide +kernel, rfl⟩
theorem md_Flow_findNearest_45 : mz_d mb_Flow_findNearest 45 (.iload_n 3) 1 46 := ⟨by decide +kernel, rfl⟩
theorem md_Flow_findNearest_46 : mz_d mb_Flow_findNearest 46 (.iaload) 1 47 := ⟨by decide +kernel, rfl⟩
theorem md_Flow_findNearest_47 : mz_d mb_Flow_findNearest 47 (.iload_n 2) 1 48 := ⟨by decide +kernel, rfl⟩
theorem md_Flow_findNearest_48 : mz_d mb_Flow_findNearest 48 (.if_icmp .ne 10) 3 51 := ⟨by decide +kernel, rfl⟩
theorem md_Flow_findNearest_51 : mz_d mb_Flow_findNearest 51 (.aload_n 0) 1 52 := ⟨by decide +kernel, rfl⟩
theorem md_Flow_findNearest_52 : mz_d mb_Flow_findNearest 52 (.getfield 24) 3 55 := ⟨by decide +kernel, rfl⟩
theorem md_Flow_findNearest_55 : mz_d mb_Flow_findNearest 55 (.iload_n 1) 1 56 := ⟨by decide +kernel, rfl⟩
theorem md_Flow_findNearest_56 : mz_d mb_Flow_findNearest 56 (.iload_n 3) 1 57 := ⟨by decide +kernel, rfl⟩
theorem md_Flow_findNearest_57 : mz_d mb_Flow_findNearest 57 (.iastore) 1 58 := ⟨by decide +kernel, rfl⟩
theorem md_Flow_findNearest_58 : mz_d mb_Flow_findNearest 58 (.iinc 3 1) 3 61 := ⟨by decide +kernel, rfl⟩
theorem md_Flow_findNearest_61 : mz_d mb_Flow_findNearest 61 (.goto (-39)) 3 64 := ⟨by decide +kernel, rfl⟩
theorem md_Flow_findNearest_64 : mz_d mb_Flow_findNearest 64 (.return_) 1 65 := ⟨by decide +kernel, rfl⟩
theorem md_Flow_dominates_0 : mz_d mb_Flow_dominates 0 (.aload_n 0) 1 1 := ⟨by decide +kernel, rfl⟩
theorem md_Flow_dominates_1 : mz_d mb_Flow_dominates 1 (.getfield 21) 3 4 := ⟨by decide +kernel, rfl⟩
theorem md_Flow_dominates_4 : mz_d mb_Flow_dominates 4 (.iload_n 2) 1 5 := ⟨by decide +kernel, rfl⟩
theorem md_Flow_dominates_5 : mz_d mb_Flow_dominates 5 (.iaload) 1 6 := ⟨by decide +kernel, rfl⟩
theorem md_Flow_dominates_6 : mz_d mb_Flow_dominates 6 (.iload_n 1) 1 7 := ⟨by decide +kernel, rfl⟩
theorem md_Flow_dominates_7 : mz_d mb_Flow_dominates 7 (.invokestatic 75) 3 10 := ⟨by decide +kernel, rfl⟩
theorem md_Flow_dominates_10 : mz_d mb_Flow_dominates 10 (.ireturn) 1 11 := ⟨by decide +kernel, rfl⟩
theorem md_Flow_findFrontier_0 : mz_d mb_Flow_findFrontier 0 (.iconst 0) 1 1 := ⟨by decide +kernel, rfl⟩
theorem md_Flow_findFrontier_1 : mz_d mb_Flow_findFrontier 1 (.istore_n 2) 1 2 := ⟨by decide +kernel, rfl⟩
theorem md_Flow_findFrontier_2 : mz_d mb_Flow_findFrontier 2 (.iconst 0) 1 3 := ⟨by decide +kernel, rfl⟩
theorem md_Flow_findFrontier_3 : mz_d mb_Flow_findFrontier 3 (.istore_n 3) 1 4 := ⟨by decide +kernel, rfl⟩
theorem md_Flow_findFrontier_4 : mz_d mb_Flow_findFrontier 4 (.iload_n 3) 1 5 := ⟨by decide +kernel, rfl⟩
theorem md_Flow_findFrontier_5 : mz_d mb_Flow_findFrontier 5 (.aload_n 0) 1 6 := ⟨by decide +kernel, rfl⟩
theorem md_Flow_findFrontier_6 : mz_d mb_Flow_findFrontier 6 (.getfield 33) 3 9 := ⟨by decide +kernel, rfl⟩
theorem md_Flow_findFrontier_9 : mz_d mb_Flow_findFrontier 9 (.getfield 46) 3 12 := ⟨by decide +kernel, rfl⟩
theorem md_Flow_findFrontier_12 : mz_d mb_Flow_findFrontier 12 (.if_icmp .ge 27) 3 15 := ⟨by decide +kernel, rfl⟩
theorem md_Flow_findFrontier_15 : mz_d mb_Flow_findFrontier 15 (.aload_n 0) 1 16 := ⟨by decide +kernel, rfl⟩
theorem md_Flow_findFrontier_16 : mz_d mb_Flow_findFrontier 16 (.iload_n 1) 1 17 := ⟨by decide +kernel, rfl⟩
theorem md_Flow_findFrontier_17 : mz_d mb_Flow_findFrontier 17 (.iload_n 3) 1 18 := ⟨by decide +kernel, rfl⟩
theorem md_Flow_findFrontier_18 : mz_d mb_Flow_findFrontier 18 (.invokevirtual 100) 3 21 := ⟨by decide +kernel, rfl⟩
theorem md_Flow_findFrontier_21 : mz_d mb_Flow_findFrontier 21 (.ifCond .eq 12) 3 24 := ⟨by decide +kernel, rfl⟩
theorem md_Flow_findFrontier_24 : mz_d mb_Flow_findFrontier 24 (.iload_n 2) 1 25 := ⟨by decide +kernel, rfl⟩
theorem md_Flow_findFrontier_25 : mz_d mb_Flow_findFrontier 25 (.aload_n 0) 1 26 := ⟨by decide +kernel, rfl⟩
theorem md_Flow_findFrontier_26 : mz_d mb_Flow_findFrontier 26 (.getfield 9) 3 29 := ⟨by decide +kernel, rfl⟩
theorem md_Flow_findFrontier_29 : mz_d mb_Flow_findFrontier 29 (.iload_n 3) 1 30 := ⟨by decide +kernel, rfl⟩
theorem md_Flow_findFrontier_30 : mz_d mb_Flow_findFrontier 30 (.iaload) 1 31 := ⟨by decide +kernel, rfl⟩
theorem md_Flow_findFrontier_31 : mz_d mb_Flow_findFrontier 31 (.ior) 1 32 := ⟨by decide +kernel, rfl⟩
theorem md_Flow_findFrontier_32 : mz_d mb_Flow_findFrontier 32 (.istore_n 2) 1 33 := ⟨by decide +kernel, rfl⟩
theorem md_Flow_findFrontier_33 : mz_d mb_Flow_findFrontier 33 (.iinc 3 1) 3 36 := ⟨by decide +kernel, rfl⟩
theorem md_Flow_findFrontier_36 : mz_d mb_Flow_findFrontier 36 (.goto (-32)) 3 39 := ⟨by decide +kernel, rfl⟩
theorem md_Flow_findFrontier_39 : mz_d mb_Flow_findFrontier 39 (.aload_n 0) 1 40 := ⟨by decide +kernel, rfl⟩
theorem md_Flow_findFrontier_40 : mz_d mb_Flow_findFrontier 40 (.getfield 27) 3 43 := ⟨by decide +kernel, rfl⟩
theorem md_Flow_findFrontier_43 : mz_d mb_Flow_findFrontier 43 (.iload_n 1) 1 44 := ⟨by decide +kernel, rfl⟩
theorem md_Flow_findFrontier_44 : mz_d mb_Flow_findFrontier 44 (.iconst 0) 1 45 := ⟨by decide +kernel, rfl⟩
theorem md_Flow_findFrontier_45 : mz_d mb_Flow_findFrontier 45 (.iastore) 1 46 := ⟨by decide +kernel, rfl⟩
theorem md_Flow_findFrontier_46 : mz_d mb_Flow_findFrontier 46 (.iconst 0) 1 47 := ⟨by decide +kernel, rfl⟩
theorem md_Flow_findFrontier_47 : mz_d mb_Flow_findFrontier 47 (.istore_n 3) 1 48 := ⟨by decide +kernel, rfl⟩
theorem md_Flow_findFrontier_48 : mz_d mb_Flow_findFrontier 48 (.iload_n 3) 1 49 := ⟨by decide +kernel, rfl⟩
theorem md_Flow_findFrontier_49 : mz_d mb_Flow_findFrontier 49 (.aload_n 0) 1 50 := ⟨by decide +kernel, rfl⟩
theorem md_Flow_findFrontier_50 : mz_d mb_Flow_findFrontier 50 (.getfield 33) 3 53 := ⟨by decide +kernel, rfl⟩
theorem md_Flow_findFrontier_53 : mz_d mb_Flow_findFrontier 53 (.getfield 46) 3 56 := ⟨by decide +kernel, rfl⟩
theorem md_Flow_findFrontier_56 : mz_d mb_Flow_findFrontier 56 (.if_icmp .ge 55) 3 59 := ⟨by decide +kernel, rfl⟩
theorem md_Flow_findFrontier_59 : mz_d mb_Flow_findFrontier 59 (.iload_n 3) 1 60 := ⟨by decide +kernel, rfl⟩
theorem md_Flow_findFrontier_60 : mz_d mb_Flow_findFrontier 60 (.iload_n 1) 1 61 := ⟨by decide +kernel, rfl⟩
theorem md_Flow_findFrontier_61 : mz_d mb_Flow_findFrontier 61 (.if_icmp .eq 16) 3 64 := ⟨by decide +kernel, rfl⟩
theorem md_Flow_findFrontier_64 : mz_d mb_Flow_findFrontier 64 (.aload_n 0) 1 65 := ⟨by decide +kernel, rfl⟩
theorem md_Flow_findFrontier_65 : mz_d mb_Flow_findFrontier 65 (.iload_n 1) 1 66 := ⟨by decide +kernel, rfl⟩
theorem md_Flow_findFrontier_66 : mz_d mb_Flow_findFrontier 66 (.iload_n 3) 1 67 := ⟨by decide +kernel, rfl⟩
theorem md_Flow_findFrontier_67 : mz_d mb_Flow_findFrontier 67 (.invokevirtual 100) 3 70 := ⟨by decide +kernel, rfl⟩
theorem md_Flow_findFrontier_70 : mz_d mb_Flow_findFrontier 70 (.ifCond .eq 7) 3 73 := ⟨by decide +kernel, rfl⟩
theorem md_Flow_findFrontier_73 : mz_d mb_Flow_findFrontier 73 (.iconst 1) 1 74 := ⟨by decide +kernel, rfl⟩
theorem md_Flow_findFrontier_74 : mz_d mb_Flow_findFrontier 74 (.goto 4) 3 77 := ⟨by decide +kernel, rfl⟩
theorem md_Flow_findFrontier_77 : mz_d mb_Flow_findFrontier 77 (.iconst 0) 1 78 := ⟨by decide +kernel, rfl⟩
theorem md_Flow_findFrontier_78 : mz_d mb_Flow_findFrontier 78 (.istore 4) 2 80 := ⟨by decide +kernel, rfl⟩
theorem md_Flow_findFrontier_80 : mz_d mb_Flow_findFrontier 80 (.iload_n 2) 1 81 := ⟨by decide +kernel, rfl⟩
theorem md_Flow_findFrontier_81 : mz_d mb_Flow_findFrontier 81 (.iload_n 3) 1 82 := ⟨by decide +kernel, rfl⟩
theorem md_Flow_findFrontier_82 : mz_d mb_Flow_findFrontier 82 (.invokestatic 75) 3 85 := ⟨by decide +kernel, rfl⟩
theorem md_Flow_findFrontier_85 : mz_d mb_Flow_findFrontier 85 (.ifCond .eq 20) 3 88 := ⟨by decide +kernel, rfl⟩
theorem md_Flow_findFrontier_88 : mz_d mb_Flow_findFrontier 88 (.iload 4) 2 90 := ⟨by decide +kernel, rfl⟩
theorem md_Flow_findFrontier_90 : mz_d mb_Flow_findFrontier 90 (.ifCond .ne 15) 3 93 := ⟨by decide +kernel, rfl⟩
theorem md_Flow_findFrontier_93 : mz_d mb_Flow_findFrontier 93 (.aload_n 0) 1 94 := ⟨by decide +kernel, rfl⟩
theorem md_Flow_findFrontier_94 : mz_d mb_Flow_findFrontier 94 (.getfield 27) 3 97 := ⟨by decide +kernel, rfl⟩
theorem md_Flow_findFrontier_97 : mz_d mb_Flow_findFrontier 97 (.iload_n 1) 1 98 := ⟨by decide +kernel, rfl⟩
theorem md_Flow_findFrontier_98 : mz_d mb_Flow_findFrontier 98 (.dup2) 1 99 := ⟨by decide +kernel, rfl⟩
theorem md_Flow_findFrontier_99 : mz_d mb_Flow_findFrontier 99 (.iaload) 1 100 := ⟨by decide +kernel, rfl⟩
theorem md_Flow_findFrontier_100 : mz_d mb_Flow_findFrontier 100 (.iconst 1) 1 101 := ⟨by decide +kernel, rfl⟩
theorem md_Flow_findFrontier_101 : mz_d mb_Flow_findFrontier 101 (.iload_n 3) 1 102 := ⟨by decide +kernel, rfl⟩
theorem md_Flow_findFrontier_102 : mz_d mb_Flow_findFrontier 102 (.ishl) 1 103 := ⟨by decide +kernel, rfl⟩
theorem md_Flow_findFrontier_103 : mz_d mb_Flow_findFrontier 103 (.ior) 1 104 := ⟨by decide +kernel, rfl⟩
theorem md_Flow_findFrontier_104 : mz_d mb_Flow_findFrontier 104 (.iastore) 1 105 := ⟨by decide +kernel, rfl⟩
theorem md_Flow_findFrontier_105 : mz_d mb_Flow_findFrontier 105 (.iinc 3 1) 3 108 := ⟨by decide +kernel, rfl⟩
theorem md_Flow_findFrontier_108 : mz_d mb_Flow_findFrontier 108 (.goto (-60)) 3 111 := ⟨by decide +kernel, rfl⟩
theorem md_Flow_findFrontier_111 : mz_d mb_Flow_findFrontier 111 (.return_) 1 112 := ⟨by decide +kernel, rfl⟩
theorem md_Flow_countLoop_0 : mz_d mb_Flow_countLoop 0 (.iconst 0) 1 1 := ⟨by decide +kernel, rfl⟩
theorem md_Flow_countLoop_1 : mz_d mb_Flow_countLoop 1 (.istore_n 2) 1 2 := ⟨by decide +kernel, rfl⟩
theorem md_Flow_countLoop_2 : mz_d mb_Flow_countLoop 2 (.iconst 0) 1 3 := ⟨by decide +kernel, rfl⟩
theorem md_Flow_countLoop_3 : mz_d mb_Flow_countLoop 3 (.istore_n 3) 1 4 := ⟨by decide +kernel, rfl⟩
theorem md_Flow_countLoop_4 : mz_d mb_Flow_countLoop 4 (.iload_n 3) 1 5 := ⟨by decide +kernel, rfl⟩
theorem md_Flow_countLoop_5 : mz_d mb_Flow_countLoop 5 (.aload_n 0) 1 6 := ⟨by decide +kernel, rfl⟩
theorem md_Flow_countLoop_6 : mz_d mb_Flow_countLoop 6 (.getfield 33) 3 9 := ⟨by decide +kernel, rfl⟩
theorem md_Flow_countLoop_9 : mz_d mb_Flow_countLoop 9 (.getfield 46) 3 12 := ⟨by decide +kernel, rfl⟩
theorem md_Flow_countLoop_12 : mz_d mb_Flow_countLoop 12 (.if_icmp .ge 37) 3 15 := ⟨by decide +kernel, rfl⟩
theorem md_Flow_countLoop_15 : mz_d mb_Flow_countLoop 15 (.aload_n 0) 1 16 := ⟨by decide +kernel, rfl⟩
theorem md_Flow_countLoop_16 : mz_d mb_Flow_countLoop 16 (.iload_n 1) 1 17 := ⟨by decide +kernel, rfl⟩
theorem md_Flow_countLoop_17 : mz_d mb_Flow_countLoop 17 (.iload_n 3) 1 18 := ⟨by decide +kernel, rfl⟩
theorem md_Flow_countLoop_18 : mz_d mb_Flow_countLoop 18 (.invokevirtual 100) 3 21 := ⟨by decide +kernel, rfl⟩
theorem md_Flow_countLoop_21 : mz_d mb_Flow_countLoop 21 (.ifCond .eq 22) 3 24 := ⟨by decide +kernel, rfl⟩
theorem md_Flow_countLoop_24 : mz_d mb_Flow_countLoop 24 (.aload_n 0) 1 25 := ⟨by decide +kernel, rfl⟩
theorem md_Flow_countLoop_25 : mz_d mb_Flow_countLoop 25 (.getfield 9) 3 28 := ⟨by decide +kernel, rfl⟩
theorem md_Flow_countLoop_28 : mz_d mb_Flow_countLoop 28 (.iload_n 3) 1 29 := ⟨by decide +kernel, rfl⟩
theorem md_Flow_countLoop_29 : mz_d mb_Flow_countLoop 29 (.iaload) 1 30 := ⟨by decide +kernel, rfl⟩
theorem md_Flow_countLoop_30 : mz_d mb_Flow_countLoop 30 (.iload_n 1) 1 31 := ⟨by decide +kernel, rfl⟩
theorem md_Flow_countLoop_31 : mz_d mb_Flow_countLoop 31 (.invokestatic 75) 3 34 := ⟨by decide +kernel, rfl⟩
theorem md_Flow_countLoop_34 : mz_d mb_Flow_countLoop 34 (.ifCond .eq 9) 3 37 := ⟨by decide +kernel, rfl⟩
theorem md_Flow_countLoop_37 : mz_d mb_Flow_countLoop 37 (.iload_n 2) 1 38 := ⟨by decide +kernel, rfl⟩
theorem md_Flow_countLoop_38 : mz_d mb_Flow_countLoop 38 (.iconst 1) 1 39 := ⟨by decide +kernel, rfl⟩
theorem md_Flow_countLoop_39 : mz_d mb_Flow_countLoop 39 (.iload_n 3) 1 40 := ⟨by decide +kernel, rfl⟩
theorem md_Flow_countLoop_40 : mz_d mb_Flow_countLoop 40 (.ishl) 1 41 := ⟨by decide +kernel, rfl⟩
theorem md_Flow_countLoop_41 : mz_d mb_Flow_countLoop 41 (.ior) 1 42 := ⟨by decide +kernel, rfl⟩
theorem md_Flow_countLoop_42 : mz_d mb_Flow_countLoop 42 (.istore_n 2) 1 43 := ⟨by decide +kernel, rfl⟩
theorem md_Flow_countLoop_43 : mz_d mb_Flow_countLoop 43 (.iinc 3 1) 3 46 := ⟨by decide +kernel, rfl⟩
theorem md_Flow_countLoop_46 : mz_d mb_Flow_countLoop 46 (.goto (-42)) 3 49 := ⟨by decide +kernel, rfl⟩
theorem md_Flow_countLoop_49 : mz_d mb_Flow_countLoop 49 (.iload_n 2) 1 50 := ⟨by decide +kernel, rfl⟩
theorem md_Flow_countLoop_50 : mz_d mb_Flow_countLoop 50 (.ifCond .ne 4) 3 53 := ⟨by decide +kernel, rfl⟩
theorem md_Flow_countLoop_53 : mz_d mb_Flow_countLoop 53 (.return_) 1 54 := ⟨by decide +kernel, rfl⟩
theorem md_Flow_countLoop_54 : mz_d mb_Flow_countLoop 54 (.iconst 0) 1 55 := ⟨by decide +kernel, rfl⟩
theorem md_Flow_countLoop_55 : mz_d mb_Flow_countLoop 55 (.istore_n 3) 1 56 := ⟨by decide +kernel, rfl⟩
theorem md_Flow_countLoop_56 : mz_d mb_Flow_countLoop 56 (.iload_n 3) 1 57 := ⟨by decide +kernel, rfl⟩
theorem md_Flow_countLoop_57 : mz_d mb_Flow_countLoop 57 (.aload_n 0) 1 58 := ⟨by decide +kernel, rfl⟩
theorem md_Flow_countLoop_58 : mz_d mb_Flow_countLoop 58 (.getfield 33) 3 61 := ⟨by decide +kernel, rfl⟩
theorem md_Flow_countLoop_61 : mz_d mb_Flow_countLoop 61 (.getfield 46) 3 64 := ⟨by decide +kernel, rfl⟩
theorem md_Flow_countLoop_64 : mz_d mb_Flow_countLoop 64 (.if_icmp .ge 60) 3 67 := ⟨by decide +kernel, rfl⟩
theorem md_Flow_countLoop_67 : mz_d mb_Flow_countLoop 67 (.aload_n 0) 1 68 := ⟨by decide +kernel, rfl⟩
theorem md_Flow_countLoop_68 : mz_d mb_Flow_countLoop 68 (.iload_n 3) 1 69 := ⟨by decide +kernel, rfl⟩
theorem md_Flow_countLoop_69 : mz_d mb_Flow_countLoop 69 (.iconst 1) 1 70 := ⟨by decide +kernel, rfl⟩
theorem md_Flow_countLoop_70 : mz_d mb_Flow_countLoop 70 (.iload_n 1) 1 71 := ⟨by decide +kernel, rfl⟩
theorem md_Flow_countLoop_71 : mz_d mb_Flow_countLoop 71 (.ishl) 1 72 := ⟨by decide +kernel, rfl⟩
theorem md_Flow_countLoop_72 : mz_d mb_Flow_countLoop 72 (.invokevirtual 87) 3 75 := ⟨by decide +kernel, rfl⟩
theorem md_Flow_countLoop_75 : mz_d mb_Flow_countLoop 75 (.iload_n 2) 1 76 := ⟨by decide +kernel, rfl⟩
theorem md_Flow_countLoop_76 : mz_d mb_Flow_countLoop 76 (.iand) 1 77 := ⟨by decide +kernel, rfl⟩
theorem md_Flow_countLoop_77 : mz_d mb_Flow_countLoop 77 (.ifCond .eq 7) 3 80 := ⟨by decide +kernel, rfl⟩
theorem md_Flow_countLoop_80 : mz_d mb_Flow_countLoop 80 (.iconst 1) 1 81 := ⟨by decide +kernel, rfl⟩
theorem md_Flow_countLoop_81 : mz_d mb_Flow_countLoop 81 (.goto 4) 3 84 := ⟨by decide +kernel, rfl⟩
theorem md_Flow_countLoop_84 : mz_d mb_Flow_countLoop 84 (.iconst 0) 1 85 := ⟨by decide +kernel, rfl⟩
theorem md_Flow_countLoop_85 : mz_d mb_Flow_countLoop 85 (.istore 4) 2 87 := ⟨by decide +kernel, rfl⟩
theorem md_Flow_countLoop_87 : mz_d mb_Flow_countLoop 87 (.aload_n 0) 1 88 := ⟨by decide +kernel, rfl⟩
theorem md_Flow_countLoop_88 : mz_d mb_Flow_countLoop 88 (.getfield 72) 3 91 := ⟨by decide +kernel, rfl⟩
theorem md_Flow_countLoop_91 : mz_d mb_Flow_countLoop 91 (.iload_n 3) 1 92 := ⟨by decide +kernel, rfl⟩
theorem md_Flow_countLoop_92 : mz_d mb_Flow_countLoop 92 (.invokestatic 75) 3 95 := ⟨by decide +kernel, rfl⟩
theorem md_Flow_countLoop_95 : mz_d mb_Flow_countLoop 95 (.ifCond .eq 23) 3 98 := ⟨by decide +kernel, rfl⟩
theorem md_Flow_countLoop_98 : mz_d mb_Flow_countLoop 98 (.iload_n 3) 1 99 := ⟨by decide +kernel, rfl⟩
theorem md_Flow_countLoop_99 : mz_d mb_Flow_countLoop 99 (.iload_n 1) 1 100 := ⟨by decide +kernel, rfl⟩
theorem md_Flow_countLoop_100 : mz_d mb_Flow_countLoop 100 (.if_icmp .eq 8) 3 103 := ⟨by decide +kernel, rfl⟩
theorem md_Flow_countLoop_103 : mz_d mb_Flow_countLoop 103 (.iload 4) 2 105 := ⟨by decide +kernel, rfl⟩
theorem md_Flow_countLoop_105 : mz_d mb_Flow_countLoop 105 (.ifCond .eq 13) 3 108 := ⟨by decide +kernel, rfl⟩
theorem md_Flow_countLoop_108 : mz_d mb_Flow_countLoop 108 (.aload_n 0) 1 109 := ⟨by decide +kernel, rfl⟩
theorem md_Flow_countLoop_109 : mz_d mb_Flow_countLoop 109 (.getfield 30) 3 112 := ⟨by decide +kernel, rfl⟩
theorem md_Flow_countLoop_112 : mz_d mb_Flow_countLoop 112 (.iload_n 3) 1 113 := ⟨by decide +kernel, rfl⟩
theorem md_Flow_countLoop_113 : mz_d mb_Flow_countLoop 113 (.dup2) 1 114 := ⟨by decide +kernel, rfl⟩
theorem md_Flow_countLoop_114 : mz_d mb_Flow_countLoop 114 (.iaload) 1 115 := ⟨by decide +kernel, rfl⟩
theorem md_Flow_countLoop_115 : mz_d mb_Flow_countLoop 115 (.iconst 1) 1 116 := ⟨by decide +kernel, rfl⟩
theorem md_Flow_countLoop_116 : mz_d mb_Flow_countLoop 116 (.iadd) 1 117 := ⟨by decide +kernel, rfl⟩
theorem md_Flow_countLoop_117 : mz_d mb_Flow_countLoop 117 (.iastore) 1 118 := ⟨by decide +kernel, rfl⟩
theorem md_Flow_countLoop_118 : mz_d mb_Flow_countLoop 118 (.iinc 3 1) 3 121 := ⟨by decide +kernel, rfl⟩
theorem md_Flow_countLoop_121 : mz_d mb_Flow_countLoop 121 (.goto (-65)) 3 124 := ⟨by decide +kernel, rfl⟩
theorem md_Flow_countLoop_124 : mz_d mb_Flow_countLoop 124 (.return_) 1 125 := ⟨by decide +kernel, rfl⟩
theorem md_Flow_lookAt_0 : mz_d mb_Flow_lookAt 0 (.aload_n 0) 1 1 := ⟨by decide +kernel, rfl⟩
theorem md_Flow_lookAt_1 : mz_d mb_Flow_lookAt 1 (.invokevirtual 37) 3 4 := ⟨by decide +kernel, rfl⟩
theorem md_Flow_lookAt_4 : mz_d mb_Flow_lookAt 4 (.aload_n 0) 1 5 := ⟨by decide +kernel, rfl⟩
theorem md_Flow_lookAt_5 : mz_d mb_Flow_lookAt 5 (.invokevirtual 40) 3 8 := ⟨by decide +kernel, rfl⟩
theorem md_Flow_lookAt_8 : mz_d mb_Flow_lookAt 8 (.aload_n 0) 1 9 := ⟨by decide +kernel, rfl⟩
theorem md_Flow_lookAt_9 : mz_d mb_Flow_lookAt 9 (.invokevirtual 43) 3 12 := ⟨by decide +kernel, rfl⟩
theorem md_Flow_lookAt_12 : mz_d mb_Flow_lookAt 12 (.iconst 0) 1 13 := ⟨by decide +kernel, rfl⟩
theorem md_Flow_lookAt_13 : mz_d mb_Flow_lookAt 13 (.istore_n 1) 1 14 := ⟨by decide +kernel, rfl⟩
theorem md_Flow_lookAt_14 : mz_d mb_Flow_lookAt 14 (.iload_n 1) 1 15 := ⟨by decide +kernel, rfl⟩
theorem md_Flow_lookAt_15 : mz_d mb_Flow_lookAt 15 (.aload_n 0) 1 16 := ⟨by decide +kernel, rfl⟩
theorem md_Flow_lookAt_16 : mz_d mb_Flow_lookAt 16 (.getfield 33) 3 19 := ⟨by decide +kernel, rfl⟩
theorem md_Flow_lookAt_19 : mz_d mb_Flow_lookAt 19 (.getfield 46) 3 22 := ⟨by decide +kernel, rfl⟩
theorem md_Flow_lookAt_22 : mz_d mb_Flow_lookAt 22 (.if_icmp .ge 19) 3 25 := ⟨by decide +kernel, rfl⟩
theorem md_Flow_lookAt_25 : mz_d mb_Flow_lookAt 25 (.aload_n 0) 1 26 := ⟨by decide +kernel, rfl⟩
theorem md_Flow_lookAt_26 : mz_d mb_Flow_lookAt 26 (.iload_n 1) 1 27 := ⟨by decide +kernel, rfl⟩
theorem md_Flow_lookAt_27 : mz_d mb_Flow_lookAt 27 (.invokevirtual 52) 3 30 := ⟨by decide +kernel, rfl⟩
theorem md_Flow_lookAt_30 : mz_d mb_Flow_lookAt 30 (.aload_n 0) 1 31 := ⟨by decide +kernel, rfl⟩
theorem md_Flow_lookAt_31 : mz_d mb_Flow_lookAt 31 (.iload_n 1) 1 32 := ⟨by decide +kernel, rfl⟩
theorem md_Flow_lookAt_32 : mz_d mb_Flow_lookAt 32 (.invokevirtual 56) 3 35 := ⟨by decide +kernel, rfl⟩
theorem md_Flow_lookAt_35 : mz_d mb_Flow_lookAt 35 (.iinc 1 1) 3 38 := ⟨by decide +kernel, rfl⟩
theorem md_Flow_lookAt_38 : mz_d mb_Flow_lookAt 38 (.goto (-24)) 3 41 := ⟨by decide +kernel, rfl⟩
theorem md_Flow_lookAt_41 : mz_d mb_Flow_lookAt 41 (.aload_n 0) 1 42 := ⟨by decide +kernel, rfl⟩
theorem md_Flow_lookAt_42 : mz_d mb_Flow_lookAt 42 (.getfield 30) 3 45 := ⟨by decide +kernel, rfl⟩
theorem md_Flow_lookAt_45 : mz_d mb_Flow_lookAt 45 (.iconst 0) 1 46 := ⟨by decide +kernel, rfl⟩
theorem md_Flow_lookAt_46 : mz_d mb_Flow_lookAt 46 (.invokestatic 59) 3 49 := ⟨by decide +kernel, rfl⟩
theorem md_Flow_lookAt_49 : mz_d mb_Flow_lookAt 49 (.iconst 0) 1 50 := ⟨by decide +kernel, rfl⟩
theorem md_Flow_lookAt_50 : mz_d mb_Flow_lookAt 50 (.istore_n 1) 1 51 := ⟨by decide +kernel, rfl⟩
theorem md_Flow_lookAt_51 : mz_d mb_Flow_lookAt 51 (.iload_n 1) 1 52 := ⟨by decide +kernel, rfl⟩
theorem md_Flow_lookAt_52 : mz_d mb_Flow_lookAt 52 (.aload_n 0) 1 53 := ⟨by decide +kernel, rfl⟩
theorem md_Flow_lookAt_53 : mz_d mb_Flow_lookAt 53 (.getfield 33) 3 56 := ⟨by decide +kernel, rfl⟩
theorem md_Flow_lookAt_56 : mz_d mb_Flow_lookAt 56 (.getfield 46) 3 59 := ⟨by decide +kernel, rfl⟩
theorem md_Flow_lookAt_59 : mz_d mb_Flow_lookAt 59 (.if_icmp .ge 14) 3 62 := ⟨by decide +kernel, rfl⟩
theorem md_Flow_lookAt_62 : mz_d mb_Flow_lookAt 62 (.aload_n 0) 1 63 := ⟨by decide +kernel, rfl⟩
theorem md_Flow_lookAt_63 : mz_d mb_Flow_lookAt 63 (.iload_n 1) 1 64 := ⟨by decide +kernel, rfl⟩
theorem md_Flow_lookAt_64 : mz_d mb_Flow_lookAt 64 (.invokevirtual 65) 3 67 := ⟨by decide +kernel, rfl⟩
theorem md_Flow_lookAt_67 : mz_d mb_Flow_lookAt 67 (.iinc 1 1) 3 70 := ⟨by decide +kernel, rfl⟩
theorem md_Flow_lookAt_70 : mz_d mb_Flow_lookAt 70 (.goto (-19)) 3 73 := ⟨by decide +kernel, rfl⟩
theorem md_Flow_lookAt_73 : mz_d mb_Flow_lookAt 73 (.return_) 1 74 := ⟨by decide +kernel, rfl⟩
theorem md_Flow_isAlive_0 : mz_d mb_Flow_isAlive 0 (.aload_n 0) 1 1 := ⟨by decide +kernel, rfl⟩
theorem md_Flow_isAlive_1 : mz_d mb_Flow_isAlive 1 (.getfield 33) 3 4 := ⟨by decide +kernel, rfl⟩
theorem md_Flow_isAlive_4 : mz_d mb_Flow_isAlive 4 (.iload_n 1) 1 5 := ⟨by decide +kernel, rfl⟩
theorem md_Flow_isAlive_5 : mz_d mb_Flow_isAlive 5 (.invokevirtual 68) 3 8 := ⟨by decide +kernel, rfl⟩
theorem md_Flow_isAlive_8 : mz_d mb_Flow_isAlive 8 (.ifCond .eq 18) 3 11 := ⟨by decide +kernel, rfl⟩
theorem md_Flow_isAlive_11 : mz_d mb_Flow_isAlive 11 (.aload_n 0) 1 12 := ⟨by decide +kernel, rfl⟩
theorem md_Flow_isAlive_12 : mz_d mb_Flow_isAlive 12 (.getfield 72) 3 15 := ⟨by decide +kernel, rfl⟩
theorem md_Flow_isAlive_15 : mz_d mb_Flow_isAlive 15 (.iload_n 1) 1 16 := ⟨by decide +kernel, rfl⟩
theorem md_Flow_isAlive_16 : mz_d mb_Flow_isAlive 16 (.invokestatic 75) 3 19 := ⟨by decide +kernel, rfl⟩
theorem md_Flow_isAlive_19 : mz_d mb_Flow_isAlive 19 (.ifCond .eq 7) 3 22 := ⟨by decide +kernel, rfl⟩
theorem md_Flow_isAlive_22 : mz_d mb_Flow_isAlive 22 (.iconst 1) 1 23 := ⟨by decide +kernel, rfl⟩
theorem md_Flow_isAlive_23 : mz_d mb_Flow_isAlive 23 (.goto 4) 3 26 := ⟨by decide +kernel, rfl⟩
theorem md_Flow_isAlive_26 : mz_d mb_Flow_isAlive 26 (.iconst 0) 1 27 := ⟨by decide +kernel, rfl⟩
theorem md_Flow_isAlive_27 : mz_d mb_Flow_isAlive 27 (.ireturn) 1 28 := ⟨by decide +kernel, rfl⟩
def mw_Flow_reachedFrom_61 (P24 : Int32 → Int32 → mz_St → Prop) (x6_24 : Int32) (x5_61 : Int32) (s61 : mz_St) : Prop :=
  P24 x5_61 (x6_24 + 1) s61
def mw_Flow_reachedFrom_24 (K : Int32 → mz_St → Prop) (a1 : Int32) (P11 : Int32 → Int32 → mz_St → Prop) (x3_11 : Int32) (x4_11 : Int32) (P24 : Int32 → Int32 → mz_St → Prop) (x5_24 : Int32) (x6_24 : Int32) (s24 : mz_St) : Prop :=
  (((s24 1003 0) ≤ x6_24 →
   ((¬ x5_24 = x3_11 →
    P11 x5_24 (x4_11 + 1) s24) ∧
   (x5_24 = x3_11 →
    K x3_11 s24))) ∧
  (¬ (s24 1003 0) ≤ x6_24 →
   mw_Mill_isIn (fun r1 u1 =>
    (∀ P61 : Int32 → mz_St → Prop, (∀ (x5_61 : Int32) (s61 : mz_St), mw_Flow_reachedFrom_61 P24 x6_24 x5_61 s61 → P61 x5_61 s61) →
    ((r1 = 0 →
     P61 x5_24 u1) ∧
    (¬ r1 = 0 →
     vp_in x6_24 10 ∧
     P61 (x5_24 ||| ((mz_rd u1 22 x6_24) &&& (a1 ^^^ (-1)))) u1)))) x3_11 x6_24 s24))
def mw_Flow_reachedFrom_11 (K : Int32 → mz_St → Prop) (a1 : Int32) (P11 : Int32 → Int32 → mz_St → Prop) (x3_11 : Int32) (x4_11 : Int32) (s11 : mz_St) : Prop :=
  ((10 ≤ x4_11 →
   K x3_11 s11) ∧
  (¬ 10 ≤ x4_11 →
   (∀ P24 : Int32 → Int32 → mz_St → Prop, (∀ (x5_24 : Int32) (x6_24 : Int32) (s24 : mz_St), mw_Flow_reachedFrom_24 K a1 P11 x3_11 x4_11 P24 x5_24 x6_24 s24 → P24 x5_24 x6_24 s24) →
   P24 x3_11 0 s11)))
/-- ValueMill$Flow.reachedFrom(II)I: what it does, as a transformer of what must hold behind it -/
def mw_Flow_reachedFrom (K : Int32 → mz_St → Prop) (a0 : Int32) (a1 : Int32) (s0 : mz_St) : Prop :=
  (∀ P11 : Int32 → Int32 → mz_St → Prop, (∀ (x3_11 : Int32) (x4_11 : Int32) (s11 : mz_St), mw_Flow_reachedFrom_11 K a1 P11 x3_11 x4_11 s11 → P11 x3_11 x4_11 s11) →
  P11 (((1 : Int32) <<< (a0 &&& 31)) &&& (a1 ^^^ (-1))) 0 s0)
set_option maxRecDepth 100000 in
set_option maxHeartbeats 4000000 in
theorem ms_Flow_reachedFrom (l : Launch) (E : mz_En) (hI : mz_Inj E) (K : Int32 → mz_St → Prop) (a0 : Int32) (a1 : Int32) (s0 : mz_St) (h : mw_Flow_reachedFrom K a0 a1 s0) : mz_Ci l E my_Flow_reachedFrom mb_Flow_reachedFrom 7 (some .int) (1) (21) [.ref (E.2.1 2), .int a0, .int a1] s0 K := by
  refine mz_cti hI (by decide +kernel) (Nat.le_of_ble_eq_true rfl) (fun X C R => ?_)
  show mz_G E X 7 0 [(0, .ref (E.2.1 2)), (1, .int a0), (2, .int a1)] [] s0
  unfold mw_Flow_reachedFrom at h
  refine mr_iconst C md_Flow_reachedFrom_0 mk_iconst_1 ?_
  refine mr_iload_n C 1 md_Flow_reachedFrom_1 rfl rfl ?_
  refine mr_ishl C md_Flow_reachedFrom_2 ?_
  refine mr_iload_n C 2 md_Flow_reachedFrom_3 rfl rfl ?_
  refine mr_iconst C md_Flow_reachedFrom_4 mk_iconst_m1 ?_
  refine mr_ixor C md_Flow_reachedFrom_5 ?_
  refine mr_iand C md_Flow_reachedFrom_6 ?_
  refine mr_istore_n C (L' := [(3, .int (((1 : Int32) <<< (a0 &&& 31)) &&& (a1 ^^^ (-1)))), (0, .ref (E.2.1 2)), (1, .int a0), (2, .int a1)]) md_Flow_reachedFrom_7 rfl (Nat.le_of_ble_eq_true rfl) rfl ?_
  refine mr_iconst C md_Flow_reachedFrom_8 mk_iconst_0 ?_
  refine mr_istore C (L' := [(4, .int 0), (3, .int (((1 : Int32) <<< (a0 &&& 31)) &&& (a1 ^^^ (-1)))), (0, .ref (E.2.1 2)), (1, .int a0), (2, .int a1)]) md_Flow_reachedFrom_9 (Nat.le_of_ble_eq_true rfl) rfl ?_
  refine mr_sub [2, 4, 1, 0] rfl ?_
  refine h (fun (x3_11 : Int32) (x4_11 : Int32) (s11 : mz_St) => mz_G E X 7 11 [(0, .ref (E.2.1 2)), (2, .int a1), (3, .int x3_11), (4, .int x4_11)] [] s11) (fun x3_11 x4_11 s11 h => ?_)
  unfold mw_Flow_reachedFrom_11 at h
  refine mr_iload C 3 md_Flow_reachedFrom_11 rfl ?_
  refine mr_bipush C md_Flow_reachedFrom_13 mk_bipush_10 ?_
  refine mr_icmp_ge C md_Flow_reachedFrom_15 rfl (fun hc => ?_) (fun hc => ?_)
  · replace h := h.1 hc
    refine mr_iload_n C 2 md_Flow_reachedFrom_84 rfl rfl ?_
    exact mr_iret C R h md_Flow_reachedFrom_85
  replace h := h.2 hc
  refine mr_iload_n C 2 md_Flow_reachedFrom_18 rfl rfl ?_
  refine mr_istore C (L' := [(5, .int x3_11), (0, .ref (E.2.1 2)), (2, .int a1), (3, .int x3_11), (4, .int x4_11)]) md_Flow_reachedFrom_19 (Nat.le_of_ble_eq_true rfl) rfl ?_
  refine mr_iconst C md_Flow_reachedFrom_21 mk_iconst_0 ?_
  refine mr_istore C (L' := [(6, .int 0), (5, .int x3_11), (0, .ref (E.2.1 2)), (2, .int a1), (3, .int x3_11), (4, .int x4_11)]) md_Flow_reachedFrom_22 (Nat.le_of_ble_eq_true rfl) rfl ?_
  refine mr_sub [2, 3, 4, 5, 1, 0] rfl ?_
  refine h (fun (x5_24 : Int32) (x6_24 : Int32) (s24 : mz_St) => mz_G E X 7 24 [(0, .ref (E.2.1 2)), (2, .int a1), (3, .int x3_11), (4, .int x4_11), (5, .int x5_24), (6, .int x6_24)] [] s24) (fun x5_24 x6_24 s24 h => ?_)
  unfold mw_Flow_reachedFrom_24 at h
  refine mr_iload C 5 md_Flow_reachedFrom_24 rfl ?_
  refine mr_aload_n C 0 md_Flow_reachedFrom_26 rfl rfl ?_
  refine mr_get C 2 0 mc_Flow_cls ml_96 rfl (by decide) (by decide) (fun _ => rfl) rfl md_Flow_reachedFrom_27 ?_
  refine mr_getN C 1 10 mc_Program_cls ml_64 rfl (by decide) (by decide) (fun _ => rfl) rfl md_Flow_reachedFrom_30 ?_
  refine mr_icmp_ge C md_Flow_reachedFrom_33 rfl (fun hc => ?_) (fun hc => ?_)
  · replace h := h.1 hc
    refine mr_iload C 4 md_Flow_reachedFrom_67 rfl ?_
    refine mr_iload_n C 2 md_Flow_reachedFrom_69 rfl rfl ?_
    refine mr_icmp_ne C md_Flow_reachedFrom_70 rfl (fun hc => ?_) (fun hc => ?_)
    · replace h := h.1 hc
      refine mr_iload C 4 md_Flow_reachedFrom_75 rfl ?_
      refine mr_istore_n C (L' := [(3, .int x5_24), (0, .ref (E.2.1 2)), (2, .int a1), (4, .int x4_11), (5, .int x5_24), (6, .int x6_24)]) md_Flow_reachedFrom_77 rfl (Nat.le_of_ble_eq_true rfl) rfl ?_
      refine mr_iinc C (L' := [(4, .int (x4_11 + 1)), (3, .int x5_24), (0, .ref (E.2.1 2)), (2, .int a1), (5, .int x5_24), (6, .int x6_24)]) 3 md_Flow_reachedFrom_78 rfl (mk_inc mk_iconst_1) (Nat.le_of_ble_eq_true rfl) rfl ?_
      refine mr_goto C md_Flow_reachedFrom_81 rfl ?_
      refine mr_sub [2, 3, 1, 0] rfl ?_
      exact h
    replace h := h.2 hc
    refine mr_iload_n C 2 md_Flow_reachedFrom_73 rfl rfl ?_
    exact mr_iret C R h md_Flow_reachedFrom_74
  replace h := h.2 hc
  refine mr_iload_n C 2 md_Flow_reachedFrom_36 rfl rfl ?_
  refine mr_iload C 5 md_Flow_reachedFrom_37 rfl ?_
  refine mr_cSNi C (As := [.int x3_11, .int x6_24]) (rest := []) (ms_Mill_isIn _ E hI _ x3_11 x6_24 _ h) mo_Mill_isIn mt_Mill_isIn ml_587 rfl rfl (Nat.le_of_ble_eq_true rfl) (Nat.le_of_ble_eq_true rfl) (Nat.le_of_ble_eq_true rfl) md_Flow_reachedFrom_39 (fun r1 u1 h => ?_)
  refine mj (h (fun (x5_61 : Int32) (s61 : mz_St) => mz_G E X 7 61 [(0, .ref (E.2.1 2)), (2, .int a1), (3, .int x3_11), (4, .int x4_11), (5, .int x5_61), (6, .int x6_24)] [] s61) (fun x5_61 s61 h => ?_)) (fun h => ?_)
  · unfold mw_Flow_reachedFrom_61 at h
    refine mr_iinc C (L' := [(6, .int (x6_24 + 1)), (0, .ref (E.2.1 2)), (2, .int a1), (3, .int x3_11), (4, .int x4_11), (5, .int x5_61)]) 5 md_Flow_reachedFrom_61 rfl (mk_inc mk_iconst_1) (Nat.le_of_ble_eq_true rfl) rfl ?_
    refine mr_goto C md_Flow_reachedFrom_64 rfl ?_
    refine mr_sub [1, 2, 3, 4, 5, 0] rfl ?_
    exact h
  refine mr_if_eq C md_Flow_reachedFrom_42 rfl (fun hc => ?_) (fun hc => ?_)
  · replace h := h.1 hc
    exact h
  replace h := h.2 hc
  refine mr_iload C 4 md_Flow_reachedFrom_45 rfl ?_
  refine mr_aload_n C 0 md_Flow_reachedFrom_47 rfl rfl ?_
  refine mr_get C 2 1 mc_Flow_cls ml_97 rfl (by decide) (by decide) (fun _ => rfl) rfl md_Flow_reachedFrom_48 ?_
  refine mr_iload C 5 md_Flow_reachedFrom_51 rfl ?_
  refine mr_iald C 22 10 (by decide) (fun _ => rfl) h.1 md_Flow_reachedFrom_53 ?_
  replace h := h.2
  refine mr_iload_n C 1 md_Flow_reachedFrom_54 rfl rfl ?_
  refine mr_iconst C md_Flow_reachedFrom_55 mk_iconst_m1 ?_
  refine mr_ixor C md_Flow_reachedFrom_56 ?_
  refine mr_iand C md_Flow_reachedFrom_57 ?_
  refine mr_ior C md_Flow_reachedFrom_58 ?_
  refine mr_istore C (L' := [(5, .int (x5_24 ||| ((mz_rd u1 22 x6_24) &&& (a1 ^^^ (-1))))), (0, .ref (E.2.1 2)), (2, .int a1), (3, .int x3_11), (4, .int x4_11), (6, .int x6_24)]) md_Flow_reachedFrom_59 (Nat.le_of_ble_eq_true rfl) rfl ?_
  refine mr_sub [1, 2, 3, 4, 0, 5] rfl ?_
  exact h
def mw_Flow_findEdges_162 (P100 : Int32 → mz_St → Prop) (x1_100 : Int32) (s162 : mz_St) : Prop :=
  P100 (x1_100 + 1) s162
def mw_Flow_findEdges_113 (P100 : Int32 → mz_St → Prop) (x1_100 : Int32) (P113 : Int32 → mz_St → Prop) (x2_113 : Int32) (s113 : mz_St) : Prop :=
  mw_Program_edges (fun r1 u1 =>
   (∀ P162 : mz_St → Prop, (∀ (s162 : mz_St), mw_Flow_findEdges_162 P100 x1_100 s162 → P162 s162) →
   ((r1 ≤ x2_113 →
    P162 u1) ∧
   (¬ r1 ≤ x2_113 →
    mw_Mill_isIn (fun r2 u2 =>
     ((r2 = 0 →
      P162 u2) ∧
     (¬ r2 = 0 →
      mw_Program_target (fun r3 u3 =>
       vp_in r3 10 ∧
       vp_in r3 10 ∧
       P113 (x2_113 + 1) (mz_wr u3 23 r3 ((mz_rd u3 23 r3) ||| ((1 : Int32) <<< (x1_100 &&& 31))))) x1_100 x2_113 u2))) (u1 1004 0) x1_100 u1)))) x1_100 s113
def mw_Flow_findEdges_100 (K : mz_St → Prop) (P100 : Int32 → mz_St → Prop) (x1_100 : Int32) (s100 : mz_St) : Prop :=
  (((s100 1003 0) ≤ x1_100 →
   K s100) ∧
  (¬ (s100 1003 0) ≤ x1_100 →
   (∀ P113 : Int32 → mz_St → Prop, (∀ (x2_113 : Int32) (s113 : mz_St), mw_Flow_findEdges_113 P100 x1_100 P113 x2_113 s113 → P113 x2_113 s113) →
   P113 0 s100)))
def mw_Flow_findEdges_87 (K : mz_St → Prop) (y0_87 : Int32) (s87 : mz_St) : Prop :=
  (∀ P100 : Int32 → mz_St → Prop, (∀ (x1_100 : Int32) (s100 : mz_St), mw_Flow_findEdges_100 K P100 x1_100 s100 → P100 x1_100 s100) →
  P100 0 (mz_fl (mz_up s87 1004 0 y0_87) 23 10 0))
def mw_Flow_findEdges_22 (P2 : Int32 → mz_St → Prop) (x1_2 : Int32) (P22 : Int32 → mz_St → Prop) (x2_22 : Int32) (s22 : mz_St) : Prop :=
  mw_Program_edges (fun r5 u5 =>
   ((r5 ≤ x2_22 →
    P2 (x1_2 + 1) u5) ∧
   (¬ r5 ≤ x2_22 →
    vp_in x1_2 10 ∧
    mw_Program_target (fun r6 u6 =>
     vp_in x1_2 10 ∧
     P22 (x2_22 + 1) (mz_wr u6 22 x1_2 ((mz_rd u5 22 x1_2) ||| ((1 : Int32) <<< (r6 &&& 31))))) x1_2 x2_22 u5))) x1_2 s22
def mw_Flow_findEdges_2 (K : mz_St → Prop) (P2 : Int32 → mz_St → Prop) (x1_2 : Int32) (s2 : mz_St) : Prop :=
  (((s2 1003 0) ≤ x1_2 →
   (∀ P87 : Int32 → mz_St → Prop, (∀ (y0_87 : Int32) (s87 : mz_St), mw_Flow_findEdges_87 K y0_87 s87 → P87 y0_87 s87) →
   ((¬ (s2 1003 0) = 0 →
    mw_Flow_reachedFrom (fun r4 u4 =>
     P87 r4 u4) 0 0 s2) ∧
   ((s2 1003 0) = 0 →
    P87 0 s2)))) ∧
  (¬ (s2 1003 0) ≤ x1_2 →
   vp_in x1_2 10 ∧
   (∀ P22 : Int32 → mz_St → Prop, (∀ (x2_22 : Int32) (s22 : mz_St), mw_Flow_findEdges_22 P2 x1_2 P22 x2_22 s22 → P22 x2_22 s22) →
   P22 0 (mz_wr s2 22 x1_2 0))))
/-- ValueMill$Flow.findEdges()V: what it does, as a transformer of what must hold behind it -/
def mw_Flow_findEdges (K : mz_St → Prop) (s0 : mz_St) : Prop :=
  (∀ P2 : Int32 → mz_St → Prop, (∀ (x1_2 : Int32) (s2 : mz_St), mw_Flow_findEdges_2 K P2 x1_2 s2 → P2 x1_2 s2) →
  P2 0 s0)
set_option maxRecDepth 100000 in
set_option maxHeartbeats 4000000 in
theorem ms_Flow_findEdges (l : Launch) (E : mz_En) (hI : mz_Inj E) (K : mz_St → Prop) (s0 : mz_St) (h : mw_Flow_findEdges K s0) : mz_Cv l E my_Flow_findEdges mb_Flow_findEdges 3 (2) (47) [.ref (E.2.1 2)] s0 K := by
  refine mz_ctv hI (by decide +kernel) (Nat.le_of_ble_eq_true rfl) (fun X C R => ?_)
  show mz_G E X 3 0 [(0, .ref (E.2.1 2))] [] s0
  unfold mw_Flow_findEdges at h
  refine mr_iconst C md_Flow_findEdges_0 mk_iconst_0 ?_
  refine mr_istore_n C (L' := [(1, .int 0), (0, .ref (E.2.1 2))]) md_Flow_findEdges_1 rfl (Nat.le_of_ble_eq_true rfl) rfl ?_
  refine mr_sub [1, 0] rfl ?_
  refine h (fun (x1_2 : Int32) (s2 : mz_St) => mz_G E X 3 2 [(0, .ref (E.2.1 2)), (1, .int x1_2)] [] s2) (fun x1_2 s2 h => ?_)
  unfold mw_Flow_findEdges_2 at h
  refine mr_iload_n C 1 md_Flow_findEdges_2 rfl rfl ?_
  refine mr_aload_n C 0 md_Flow_findEdges_3 rfl rfl ?_
  refine mr_get C 2 0 mc_Flow_cls ml_96 rfl (by decide) (by decide) (fun _ => rfl) rfl md_Flow_findEdges_4 ?_
  refine mr_getN C 1 10 mc_Program_cls ml_64 rfl (by decide) (by decide) (fun _ => rfl) rfl md_Flow_findEdges_7 ?_
  refine mr_icmp_ge C md_Flow_findEdges_10 rfl (fun hc => ?_) (fun hc => ?_)
  · replace h := h.1 hc
    refine mr_aload_n C 0 md_Flow_findEdges_66 rfl rfl ?_
    refine mr_aload_n C 0 md_Flow_findEdges_67 rfl rfl ?_
    refine mr_get C 2 0 mc_Flow_cls ml_96 rfl (by decide) (by decide) (fun _ => rfl) rfl md_Flow_findEdges_68 ?_
    refine mr_getN C 1 10 mc_Program_cls ml_64 rfl (by decide) (by decide) (fun _ => rfl) rfl md_Flow_findEdges_71 ?_
    refine mj (h (fun (y0_87 : Int32) (s87 : mz_St) => mz_G E X 3 87 [(0, .ref (E.2.1 2))] [.int y0_87, .ref (E.2.1 2)] s87) (fun y0_87 s87 h => ?_)) (fun h => ?_)
    · unfold mw_Flow_findEdges_87 at h
      refine mr_put C (t0 := .int) 2 8 1004 mc_Flow_cls ml_116 rfl (by decide) (by decide) (fun _ => rfl) rfl (by decide +kernel) rfl rfl (Nat.le_of_ble_eq_true rfl) (fun _ => rfl) (mp_1004 E _) md_Flow_findEdges_87 ?_
      refine mr_aload_n C 0 md_Flow_findEdges_90 rfl rfl ?_
      refine mr_get C 2 2 mc_Flow_cls ml_98 rfl (by decide) (by decide) (fun _ => rfl) rfl md_Flow_findEdges_91 ?_
      refine mr_iconst C md_Flow_findEdges_94 mk_iconst_0 ?_
      refine mr_fill C 23 10 (by decide) (by decide) (by decide) (fun _ _ => rfl) (Nat.le_of_ble_eq_true rfl) (Nat.le_of_ble_eq_true rfl) ml_590 md_Flow_findEdges_95 ?_
      refine mr_iconst C md_Flow_findEdges_98 mk_iconst_0 ?_
      refine mr_istore_n C (L' := [(1, .int 0), (0, .ref (E.2.1 2))]) md_Flow_findEdges_99 rfl (Nat.le_of_ble_eq_true rfl) rfl ?_
      refine mr_sub [1, 0] rfl ?_
      refine h (fun (x1_100 : Int32) (s100 : mz_St) => mz_G E X 3 100 [(0, .ref (E.2.1 2)), (1, .int x1_100)] [] s100) (fun x1_100 s100 h => ?_)
      unfold mw_Flow_findEdges_100 at h
      refine mr_iload_n C 1 md_Flow_findEdges_100 rfl rfl ?_
      refine mr_aload_n C 0 md_Flow_findEdges_101 rfl rfl ?_
      refine mr_get C 2 0 mc_Flow_cls ml_96 rfl (by decide) (by decide) (fun _ => rfl) rfl md_Flow_findEdges_102 ?_
      refine mr_getN C 1 10 mc_Program_cls ml_64 rfl (by decide) (by decide) (fun _ => rfl) rfl md_Flow_findEdges_105 ?_
      refine mr_icmp_ge C md_Flow_findEdges_108 rfl (fun hc => ?_) (fun hc => ?_)
      · replace h := h.1 hc
        exact mr_vret C R h md_Flow_findEdges_168
      replace h := h.2 hc
      refine mr_iconst C md_Flow_findEdges_111 mk_iconst_0 ?_
      refine mr_istore_n C (L' := [(2, .int 0), (0, .ref (E.2.1 2)), (1, .int x1_100)]) md_Flow_findEdges_112 rfl (Nat.le_of_ble_eq_true rfl) rfl ?_
      refine mr_sub [1, 2, 0] rfl ?_
      refine h (fun (x2_113 : Int32) (s113 : mz_St) => mz_G E X 3 113 [(0, .ref (E.2.1 2)), (1, .int x1_100), (2, .int x2_113)] [] s113) (fun x2_113 s113 h => ?_)
      unfold mw_Flow_findEdges_113 at h
      refine mr_iload_n C 2 md_Flow_findEdges_113 rfl rfl ?_
      refine mr_aload_n C 0 md_Flow_findEdges_114 rfl rfl ?_
      refine mr_get C 2 0 mc_Flow_cls ml_96 rfl (by decide) (by decide) (fun _ => rfl) rfl md_Flow_findEdges_115 ?_
      refine mr_iload_n C 1 md_Flow_findEdges_118 rfl rfl ?_
      refine mr_cVNi C (As := [.int x1_100]) (rest := [.int x2_113]) 1 (ms_Program_edges _ E hI _ x1_100 _ h) mo_Program_edges mi_Program_edges mc_Program_cls ml_575 (by decide) (fun _ => rfl) rfl rfl (Nat.le_of_ble_eq_true rfl) (Nat.le_of_ble_eq_true rfl) (Nat.le_of_ble_eq_true rfl) md_Flow_findEdges_119 (fun r1 u1 h => ?_)
      refine mj (h (fun (s162 : mz_St) => mz_G E X 3 162 [(0, .ref (E.2.1 2)), (1, .int x1_100)] [] s162) (fun s162 h => ?_)) (fun h => ?_)
      · unfold mw_Flow_findEdges_162 at h
        refine mr_iinc C (L' := [(1, .int (x1_100 + 1)), (0, .ref (E.2.1 2))]) 1 md_Flow_findEdges_162 rfl (mk_inc mk_iconst_1) (Nat.le_of_ble_eq_true rfl) rfl ?_
        refine mr_goto C md_Flow_findEdges_165 rfl ?_
        refine mr_sub [1, 0] rfl ?_
        exact h
      refine mr_icmp_ge C md_Flow_findEdges_122 rfl (fun hc => ?_) (fun hc => ?_)
      · replace h := h.1 hc
        refine mr_sub [0, 1] rfl ?_
        exact h
      replace h := h.2 hc
      refine mr_aload_n C 0 md_Flow_findEdges_125 rfl rfl ?_
      refine mr_get C 2 8 mc_Flow_cls ml_116 rfl (by decide) (by decide) (fun _ => rfl) rfl md_Flow_findEdges_126 ?_
      refine mr_iload_n C 1 md_Flow_findEdges_129 rfl rfl ?_
      refine mr_cSNi C (As := [.int (u1 1004 0), .int x1_100]) (rest := []) (ms_Mill_isIn _ E hI _ (u1 1004 0) x1_100 _ h) mo_Mill_isIn mt_Mill_isIn ml_587 rfl rfl (Nat.le_of_ble_eq_true rfl) (Nat.le_of_ble_eq_true rfl) (Nat.le_of_ble_eq_true rfl) md_Flow_findEdges_130 (fun r2 u2 h => ?_)
      refine mr_if_eq C md_Flow_findEdges_133 rfl (fun hc => ?_) (fun hc => ?_)
      · replace h := h.1 hc
        refine mr_sub [0, 1] rfl ?_
        exact h
      replace h := h.2 hc
      refine mr_aload_n C 0 md_Flow_findEdges_136 rfl rfl ?_
      refine mr_get C 2 2 mc_Flow_cls ml_98 rfl (by decide) (by decide) (fun _ => rfl) rfl md_Flow_findEdges_137 ?_
      refine mr_aload_n C 0 md_Flow_findEdges_140 rfl rfl ?_
      refine mr_get C 2 0 mc_Flow_cls ml_96 rfl (by decide) (by decide) (fun _ => rfl) rfl md_Flow_findEdges_141 ?_
      refine mr_iload_n C 1 md_Flow_findEdges_144 rfl rfl ?_
      refine mr_iload_n C 2 md_Flow_findEdges_145 rfl rfl ?_
      refine mr_cVNi C (As := [.int x1_100, .int x2_113]) (rest := [.ref (E.2.1 23)]) 1 (ms_Program_target _ E hI _ x1_100 x2_113 _ h) mo_Program_target mi_Program_target mc_Program_cls ml_579 (by decide) (fun _ => rfl) rfl rfl (Nat.le_of_ble_eq_true rfl) (Nat.le_of_ble_eq_true rfl) (Nat.le_of_ble_eq_true rfl) md_Flow_findEdges_146 (fun r3 u3 h => ?_)
      refine mr_dup2 C md_Flow_findEdges_149 rfl rfl ?_
      refine mr_iald C 23 10 (by decide) (fun _ => rfl) h.1 md_Flow_findEdges_150 ?_
      replace h := h.2
      refine mr_iconst C md_Flow_findEdges_151 mk_iconst_1 ?_
      refine mr_iload_n C 1 md_Flow_findEdges_152 rfl rfl ?_
      refine mr_ishl C md_Flow_findEdges_153 ?_
      refine mr_ior C md_Flow_findEdges_154 ?_
      refine mr_iast C 23 10 (by decide) (by decide) (fun _ _ => rfl) h.1 md_Flow_findEdges_155 ?_
      replace h := h.2
      refine mr_iinc C (L' := [(2, .int (x2_113 + 1)), (0, .ref (E.2.1 2)), (1, .int x1_100)]) 2 md_Flow_findEdges_156 rfl (mk_inc mk_iconst_1) (Nat.le_of_ble_eq_true rfl) rfl ?_
      refine mr_goto C md_Flow_findEdges_159 rfl ?_
      refine mr_sub [1, 2, 0] rfl ?_
      exact h
    refine mr_if_ne C md_Flow_findEdges_74 rfl (fun hc => ?_) (fun hc => ?_)
    · replace h := h.1 hc
      refine mr_aload_n C 0 md_Flow_findEdges_81 rfl rfl ?_
      refine mr_iconst C md_Flow_findEdges_82 mk_iconst_0 ?_
      refine mr_iconst C md_Flow_findEdges_83 mk_iconst_0 ?_
      refine mr_cVi C (As := [.int 0, .int 0]) (rest := [.ref (E.2.1 2)]) 2 (ms_Flow_reachedFrom _ E hI _ 0 0 _ h) mo_Flow_reachedFrom mi_Flow_reachedFrom mc_Flow_cls ml_583 (by decide) (fun _ => rfl) rfl rfl (Nat.le_of_ble_eq_true rfl) (Nat.le_of_ble_eq_true rfl) (Nat.le_of_ble_eq_true rfl) md_Flow_findEdges_84 (fun r4 u4 h => ?_)
      refine mr_sub [0] rfl ?_
      exact h
    replace h := h.2 hc
    refine mr_iconst C md_Flow_findEdges_77 mk_iconst_0 ?_
    refine mr_goto C md_Flow_findEdges_78 rfl ?_
    refine mr_sub [0] rfl ?_
    exact h
  replace h := h.2 hc
  refine mr_aload_n C 0 md_Flow_findEdges_13 rfl rfl ?_
  refine mr_get C 2 1 mc_Flow_cls ml_97 rfl (by decide) (by decide) (fun _ => rfl) rfl md_Flow_findEdges_14 ?_
  refine mr_iload_n C 1 md_Flow_findEdges_17 rfl rfl ?_
  refine mr_iconst C md_Flow_findEdges_18 mk_iconst_0 ?_
  refine mr_iast C 22 10 (by decide) (by decide) (fun _ _ => rfl) h.1 md_Flow_findEdges_19 ?_
  replace h := h.2
  refine mr_iconst C md_Flow_findEdges_20 mk_iconst_0 ?_
  refine mr_istore_n C (L' := [(2, .int 0), (0, .ref (E.2.1 2)), (1, .int x1_2)]) md_Flow_findEdges_21 rfl (Nat.le_of_ble_eq_true rfl) rfl ?_
  refine mr_sub [1, 2, 0] rfl ?_
  refine h (fun (x2_22 : Int32) (s22 : mz_St) => mz_G E X 3 22 [(0, .ref (E.2.1 2)), (1, .int x1_2), (2, .int x2_22)] [] s22) (fun x2_22 s22 h => ?_)
  unfold mw_Flow_findEdges_22 at h
  refine mr_iload_n C 2 md_Flow_findEdges_22 rfl rfl ?_
  refine mr_aload_n C 0 md_Flow_findEdges_23 rfl rfl ?_
  refine mr_get C 2 0 mc_Flow_cls ml_96 rfl (by decide) (by decide) (fun _ => rfl) rfl md_Flow_findEdges_24 ?_
  refine mr_iload_n C 1 md_Flow_findEdges_27 rfl rfl ?_
  refine mr_cVNi C (As := [.int x1_2]) (rest := [.int x2_22]) 1 (ms_Program_edges _ E hI _ x1_2 _ h) mo_Program_edges mi_Program_edges mc_Program_cls ml_575 (by decide) (fun _ => rfl) rfl rfl (Nat.le_of_ble_eq_true rfl) (Nat.le_of_ble_eq_true rfl) (Nat.le_of_ble_eq_true rfl) md_Flow_findEdges_28 (fun r5 u5 h => ?_)
  refine mr_icmp_ge C md_Flow_findEdges_31 rfl (fun hc => ?_) (fun hc => ?_)
  · replace h := h.1 hc
    refine mr_iinc C (L' := [(1, .int (x1_2 + 1)), (0, .ref (E.2.1 2)), (2, .int x2_22)]) 1 md_Flow_findEdges_60 rfl (mk_inc mk_iconst_1) (Nat.le_of_ble_eq_true rfl) rfl ?_
    refine mr_goto C md_Flow_findEdges_63 rfl ?_
    refine mr_sub [1, 0] rfl ?_
    exact h
  replace h := h.2 hc
  refine mr_aload_n C 0 md_Flow_findEdges_34 rfl rfl ?_
  refine mr_get C 2 1 mc_Flow_cls ml_97 rfl (by decide) (by decide) (fun _ => rfl) rfl md_Flow_findEdges_35 ?_
  refine mr_iload_n C 1 md_Flow_findEdges_38 rfl rfl ?_
  refine mr_dup2 C md_Flow_findEdges_39 rfl rfl ?_
  refine mr_iald C 22 10 (by decide) (fun _ => rfl) h.1 md_Flow_findEdges_40 ?_
  replace h := h.2
  refine mr_iconst C md_Flow_findEdges_41 mk_iconst_1 ?_
  refine mr_aload_n C 0 md_Flow_findEdges_42 rfl rfl ?_
  refine mr_get C 2 0 mc_Flow_cls ml_96 rfl (by decide) (by decide) (fun _ => rfl) rfl md_Flow_findEdges_43 ?_
  refine mr_iload_n C 1 md_Flow_findEdges_46 rfl rfl ?_
  refine mr_iload_n C 2 md_Flow_findEdges_47 rfl rfl ?_
  refine mr_cVNi C (As := [.int x1_2, .int x2_22]) (rest := [.int 1, .int (mz_rd u5 22 x1_2), .int x1_2, .ref (E.2.1 22)]) 1 (ms_Program_target _ E hI _ x1_2 x2_22 _ h) mo_Program_target mi_Program_target mc_Program_cls ml_579 (by decide) (fun _ => rfl) rfl rfl (Nat.le_of_ble_eq_true rfl) (Nat.le_of_ble_eq_true rfl) (Nat.le_of_ble_eq_true rfl) md_Flow_findEdges_48 (fun r6 u6 h => ?_)
  refine mr_ishl C md_Flow_findEdges_51 ?_
  refine mr_ior C md_Flow_findEdges_52 ?_
  refine mr_iast C 22 10 (by decide) (by decide) (fun _ _ => rfl) h.1 md_Flow_findEdges_53 ?_
  replace h := h.2
  refine mr_iinc C (L' := [(2, .int (x2_22 + 1)), (0, .ref (E.2.1 2)), (1, .int x1_2)]) 2 md_Flow_findEdges_54 rfl (mk_inc mk_iconst_1) (Nat.le_of_ble_eq_true rfl) rfl ?_
  refine mr_goto C md_Flow_findEdges_57 rfl ?_
  refine mr_sub [1, 2, 0] rfl ?_
  exact h
def mw_Flow_goThrough_32 (rec : (mz_St → Prop) → Int32 → Int32 → mz_St → Prop) (K : mz_St → Prop) (a0 : Int32) (a1 : Int32) (P32 : Int32 → mz_St → Prop) (x3_32 : Int32) (s32 : mz_St) : Prop :=
  mw_Program_edges (fun r2 u2 =>
   ((r2 ≤ x3_32 →
    vp_in (u2 1006 0) 10 ∧
    K (mz_up (mz_wr u2 24 (u2 1006 0) a0) 1006 0 (((mz_wr u2 24 (u2 1006 0) a0) 1006 0) + 1))) ∧
   (¬ r2 ≤ x3_32 →
    mw_Program_target (fun r3 u3 =>
     rec (fun u4 =>
      P32 (x3_32 + 1) u4) r3 (a1 + 1) u3) a0 x3_32 u2))) a0 s32
def mwF_Flow_goThrough (rec : (mz_St → Prop) → Int32 → Int32 → mz_St → Prop) (K : mz_St → Prop) (a0 : Int32) (a1 : Int32) (s0 : mz_St) : Prop :=
  mw_Mill_isIn (fun r1 u1 =>
   ((¬ r1 = 0 →
    K u1) ∧
   (r1 = 0 →
    ((a1 < 10 →
     (∀ P32 : Int32 → mz_St → Prop, (∀ (x3_32 : Int32) (s32 : mz_St), mw_Flow_goThrough_32 rec K a0 a1 P32 x3_32 s32 → P32 x3_32 s32) →
     P32 0 (mz_up u1 1005 0 ((u1 1005 0) ||| ((1 : Int32) <<< (a0 &&& 31)))))) ∧
    (¬ a1 < 10 →
     K u1))))) (s0 1005 0) a0 s0
def mwD_Flow_goThrough : Nat → (mz_St → Prop) → Int32 → Int32 → mz_St → Prop
  | 0 => mwF_Flow_goThrough (fun _ _ _ _ => False)
  | d + 1 => mwF_Flow_goThrough (mwD_Flow_goThrough d)
def mw_Flow_goThrough (K : mz_St → Prop) (a0 : Int32) (a1 : Int32) (s0 : mz_St) : Prop := mwD_Flow_goThrough 10 K a0 a1 s0
set_option maxRecDepth 100000 in
set_option maxHeartbeats 4000000 in
theorem msF_Flow_goThrough (l : Launch) (E : mz_En) (hI : mz_Inj E) (f0 l0 F Lo : Nat) (q1 : f0 + 1 ≤ F) (q2 : 23 + l0 ≤ Lo) (q3 : 1 ≤ F) (q4 : 22 ≤ Lo) (rec : (mz_St → Prop) → Int32 → Int32 → mz_St → Prop) (hrec : ∀ (l : Launch) (K : mz_St → Prop) (a0 : Int32) (a1 : Int32) (s0 : mz_St), rec K a0 a1 s0 → mz_Cv l E my_Flow_goThrough mb_Flow_goThrough 4 (f0) (l0) [.ref (E.2.1 2), .int a0, .int a1] s0 K) (K : mz_St → Prop) (a0 : Int32) (a1 : Int32) (s0 : mz_St) (h : mwF_Flow_goThrough rec K a0 a1 s0) : mz_Cv l E my_Flow_goThrough mb_Flow_goThrough 4 (F) (Lo) [.ref (E.2.1 2), .int a0, .int a1] s0 K := by
  refine mz_ctv hI (by decide +kernel) (Nat.le_of_ble_eq_true rfl) (fun X C R => ?_)
  show mz_G E X 4 0 [(0, .ref (E.2.1 2)), (1, .int a0), (2, .int a1)] [] s0
  unfold mwF_Flow_goThrough at h
  refine mr_aload_n C 0 md_Flow_goThrough_0 rfl rfl ?_
  refine mr_get C 2 9 mc_Flow_cls ml_118 rfl (by decide) (by decide) (fun _ => rfl) rfl md_Flow_goThrough_1 ?_
  refine mr_iload_n C 1 md_Flow_goThrough_4 rfl rfl ?_
  refine mr_cSNi C (As := [.int (s0 1005 0), .int a0]) (rest := []) (ms_Mill_isIn _ E hI _ (s0 1005 0) a0 _ h) mo_Mill_isIn mt_Mill_isIn ml_587 rfl rfl (Nat.le_of_ble_eq_true rfl) (by omega) (by omega) md_Flow_goThrough_5 (fun r1 u1 h => ?_)
  refine mr_if_ne C md_Flow_goThrough_8 rfl (fun hc => ?_) (fun hc => ?_)
  · replace h := h.1 hc
    exact mr_vret C R h md_Flow_goThrough_17
  replace h := h.2 hc
  refine mr_iload_n C 2 md_Flow_goThrough_11 rfl rfl ?_
  refine mr_bipush C md_Flow_goThrough_12 mk_bipush_10 ?_
  refine mr_icmp_lt C md_Flow_goThrough_14 rfl (fun hc => ?_) (fun hc => ?_)
  · replace h := h.1 hc
    refine mr_aload_n C 0 md_Flow_goThrough_18 rfl rfl ?_
    refine mr_dup C md_Flow_goThrough_19 rfl ?_
    refine mr_get C 2 9 mc_Flow_cls ml_118 rfl (by decide) (by decide) (fun _ => rfl) rfl md_Flow_goThrough_20 ?_
    refine mr_iconst C md_Flow_goThrough_23 mk_iconst_1 ?_
    refine mr_iload_n C 1 md_Flow_goThrough_24 rfl rfl ?_
    refine mr_ishl C md_Flow_goThrough_25 ?_
    refine mr_ior C md_Flow_goThrough_26 ?_
    refine mr_put C (t0 := .int) 2 9 1005 mc_Flow_cls ml_118 rfl (by decide) (by decide) (fun _ => rfl) rfl (by decide +kernel) rfl rfl (Nat.le_of_ble_eq_true rfl) (fun _ => rfl) (mp_1005 E _) md_Flow_goThrough_27 ?_
    refine mr_iconst C md_Flow_goThrough_30 mk_iconst_0 ?_
    refine mr_istore_n C (L' := [(3, .int 0), (0, .ref (E.2.1 2)), (1, .int a0), (2, .int a1)]) md_Flow_goThrough_31 rfl (Nat.le_of_ble_eq_true rfl) rfl ?_
    refine mr_sub [1, 2, 3, 0] rfl ?_
    refine h (fun (x3_32 : Int32) (s32 : mz_St) => mz_G E X 4 32 [(0, .ref (E.2.1 2)), (1, .int a0), (2, .int a1), (3, .int x3_32)] [] s32) (fun x3_32 s32 h => ?_)
    unfold mw_Flow_goThrough_32 at h
    refine mr_iload_n C 3 md_Flow_goThrough_32 rfl rfl ?_
    refine mr_aload_n C 0 md_Flow_goThrough_33 rfl rfl ?_
    refine mr_get C 2 0 mc_Flow_cls ml_96 rfl (by decide) (by decide) (fun _ => rfl) rfl md_Flow_goThrough_34 ?_
    refine mr_iload_n C 1 md_Flow_goThrough_37 rfl rfl ?_
    refine mr_cVNi C (As := [.int a0]) (rest := [.int x3_32]) 1 (ms_Program_edges _ E hI _ a0 _ h) mo_Program_edges mi_Program_edges mc_Program_cls ml_575 (by decide) (fun _ => rfl) rfl rfl (Nat.le_of_ble_eq_true rfl) (by omega) (by omega) md_Flow_goThrough_38 (fun r2 u2 h => ?_)
    refine mr_icmp_ge C md_Flow_goThrough_41 rfl (fun hc => ?_) (fun hc => ?_)
    · replace h := h.1 hc
      refine mr_aload_n C 0 md_Flow_goThrough_66 rfl rfl ?_
      refine mr_get C 2 3 mc_Flow_cls ml_100 rfl (by decide) (by decide) (fun _ => rfl) rfl md_Flow_goThrough_67 ?_
      refine mr_aload_n C 0 md_Flow_goThrough_70 rfl rfl ?_
      refine mr_get C 2 10 mc_Flow_cls ml_122 rfl (by decide) (by decide) (fun _ => rfl) rfl md_Flow_goThrough_71 ?_
      refine mr_iload_n C 1 md_Flow_goThrough_74 rfl rfl ?_
      refine mr_iast C 24 10 (by decide) (by decide) (fun _ _ => rfl) h.1 md_Flow_goThrough_75 ?_
      replace h := h.2
      refine mr_aload_n C 0 md_Flow_goThrough_76 rfl rfl ?_
      refine mr_dup C md_Flow_goThrough_77 rfl ?_
      refine mr_get C 2 10 mc_Flow_cls ml_122 rfl (by decide) (by decide) (fun _ => rfl) rfl md_Flow_goThrough_78 ?_
      refine mr_iconst C md_Flow_goThrough_81 mk_iconst_1 ?_
      refine mr_iadd C md_Flow_goThrough_82 ?_
      refine mr_put C (t0 := .int) 2 10 1006 mc_Flow_cls ml_122 rfl (by decide) (by decide) (fun _ => rfl) rfl (by decide +kernel) rfl rfl (Nat.le_of_ble_eq_true rfl) (fun _ => rfl) (mp_1006 E _) md_Flow_goThrough_83 ?_
      exact mr_vret C R h md_Flow_goThrough_86
    replace h := h.2 hc
    refine mr_aload_n C 0 md_Flow_goThrough_44 rfl rfl ?_
    refine mr_aload_n C 0 md_Flow_goThrough_45 rfl rfl ?_
    refine mr_get C 2 0 mc_Flow_cls ml_96 rfl (by decide) (by decide) (fun _ => rfl) rfl md_Flow_goThrough_46 ?_
    refine mr_iload_n C 1 md_Flow_goThrough_49 rfl rfl ?_
    refine mr_iload_n C 3 md_Flow_goThrough_50 rfl rfl ?_
    refine mr_cVNi C (As := [.int a0, .int x3_32]) (rest := [.ref (E.2.1 2)]) 1 (ms_Program_target _ E hI _ a0 x3_32 _ h) mo_Program_target mi_Program_target mc_Program_cls ml_579 (by decide) (fun _ => rfl) rfl rfl (Nat.le_of_ble_eq_true rfl) (by omega) (by omega) md_Flow_goThrough_51 (fun r3 u3 h => ?_)
    refine mr_iload_n C 2 md_Flow_goThrough_54 rfl rfl ?_
    refine mr_iconst C md_Flow_goThrough_55 mk_iconst_1 ?_
    refine mr_iadd C md_Flow_goThrough_56 ?_
    refine mr_cVv C (As := [.int r3, .int (a1 + 1)]) (rest := []) 2 (hrec _ _ r3 (a1 + 1) _ h) mo_Flow_goThrough mi_Flow_goThrough mc_Flow_cls ml_595 (by decide) (fun _ => rfl) rfl rfl (Nat.le_of_ble_eq_true rfl) (by omega) (by omega) md_Flow_goThrough_57 (fun u4 h => ?_)
    refine mr_iinc C (L' := [(3, .int (x3_32 + 1)), (0, .ref (E.2.1 2)), (1, .int a0), (2, .int a1)]) 3 md_Flow_goThrough_60 rfl (mk_inc mk_iconst_1) (Nat.le_of_ble_eq_true rfl) rfl ?_
    refine mr_goto C md_Flow_goThrough_63 rfl ?_
    refine mr_sub [1, 2, 3, 0] rfl ?_
    exact h
  replace h := h.2 hc
  exact mr_vret C R h md_Flow_goThrough_17
theorem msD_Flow_goThrough (E : mz_En) (hI : mz_Inj E) (d : Nat) : ∀ (l : Launch) (K : mz_St → Prop) (a0 : Int32) (a1 : Int32) (s0 : mz_St), mwD_Flow_goThrough d K a0 a1 s0 → mz_Cv l E my_Flow_goThrough mb_Flow_goThrough 4 (2 + d) (45 + 23 * d) [.ref (E.2.1 2), .int a0, .int a1] s0 K := by
  induction d with
  | zero => exact fun l K a0 a1 s0 h => msF_Flow_goThrough l E hI 0 0 _ _ (by omega) (by omega) (by omega) (by omega) _ (fun _ _ _ _ _ h => absurd h id) K a0 a1 s0 h
  | succ d ih => exact fun l K a0 a1 s0 h => msF_Flow_goThrough l E hI _ _ _ _ (by omega) (by omega) (by omega) (by omega) _ ih K a0 a1 s0 h
theorem ms_Flow_goThrough (l : Launch) (E : mz_En) (hI : mz_Inj E) (K : mz_St → Prop) (a0 : Int32) (a1 : Int32) (s0 : mz_St) (h : mw_Flow_goThrough K a0 a1 s0) : mz_Cv l E my_Flow_goThrough mb_Flow_goThrough 4 (12) (275) [.ref (E.2.1 2), .int a0, .int a1] s0 K := msD_Flow_goThrough E hI 10 l K a0 a1 s0 h
def mw_Flow_findOrder_28 (K : mz_St → Prop) (P28 : Int32 → mz_St → Prop) (x1_28 : Int32) (s28 : mz_St) : Prop :=
  (¬ (2 : Int32) = 0) ∧
  ((((s28 1006 0) / 2) ≤ x1_28 →
   K s28) ∧
  (¬ ((s28 1006 0) / 2) ≤ x1_28 →
   vp_in x1_28 10 ∧
   vp_in (((s28 1006 0) - 1) - x1_28) 10 ∧
   vp_in x1_28 10 ∧
   vp_in ((((mz_wr s28 24 x1_28 (mz_rd s28 24 (((s28 1006 0) - 1) - x1_28))) 1006 0) - 1) - x1_28) 10 ∧
   P28 (x1_28 + 1) (mz_wr (mz_wr s28 24 x1_28 (mz_rd s28 24 (((s28 1006 0) - 1) - x1_28))) 24 ((((mz_wr s28 24 x1_28 (mz_rd s28 24 (((s28 1006 0) - 1) - x1_28))) 1006 0) - 1) - x1_28) (mz_rd s28 24 x1_28))))
def mw_Flow_findOrder_26 (K : mz_St → Prop) (s26 : mz_St) : Prop :=
  (∀ P28 : Int32 → mz_St → Prop, (∀ (x1_28 : Int32) (s28 : mz_St), mw_Flow_findOrder_28 K P28 x1_28 s28 → P28 x1_28 s28) →
  P28 0 s26)
/-- ValueMill$Flow.findOrder()V: what it does, as a transformer of what must hold behind it -/
def mw_Flow_findOrder (K : mz_St → Prop) (s0 : mz_St) : Prop :=
  (∀ P26 : mz_St → Prop, (∀ (s26 : mz_St), mw_Flow_findOrder_26 K s26 → P26 s26) →
  ((((mz_up (mz_up s0 1005 0 0) 1006 0 0) 1003 0) ≤ 0 →
   P26 (mz_up (mz_up s0 1005 0 0) 1006 0 0)) ∧
  (¬ ((mz_up (mz_up s0 1005 0 0) 1006 0 0) 1003 0) ≤ 0 →
   mw_Flow_goThrough (fun u1 =>
    P26 u1) 0 0 (mz_up (mz_up s0 1005 0 0) 1006 0 0))))
set_option maxRecDepth 100000 in
set_option maxHeartbeats 4000000 in
theorem ms_Flow_findOrder (l : Launch) (E : mz_En) (hI : mz_Inj E) (K : mz_St → Prop) (s0 : mz_St) (h : mw_Flow_findOrder K s0) : mz_Cv l E my_Flow_findOrder mb_Flow_findOrder 3 (13) (298) [.ref (E.2.1 2)] s0 K := by
  refine mz_ctv hI (by decide +kernel) (Nat.le_of_ble_eq_true rfl) (fun X C R => ?_)
  show mz_G E X 3 0 [(0, .ref (E.2.1 2))] [] s0
  unfold mw_Flow_findOrder at h
  refine mr_aload_n C 0 md_Flow_findOrder_0 rfl rfl ?_
  refine mr_iconst C md_Flow_findOrder_1 mk_iconst_0 ?_
  refine mr_put C (t0 := .int) 2 9 1005 mc_Flow_cls ml_118 rfl (by decide) (by decide) (fun _ => rfl) rfl (by decide +kernel) rfl rfl (Nat.le_of_ble_eq_true rfl) (fun _ => rfl) (mp_1005 E _) md_Flow_findOrder_2 ?_
  refine mr_aload_n C 0 md_Flow_findOrder_5 rfl rfl ?_
  refine mr_iconst C md_Flow_findOrder_6 mk_iconst_0 ?_
  refine mr_put C (t0 := .int) 2 10 1006 mc_Flow_cls ml_122 rfl (by decide) (by decide) (fun _ => rfl) rfl (by decide +kernel) rfl rfl (Nat.le_of_ble_eq_true rfl) (fun _ => rfl) (mp_1006 E _) md_Flow_findOrder_7 ?_
  refine mr_aload_n C 0 md_Flow_findOrder_10 rfl rfl ?_
  refine mr_get C 2 0 mc_Flow_cls ml_96 rfl (by decide) (by decide) (fun _ => rfl) rfl md_Flow_findOrder_11 ?_
  refine mr_getN C 1 10 mc_Program_cls ml_64 rfl (by decide) (by decide) (fun _ => rfl) rfl md_Flow_findOrder_14 ?_
  refine mj (h (fun (s26 : mz_St) => mz_G E X 3 26 [(0, .ref (E.2.1 2))] [] s26) (fun s26 h => ?_)) (fun h => ?_)
  · unfold mw_Flow_findOrder_26 at h
    refine mr_iconst C md_Flow_findOrder_26 mk_iconst_0 ?_
    refine mr_istore_n C (L' := [(1, .int 0), (0, .ref (E.2.1 2))]) md_Flow_findOrder_27 rfl (Nat.le_of_ble_eq_true rfl) rfl ?_
    refine mr_sub [1, 0] rfl ?_
    refine h (fun (x1_28 : Int32) (s28 : mz_St) => mz_G E X 3 28 [(0, .ref (E.2.1 2)), (1, .int x1_28)] [] s28) (fun x1_28 s28 h => ?_)
    unfold mw_Flow_findOrder_28 at h
    refine mr_iload_n C 1 md_Flow_findOrder_28 rfl rfl ?_
    refine mr_aload_n C 0 md_Flow_findOrder_29 rfl rfl ?_
    refine mr_get C 2 10 mc_Flow_cls ml_122 rfl (by decide) (by decide) (fun _ => rfl) rfl md_Flow_findOrder_30 ?_
    refine mr_iconst C md_Flow_findOrder_33 mk_iconst_2 ?_
    refine mr_idiv C md_Flow_findOrder_34 h.1 ?_
    replace h := h.2
    refine mr_icmp_ge C md_Flow_findOrder_35 rfl (fun hc => ?_) (fun hc => ?_)
    · replace h := h.1 hc
      exact mr_vret C R h md_Flow_findOrder_84
    replace h := h.2 hc
    refine mr_aload_n C 0 md_Flow_findOrder_38 rfl rfl ?_
    refine mr_get C 2 3 mc_Flow_cls ml_100 rfl (by decide) (by decide) (fun _ => rfl) rfl md_Flow_findOrder_39 ?_
    refine mr_iload_n C 1 md_Flow_findOrder_42 rfl rfl ?_
    refine mr_iald C 24 10 (by decide) (fun _ => rfl) h.1 md_Flow_findOrder_43 ?_
    replace h := h.2
    refine mr_istore_n C (L' := [(2, .int (mz_rd s28 24 x1_28)), (0, .ref (E.2.1 2)), (1, .int x1_28)]) md_Flow_findOrder_44 rfl (Nat.le_of_ble_eq_true rfl) rfl ?_
    refine mr_aload_n C 1 md_Flow_findOrder_45 rfl rfl ?_
    refine mr_get C 2 3 mc_Flow_cls ml_100 rfl (by decide) (by decide) (fun _ => rfl) rfl md_Flow_findOrder_46 ?_
    refine mr_iload_n C 2 md_Flow_findOrder_49 rfl rfl ?_
    refine mr_aload_n C 1 md_Flow_findOrder_50 rfl rfl ?_
    refine mr_get C 2 3 mc_Flow_cls ml_100 rfl (by decide) (by decide) (fun _ => rfl) rfl md_Flow_findOrder_51 ?_
    refine mr_aload_n C 1 md_Flow_findOrder_54 rfl rfl ?_
    refine mr_get C 2 10 mc_Flow_cls ml_122 rfl (by decide) (by decide) (fun _ => rfl) rfl md_Flow_findOrder_55 ?_
    refine mr_iconst C md_Flow_findOrder_58 mk_iconst_1 ?_
    refine mr_isub C md_Flow_findOrder_59 ?_
    refine mr_iload_n C 2 md_Flow_findOrder_60 rfl rfl ?_
    refine mr_isub C md_Flow_findOrder_61 ?_
    refine mr_iald C 24 10 (by decide) (fun _ => rfl) h.1 md_Flow_findOrder_62 ?_
    replace h := h.2
    refine mr_iast C 24 10 (by decide) (by decide) (fun _ _ => rfl) h.1 md_Flow_findOrder_63 ?_
    replace h := h.2
    refine mr_aload_n C 1 md_Flow_findOrder_64 rfl rfl ?_
    refine mr_get C 2 3 mc_Flow_cls ml_100 rfl (by decide) (by decide) (fun _ => rfl) rfl md_Flow_findOrder_65 ?_
    refine mr_aload_n C 1 md_Flow_findOrder_68 rfl rfl ?_
    refine mr_get C 2 10 mc_Flow_cls ml_122 rfl (by decide) (by decide) (fun _ => rfl) rfl md_Flow_findOrder_69 ?_
    refine mr_iconst C md_Flow_findOrder_72 mk_iconst_1 ?_
    refine mr_isub C md_Flow_findOrder_73 ?_
    refine mr_iload_n C 2 md_Flow_findOrder_74 rfl rfl ?_
    refine mr_isub C md_Flow_findOrder_75 ?_
    refine mr_iload_n C 0 md_Flow_findOrder_76 rfl rfl ?_
    refine mr_iast C 24 10 (by decide) (by decide) (fun _ _ => rfl) h.1 md_Flow_findOrder_77 ?_
    replace h := h.2
    refine mr_iinc C (L' := [(1, .int (x1_28 + 1)), (2, .int (mz_rd s28 24 x1_28)), (0, .ref (E.2.1 2))]) 2 md_Flow_findOrder_78 rfl (mk_inc mk_iconst_1) (Nat.le_of_ble_eq_true rfl) rfl ?_
    refine mr_goto C md_Flow_findOrder_81 rfl ?_
    refine mr_sub [2, 0] rfl ?_
    exact h
  refine mr_if_le C md_Flow_findOrder_17 rfl (fun hc => ?_) (fun hc => ?_)
  · replace h := h.1 hc
    exact h
  replace h := h.2 hc
  refine mr_aload_n C 0 md_Flow_findOrder_20 rfl rfl ?_
  refine mr_iconst C md_Flow_findOrder_21 mk_iconst_0 ?_
  refine mr_iconst C md_Flow_findOrder_22 mk_iconst_0 ?_
  refine mr_cVv C (As := [.int 0, .int 0]) (rest := []) 2 (ms_Flow_goThrough _ E hI _ 0 0 _ h) mo_Flow_goThrough mi_Flow_goThrough mc_Flow_cls ml_595 (by decide) (fun _ => rfl) rfl rfl (Nat.le_of_ble_eq_true rfl) (Nat.le_of_ble_eq_true rfl) (Nat.le_of_ble_eq_true rfl) md_Flow_findOrder_23 (fun u1 h => ?_)
  exact h
def mw_Flow_findDominators_70 (P32 : Int32 → mz_St → Prop) (x3_32 : Int32) (s70 : mz_St) : Prop :=
  P32 (x3_32 + 1) s70
def mw_Flow_findDominators_32 (P10 : Int32 → mz_St → Prop) (x1_10 : Int32) (r1 : Int32) (P32 : Int32 → mz_St → Prop) (x3_32 : Int32) (s32 : mz_St) : Prop :=
  (((s32 1003 0) ≤ x3_32 →
   P10 (x1_10 + 1) s32) ∧
  (¬ (s32 1003 0) ≤ x3_32 →
   mw_Mill_isIn (fun r2 u2 =>
    (∀ P70 : mz_St → Prop, (∀ (s70 : mz_St), mw_Flow_findDominators_70 P32 x3_32 s70 → P70 s70) →
    ((r2 = 0 →
     P70 u2) ∧
    (¬ r2 = 0 →
     vp_in x3_32 10 ∧
     vp_in x3_32 10 ∧
     P70 (mz_wr u2 25 x3_32 ((mz_rd u2 25 x3_32) ||| ((1 : Int32) <<< (x1_10 &&& 31)))))))) ((s32 1004 0) &&& (r1 ^^^ (-1))) x3_32 s32))
def mw_Flow_findDominators_10 (K : mz_St → Prop) (P10 : Int32 → mz_St → Prop) (x1_10 : Int32) (s10 : mz_St) : Prop :=
  (((s10 1003 0) ≤ x1_10 →
   K s10) ∧
  (¬ (s10 1003 0) ≤ x1_10 →
   mw_Flow_reachedFrom (fun r1 u1 =>
    (∀ P32 : Int32 → mz_St → Prop, (∀ (x3_32 : Int32) (s32 : mz_St), mw_Flow_findDominators_32 P10 x1_10 r1 P32 x3_32 s32 → P32 x3_32 s32) →
    P32 0 u1)) 0 ((1 : Int32) <<< (x1_10 &&& 31)) s10))
/-- ValueMill$Flow.findDominators()V: what it does, as a transformer of what must hold behind it -/
def mw_Flow_findDominators (K : mz_St → Prop) (s0 : mz_St) : Prop :=
  (∀ P10 : Int32 → mz_St → Prop, (∀ (x1_10 : Int32) (s10 : mz_St), mw_Flow_findDominators_10 K P10 x1_10 s10 → P10 x1_10 s10) →
  P10 0 (mz_fl s0 25 10 0))
set_option maxRecDepth 100000 in
set_option maxHeartbeats 4000000 in
theorem ms_Flow_findDominators (l : Launch) (E : mz_En) (hI : mz_Inj E) (K : mz_St → Prop) (s0 : mz_St) (h : mw_Flow_findDominators K s0) : mz_Cv l E my_Flow_findDominators mb_Flow_findDominators 4 (2) (47) [.ref (E.2.1 2)] s0 K := by
  refine mz_ctv hI (by decide +kernel) (Nat.le_of_ble_eq_true rfl) (fun X C R => ?_)
  show mz_G E X 4 0 [(0, .ref (E.2.1 2))] [] s0
  unfold mw_Flow_findDominators at h
  refine mr_aload_n C 0 md_Flow_findDominators_0 rfl rfl ?_
  refine mr_get C 2 4 mc_Flow_cls ml_106 rfl (by decide) (by decide) (fun _ => rfl) rfl md_Flow_findDominators_1 ?_
  refine mr_iconst C md_Flow_findDominators_4 mk_iconst_0 ?_
  refine mr_fill C 25 10 (by decide) (by decide) (by decide) (fun _ _ => rfl) (Nat.le_of_ble_eq_true rfl) (Nat.le_of_ble_eq_true rfl) ml_590 md_Flow_findDominators_5 ?_
  refine mr_iconst C md_Flow_findDominators_8 mk_iconst_0 ?_
  refine mr_istore_n C (L' := [(1, .int 0), (0, .ref (E.2.1 2))]) md_Flow_findDominators_9 rfl (Nat.le_of_ble_eq_true rfl) rfl ?_
  refine mr_sub [1, 0] rfl ?_
  refine h (fun (x1_10 : Int32) (s10 : mz_St) => mz_G E X 4 10 [(0, .ref (E.2.1 2)), (1, .int x1_10)] [] s10) (fun x1_10 s10 h => ?_)
  unfold mw_Flow_findDominators_10 at h
  refine mr_iload_n C 1 md_Flow_findDominators_10 rfl rfl ?_
  refine mr_aload_n C 0 md_Flow_findDominators_11 rfl rfl ?_
  refine mr_get C 2 0 mc_Flow_cls ml_96 rfl (by decide) (by decide) (fun _ => rfl) rfl md_Flow_findDominators_12 ?_
  refine mr_getN C 1 10 mc_Program_cls ml_64 rfl (by decide) (by decide) (fun _ => rfl) rfl md_Flow_findDominators_15 ?_
  refine mr_icmp_ge C md_Flow_findDominators_18 rfl (fun hc => ?_) (fun hc => ?_)
  · replace h := h.1 hc
    exact mr_vret C R h md_Flow_findDominators_82
  replace h := h.2 hc
  refine mr_aload_n C 0 md_Flow_findDominators_21 rfl rfl ?_
  refine mr_iconst C md_Flow_findDominators_22 mk_iconst_0 ?_
  refine mr_iconst C md_Flow_findDominators_23 mk_iconst_1 ?_
  refine mr_iload_n C 1 md_Flow_findDominators_24 rfl rfl ?_
  refine mr_ishl C md_Flow_findDominators_25 ?_
  refine mr_cVi C (As := [.int 0, .int ((1 : Int32) <<< (x1_10 &&& 31))]) (rest := []) 2 (ms_Flow_reachedFrom _ E hI _ 0 ((1 : Int32) <<< (x1_10 &&& 31)) _ h) mo_Flow_reachedFrom mi_Flow_reachedFrom mc_Flow_cls ml_583 (by decide) (fun _ => rfl) rfl rfl (Nat.le_of_ble_eq_true rfl) (Nat.le_of_ble_eq_true rfl) (Nat.le_of_ble_eq_true rfl) md_Flow_findDominators_26 (fun r1 u1 h => ?_)
  refine mr_istore_n C (L' := [(2, .int r1), (0, .ref (E.2.1 2)), (1, .int x1_10)]) md_Flow_findDominators_29 rfl (Nat.le_of_ble_eq_true rfl) rfl ?_
  refine mr_iconst C md_Flow_findDominators_30 mk_iconst_0 ?_
  refine mr_istore_n C (L' := [(3, .int 0), (2, .int r1), (0, .ref (E.2.1 2)), (1, .int x1_10)]) md_Flow_findDominators_31 rfl (Nat.le_of_ble_eq_true rfl) rfl ?_
  refine mr_sub [2, 3, 1, 0] rfl ?_
  refine h (fun (x3_32 : Int32) (s32 : mz_St) => mz_G E X 4 32 [(0, .ref (E.2.1 2)), (1, .int x1_10), (2, .int r1), (3, .int x3_32)] [] s32) (fun x3_32 s32 h => ?_)
  unfold mw_Flow_findDominators_32 at h
  refine mr_iload_n C 3 md_Flow_findDominators_32 rfl rfl ?_
  refine mr_aload_n C 0 md_Flow_findDominators_33 rfl rfl ?_
  refine mr_get C 2 0 mc_Flow_cls ml_96 rfl (by decide) (by decide) (fun _ => rfl) rfl md_Flow_findDominators_34 ?_
  refine mr_getN C 1 10 mc_Program_cls ml_64 rfl (by decide) (by decide) (fun _ => rfl) rfl md_Flow_findDominators_37 ?_
  refine mr_icmp_ge C md_Flow_findDominators_40 rfl (fun hc => ?_) (fun hc => ?_)
  · replace h := h.1 hc
    refine mr_iinc C (L' := [(1, .int (x1_10 + 1)), (0, .ref (E.2.1 2)), (2, .int r1), (3, .int x3_32)]) 1 md_Flow_findDominators_76 rfl (mk_inc mk_iconst_1) (Nat.le_of_ble_eq_true rfl) rfl ?_
    refine mr_goto C md_Flow_findDominators_79 rfl ?_
    refine mr_sub [1, 0] rfl ?_
    exact h
  replace h := h.2 hc
  refine mr_aload_n C 0 md_Flow_findDominators_43 rfl rfl ?_
  refine mr_get C 2 8 mc_Flow_cls ml_116 rfl (by decide) (by decide) (fun _ => rfl) rfl md_Flow_findDominators_44 ?_
  refine mr_iload_n C 2 md_Flow_findDominators_47 rfl rfl ?_
  refine mr_iconst C md_Flow_findDominators_48 mk_iconst_m1 ?_
  refine mr_ixor C md_Flow_findDominators_49 ?_
  refine mr_iand C md_Flow_findDominators_50 ?_
  refine mr_iload_n C 3 md_Flow_findDominators_51 rfl rfl ?_
  refine mr_cSNi C (As := [.int ((s32 1004 0) &&& (r1 ^^^ (-1))), .int x3_32]) (rest := []) (ms_Mill_isIn _ E hI _ ((s32 1004 0) &&& (r1 ^^^ (-1))) x3_32 _ h) mo_Mill_isIn mt_Mill_isIn ml_587 rfl rfl (Nat.le_of_ble_eq_true rfl) (Nat.le_of_ble_eq_true rfl) (Nat.le_of_ble_eq_true rfl) md_Flow_findDominators_52 (fun r2 u2 h => ?_)
  refine mj (h (fun (s70 : mz_St) => mz_G E X 4 70 [(0, .ref (E.2.1 2)), (1, .int x1_10), (2, .int r1), (3, .int x3_32)] [] s70) (fun s70 h => ?_)) (fun h => ?_)
  · unfold mw_Flow_findDominators_70 at h
    refine mr_iinc C (L' := [(3, .int (x3_32 + 1)), (0, .ref (E.2.1 2)), (1, .int x1_10), (2, .int r1)]) 3 md_Flow_findDominators_70 rfl (mk_inc mk_iconst_1) (Nat.le_of_ble_eq_true rfl) rfl ?_
    refine mr_goto C md_Flow_findDominators_73 rfl ?_
    refine mr_sub [1, 2, 3, 0] rfl ?_
    exact h
  refine mr_if_eq C md_Flow_findDominators_55 rfl (fun hc => ?_) (fun hc => ?_)
  · replace h := h.1 hc
    exact h
  replace h := h.2 hc
  refine mr_aload_n C 0 md_Flow_findDominators_58 rfl rfl ?_
  refine mr_get C 2 4 mc_Flow_cls ml_106 rfl (by decide) (by decide) (fun _ => rfl) rfl md_Flow_findDominators_59 ?_
  refine mr_iload_n C 3 md_Flow_findDominators_62 rfl rfl ?_
  refine mr_dup2 C md_Flow_findDominators_63 rfl rfl ?_
  refine mr_iald C 25 10 (by decide) (fun _ => rfl) h.1 md_Flow_findDominators_64 ?_
  replace h := h.2
  refine mr_iconst C md_Flow_findDominators_65 mk_iconst_1 ?_
  refine mr_iload_n C 1 md_Flow_findDominators_66 rfl rfl ?_
  refine mr_ishl C md_Flow_findDominators_67 ?_
  refine mr_ior C md_Flow_findDominators_68 ?_
  refine mr_iast C 25 10 (by decide) (by decide) (fun _ _ => rfl) h.1 md_Flow_findDominators_69 ?_
  replace h := h.2
  exact h
def mw_Flow_findNearest_58 (P22 : Int32 → mz_St → Prop) (x3_22 : Int32) (s58 : mz_St) : Prop :=
  P22 (x3_22 + 1) s58
def mw_Flow_findNearest_22 (K : mz_St → Prop) (a0 : Int32) (s0 : mz_St) (P22 : Int32 → mz_St → Prop) (x3_22 : Int32) (s22 : mz_St) : Prop :=
  (((s22 1003 0) ≤ x3_22 →
   K s22) ∧
  (¬ (s22 1003 0) ≤ x3_22 →
   mw_Mill_isIn (fun r1 u1 =>
    (∀ P58 : mz_St → Prop, (∀ (s58 : mz_St), mw_Flow_findNearest_58 P22 x3_22 s58 → P58 s58) →
    ((r1 = 0 →
     P58 u1) ∧
    (¬ r1 = 0 →
     vp_in x3_22 10 ∧
     ((¬ (mz_rd u1 25 x3_22) = ((mz_rd (mz_wr s0 26 a0 (-1)) 25 a0) &&& (((1 : Int32) <<< (a0 &&& 31)) ^^^ (-1))) →
      P58 u1) ∧
     ((mz_rd u1 25 x3_22) = ((mz_rd (mz_wr s0 26 a0 (-1)) 25 a0) &&& (((1 : Int32) <<< (a0 &&& 31)) ^^^ (-1))) →
      vp_in a0 10 ∧
      P58 (mz_wr u1 26 a0 x3_22))))))) ((mz_rd (mz_wr s0 26 a0 (-1)) 25 a0) &&& (((1 : Int32) <<< (a0 &&& 31)) ^^^ (-1))) x3_22 s22))
/-- ValueMill$Flow.findNearest(I)V: what it does, as a transformer of what must hold behind it -/
def mw_Flow_findNearest (K : mz_St → Prop) (a0 : Int32) (s0 : mz_St) : Prop :=
  vp_in a0 10 ∧
  vp_in a0 10 ∧
  (∀ P22 : Int32 → mz_St → Prop, (∀ (x3_22 : Int32) (s22 : mz_St), mw_Flow_findNearest_22 K a0 s0 P22 x3_22 s22 → P22 x3_22 s22) →
  P22 0 (mz_wr s0 26 a0 (-1)))
set_option maxRecDepth 100000 in
set_option maxHeartbeats 4000000 in
theorem ms_Flow_findNearest (l : Launch) (E : mz_En) (hI : mz_Inj E) (K : mz_St → Prop) (a0 : Int32) (s0 : mz_St) (h : mw_Flow_findNearest K a0 s0) : mz_Cv l E my_Flow_findNearest mb_Flow_findNearest 4 (1) (21) [.ref (E.2.1 2), .int a0] s0 K := by
  refine mz_ctv hI (by decide +kernel) (Nat.le_of_ble_eq_true rfl) (fun X C R => ?_)
  show mz_G E X 4 0 [(0, .ref (E.2.1 2)), (1, .int a0)] [] s0
  unfold mw_Flow_findNearest at h
  refine mr_aload_n C 0 md_Flow_findNearest_0 rfl rfl ?_
  refine mr_get C 2 5 mc_Flow_cls ml_107 rfl (by decide) (by decide) (fun _ => rfl) rfl md_Flow_findNearest_1 ?_
  refine mr_iload_n C 1 md_Flow_findNearest_4 rfl rfl ?_
  refine mr_iconst C md_Flow_findNearest_5 mk_iconst_m1 ?_
  refine mr_iast C 26 10 (by decide) (by decide) (fun _ _ => rfl) h.1 md_Flow_findNearest_6 ?_
  replace h := h.2
  refine mr_aload_n C 0 md_Flow_findNearest_7 rfl rfl ?_
  refine mr_get C 2 4 mc_Flow_cls ml_106 rfl (by decide) (by decide) (fun _ => rfl) rfl md_Flow_findNearest_8 ?_
  refine mr_iload_n C 1 md_Flow_findNearest_11 rfl rfl ?_
  refine mr_iald C 25 10 (by decide) (fun _ => rfl) h.1 md_Flow_findNearest_12 ?_
  replace h := h.2
  refine mr_iconst C md_Flow_findNearest_13 mk_iconst_1 ?_
  refine mr_iload_n C 1 md_Flow_findNearest_14 rfl rfl ?_
  refine mr_ishl C md_Flow_findNearest_15 ?_
  refine mr_iconst C md_Flow_findNearest_16 mk_iconst_m1 ?_
  refine mr_ixor C md_Flow_findNearest_17 ?_
  refine mr_iand C md_Flow_findNearest_18 ?_
  refine mr_istore_n C (L' := [(2, .int ((mz_rd (mz_wr s0 26 a0 (-1)) 25 a0) &&& (((1 : Int32) <<< (a0 &&& 31)) ^^^ (-1)))), (0, .ref (E.2.1 2)), (1, .int a0)]) md_Flow_findNearest_19 rfl (Nat.le_of_ble_eq_true rfl) rfl ?_
  refine mr_iconst C md_Flow_findNearest_20 mk_iconst_0 ?_
  refine mr_istore_n C (L' := [(3, .int 0), (2, .int ((mz_rd (mz_wr s0 26 a0 (-1)) 25 a0) &&& (((1 : Int32) <<< (a0 &&& 31)) ^^^ (-1)))), (0, .ref (E.2.1 2)), (1, .int a0)]) md_Flow_findNearest_21 rfl (Nat.le_of_ble_eq_true rfl) rfl ?_
  refine mr_sub [2, 3, 1, 0] rfl ?_
  refine h (fun (x3_22 : Int32) (s22 : mz_St) => mz_G E X 4 22 [(0, .ref (E.2.1 2)), (1, .int a0), (2, .int ((mz_rd (mz_wr s0 26 a0 (-1)) 25 a0) &&& (((1 : Int32) <<< (a0 &&& 31)) ^^^ (-1)))), (3, .int x3_22)] [] s22) (fun x3_22 s22 h => ?_)
  unfold mw_Flow_findNearest_22 at h
  refine mr_iload_n C 3 md_Flow_findNearest_22 rfl rfl ?_
  refine mr_aload_n C 0 md_Flow_findNearest_23 rfl rfl ?_
  refine mr_get C 2 0 mc_Flow_cls ml_96 rfl (by decide) (by decide) (fun _ => rfl) rfl md_Flow_findNearest_24 ?_
  refine mr_getN C 1 10 mc_Program_cls ml_64 rfl (by decide) (by decide) (fun _ => rfl) rfl md_Flow_findNearest_27 ?_
  refine mr_icmp_ge C md_Flow_findNearest_30 rfl (fun hc => ?_) (fun hc => ?_)
  · replace h := h.1 hc
    exact mr_vret C R h md_Flow_findNearest_64
  replace h := h.2 hc
  refine mr_iload_n C 2 md_Flow_findNearest_33 rfl rfl ?_
  refine mr_iload_n C 3 md_Flow_findNearest_34 rfl rfl ?_
  refine mr_cSNi C (As := [.int ((mz_rd (mz_wr s0 26 a0 (-1)) 25 a0) &&& (((1 : Int32) <<< (a0 &&& 31)) ^^^ (-1))), .int x3_22]) (rest := []) (ms_Mill_isIn _ E hI _ ((mz_rd (mz_wr s0 26 a0 (-1)) 25 a0) &&& (((1 : Int32) <<< (a0 &&& 31)) ^^^ (-1))) x3_22 _ h) mo_Mill_isIn mt_Mill_isIn ml_587 rfl rfl (Nat.le_of_ble_eq_true rfl) (Nat.le_of_ble_eq_true rfl) (Nat.le_of_ble_eq_true rfl) md_Flow_findNearest_35 (fun r1 u1 h => ?_)
  refine mj (h (fun (s58 : mz_St) => mz_G E X 4 58 [(0, .ref (E.2.1 2)), (1, .int a0), (2, .int ((mz_rd (mz_wr s0 26 a0 (-1)) 25 a0) &&& (((1 : Int32) <<< (a0 &&& 31)) ^^^ (-1)))), (3, .int x3_22)] [] s58) (fun s58 h => ?_)) (fun h => ?_)
  · unfold mw_Flow_findNearest_58 at h
    refine mr_iinc C (L' := [(3, .int (x3_22 + 1)), (0, .ref (E.2.1 2)), (1, .int a0), (2, .int ((mz_rd (mz_wr s0 26 a0 (-1)) 25 a0) &&& (((1 : Int32) <<< (a0 &&& 31)) ^^^ (-1))))]) 3 md_Flow_findNearest_58 rfl (mk_inc mk_iconst_1) (Nat.le_of_ble_eq_true rfl) rfl ?_
    refine mr_goto C md_Flow_findNearest_61 rfl ?_
    refine mr_sub [1, 2, 3, 0] rfl ?_
    exact h
  refine mr_if_eq C md_Flow_findNearest_38 rfl (fun hc => ?_) (fun hc => ?_)
  · replace h := h.1 hc
    exact h
  replace h := h.2 hc
  refine mr_aload_n C 0 md_Flow_findNearest_41 rfl rfl ?_
  refine mr_get C 2 4 mc_Flow_cls ml_106 rfl (by decide) (by decide) (fun _ => rfl) rfl md_Flow_findNearest_42 ?_
  refine mr_iload_n C 3 md_Flow_findNearest_45 rfl rfl ?_
  refine mr_iald C 25 10 (by decide) (fun _ => rfl) h.1 md_Flow_findNearest_46 ?_
  replace h := h.2
  refine mr_iload_n C 2 md_Flow_findNearest_47 rfl rfl ?_
  refine mr_icmp_ne C md_Flow_findNearest_48 rfl (fun hc => ?_) (fun hc => ?_)
  · replace h := h.1 hc
    exact h
  replace h := h.2 hc
  refine mr_aload_n C 0 md_Flow_findNearest_51 rfl rfl ?_
  refine mr_get C 2 5 mc_Flow_cls ml_107 rfl (by decide) (by decide) (fun _ => rfl) rfl md_Flow_findNearest_52 ?_
  refine mr_iload_n C 1 md_Flow_findNearest_55 rfl rfl ?_
  refine mr_iload_n C 3 md_Flow_findNearest_56 rfl rfl ?_
  refine mr_iast C 26 10 (by decide) (by decide) (fun _ _ => rfl) h.1 md_Flow_findNearest_57 ?_
  replace h := h.2
  exact h
/-- ValueMill$Flow.dominates(II)Z: what it does, as a transformer of what must hold behind it -/
def mw_Flow_dominates (K : Int32 → mz_St → Prop) (a0 : Int32) (a1 : Int32) (s0 : mz_St) : Prop :=
  vp_in a1 10 ∧
  mw_Mill_isIn (fun r1 u1 =>
   (r1 = 0 ∨ r1 = 1) ∧ K r1 u1) (mz_rd s0 25 a1) a0 s0
set_option maxRecDepth 100000 in
set_option maxHeartbeats 4000000 in
theorem ms_Flow_dominates (l : Launch) (E : mz_En) (hI : mz_Inj E) (K : Int32 → mz_St → Prop) (a0 : Int32) (a1 : Int32) (s0 : mz_St) (h : mw_Flow_dominates K a0 a1 s0) : mz_Ci l E my_Flow_dominates mb_Flow_dominates 3 (some .boolean) (1) (21) [.ref (E.2.1 2), .int a0, .int a1] s0 K := by
  refine mz_cti hI (by decide +kernel) (Nat.le_of_ble_eq_true rfl) (fun X C R => ?_)
  show mz_G E X 3 0 [(0, .ref (E.2.1 2)), (1, .int a0), (2, .int a1)] [] s0
  unfold mw_Flow_dominates at h
  refine mr_aload_n C 0 md_Flow_dominates_0 rfl rfl ?_
  refine mr_get C 2 4 mc_Flow_cls ml_106 rfl (by decide) (by decide) (fun _ => rfl) rfl md_Flow_dominates_1 ?_
  refine mr_iload_n C 2 md_Flow_dominates_4 rfl rfl ?_
  refine mr_iald C 25 10 (by decide) (fun _ => rfl) h.1 md_Flow_dominates_5 ?_
  replace h := h.2
  refine mr_iload_n C 1 md_Flow_dominates_6 rfl rfl ?_
  refine mr_cSNi C (As := [.int (mz_rd s0 25 a1), .int a0]) (rest := []) (ms_Mill_isIn _ E hI _ (mz_rd s0 25 a1) a0 _ h) mo_Mill_isIn mt_Mill_isIn ml_587 rfl rfl (Nat.le_of_ble_eq_true rfl) (Nat.le_of_ble_eq_true rfl) (Nat.le_of_ble_eq_true rfl) md_Flow_dominates_7 (fun r1 u1 h => ?_)
  exact mr_zret C R h.1 h.2 md_Flow_dominates_10
def mw_Flow_findFrontier_105 (P48 : Int32 → mz_St → Prop) (x3_48 : Int32) (s105 : mz_St) : Prop :=
  P48 (x3_48 + 1) s105
def mw_Flow_findFrontier_78 (a0 : Int32) (x2_4 : Int32) (P48 : Int32 → mz_St → Prop) (x3_48 : Int32) (y0_78 : Int32) (s78 : mz_St) : Prop :=
  mw_Mill_isIn (fun r1 u1 =>
   (∀ P105 : mz_St → Prop, (∀ (s105 : mz_St), mw_Flow_findFrontier_105 P48 x3_48 s105 → P105 s105) →
   ((r1 = 0 →
    P105 u1) ∧
   (¬ r1 = 0 →
    ((¬ y0_78 = 0 →
     P105 u1) ∧
    (y0_78 = 0 →
     vp_in a0 10 ∧
     vp_in a0 10 ∧
     P105 (mz_wr u1 27 a0 ((mz_rd u1 27 a0) ||| ((1 : Int32) <<< (x3_48 &&& 31)))))))))) x2_4 x3_48 s78
def mw_Flow_findFrontier_77 (P78 : Int32 → mz_St → Prop) (s77 : mz_St) : Prop :=
  P78 0 s77
def mw_Flow_findFrontier_48 (K : mz_St → Prop) (a0 : Int32) (x2_4 : Int32) (P48 : Int32 → mz_St → Prop) (x3_48 : Int32) (s48 : mz_St) : Prop :=
  (((s48 1003 0) ≤ x3_48 →
   K s48) ∧
  (¬ (s48 1003 0) ≤ x3_48 →
   (∀ P78 : Int32 → mz_St → Prop, (∀ (y0_78 : Int32) (s78 : mz_St), mw_Flow_findFrontier_78 a0 x2_4 P48 x3_48 y0_78 s78 → P78 y0_78 s78) →
   (∀ P77 : mz_St → Prop, (∀ (s77 : mz_St), mw_Flow_findFrontier_77 P78 s77 → P77 s77) →
   ((x3_48 = a0 →
    P77 s48) ∧
   (¬ x3_48 = a0 →
    mw_Flow_dominates (fun r2 u2 =>
     ((r2 = 0 →
      P77 u2) ∧
     (¬ r2 = 0 →
      P78 1 u2))) a0 x3_48 s48))))))
def mw_Flow_findFrontier_33 (P4 : Int32 → Int32 → mz_St → Prop) (x3_4 : Int32) (x2_33 : Int32) (s33 : mz_St) : Prop :=
  P4 x2_33 (x3_4 + 1) s33
def mw_Flow_findFrontier_4 (K : mz_St → Prop) (a0 : Int32) (P4 : Int32 → Int32 → mz_St → Prop) (x2_4 : Int32) (x3_4 : Int32) (s4 : mz_St) : Prop :=
  (((s4 1003 0) ≤ x3_4 →
   vp_in a0 10 ∧
   (∀ P48 : Int32 → mz_St → Prop, (∀ (x3_48 : Int32) (s48 : mz_St), mw_Flow_findFrontier_48 K a0 x2_4 P48 x3_48 s48 → P48 x3_48 s48) →
   P48 0 (mz_wr s4 27 a0 0))) ∧
  (¬ (s4 1003 0) ≤ x3_4 →
   mw_Flow_dominates (fun r3 u3 =>
    (∀ P33 : Int32 → mz_St → Prop, (∀ (x2_33 : Int32) (s33 : mz_St), mw_Flow_findFrontier_33 P4 x3_4 x2_33 s33 → P33 x2_33 s33) →
    ((r3 = 0 →
     P33 x2_4 u3) ∧
    (¬ r3 = 0 →
     vp_in x3_4 10 ∧
     P33 (x2_4 ||| (mz_rd u3 22 x3_4)) u3)))) a0 x3_4 s4))
/-- ValueMill$Flow.findFrontier(I)V: what it does, as a transformer of what must hold behind it -/
def mw_Flow_findFrontier (K : mz_St → Prop) (a0 : Int32) (s0 : mz_St) : Prop :=
  (∀ P4 : Int32 → Int32 → mz_St → Prop, (∀ (x2_4 : Int32) (x3_4 : Int32) (s4 : mz_St), mw_Flow_findFrontier_4 K a0 P4 x2_4 x3_4 s4 → P4 x2_4 x3_4 s4) →
  P4 0 0 s0)
set_option maxRecDepth 100000 in
set_option maxHeartbeats 4000000 in
theorem ms_Flow_findFrontier (l : Launch) (E : mz_En) (hI : mz_Inj E) (K : mz_St → Prop) (a0 : Int32) (s0 : mz_St) (h : mw_Flow_findFrontier K a0 s0) : mz_Cv l E my_Flow_findFrontier mb_Flow_findFrontier 5 (2) (43) [.ref (E.2.1 2), .int a0] s0 K := by
  refine mz_ctv hI (by decide +kernel) (Nat.le_of_ble_eq_true rfl) (fun X C R => ?_)
  show mz_G E X 5 0 [(0, .ref (E.2.1 2)), (1, .int a0)] [] s0
  unfold mw_Flow_findFrontier at h
  refine mr_iconst C md_Flow_findFrontier_0 mk_iconst_0 ?_
  refine mr_istore_n C (L' := [(2, .int 0), (0, .ref (E.2.1 2)), (1, .int a0)]) md_Flow_findFrontier_1 rfl (Nat.le_of_ble_eq_true rfl) rfl ?_
  refine mr_iconst C md_Flow_findFrontier_2 mk_iconst_0 ?_
  refine mr_istore_n C (L' := [(3, .int 0), (2, .int 0), (0, .ref (E.2.1 2)), (1, .int a0)]) md_Flow_findFrontier_3 rfl (Nat.le_of_ble_eq_true rfl) rfl ?_
  refine mr_sub [2, 3, 1, 0] rfl ?_
  refine h (fun (x2_4 : Int32) (x3_4 : Int32) (s4 : mz_St) => mz_G E X 5 4 [(0, .ref (E.2.1 2)), (1, .int a0), (2, .int x2_4), (3, .int x3_4)] [] s4) (fun x2_4 x3_4 s4 h => ?_)
  unfold mw_Flow_findFrontier_4 at h
  refine mr_iload_n C 3 md_Flow_findFrontier_4 rfl rfl ?_
  refine mr_aload_n C 0 md_Flow_findFrontier_5 rfl rfl ?_
  refine mr_get C 2 0 mc_Flow_cls ml_96 rfl (by decide) (by decide) (fun _ => rfl) rfl md_Flow_findFrontier_6 ?_
  refine mr_getN C 1 10 mc_Program_cls ml_64 rfl (by decide) (by decide) (fun _ => rfl) rfl md_Flow_findFrontier_9 ?_
  refine mr_icmp_ge C md_Flow_findFrontier_12 rfl (fun hc => ?_) (fun hc => ?_)
  · replace h := h.1 hc
    refine mr_aload_n C 0 md_Flow_findFrontier_39 rfl rfl ?_
    refine mr_get C 2 6 mc_Flow_cls ml_110 rfl (by decide) (by decide) (fun _ => rfl) rfl md_Flow_findFrontier_40 ?_
    refine mr_iload_n C 1 md_Flow_findFrontier_43 rfl rfl ?_
    refine mr_iconst C md_Flow_findFrontier_44 mk_iconst_0 ?_
    refine mr_iast C 27 10 (by decide) (by decide) (fun _ _ => rfl) h.1 md_Flow_findFrontier_45 ?_
    replace h := h.2
    refine mr_iconst C md_Flow_findFrontier_46 mk_iconst_0 ?_
    refine mr_istore_n C (L' := [(3, .int 0), (0, .ref (E.2.1 2)), (1, .int a0), (2, .int x2_4)]) md_Flow_findFrontier_47 rfl (Nat.le_of_ble_eq_true rfl) rfl ?_
    refine mr_sub [1, 2, 3, 0] rfl ?_
    refine h (fun (x3_48 : Int32) (s48 : mz_St) => mz_G E X 5 48 [(0, .ref (E.2.1 2)), (1, .int a0), (2, .int x2_4), (3, .int x3_48)] [] s48) (fun x3_48 s48 h => ?_)
    unfold mw_Flow_findFrontier_48 at h
    refine mr_iload_n C 3 md_Flow_findFrontier_48 rfl rfl ?_
    refine mr_aload_n C 0 md_Flow_findFrontier_49 rfl rfl ?_
    refine mr_get C 2 0 mc_Flow_cls ml_96 rfl (by decide) (by decide) (fun _ => rfl) rfl md_Flow_findFrontier_50 ?_
    refine mr_getN C 1 10 mc_Program_cls ml_64 rfl (by decide) (by decide) (fun _ => rfl) rfl md_Flow_findFrontier_53 ?_
    refine mr_icmp_ge C md_Flow_findFrontier_56 rfl (fun hc => ?_) (fun hc => ?_)
    · replace h := h.1 hc
      exact mr_vret C R h md_Flow_findFrontier_111
    replace h := h.2 hc
    refine mr_iload_n C 3 md_Flow_findFrontier_59 rfl rfl ?_
    refine mr_iload_n C 1 md_Flow_findFrontier_60 rfl rfl ?_
    refine mj (h (fun (y0_78 : Int32) (s78 : mz_St) => mz_G E X 5 78 [(0, .ref (E.2.1 2)), (1, .int a0), (2, .int x2_4), (3, .int x3_48)] [.int y0_78] s78) (fun y0_78 s78 h => ?_)) (fun h => ?_)
    · unfold mw_Flow_findFrontier_78 at h
      refine mr_istore C (L' := [(4, .int y0_78), (0, .ref (E.2.1 2)), (1, .int a0), (2, .int x2_4), (3, .int x3_48)]) md_Flow_findFrontier_78 (Nat.le_of_ble_eq_true rfl) rfl ?_
      refine mr_iload_n C 3 md_Flow_findFrontier_80 rfl rfl ?_
      refine mr_iload_n C 4 md_Flow_findFrontier_81 rfl rfl ?_
      refine mr_cSNi C (As := [.int x2_4, .int x3_48]) (rest := []) (ms_Mill_isIn _ E hI _ x2_4 x3_48 _ h) mo_Mill_isIn mt_Mill_isIn ml_587 rfl rfl (Nat.le_of_ble_eq_true rfl) (Nat.le_of_ble_eq_true rfl) (Nat.le_of_ble_eq_true rfl) md_Flow_findFrontier_82 (fun r1 u1 h => ?_)
      refine mj (h (fun (s105 : mz_St) => mz_G E X 5 105 [(0, .ref (E.2.1 2)), (1, .int a0), (2, .int x2_4), (3, .int x3_48)] [] s105) (fun s105 h => ?_)) (fun h => ?_)
      · unfold mw_Flow_findFrontier_105 at h
        refine mr_iinc C (L' := [(3, .int (x3_48 + 1)), (0, .ref (E.2.1 2)), (1, .int a0), (2, .int x2_4)]) 3 md_Flow_findFrontier_105 rfl (mk_inc mk_iconst_1) (Nat.le_of_ble_eq_true rfl) rfl ?_
        refine mr_goto C md_Flow_findFrontier_108 rfl ?_
        refine mr_sub [1, 2, 3, 0] rfl ?_
        exact h
      refine mr_if_eq C md_Flow_findFrontier_85 rfl (fun hc => ?_) (fun hc => ?_)
      · replace h := h.1 hc
        refine mr_sub [1, 2, 3, 4] rfl ?_
        exact h
      replace h := h.2 hc
      refine mr_iload C 0 md_Flow_findFrontier_88 rfl ?_
      refine mr_if_ne C md_Flow_findFrontier_90 rfl (fun hc => ?_) (fun hc => ?_)
      · replace h := h.1 hc
        refine mr_sub [1, 2, 3, 4] rfl ?_
        exact h
      replace h := h.2 hc
      refine mr_aload_n C 1 md_Flow_findFrontier_93 rfl rfl ?_
      refine mr_get C 2 6 mc_Flow_cls ml_110 rfl (by decide) (by decide) (fun _ => rfl) rfl md_Flow_findFrontier_94 ?_
      refine mr_iload_n C 2 md_Flow_findFrontier_97 rfl rfl ?_
      refine mr_dup2 C md_Flow_findFrontier_98 rfl rfl ?_
      refine mr_iald C 27 10 (by decide) (fun _ => rfl) h.1 md_Flow_findFrontier_99 ?_
      replace h := h.2
      refine mr_iconst C md_Flow_findFrontier_100 mk_iconst_1 ?_
      refine mr_iload_n C 4 md_Flow_findFrontier_101 rfl rfl ?_
      refine mr_ishl C md_Flow_findFrontier_102 ?_
      refine mr_ior C md_Flow_findFrontier_103 ?_
      refine mr_iast C 27 10 (by decide) (by decide) (fun _ _ => rfl) h.1 md_Flow_findFrontier_104 ?_
      replace h := h.2
      refine mr_sub [1, 2, 3, 4] rfl ?_
      exact h
    refine mj (h (fun (s77 : mz_St) => mz_G E X 5 77 [(0, .ref (E.2.1 2)), (1, .int a0), (2, .int x2_4), (3, .int x3_48)] [] s77) (fun s77 h => ?_)) (fun h => ?_)
    · unfold mw_Flow_findFrontier_77 at h
      refine mr_iconst C md_Flow_findFrontier_77 mk_iconst_0 ?_
      exact h
    refine mr_icmp_eq C md_Flow_findFrontier_61 rfl (fun hc => ?_) (fun hc => ?_)
    · replace h := h.1 hc
      exact h
    replace h := h.2 hc
    refine mr_aload_n C 0 md_Flow_findFrontier_64 rfl rfl ?_
    refine mr_iload_n C 1 md_Flow_findFrontier_65 rfl rfl ?_
    refine mr_iload_n C 3 md_Flow_findFrontier_66 rfl rfl ?_
    refine mr_cVi C (As := [.int a0, .int x3_48]) (rest := []) 2 (ms_Flow_dominates _ E hI _ a0 x3_48 _ h) mo_Flow_dominates mi_Flow_dominates mc_Flow_cls ml_611 (by decide) (fun _ => rfl) rfl rfl (Nat.le_of_ble_eq_true rfl) (Nat.le_of_ble_eq_true rfl) (Nat.le_of_ble_eq_true rfl) md_Flow_findFrontier_67 (fun r2 u2 h => ?_)
    refine mr_if_eq C md_Flow_findFrontier_70 rfl (fun hc => ?_) (fun hc => ?_)
    · replace h := h.1 hc
      exact h
    replace h := h.2 hc
    refine mr_iconst C md_Flow_findFrontier_73 mk_iconst_1 ?_
    refine mr_goto C md_Flow_findFrontier_74 rfl ?_
    exact h
  replace h := h.2 hc
  refine mr_aload_n C 0 md_Flow_findFrontier_15 rfl rfl ?_
  refine mr_iload_n C 1 md_Flow_findFrontier_16 rfl rfl ?_
  refine mr_iload_n C 3 md_Flow_findFrontier_17 rfl rfl ?_
  refine mr_cVi C (As := [.int a0, .int x3_4]) (rest := []) 2 (ms_Flow_dominates _ E hI _ a0 x3_4 _ h) mo_Flow_dominates mi_Flow_dominates mc_Flow_cls ml_611 (by decide) (fun _ => rfl) rfl rfl (Nat.le_of_ble_eq_true rfl) (Nat.le_of_ble_eq_true rfl) (Nat.le_of_ble_eq_true rfl) md_Flow_findFrontier_18 (fun r3 u3 h => ?_)
  refine mj (h (fun (x2_33 : Int32) (s33 : mz_St) => mz_G E X 5 33 [(0, .ref (E.2.1 2)), (1, .int a0), (2, .int x2_33), (3, .int x3_4)] [] s33) (fun x2_33 s33 h => ?_)) (fun h => ?_)
  · unfold mw_Flow_findFrontier_33 at h
    refine mr_iinc C (L' := [(3, .int (x3_4 + 1)), (0, .ref (E.2.1 2)), (1, .int a0), (2, .int x2_33)]) 3 md_Flow_findFrontier_33 rfl (mk_inc mk_iconst_1) (Nat.le_of_ble_eq_true rfl) rfl ?_
    refine mr_goto C md_Flow_findFrontier_36 rfl ?_
    refine mr_sub [1, 2, 3, 0] rfl ?_
    exact h
  refine mr_if_eq C md_Flow_findFrontier_21 rfl (fun hc => ?_) (fun hc => ?_)
  · replace h := h.1 hc
    exact h
  replace h := h.2 hc
  refine mr_iload_n C 2 md_Flow_findFrontier_24 rfl rfl ?_
  refine mr_aload_n C 0 md_Flow_findFrontier_25 rfl rfl ?_
  refine mr_get C 2 1 mc_Flow_cls ml_97 rfl (by decide) (by decide) (fun _ => rfl) rfl md_Flow_findFrontier_26 ?_
  refine mr_iload_n C 3 md_Flow_findFrontier_29 rfl rfl ?_
  refine mr_iald C 22 10 (by decide) (fun _ => rfl) h.1 md_Flow_findFrontier_30 ?_
  replace h := h.2
  refine mr_ior C md_Flow_findFrontier_31 ?_
  refine mr_istore_n C (L' := [(2, .int (x2_4 ||| (mz_rd u3 22 x3_4))), (0, .ref (E.2.1 2)), (1, .int a0), (3, .int x3_4)]) md_Flow_findFrontier_32 rfl (Nat.le_of_ble_eq_true rfl) rfl ?_
  refine mr_sub [1, 2, 0, 3] rfl ?_
  exact h
def mw_Flow_countLoop_118 (P56 : Int32 → mz_St → Prop) (x3_56 : Int32) (s118 : mz_St) : Prop :=
  P56 (x3_56 + 1) s118
def mw_Flow_countLoop_108 (x3_56 : Int32) (P118 : mz_St → Prop) (s108 : mz_St) : Prop :=
  vp_in x3_56 10 ∧
  vp_in x3_56 10 ∧
  P118 (mz_wr s108 28 x3_56 ((mz_rd s108 28 x3_56) + 1))
def mw_Flow_countLoop_85 (a0 : Int32) (P56 : Int32 → mz_St → Prop) (x3_56 : Int32) (y0_85 : Int32) (s85 : mz_St) : Prop :=
  mw_Mill_isIn (fun r2 u2 =>
   (∀ P118 : mz_St → Prop, (∀ (s118 : mz_St), mw_Flow_countLoop_118 P56 x3_56 s118 → P118 s118) →
   ((r2 = 0 →
    P118 u2) ∧
   (¬ r2 = 0 →
    (∀ P108 : mz_St → Prop, (∀ (s108 : mz_St), mw_Flow_countLoop_108 x3_56 P118 s108 → P108 s108) →
    ((x3_56 = a0 →
     P108 u2) ∧
    (¬ x3_56 = a0 →
     ((y0_85 = 0 →
      P118 u2) ∧
     (¬ y0_85 = 0 →
      P108 u2))))))))) (s85 1004 0) x3_56 s85
def mw_Flow_countLoop_56 (K : mz_St → Prop) (a0 : Int32) (x2_4 : Int32) (P56 : Int32 → mz_St → Prop) (x3_56 : Int32) (s56 : mz_St) : Prop :=
  (((s56 1003 0) ≤ x3_56 →
   K s56) ∧
  (¬ (s56 1003 0) ≤ x3_56 →
   mw_Flow_reachedFrom (fun r1 u1 =>
    (∀ P85 : Int32 → mz_St → Prop, (∀ (y0_85 : Int32) (s85 : mz_St), mw_Flow_countLoop_85 a0 P56 x3_56 y0_85 s85 → P85 y0_85 s85) →
    (((r1 &&& x2_4) = 0 →
     P85 0 u1) ∧
    (¬ (r1 &&& x2_4) = 0 →
     P85 1 u1)))) x3_56 ((1 : Int32) <<< (a0 &&& 31)) s56))
def mw_Flow_countLoop_43 (P4 : Int32 → Int32 → mz_St → Prop) (x3_4 : Int32) (x2_43 : Int32) (s43 : mz_St) : Prop :=
  P4 x2_43 (x3_4 + 1) s43
def mw_Flow_countLoop_4 (K : mz_St → Prop) (a0 : Int32) (P4 : Int32 → Int32 → mz_St → Prop) (x2_4 : Int32) (x3_4 : Int32) (s4 : mz_St) : Prop :=
  (((s4 1003 0) ≤ x3_4 →
   ((¬ x2_4 = 0 →
    (∀ P56 : Int32 → mz_St → Prop, (∀ (x3_56 : Int32) (s56 : mz_St), mw_Flow_countLoop_56 K a0 x2_4 P56 x3_56 s56 → P56 x3_56 s56) →
    P56 0 s4)) ∧
   (x2_4 = 0 →
    K s4))) ∧
  (¬ (s4 1003 0) ≤ x3_4 →
   mw_Flow_dominates (fun r3 u3 =>
    (∀ P43 : Int32 → mz_St → Prop, (∀ (x2_43 : Int32) (s43 : mz_St), mw_Flow_countLoop_43 P4 x3_4 x2_43 s43 → P43 x2_43 s43) →
    ((r3 = 0 →
     P43 x2_4 u3) ∧
    (¬ r3 = 0 →
     vp_in x3_4 10 ∧
     mw_Mill_isIn (fun r4 u4 =>
      ((r4 = 0 →
       P43 x2_4 u4) ∧
      (¬ r4 = 0 →
       P43 (x2_4 ||| ((1 : Int32) <<< (x3_4 &&& 31))) u4))) (mz_rd u3 22 x3_4) a0 u3)))) a0 x3_4 s4))
/-- ValueMill$Flow.countLoop(I)V: what it does, as a transformer of what must hold behind it -/
def mw_Flow_countLoop (K : mz_St → Prop) (a0 : Int32) (s0 : mz_St) : Prop :=
  (∀ P4 : Int32 → Int32 → mz_St → Prop, (∀ (x2_4 : Int32) (x3_4 : Int32) (s4 : mz_St), mw_Flow_countLoop_4 K a0 P4 x2_4 x3_4 s4 → P4 x2_4 x3_4 s4) →
  P4 0 0 s0)
set_option maxRecDepth 100000 in
set_option maxHeartbeats 4000000 in
theorem ms_Flow_countLoop (l : Launch) (E : mz_En) (hI : mz_Inj E) (K : mz_St → Prop) (a0 : Int32) (s0 : mz_St) (h : mw_Flow_countLoop K a0 s0) : mz_Cv l E my_Flow_countLoop mb_Flow_countLoop 5 (2) (47) [.ref (E.2.1 2), .int a0] s0 K := by
  refine mz_ctv hI (by decide +kernel) (Nat.le_of_ble_eq_true rfl) (fun X C R => ?_)
  show mz_G E X 5 0 [(0, .ref (E.2.1 2)), (1, .int a0)] [] s0
  unfold mw_Flow_countLoop at h
  refine mr_iconst C md_Flow_countLoop_0 mk_iconst_0 ?_
  refine mr_istore_n C (L' := [(2, .int 0), (0, .ref (E.2.1 2)), (1, .int a0)]) md_Flow_countLoop_1 rfl (Nat.le_of_ble_eq_true rfl) rfl ?_
  refine mr_iconst C md_Flow_countLoop_2 mk_iconst_0 ?_
  refine mr_istore_n C (L' := [(3, .int 0), (2, .int 0), (0, .ref (E.2.1 2)), (1, .int a0)]) md_Flow_countLoop_3 rfl (Nat.le_of_ble_eq_true rfl) rfl ?_
  refine mr_sub [2, 3, 1, 0] rfl ?_
  refine h (fun (x2_4 : Int32) (x3_4 : Int32) (s4 : mz_St) => mz_G E X 5 4 [(0, .ref (E.2.1 2)), (1, .int a0), (2, .int x2_4), (3, .int x3_4)] [] s4) (fun x2_4 x3_4 s4 h => ?_)
  unfold mw_Flow_countLoop_4 at h
  refine mr_iload_n C 3 md_Flow_countLoop_4 rfl rfl ?_
  refine mr_aload_n C 0 md_Flow_countLoop_5 rfl rfl ?_
  refine mr_get C 2 0 mc_Flow_cls ml_96 rfl (by decide) (by decide) (fun _ => rfl) rfl md_Flow_countLoop_6 ?_
  refine mr_getN C 1 10 mc_Program_cls ml_64 rfl (by decide) (by decide) (fun _ => rfl) rfl md_Flow_countLoop_9 ?_
  refine mr_icmp_ge C md_Flow_countLoop_12 rfl (fun hc => ?_) (fun hc => ?_)
  · replace h := h.1 hc
    refine mr_iload_n C 2 md_Flow_countLoop_49 rfl rfl ?_
    refine mr_if_ne C md_Flow_countLoop_50 rfl (fun hc => ?_) (fun hc => ?_)
    · replace h := h.1 hc
      refine mr_iconst C md_Flow_countLoop_54 mk_iconst_0 ?_
      refine mr_istore_n C (L' := [(3, .int 0), (0, .ref (E.2.1 2)), (1, .int a0), (2, .int x2_4)]) md_Flow_countLoop_55 rfl (Nat.le_of_ble_eq_true rfl) rfl ?_
      refine mr_sub [1, 2, 3, 0] rfl ?_
      refine h (fun (x3_56 : Int32) (s56 : mz_St) => mz_G E X 5 56 [(0, .ref (E.2.1 2)), (1, .int a0), (2, .int x2_4), (3, .int x3_56)] [] s56) (fun x3_56 s56 h => ?_)
      unfold mw_Flow_countLoop_56 at h
      refine mr_iload_n C 3 md_Flow_countLoop_56 rfl rfl ?_
      refine mr_aload_n C 0 md_Flow_countLoop_57 rfl rfl ?_
      refine mr_get C 2 0 mc_Flow_cls ml_96 rfl (by decide) (by decide) (fun _ => rfl) rfl md_Flow_countLoop_58 ?_
      refine mr_getN C 1 10 mc_Program_cls ml_64 rfl (by decide) (by decide) (fun _ => rfl) rfl md_Flow_countLoop_61 ?_
      refine mr_icmp_ge C md_Flow_countLoop_64 rfl (fun hc => ?_) (fun hc => ?_)
      · replace h := h.1 hc
        exact mr_vret C R h md_Flow_countLoop_124
      replace h := h.2 hc
      refine mr_aload_n C 0 md_Flow_countLoop_67 rfl rfl ?_
      refine mr_iload_n C 3 md_Flow_countLoop_68 rfl rfl ?_
      refine mr_iconst C md_Flow_countLoop_69 mk_iconst_1 ?_
      refine mr_iload_n C 1 md_Flow_countLoop_70 rfl rfl ?_
      refine mr_ishl C md_Flow_countLoop_71 ?_
      refine mr_cVi C (As := [.int x3_56, .int ((1 : Int32) <<< (a0 &&& 31))]) (rest := []) 2 (ms_Flow_reachedFrom _ E hI _ x3_56 ((1 : Int32) <<< (a0 &&& 31)) _ h) mo_Flow_reachedFrom mi_Flow_reachedFrom mc_Flow_cls ml_583 (by decide) (fun _ => rfl) rfl rfl (Nat.le_of_ble_eq_true rfl) (Nat.le_of_ble_eq_true rfl) (Nat.le_of_ble_eq_true rfl) md_Flow_countLoop_72 (fun r1 u1 h => ?_)
      refine mr_iload_n C 2 md_Flow_countLoop_75 rfl rfl ?_
      refine mr_iand C md_Flow_countLoop_76 ?_
      refine mj (h (fun (y0_85 : Int32) (s85 : mz_St) => mz_G E X 5 85 [(0, .ref (E.2.1 2)), (1, .int a0), (2, .int x2_4), (3, .int x3_56)] [.int y0_85] s85) (fun y0_85 s85 h => ?_)) (fun h => ?_)
      · unfold mw_Flow_countLoop_85 at h
        refine mr_istore C (L' := [(4, .int y0_85), (0, .ref (E.2.1 2)), (1, .int a0), (2, .int x2_4), (3, .int x3_56)]) md_Flow_countLoop_85 (Nat.le_of_ble_eq_true rfl) rfl ?_
        refine mr_aload_n C 1 md_Flow_countLoop_87 rfl rfl ?_
        refine mr_get C 2 8 mc_Flow_cls ml_116 rfl (by decide) (by decide) (fun _ => rfl) rfl md_Flow_countLoop_88 ?_
        refine mr_iload_n C 4 md_Flow_countLoop_91 rfl rfl ?_
        refine mr_cSNi C (As := [.int (s85 1004 0), .int x3_56]) (rest := []) (ms_Mill_isIn _ E hI _ (s85 1004 0) x3_56 _ h) mo_Mill_isIn mt_Mill_isIn ml_587 rfl rfl (Nat.le_of_ble_eq_true rfl) (Nat.le_of_ble_eq_true rfl) (Nat.le_of_ble_eq_true rfl) md_Flow_countLoop_92 (fun r2 u2 h => ?_)
        refine mj (h (fun (s118 : mz_St) => mz_G E X 5 118 [(0, .ref (E.2.1 2)), (1, .int a0), (2, .int x2_4), (3, .int x3_56)] [] s118) (fun s118 h => ?_)) (fun h => ?_)
        · unfold mw_Flow_countLoop_118 at h
          refine mr_iinc C (L' := [(3, .int (x3_56 + 1)), (0, .ref (E.2.1 2)), (1, .int a0), (2, .int x2_4)]) 3 md_Flow_countLoop_118 rfl (mk_inc mk_iconst_1) (Nat.le_of_ble_eq_true rfl) rfl ?_
          refine mr_goto C md_Flow_countLoop_121 rfl ?_
          refine mr_sub [1, 2, 3, 0] rfl ?_
          exact h
        refine mr_if_eq C md_Flow_countLoop_95 rfl (fun hc => ?_) (fun hc => ?_)
        · replace h := h.1 hc
          refine mr_sub [1, 2, 3, 4] rfl ?_
          exact h
        replace h := h.2 hc
        refine mr_iload_n C 4 md_Flow_countLoop_98 rfl rfl ?_
        refine mr_iload_n C 2 md_Flow_countLoop_99 rfl rfl ?_
        refine mj (h (fun (s108 : mz_St) => mz_G E X 5 108 [(0, .ref (E.2.1 2)), (1, .int a0), (2, .int x2_4), (3, .int x3_56)] [] s108) (fun s108 h => ?_)) (fun h => ?_)
        · unfold mw_Flow_countLoop_108 at h
          refine mr_aload_n C 0 md_Flow_countLoop_108 rfl rfl ?_
          refine mr_get C 2 7 mc_Flow_cls ml_113 rfl (by decide) (by decide) (fun _ => rfl) rfl md_Flow_countLoop_109 ?_
          refine mr_iload_n C 3 md_Flow_countLoop_112 rfl rfl ?_
          refine mr_dup2 C md_Flow_countLoop_113 rfl rfl ?_
          refine mr_iald C 28 10 (by decide) (fun _ => rfl) h.1 md_Flow_countLoop_114 ?_
          replace h := h.2
          refine mr_iconst C md_Flow_countLoop_115 mk_iconst_1 ?_
          refine mr_iadd C md_Flow_countLoop_116 ?_
          refine mr_iast C 28 10 (by decide) (by decide) (fun _ _ => rfl) h.1 md_Flow_countLoop_117 ?_
          replace h := h.2
          exact h
        refine mr_icmp_eq C md_Flow_countLoop_100 rfl (fun hc => ?_) (fun hc => ?_)
        · replace h := h.1 hc
          refine mr_sub [1, 2, 3, 4] rfl ?_
          exact h
        replace h := h.2 hc
        refine mr_iload C 0 md_Flow_countLoop_103 rfl ?_
        refine mr_if_eq C md_Flow_countLoop_105 rfl (fun hc => ?_) (fun hc => ?_)
        · replace h := h.1 hc
          refine mr_sub [1, 2, 3, 4] rfl ?_
          exact h
        replace h := h.2 hc
        refine mr_sub [1, 2, 3, 4] rfl ?_
        exact h
      refine mr_if_eq C md_Flow_countLoop_77 rfl (fun hc => ?_) (fun hc => ?_)
      · replace h := h.1 hc
        refine mr_iconst C md_Flow_countLoop_84 mk_iconst_0 ?_
        exact h
      replace h := h.2 hc
      refine mr_iconst C md_Flow_countLoop_80 mk_iconst_1 ?_
      refine mr_goto C md_Flow_countLoop_81 rfl ?_
      exact h
    replace h := h.2 hc
    exact mr_vret C R h md_Flow_countLoop_53
  replace h := h.2 hc
  refine mr_aload_n C 0 md_Flow_countLoop_15 rfl rfl ?_
  refine mr_iload_n C 1 md_Flow_countLoop_16 rfl rfl ?_
  refine mr_iload_n C 3 md_Flow_countLoop_17 rfl rfl ?_
  refine mr_cVi C (As := [.int a0, .int x3_4]) (rest := []) 2 (ms_Flow_dominates _ E hI _ a0 x3_4 _ h) mo_Flow_dominates mi_Flow_dominates mc_Flow_cls ml_611 (by decide) (fun _ => rfl) rfl rfl (Nat.le_of_ble_eq_true rfl) (Nat.le_of_ble_eq_true rfl) (Nat.le_of_ble_eq_true rfl) md_Flow_countLoop_18 (fun r3 u3 h => ?_)
  refine mj (h (fun (x2_43 : Int32) (s43 : mz_St) => mz_G E X 5 43 [(0, .ref (E.2.1 2)), (1, .int a0), (2, .int x2_43), (3, .int x3_4)] [] s43) (fun x2_43 s43 h => ?_)) (fun h => ?_)
  · unfold mw_Flow_countLoop_43 at h
    refine mr_iinc C (L' := [(3, .int (x3_4 + 1)), (0, .ref (E.2.1 2)), (1, .int a0), (2, .int x2_43)]) 3 md_Flow_countLoop_43 rfl (mk_inc mk_iconst_1) (Nat.le_of_ble_eq_true rfl) rfl ?_
    refine mr_goto C md_Flow_countLoop_46 rfl ?_
    refine mr_sub [1, 2, 3, 0] rfl ?_
    exact h
  refine mr_if_eq C md_Flow_countLoop_21 rfl (fun hc => ?_) (fun hc => ?_)
  · replace h := h.1 hc
    exact h
  replace h := h.2 hc
  refine mr_aload_n C 0 md_Flow_countLoop_24 rfl rfl ?_
  refine mr_get C 2 1 mc_Flow_cls ml_97 rfl (by decide) (by decide) (fun _ => rfl) rfl md_Flow_countLoop_25 ?_
  refine mr_iload_n C 3 md_Flow_countLoop_28 rfl rfl ?_
  refine mr_iald C 22 10 (by decide) (fun _ => rfl) h.1 md_Flow_countLoop_29 ?_
  replace h := h.2
  refine mr_iload_n C 1 md_Flow_countLoop_30 rfl rfl ?_
  refine mr_cSNi C (As := [.int (mz_rd u3 22 x3_4), .int a0]) (rest := []) (ms_Mill_isIn _ E hI _ (mz_rd u3 22 x3_4) a0 _ h) mo_Mill_isIn mt_Mill_isIn ml_587 rfl rfl (Nat.le_of_ble_eq_true rfl) (Nat.le_of_ble_eq_true rfl) (Nat.le_of_ble_eq_true rfl) md_Flow_countLoop_31 (fun r4 u4 h => ?_)
  refine mr_if_eq C md_Flow_countLoop_34 rfl (fun hc => ?_) (fun hc => ?_)
  · replace h := h.1 hc
    exact h
  replace h := h.2 hc
  refine mr_iload_n C 2 md_Flow_countLoop_37 rfl rfl ?_
  refine mr_iconst C md_Flow_countLoop_38 mk_iconst_1 ?_
  refine mr_iload_n C 3 md_Flow_countLoop_39 rfl rfl ?_
  refine mr_ishl C md_Flow_countLoop_40 ?_
  refine mr_ior C md_Flow_countLoop_41 ?_
  refine mr_istore_n C (L' := [(2, .int (x2_4 ||| ((1 : Int32) <<< (x3_4 &&& 31)))), (0, .ref (E.2.1 2)), (1, .int a0), (3, .int x3_4)]) md_Flow_countLoop_42 rfl (Nat.le_of_ble_eq_true rfl) rfl ?_
  refine mr_sub [1, 2, 0, 3] rfl ?_
  exact h
def mw_Flow_lookAt_51 (K : mz_St → Prop) (P51 : Int32 → mz_St → Prop) (x1_51 : Int32) (s51 : mz_St) : Prop :=
  (((s51 1003 0) ≤ x1_51 →
   K s51) ∧
  (¬ (s51 1003 0) ≤ x1_51 →
   mw_Flow_countLoop (fun u4 =>
    P51 (x1_51 + 1) u4) x1_51 s51))
def mw_Flow_lookAt_14 (K : mz_St → Prop) (P14 : Int32 → mz_St → Prop) (x1_14 : Int32) (s14 : mz_St) : Prop :=
  (((s14 1003 0) ≤ x1_14 →
   (∀ P51 : Int32 → mz_St → Prop, (∀ (x1_51 : Int32) (s51 : mz_St), mw_Flow_lookAt_51 K P51 x1_51 s51 → P51 x1_51 s51) →
   P51 0 (mz_fl s14 28 10 0))) ∧
  (¬ (s14 1003 0) ≤ x1_14 →
   mw_Flow_findNearest (fun u5 =>
    mw_Flow_findFrontier (fun u6 =>
     P14 (x1_14 + 1) u6) x1_14 u5) x1_14 s14))
/-- ValueMill$Flow.lookAt()V: what it does, as a transformer of what must hold behind it -/
def mw_Flow_lookAt (K : mz_St → Prop) (s0 : mz_St) : Prop :=
  mw_Flow_findEdges (fun u1 =>
   mw_Flow_findOrder (fun u2 =>
    mw_Flow_findDominators (fun u3 =>
     (∀ P14 : Int32 → mz_St → Prop, (∀ (x1_14 : Int32) (s14 : mz_St), mw_Flow_lookAt_14 K P14 x1_14 s14 → P14 x1_14 s14) →
     P14 0 u3)) u2) u1) s0
set_option maxRecDepth 100000 in
set_option maxHeartbeats 4000000 in
theorem ms_Flow_lookAt (l : Launch) (E : mz_En) (hI : mz_Inj E) (K : mz_St → Prop) (s0 : mz_St) (h : mw_Flow_lookAt K s0) : mz_Cv l E my_Flow_lookAt mb_Flow_lookAt 2 (14) (320) [.ref (E.2.1 2)] s0 K := by
  refine mz_ctv hI (by decide +kernel) (Nat.le_of_ble_eq_true rfl) (fun X C R => ?_)
  show mz_G E X 2 0 [(0, .ref (E.2.1 2))] [] s0
  unfold mw_Flow_lookAt at h
  refine mr_aload_n C 0 md_Flow_lookAt_0 rfl rfl ?_
  refine mr_cVv C (As := []) (rest := []) 2 (ms_Flow_findEdges _ E hI _  _ h) mo_Flow_findEdges mi_Flow_findEdges mc_Flow_cls ml_571 (by decide) (fun _ => rfl) rfl rfl (Nat.le_of_ble_eq_true rfl) (Nat.le_of_ble_eq_true rfl) (Nat.le_of_ble_eq_true rfl) md_Flow_lookAt_1 (fun u1 h => ?_)
  refine mr_aload_n C 0 md_Flow_lookAt_4 rfl rfl ?_
  refine mr_cVv C (As := []) (rest := []) 2 (ms_Flow_findOrder _ E hI _  _ h) mo_Flow_findOrder mi_Flow_findOrder mc_Flow_cls ml_591 (by decide) (fun _ => rfl) rfl rfl (Nat.le_of_ble_eq_true rfl) (Nat.le_of_ble_eq_true rfl) (Nat.le_of_ble_eq_true rfl) md_Flow_lookAt_5 (fun u2 h => ?_)
  refine mr_aload_n C 0 md_Flow_lookAt_8 rfl rfl ?_
  refine mr_cVv C (As := []) (rest := []) 2 (ms_Flow_findDominators _ E hI _  _ h) mo_Flow_findDominators mi_Flow_findDominators mc_Flow_cls ml_599 (by decide) (fun _ => rfl) rfl rfl (Nat.le_of_ble_eq_true rfl) (Nat.le_of_ble_eq_true rfl) (Nat.le_of_ble_eq_true rfl) md_Flow_lookAt_9 (fun u3 h => ?_)
  refine mr_iconst C md_Flow_lookAt_12 mk_iconst_0 ?_
  refine mr_istore_n C (L' := [(1, .int 0), (0, .ref (E.2.1 2))]) md_Flow_lookAt_13 rfl (Nat.le_of_ble_eq_true rfl) rfl ?_
  refine mr_sub [1, 0] rfl ?_
  refine h (fun (x1_14 : Int32) (s14 : mz_St) => mz_G E X 2 14 [(0, .ref (E.2.1 2)), (1, .int x1_14)] [] s14) (fun x1_14 s14 h => ?_)
  unfold mw_Flow_lookAt_14 at h
  refine mr_iload_n C 1 md_Flow_lookAt_14 rfl rfl ?_
  refine mr_aload_n C 0 md_Flow_lookAt_15 rfl rfl ?_
  refine mr_get C 2 0 mc_Flow_cls ml_96 rfl (by decide) (by decide) (fun _ => rfl) rfl md_Flow_lookAt_16 ?_
  refine mr_getN C 1 10 mc_Program_cls ml_64 rfl (by decide) (by decide) (fun _ => rfl) rfl md_Flow_lookAt_19 ?_
  refine mr_icmp_ge C md_Flow_lookAt_22 rfl (fun hc => ?_) (fun hc => ?_)
  · replace h := h.1 hc
    refine mr_aload_n C 0 md_Flow_lookAt_41 rfl rfl ?_
    refine mr_get C 2 7 mc_Flow_cls ml_113 rfl (by decide) (by decide) (fun _ => rfl) rfl md_Flow_lookAt_42 ?_
    refine mr_iconst C md_Flow_lookAt_45 mk_iconst_0 ?_
    refine mr_fill C 28 10 (by decide) (by decide) (by decide) (fun _ _ => rfl) (Nat.le_of_ble_eq_true rfl) (Nat.le_of_ble_eq_true rfl) ml_590 md_Flow_lookAt_46 ?_
    refine mr_iconst C md_Flow_lookAt_49 mk_iconst_0 ?_
    refine mr_istore_n C (L' := [(1, .int 0), (0, .ref (E.2.1 2))]) md_Flow_lookAt_50 rfl (Nat.le_of_ble_eq_true rfl) rfl ?_
    refine mr_sub [1, 0] rfl ?_
    refine h (fun (x1_51 : Int32) (s51 : mz_St) => mz_G E X 2 51 [(0, .ref (E.2.1 2)), (1, .int x1_51)] [] s51) (fun x1_51 s51 h => ?_)
    unfold mw_Flow_lookAt_51 at h
    refine mr_iload_n C 1 md_Flow_lookAt_51 rfl rfl ?_
    refine mr_aload_n C 0 md_Flow_lookAt_52 rfl rfl ?_
    refine mr_get C 2 0 mc_Flow_cls ml_96 rfl (by decide) (by decide) (fun _ => rfl) rfl md_Flow_lookAt_53 ?_
    refine mr_getN C 1 10 mc_Program_cls ml_64 rfl (by decide) (by decide) (fun _ => rfl) rfl md_Flow_lookAt_56 ?_
    refine mr_icmp_ge C md_Flow_lookAt_59 rfl (fun hc => ?_) (fun hc => ?_)
    · replace h := h.1 hc
      exact mr_vret C R h md_Flow_lookAt_73
    replace h := h.2 hc
    refine mr_aload_n C 0 md_Flow_lookAt_62 rfl rfl ?_
    refine mr_iload_n C 1 md_Flow_lookAt_63 rfl rfl ?_
    refine mr_cVv C (As := [.int x1_51]) (rest := []) 2 (ms_Flow_countLoop _ E hI _ x1_51 _ h) mo_Flow_countLoop mi_Flow_countLoop mc_Flow_cls ml_615 (by decide) (fun _ => rfl) rfl rfl (Nat.le_of_ble_eq_true rfl) (Nat.le_of_ble_eq_true rfl) (Nat.le_of_ble_eq_true rfl) md_Flow_lookAt_64 (fun u4 h => ?_)
    refine mr_iinc C (L' := [(1, .int (x1_51 + 1)), (0, .ref (E.2.1 2))]) 1 md_Flow_lookAt_67 rfl (mk_inc mk_iconst_1) (Nat.le_of_ble_eq_true rfl) rfl ?_
    refine mr_goto C md_Flow_lookAt_70 rfl ?_
    refine mr_sub [1, 0] rfl ?_
    exact h
  replace h := h.2 hc
  refine mr_aload_n C 0 md_Flow_lookAt_25 rfl rfl ?_
  refine mr_iload_n C 1 md_Flow_lookAt_26 rfl rfl ?_
  refine mr_cVv C (As := [.int x1_14]) (rest := []) 2 (ms_Flow_findNearest _ E hI _ x1_14 _ h) mo_Flow_findNearest mi_Flow_findNearest mc_Flow_cls ml_603 (by decide) (fun _ => rfl) rfl rfl (Nat.le_of_ble_eq_true rfl) (Nat.le_of_ble_eq_true rfl) (Nat.le_of_ble_eq_true rfl) md_Flow_lookAt_27 (fun u5 h => ?_)
  refine mr_aload_n C 0 md_Flow_lookAt_30 rfl rfl ?_
  refine mr_iload_n C 1 md_Flow_lookAt_31 rfl rfl ?_
  refine mr_cVv C (As := [.int x1_14]) (rest := []) 2 (ms_Flow_findFrontier _ E hI _ x1_14 _ h) mo_Flow_findFrontier mi_Flow_findFrontier mc_Flow_cls ml_607 (by decide) (fun _ => rfl) rfl rfl (Nat.le_of_ble_eq_true rfl) (Nat.le_of_ble_eq_true rfl) (Nat.le_of_ble_eq_true rfl) md_Flow_lookAt_32 (fun u6 h => ?_)
  refine mr_iinc C (L' := [(1, .int (x1_14 + 1)), (0, .ref (E.2.1 2))]) 1 md_Flow_lookAt_35 rfl (mk_inc mk_iconst_1) (Nat.le_of_ble_eq_true rfl) rfl ?_
  refine mr_goto C md_Flow_lookAt_38 rfl ?_
  refine mr_sub [1, 0] rfl ?_
  exact h
/-- ValueMill$Flow.isAlive(I)Z: what it does, as a transformer of what must hold behind it -/
def mw_Flow_isAlive (K : Int32 → mz_St → Prop) (a0 : Int32) (s0 : mz_St) : Prop :=
  mw_Program_hasBlock (fun r1 u1 =>
   ((r1 = 0 →
    K 0 u1) ∧
   (¬ r1 = 0 →
    mw_Mill_isIn (fun r2 u2 =>
     ((r2 = 0 →
      K 0 u2) ∧
     (¬ r2 = 0 →
      K 1 u2))) (u1 1004 0) a0 u1))) a0 s0
set_option maxRecDepth 100000 in
set_option maxHeartbeats 4000000 in
theorem ms_Flow_isAlive (l : Launch) (E : mz_En) (hI : mz_Inj E) (K : Int32 → mz_St → Prop) (a0 : Int32) (s0 : mz_St) (h : mw_Flow_isAlive K a0 s0) : mz_Ci l E my_Flow_isAlive mb_Flow_isAlive 2 (some .boolean) (1) (21) [.ref (E.2.1 2), .int a0] s0 K := by
  refine mz_cti hI (by decide +kernel) (Nat.le_of_ble_eq_true rfl) (fun X C R => ?_)
  show mz_G E X 2 0 [(0, .ref (E.2.1 2)), (1, .int a0)] [] s0
  unfold mw_Flow_isAlive at h
  refine mr_aload_n C 0 md_Flow_isAlive_0 rfl rfl ?_
  refine mr_get C 2 0 mc_Flow_cls ml_96 rfl (by decide) (by decide) (fun _ => rfl) rfl md_Flow_isAlive_1 ?_
  refine mr_iload_n C 1 md_Flow_isAlive_4 rfl rfl ?_
  refine mr_cVNi C (As := [.int a0]) (rest := []) 1 (ms_Program_hasBlock _ E hI _ a0 _ h) mo_Program_hasBlock mi_Program_hasBlock mc_Program_cls ml_989 (by decide) (fun _ => rfl) rfl rfl (Nat.le_of_ble_eq_true rfl) (Nat.le_of_ble_eq_true rfl) (Nat.le_of_ble_eq_true rfl) md_Flow_isAlive_5 (fun r1 u1 h => ?_)
  refine mr_if_eq C md_Flow_isAlive_8 rfl (fun hc => ?_) (fun hc => ?_)
  · replace h := h.1 hc
    refine mr_iconst C md_Flow_isAlive_26 mk_iconst_0 ?_
    exact mr_zret C R mb_0 h md_Flow_isAlive_27
  replace h := h.2 hc
  refine mr_aload_n C 0 md_Flow_isAlive_11 rfl rfl ?_
  refine mr_get C 2 8 mc_Flow_cls ml_116 rfl (by decide) (by decide) (fun _ => rfl) rfl md_Flow_isAlive_12 ?_
  refine mr_iload_n C 1 md_Flow_isAlive_15 rfl rfl ?_
  refine mr_cSNi C (As := [.int (u1 1004 0), .int a0]) (rest := []) (ms_Mill_isIn _ E hI _ (u1 1004 0) a0 _ h) mo_Mill_isIn mt_Mill_isIn ml_587 rfl rfl (Nat.le_of_ble_eq_true rfl) (Nat.le_of_ble_eq_true rfl) (Nat.le_of_ble_eq_true rfl) md_Flow_isAlive_16 (fun r2 u2 h => ?_)
  refine mr_if_eq C md_Flow_isAlive_19 rfl (fun hc => ?_) (fun hc => ?_)
  · replace h := h.1 hc
    refine mr_iconst C md_Flow_isAlive_26 mk_iconst_0 ?_
    exact mr_zret C R mb_0 h md_Flow_isAlive_27
  replace h := h.2 hc
  refine mr_iconst C md_Flow_isAlive_22 mk_iconst_1 ?_
  refine mr_goto C md_Flow_isAlive_23 rfl ?_
  exact mr_zret C R mb_1 h md_Flow_isAlive_27

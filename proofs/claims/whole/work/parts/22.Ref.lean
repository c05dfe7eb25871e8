/-! BEGIN Ref: its instructions, what each method does (mw_), that its bytecode does it (ms_): printed -/
theorem md_Ref_isBlock_0 : mz_d mb_Ref_isBlock 0 (.iload_n 1) 1 1 := ⟨by decide +kernel, rfl⟩
theorem md_Ref_isBlock_1 : mz_d mb_Ref_isBlock 1 (.ifCond .lt 15) 3 4 := ⟨by decide +kernel, rfl⟩
theorem md_Ref_isBlock_4 : mz_d mb_Ref_isBlock 4 (.iload_n 1) 1 5 := ⟨by decide +kernel, rfl⟩
theorem md_Ref_isBlock_5 : mz_d mb_Ref_isBlock 5 (.aload_n 0) 1 6 := ⟨by decide +kernel, rfl⟩
theorem md_Ref_isBlock_6 : mz_d mb_Ref_isBlock 6 (.getfield 49) 3 9 := ⟨by decide +kernel, rfl⟩
theorem md_Ref_isBlock_9 : mz_d mb_Ref_isBlock 9 (.if_icmp .ge 7) 3 12 := ⟨by decide +kernel, rfl⟩
theorem md_Ref_isBlock_12 : mz_d mb_Ref_isBlock 12 (.iconst 1) 1 13 := ⟨by decide +kernel, rfl⟩
theorem md_Ref_isBlock_13 : mz_d mb_Ref_isBlock 13 (.goto 4) 3 16 := ⟨by decide +kernel, rfl⟩
theorem md_Ref_isBlock_16 : mz_d mb_Ref_isBlock 16 (.iconst 0) 1 17 := ⟨by decide +kernel, rfl⟩
theorem md_Ref_isBlock_17 : mz_d mb_Ref_isBlock 17 (.ireturn) 1 18 := ⟨by decide +kernel, rfl⟩
theorem md_Ref_isTemp_0 : mz_d mb_Ref_isTemp 0 (.iload_n 0) 1 1 := ⟨by decide +kernel, rfl⟩
theorem md_Ref_isTemp_1 : mz_d mb_Ref_isTemp 1 (.ifCond .lt 13) 3 4 := ⟨by decide +kernel, rfl⟩
theorem md_Ref_isTemp_4 : mz_d mb_Ref_isTemp 4 (.iload_n 0) 1 5 := ⟨by decide +kernel, rfl⟩
theorem md_Ref_isTemp_5 : mz_d mb_Ref_isTemp 5 (.bipush 10) 2 7 := ⟨by decide +kernel, rfl⟩
theorem md_Ref_isTemp_7 : mz_d mb_Ref_isTemp 7 (.if_icmp .ge 7) 3 10 := ⟨by decide +kernel, rfl⟩
theorem md_Ref_isTemp_10 : mz_d mb_Ref_isTemp 10 (.iconst 1) 1 11 := ⟨by decide +kernel, rfl⟩
theorem md_Ref_isTemp_11 : mz_d mb_Ref_isTemp 11 (.goto 4) 3 14 := ⟨by decide +kernel, rfl⟩
theorem md_Ref_isTemp_14 : mz_d mb_Ref_isTemp 14 (.iconst 0) 1 15 := ⟨by decide +kernel, rfl⟩
theorem md_Ref_isTemp_15 : mz_d mb_Ref_isTemp 15 (.ireturn) 1 16 := ⟨by decide +kernel, rfl⟩
theorem md_Ref_block_0 : mz_d mb_Ref_block 0 (.aload_n 0) 1 1 := ⟨by decide +kernel, rfl⟩
theorem md_Ref_block_1 : mz_d mb_Ref_block 1 (.getfield 49) 3 4 := ⟨by decide +kernel, rfl⟩
theorem md_Ref_block_4 : mz_d mb_Ref_block 4 (.bipush 10) 2 6 := ⟨by decide +kernel, rfl⟩
theorem md_Ref_block_6 : mz_d mb_Ref_block 6 (.if_icmp .ne 5) 3 9 := ⟨by decide +kernel, rfl⟩
theorem md_Ref_block_9 : mz_d mb_Ref_block 9 (.iconst (-1)) 1 10 := ⟨by decide +kernel, rfl⟩
theorem md_Ref_block_10 : mz_d mb_Ref_block 10 (.ireturn) 1 11 := ⟨by decide +kernel, rfl⟩
theorem md_Ref_block_11 : mz_d mb_Ref_block 11 (.aload_n 0) 1 12 := ⟨by decide +kernel, rfl⟩
theorem md_Ref_block_12 : mz_d mb_Ref_block 12 (.dup) 1 13 := ⟨by decide +kernel, rfl⟩
theorem md_Ref_block_13 : mz_d mb_Ref_block 13 (.getfield 49) 3 16 := ⟨by decide +kernel, rfl⟩
theorem md_Ref_block_16 : mz_d mb_Ref_block 16 (.iconst 1) 1 17 := ⟨by decide +kernel, rfl⟩
theorem md_Ref_block_17 : mz_d mb_Ref_block 17 (.iadd) 1 18 := ⟨by decide +kernel, rfl⟩
theorem md_Ref_block_18 : mz_d mb_Ref_block 18 (.putfield 49) 3 21 := ⟨by decide +kernel, rfl⟩
theorem md_Ref_block_21 : mz_d mb_Ref_block 21 (.aload_n 0) 1 22 := ⟨by decide +kernel, rfl⟩
theorem md_Ref_block_22 : mz_d mb_Ref_block 22 (.getfield 49) 3 25 := ⟨by decide +kernel, rfl⟩
theorem md_Ref_block_25 : mz_d mb_Ref_block 25 (.iconst 1) 1 26 := ⟨by decide +kernel, rfl⟩
theorem md_Ref_block_26 : mz_d mb_Ref_block 26 (.isub) 1 27 := ⟨by decide +kernel, rfl⟩
theorem md_Ref_block_27 : mz_d mb_Ref_block 27 (.ireturn) 1 28 := ⟨by decide +kernel, rfl⟩
theorem md_Ref_isOp_0 : mz_d mb_Ref_isOp 0 (.iload_n 0) 1 1 := ⟨by decide +kernel, rfl⟩
theorem md_Ref_isOp_1 : mz_d mb_Ref_isOp 1 (.lookupswitch 146 #[(0, 51), (1, 68), (16, 68), (17, 92), (18, 116)]) 51 52 := ⟨by decide +kernel, rfl⟩
theorem md_Ref_isOp_52 : mz_d mb_Ref_isOp 52 (.iload_n 1) 1 53 := ⟨by decide +kernel, rfl⟩
theorem md_Ref_isOp_53 : mz_d mb_Ref_isOp 53 (.invokestatic 53) 3 56 := ⟨by decide +kernel, rfl⟩
theorem md_Ref_isOp_56 : mz_d mb_Ref_isOp 56 (.ifCond .eq 11) 3 59 := ⟨by decide +kernel, rfl⟩
theorem md_Ref_isOp_59 : mz_d mb_Ref_isOp 59 (.iload_n 3) 1 60 := ⟨by decide +kernel, rfl⟩
theorem md_Ref_isOp_60 : mz_d mb_Ref_isOp 60 (.ifCond .ne 7) 3 63 := ⟨by decide +kernel, rfl⟩
theorem md_Ref_isOp_63 : mz_d mb_Ref_isOp 63 (.iconst 1) 1 64 := ⟨by decide +kernel, rfl⟩
theorem md_Ref_isOp_64 : mz_d mb_Ref_isOp 64 (.goto 4) 3 67 := ⟨by decide +kernel, rfl⟩
theorem md_Ref_isOp_67 : mz_d mb_Ref_isOp 67 (.iconst 0) 1 68 := ⟨by decide +kernel, rfl⟩
theorem md_Ref_isOp_68 : mz_d mb_Ref_isOp 68 (.ireturn) 1 69 := ⟨by decide +kernel, rfl⟩
theorem md_Ref_isOp_69 : mz_d mb_Ref_isOp 69 (.iload_n 1) 1 70 := ⟨by decide +kernel, rfl⟩
theorem md_Ref_isOp_70 : mz_d mb_Ref_isOp 70 (.invokestatic 53) 3 73 := ⟨by decide +kernel, rfl⟩
theorem md_Ref_isOp_73 : mz_d mb_Ref_isOp 73 (.ifCond .eq 18) 3 76 := ⟨by decide +kernel, rfl⟩
theorem md_Ref_isOp_76 : mz_d mb_Ref_isOp 76 (.iload_n 2) 1 77 := ⟨by decide +kernel, rfl⟩
theorem md_Ref_isOp_77 : mz_d mb_Ref_isOp 77 (.invokestatic 53) 3 80 := ⟨by decide +kernel, rfl⟩
theorem md_Ref_isOp_80 : mz_d mb_Ref_isOp 80 (.ifCond .eq 11) 3 83 := ⟨by decide +kernel, rfl⟩
theorem md_Ref_isOp_83 : mz_d mb_Ref_isOp 83 (.iload_n 3) 1 84 := ⟨by decide +kernel, rfl⟩
theorem md_Ref_isOp_84 : mz_d mb_Ref_isOp 84 (.ifCond .ne 7) 3 87 := ⟨by decide +kernel, rfl⟩
theorem md_Ref_isOp_87 : mz_d mb_Ref_isOp 87 (.iconst 1) 1 88 := ⟨by decide +kernel, rfl⟩
theorem md_Ref_isOp_88 : mz_d mb_Ref_isOp 88 (.goto 4) 3 91 := ⟨by decide +kernel, rfl⟩
theorem md_Ref_isOp_91 : mz_d mb_Ref_isOp 91 (.iconst 0) 1 92 := ⟨by decide +kernel, rfl⟩
theorem md_Ref_isOp_92 : mz_d mb_Ref_isOp 92 (.ireturn) 1 93 := ⟨by decide +kernel, rfl⟩
theorem md_Ref_isOp_93 : mz_d mb_Ref_isOp 93 (.iload_n 1) 1 94 := ⟨by decide +kernel, rfl⟩
theorem md_Ref_isOp_94 : mz_d mb_Ref_isOp 94 (.ifCond .ne 21) 3 97 := ⟨by decide +kernel, rfl⟩
theorem md_Ref_isOp_97 : mz_d mb_Ref_isOp 97 (.iload_n 2) 1 98 := ⟨by decide +kernel, rfl⟩
theorem md_Ref_isOp_98 : mz_d mb_Ref_isOp 98 (.invokestatic 53) 3 101 := ⟨by decide +kernel, rfl⟩
theorem md_Ref_isOp_101 : mz_d mb_Ref_isOp 101 (.ifCond .eq 14) 3 104 := ⟨by decide +kernel, rfl⟩
theorem md_Ref_isOp_104 : mz_d mb_Ref_isOp 104 (.iload_n 3) 1 105 := ⟨by decide +kernel, rfl⟩
theorem md_Ref_isOp_105 : mz_d mb_Ref_isOp 105 (.invokestatic 53) 3 108 := ⟨by decide +kernel, rfl⟩
theorem md_Ref_isOp_108 : mz_d mb_Ref_isOp 108 (.ifCond .eq 7) 3 111 := ⟨by decide +kernel, rfl⟩
theorem md_Ref_isOp_111 : mz_d mb_Ref_isOp 111 (.iconst 1) 1 112 := ⟨by decide +kernel, rfl⟩
theorem md_Ref_isOp_112 : mz_d mb_Ref_isOp 112 (.goto 4) 3 115 := ⟨by decide +kernel, rfl⟩
theorem md_Ref_isOp_115 : mz_d mb_Ref_isOp 115 (.iconst 0) 1 116 := ⟨by decide +kernel, rfl⟩
theorem md_Ref_isOp_116 : mz_d mb_Ref_isOp 116 (.ireturn) 1 117 := ⟨by decide +kernel, rfl⟩
theorem md_Ref_isOp_117 : mz_d mb_Ref_isOp 117 (.iload_n 1) 1 118 := ⟨by decide +kernel, rfl⟩
theorem md_Ref_isOp_118 : mz_d mb_Ref_isOp 118 (.invokestatic 53) 3 121 := ⟨by decide +kernel, rfl⟩
theorem md_Ref_isOp_121 : mz_d mb_Ref_isOp 121 (.ifCond .eq 24) 3 124 := ⟨by decide +kernel, rfl⟩
theorem md_Ref_isOp_124 : mz_d mb_Ref_isOp 124 (.iload_n 2) 1 125 := ⟨by decide +kernel, rfl⟩
theorem md_Ref_isOp_125 : mz_d mb_Ref_isOp 125 (.invokestatic 53) 3 128 := ⟨by decide +kernel, rfl⟩
theorem md_Ref_isOp_128 : mz_d mb_Ref_isOp 128 (.ifCond .eq 17) 3 131 := ⟨by decide +kernel, rfl⟩
theorem md_Ref_isOp_131 : mz_d mb_Ref_isOp 131 (.iload_n 3) 1 132 := ⟨by decide +kernel, rfl⟩
theorem md_Ref_isOp_132 : mz_d mb_Ref_isOp 132 (.ifCond .lt 13) 3 135 := ⟨by decide +kernel, rfl⟩
theorem md_Ref_isOp_135 : mz_d mb_Ref_isOp 135 (.iload_n 3) 1 136 := ⟨by decide +kernel, rfl⟩
theorem md_Ref_isOp_136 : mz_d mb_Ref_isOp 136 (.bipush 9) 2 138 := ⟨by decide +kernel, rfl⟩
theorem md_Ref_isOp_138 : mz_d mb_Ref_isOp 138 (.if_icmp .gt 7) 3 141 := ⟨by decide +kernel, rfl⟩
theorem md_Ref_isOp_141 : mz_d mb_Ref_isOp 141 (.iconst 1) 1 142 := ⟨by decide +kernel, rfl⟩
theorem md_Ref_isOp_142 : mz_d mb_Ref_isOp 142 (.goto 4) 3 145 := ⟨by decide +kernel, rfl⟩
theorem md_Ref_isOp_145 : mz_d mb_Ref_isOp 145 (.iconst 0) 1 146 := ⟨by decide +kernel, rfl⟩
theorem md_Ref_isOp_146 : mz_d mb_Ref_isOp 146 (.ireturn) 1 147 := ⟨by decide +kernel, rfl⟩
theorem md_Ref_isOp_147 : mz_d mb_Ref_isOp 147 (.iload_n 0) 1 148 := ⟨by decide +kernel, rfl⟩
theorem md_Ref_isOp_148 : mz_d mb_Ref_isOp 148 (.iconst 1) 1 149 := ⟨by decide +kernel, rfl⟩
theorem md_Ref_isOp_149 : mz_d mb_Ref_isOp 149 (.if_icmp .le 34) 3 152 := ⟨by decide +kernel, rfl⟩
theorem md_Ref_isOp_152 : mz_d mb_Ref_isOp 152 (.iload_n 0) 1 153 := ⟨by decide +kernel, rfl⟩
theorem md_Ref_isOp_153 : mz_d mb_Ref_isOp 153 (.bipush 16) 2 155 := ⟨by decide +kernel, rfl⟩
theorem md_Ref_isOp_155 : mz_d mb_Ref_isOp 155 (.if_icmp .ge 28) 3 158 := ⟨by decide +kernel, rfl⟩
theorem md_Ref_isOp_158 : mz_d mb_Ref_isOp 158 (.iload_n 1) 1 159 := ⟨by decide +kernel, rfl⟩
theorem md_Ref_isOp_159 : mz_d mb_Ref_isOp 159 (.invokestatic 53) 3 162 := ⟨by decide +kernel, rfl⟩
theorem md_Ref_isOp_162 : mz_d mb_Ref_isOp 162 (.ifCond .eq 21) 3 165 := ⟨by decide +kernel, rfl⟩
theorem md_Ref_isOp_165 : mz_d mb_Ref_isOp 165 (.iload_n 2) 1 166 := ⟨by decide +kernel, rfl⟩
theorem md_Ref_isOp_166 : mz_d mb_Ref_isOp 166 (.invokestatic 53) 3 169 := ⟨by decide +kernel, rfl⟩
theorem md_Ref_isOp_169 : mz_d mb_Ref_isOp 169 (.ifCond .eq 14) 3 172 := ⟨by decide +kernel, rfl⟩
theorem md_Ref_isOp_172 : mz_d mb_Ref_isOp 172 (.iload_n 3) 1 173 := ⟨by decide +kernel, rfl⟩
theorem md_Ref_isOp_173 : mz_d mb_Ref_isOp 173 (.invokestatic 53) 3 176 := ⟨by decide +kernel, rfl⟩
theorem md_Ref_isOp_176 : mz_d mb_Ref_isOp 176 (.ifCond .eq 7) 3 179 := ⟨by decide +kernel, rfl⟩
theorem md_Ref_isOp_179 : mz_d mb_Ref_isOp 179 (.iconst 1) 1 180 := ⟨by decide +kernel, rfl⟩
theorem md_Ref_isOp_180 : mz_d mb_Ref_isOp 180 (.goto 4) 3 183 := ⟨by decide +kernel, rfl⟩
theorem md_Ref_isOp_183 : mz_d mb_Ref_isOp 183 (.iconst 0) 1 184 := ⟨by decide +kernel, rfl⟩
theorem md_Ref_isOp_184 : mz_d mb_Ref_isOp 184 (.ireturn) 1 185 := ⟨by decide +kernel, rfl⟩
theorem md_Ref_op_0 : mz_d mb_Ref_op 0 (.aload_n 0) 1 1 := ⟨by decide +kernel, rfl⟩
theorem md_Ref_op_1 : mz_d mb_Ref_op 1 (.iload_n 1) 1 2 := ⟨by decide +kernel, rfl⟩
theorem md_Ref_op_2 : mz_d mb_Ref_op 2 (.invokevirtual 57) 3 5 := ⟨by decide +kernel, rfl⟩
theorem md_Ref_op_5 : mz_d mb_Ref_op 5 (.ifCond .eq 26) 3 8 := ⟨by decide +kernel, rfl⟩
theorem md_Ref_op_8 : mz_d mb_Ref_op 8 (.aload_n 0) 1 9 := ⟨by decide +kernel, rfl⟩
theorem md_Ref_op_9 : mz_d mb_Ref_op 9 (.getfield 7) 3 12 := ⟨by decide +kernel, rfl⟩
theorem md_Ref_op_12 : mz_d mb_Ref_op 12 (.iload_n 1) 1 13 := ⟨by decide +kernel, rfl⟩
theorem md_Ref_op_13 : mz_d mb_Ref_op 13 (.iaload) 1 14 := ⟨by decide +kernel, rfl⟩
theorem md_Ref_op_14 : mz_d mb_Ref_op 14 (.bipush 12) 2 16 := ⟨by decide +kernel, rfl⟩
theorem md_Ref_op_16 : mz_d mb_Ref_op 16 (.if_icmp .eq 15) 3 19 := ⟨by decide +kernel, rfl⟩
theorem md_Ref_op_19 : mz_d mb_Ref_op 19 (.iload_n 2) 1 20 := ⟨by decide +kernel, rfl⟩
theorem md_Ref_op_20 : mz_d mb_Ref_op 20 (.iload_n 3) 1 21 := ⟨by decide +kernel, rfl⟩
theorem md_Ref_op_21 : mz_d mb_Ref_op 21 (.iload 4) 2 23 := ⟨by decide +kernel, rfl⟩
theorem md_Ref_op_23 : mz_d mb_Ref_op 23 (.iload 5) 2 25 := ⟨by decide +kernel, rfl⟩
theorem md_Ref_op_25 : mz_d mb_Ref_op 25 (.invokestatic 60) 3 28 := ⟨by decide +kernel, rfl⟩
theorem md_Ref_op_28 : mz_d mb_Ref_op 28 (.ifCond .ne 5) 3 31 := ⟨by decide +kernel, rfl⟩
theorem md_Ref_op_31 : mz_d mb_Ref_op 31 (.iconst 0) 1 32 := ⟨by decide +kernel, rfl⟩
theorem md_Ref_op_32 : mz_d mb_Ref_op 32 (.ireturn) 1 33 := ⟨by decide +kernel, rfl⟩
theorem md_Ref_op_33 : mz_d mb_Ref_op 33 (.bipush 48) 2 35 := ⟨by decide +kernel, rfl⟩
theorem md_Ref_op_35 : mz_d mb_Ref_op 35 (.iload_n 1) 1 36 := ⟨by decide +kernel, rfl⟩
theorem md_Ref_op_36 : mz_d mb_Ref_op 36 (.imul) 1 37 := ⟨by decide +kernel, rfl⟩
theorem md_Ref_op_37 : mz_d mb_Ref_op 37 (.iconst 4) 1 38 := ⟨by decide +kernel, rfl⟩
theorem md_Ref_op_38 : mz_d mb_Ref_op 38 (.aload_n 0) 1 39 := ⟨by decide +kernel, rfl⟩
theorem md_Ref_op_39 : mz_d mb_Ref_op 39 (.getfield 7) 3 42 := ⟨by decide +kernel, rfl⟩
theorem md_Ref_op_42 : mz_d mb_Ref_op 42 (.iload_n 1) 1 43 := ⟨by decide +kernel, rfl⟩
theorem md_Ref_op_43 : mz_d mb_Ref_op 43 (.iaload) 1 44 := ⟨by decide +kernel, rfl⟩
theorem md_Ref_op_44 : mz_d mb_Ref_op 44 (.imul) 1 45 := ⟨by decide +kernel, rfl⟩
theorem md_Ref_op_45 : mz_d mb_Ref_op 45 (.iadd) 1 46 := ⟨by decide +kernel, rfl⟩
theorem md_Ref_op_46 : mz_d mb_Ref_op 46 (.istore 6) 2 48 := ⟨by decide +kernel, rfl⟩
theorem md_Ref_op_48 : mz_d mb_Ref_op 48 (.aload_n 0) 1 49 := ⟨by decide +kernel, rfl⟩
theorem md_Ref_op_49 : mz_d mb_Ref_op 49 (.getfield 13) 3 52 := ⟨by decide +kernel, rfl⟩
theorem md_Ref_op_52 : mz_d mb_Ref_op 52 (.iload 6) 2 54 := ⟨by decide +kernel, rfl⟩
theorem md_Ref_op_54 : mz_d mb_Ref_op 54 (.iload_n 2) 1 55 := ⟨by decide +kernel, rfl⟩
theorem md_Ref_op_55 : mz_d mb_Ref_op 55 (.iastore) 1 56 := ⟨by decide +kernel, rfl⟩
theorem md_Ref_op_56 : mz_d mb_Ref_op 56 (.aload_n 0) 1 57 := ⟨by decide +kernel, rfl⟩
theorem md_Ref_op_57 : mz_d mb_Ref_op 57 (.getfield 13) 3 60 := ⟨by decide +kernel, rfl⟩
theorem md_Ref_op_60 : mz_d mb_Ref_op 60 (.iload 6) 2 62 := ⟨by decide +kernel, rfl⟩
theorem md_Ref_op_62 : mz_d mb_Ref_op 62 (.iconst 1) 1 63 := ⟨by decide +kernel, rfl⟩
theorem md_Ref_op_63 : mz_d mb_Ref_op 63 (.iadd) 1 64 := ⟨by decide +kernel, rfl⟩
theorem md_Ref_op_64 : mz_d mb_Ref_op 64 (.iload_n 3) 1 65 := ⟨by decide +kernel, rfl⟩
theorem md_Ref_op_65 : mz_d mb_Ref_op 65 (.iastore) 1 66 := ⟨by decide +kernel, rfl⟩
theorem md_Ref_op_66 : mz_d mb_Ref_op 66 (.aload_n 0) 1 67 := ⟨by decide +kernel, rfl⟩
theorem md_Ref_op_67 : mz_d mb_Ref_op 67 (.getfield 13) 3 70 := ⟨by decide +kernel, rfl⟩
theorem md_Ref_op_70 : mz_d mb_Ref_op 70 (.iload 6) 2 72 := ⟨by decide +kernel, rfl⟩
theorem md_Ref_op_72 : mz_d mb_Ref_op 72 (.iconst 2) 1 73 := ⟨by decide +kernel, rfl⟩
theorem md_Ref_op_73 : mz_d mb_Ref_op 73 (.iadd) 1 74 := ⟨by decide +kernel, rfl⟩
theorem md_Ref_op_74 : mz_d mb_Ref_op 74 (.iload 4) 2 76 := ⟨by decide +kernel, rfl⟩
theorem md_Ref_op_76 : mz_d mb_Ref_op 76 (.iastore) 1 77 := ⟨by decide +kernel, rfl⟩
theorem md_Ref_op_77 : mz_d mb_Ref_op 77 (.aload_n 0) 1 78 := ⟨by decide +kernel, rfl⟩
theorem md_Ref_op_78 : mz_d mb_Ref_op 78 (.getfield 13) 3 81 := ⟨by decide +kernel, rfl⟩
theorem md_Ref_op_81 : mz_d mb_Ref_op 81 (.iload 6) 2 83 := ⟨by decide +kernel, rfl⟩
theorem md_Ref_op_83 : mz_d mb_Ref_op 83 (.iconst 3) 1 84 := ⟨by decide +kernel, rfl⟩
theorem md_Ref_op_84 : mz_d mb_Ref_op 84 (.iadd) 1 85 := ⟨by decide +kernel, rfl⟩
theorem md_Ref_op_85 : mz_d mb_Ref_op 85 (.iload 5) 2 87 := ⟨by decide +kernel, rfl⟩
theorem md_Ref_op_87 : mz_d mb_Ref_op 87 (.iastore) 1 88 := ⟨by decide +kernel, rfl⟩
theorem md_Ref_op_88 : mz_d mb_Ref_op 88 (.aload_n 0) 1 89 := ⟨by decide +kernel, rfl⟩
theorem md_Ref_op_89 : mz_d mb_Ref_op 89 (.getfield 7) 3 92 := ⟨by decide +kernel, rfl⟩
theorem md_Ref_op_92 : mz_d mb_Ref_op 92 (.iload_n 1) 1 93 := ⟨by decide +kernel, rfl⟩
theorem md_Ref_op_93 : mz_d mb_Ref_op 93 (.dup2) 1 94 := ⟨by decide +kernel, rfl⟩
theorem md_Ref_op_94 : mz_d mb_Ref_op 94 (.iaload) 1 95 := ⟨by decide +kernel, rfl⟩
theorem md_Ref_op_95 : mz_d mb_Ref_op 95 (.iconst 1) 1 96 := ⟨by decide +kernel, rfl⟩
theorem md_Ref_op_96 : mz_d mb_Ref_op 96 (.iadd) 1 97 := ⟨by decide +kernel, rfl⟩
theorem md_Ref_op_97 : mz_d mb_Ref_op 97 (.iastore) 1 98 := ⟨by decide +kernel, rfl⟩
theorem md_Ref_op_98 : mz_d mb_Ref_op 98 (.iconst 1) 1 99 := ⟨by decide +kernel, rfl⟩
theorem md_Ref_op_99 : mz_d mb_Ref_op 99 (.ireturn) 1 100 := ⟨by decide +kernel, rfl⟩
theorem md_Ref_jump_0 : mz_d mb_Ref_jump 0 (.aload_n 0) 1 1 := ⟨by decide +kernel, rfl⟩
theorem md_Ref_jump_1 : mz_d mb_Ref_jump 1 (.iload_n 1) 1 2 := ⟨by decide +kernel, rfl⟩
theorem md_Ref_jump_2 : mz_d mb_Ref_jump 2 (.invokevirtual 57) 3 5 := ⟨by decide +kernel, rfl⟩
theorem md_Ref_jump_5 : mz_d mb_Ref_jump 5 (.ifCond .eq 11) 3 8 := ⟨by decide +kernel, rfl⟩
theorem md_Ref_jump_8 : mz_d mb_Ref_jump 8 (.aload_n 0) 1 9 := ⟨by decide +kernel, rfl⟩
theorem md_Ref_jump_9 : mz_d mb_Ref_jump 9 (.iload_n 2) 1 10 := ⟨by decide +kernel, rfl⟩
theorem md_Ref_jump_10 : mz_d mb_Ref_jump 10 (.invokevirtual 57) 3 13 := ⟨by decide +kernel, rfl⟩
theorem md_Ref_jump_13 : mz_d mb_Ref_jump 13 (.ifCond .ne 5) 3 16 := ⟨by decide +kernel, rfl⟩
theorem md_Ref_jump_16 : mz_d mb_Ref_jump 16 (.iconst 0) 1 17 := ⟨by decide +kernel, rfl⟩
theorem md_Ref_jump_17 : mz_d mb_Ref_jump 17 (.ireturn) 1 18 := ⟨by decide +kernel, rfl⟩
theorem md_Ref_jump_18 : mz_d mb_Ref_jump 18 (.aload_n 0) 1 19 := ⟨by decide +kernel, rfl⟩
theorem md_Ref_jump_19 : mz_d mb_Ref_jump 19 (.getfield 16) 3 22 := ⟨by decide +kernel, rfl⟩
theorem md_Ref_jump_22 : mz_d mb_Ref_jump 22 (.iload_n 1) 1 23 := ⟨by decide +kernel, rfl⟩
theorem md_Ref_jump_23 : mz_d mb_Ref_jump 23 (.iconst 1) 1 24 := ⟨by decide +kernel, rfl⟩
theorem md_Ref_jump_24 : mz_d mb_Ref_jump 24 (.iastore) 1 25 := ⟨by decide +kernel, rfl⟩
theorem md_Ref_jump_25 : mz_d mb_Ref_jump 25 (.aload_n 0) 1 26 := ⟨by decide +kernel, rfl⟩
theorem md_Ref_jump_26 : mz_d mb_Ref_jump 26 (.getfield 22) 3 29 := ⟨by decide +kernel, rfl⟩
theorem md_Ref_jump_29 : mz_d mb_Ref_jump 29 (.iload_n 1) 1 30 := ⟨by decide +kernel, rfl⟩
theorem md_Ref_jump_30 : mz_d mb_Ref_jump 30 (.iload_n 2) 1 31 := ⟨by decide +kernel, rfl⟩
theorem md_Ref_jump_31 : mz_d mb_Ref_jump 31 (.iastore) 1 32 := ⟨by decide +kernel, rfl⟩
theorem md_Ref_jump_32 : mz_d mb_Ref_jump 32 (.iconst 1) 1 33 := ⟨by decide +kernel, rfl⟩
theorem md_Ref_jump_33 : mz_d mb_Ref_jump 33 (.ireturn) 1 34 := ⟨by decide +kernel, rfl⟩
theorem md_Ref_branch_0 : mz_d mb_Ref_branch 0 (.aload_n 0) 1 1 := ⟨by decide +kernel, rfl⟩
theorem md_Ref_branch_1 : mz_d mb_Ref_branch 1 (.iload_n 1) 1 2 := ⟨by decide +kernel, rfl⟩
theorem md_Ref_branch_2 : mz_d mb_Ref_branch 2 (.invokevirtual 57) 3 5 := ⟨by decide +kernel, rfl⟩
theorem md_Ref_branch_5 : mz_d mb_Ref_branch 5 (.ifCond .eq 27) 3 8 := ⟨by decide +kernel, rfl⟩
theorem md_Ref_branch_8 : mz_d mb_Ref_branch 8 (.iload_n 2) 1 9 := ⟨by decide +kernel, rfl⟩
theorem md_Ref_branch_9 : mz_d mb_Ref_branch 9 (.invokestatic 53) 3 12 := ⟨by decide +kernel, rfl⟩
theorem md_Ref_branch_12 : mz_d mb_Ref_branch 12 (.ifCond .eq 20) 3 15 := ⟨by decide +kernel, rfl⟩
theorem md_Ref_branch_15 : mz_d mb_Ref_branch 15 (.aload_n 0) 1 16 := ⟨by decide +kernel, rfl⟩
theorem md_Ref_branch_16 : mz_d mb_Ref_branch 16 (.iload_n 3) 1 17 := ⟨by decide +kernel, rfl⟩
theorem md_Ref_branch_17 : mz_d mb_Ref_branch 17 (.invokevirtual 57) 3 20 := ⟨by decide +kernel, rfl⟩
theorem md_Ref_branch_20 : mz_d mb_Ref_branch 20 (.ifCond .eq 12) 3 23 := ⟨by decide +kernel, rfl⟩
theorem md_Ref_branch_23 : mz_d mb_Ref_branch 23 (.aload_n 0) 1 24 := ⟨by decide +kernel, rfl⟩
theorem md_Ref_branch_24 : mz_d mb_Ref_branch 24 (.iload 4) 2 26 := ⟨by decide +kernel, rfl⟩
theorem md_Ref_branch_26 : mz_d mb_Ref_branch 26 (.invokevirtual 57) 3 29 := ⟨by decide +kernel, rfl⟩
theorem md_Ref_branch_29 : mz_d mb_Ref_branch 29 (.ifCond .ne 5) 3 32 := ⟨by decide +kernel, rfl⟩
theorem md_Ref_branch_32 : mz_d mb_Ref_branch 32 (.iconst 0) 1 33 := ⟨by decide +kernel, rfl⟩
theorem md_Ref_branch_33 : mz_d mb_Ref_branch 33 (.ireturn) 1 34 := ⟨by decide +kernel, rfl⟩
theorem md_Ref_branch_34 : mz_d mb_Ref_branch 34 (.aload_n 0) 1 35 := ⟨by decide +kernel, rfl⟩
theorem md_Ref_branch_35 : mz_d mb_Ref_branch 35 (.getfield 16) 3 38 := ⟨by decide +kernel, rfl⟩
theorem md_Ref_branch_38 : mz_d mb_Ref_branch 38 (.iload_n 1) 1 39 := ⟨by decide +kernel, rfl⟩
theorem md_Ref_branch_39 : mz_d mb_Ref_branch 39 (.iconst 2) 1 40 := ⟨by decide +kernel, rfl⟩
theorem md_Ref_branch_40 : mz_d mb_Ref_branch 40 (.iastore) 1 41 := ⟨by decide +kernel, rfl⟩
theorem md_Ref_branch_41 : mz_d mb_Ref_branch 41 (.aload_n 0) 1 42 := ⟨by decide +kernel, rfl⟩
theorem md_Ref_branch_42 : mz_d mb_Ref_branch 42 (.getfield 19) 3 45 := ⟨by decide +kernel, rfl⟩
theorem md_Ref_branch_45 : mz_d mb_Ref_branch 45 (.iload_n 1) 1 46 := ⟨by decide +kernel, rfl⟩
theorem md_Ref_branch_46 : mz_d mb_Ref_branch 46 (.iload_n 2) 1 47 := ⟨by decide +kernel, rfl⟩
theorem md_Ref_branch_47 : mz_d mb_Ref_branch 47 (.iastore) 1 48 := ⟨by decide +kernel, rfl⟩
theorem md_Ref_branch_48 : mz_d mb_Ref_branch 48 (.aload_n 0) 1 49 := ⟨by decide +kernel, rfl⟩
theorem md_Ref_branch_49 : mz_d mb_Ref_branch 49 (.getfield 22) 3 52 := ⟨by decide +kernel, rfl⟩
theorem md_Ref_branch_52 : mz_d mb_Ref_branch 52 (.iload_n 1) 1 53 := ⟨by decide +kernel, rfl⟩
theorem md_Ref_branch_53 : mz_d mb_Ref_branch 53 (.iload_n 3) 1 54 := ⟨by decide +kernel, rfl⟩
theorem md_Ref_branch_54 : mz_d mb_Ref_branch 54 (.iastore) 1 55 := ⟨by decide +kernel, rfl⟩
theorem md_Ref_branch_55 : mz_d mb_Ref_branch 55 (.aload_n 0) 1 56 := ⟨by decide +kernel, rfl⟩
theorem md_Ref_branch_56 : mz_d mb_Ref_branch 56 (.getfield 25) 3 59 := ⟨by decide +kernel, rfl⟩
theorem md_Ref_branch_59 : mz_d mb_Ref_branch 59 (.iload_n 1) 1 60 := ⟨by decide +kernel, rfl⟩
theorem md_Ref_branch_60 : mz_d mb_Ref_branch 60 (.iload 4) 2 62 := ⟨by decide +kernel, rfl⟩
theorem md_Ref_branch_62 : mz_d mb_Ref_branch 62 (.iastore) 1 63 := ⟨by decide +kernel, rfl⟩
theorem md_Ref_branch_63 : mz_d mb_Ref_branch 63 (.iconst 1) 1 64 := ⟨by decide +kernel, rfl⟩
theorem md_Ref_branch_64 : mz_d mb_Ref_branch 64 (.ireturn) 1 65 := ⟨by decide +kernel, rfl⟩
theorem md_Ref_ret_0 : mz_d mb_Ref_ret 0 (.aload_n 0) 1 1 := ⟨by decide +kernel, rfl⟩
theorem md_Ref_ret_1 : mz_d mb_Ref_ret 1 (.iload_n 1) 1 2 := ⟨by decide +kernel, rfl⟩
theorem md_Ref_ret_2 : mz_d mb_Ref_ret 2 (.invokevirtual 57) 3 5 := ⟨by decide +kernel, rfl⟩
theorem md_Ref_ret_5 : mz_d mb_Ref_ret 5 (.ifCond .eq 10) 3 8 := ⟨by decide +kernel, rfl⟩
theorem md_Ref_ret_8 : mz_d mb_Ref_ret 8 (.iload_n 2) 1 9 := ⟨by decide +kernel, rfl⟩
theorem md_Ref_ret_9 : mz_d mb_Ref_ret 9 (.invokestatic 53) 3 12 := ⟨by decide +kernel, rfl⟩
theorem md_Ref_ret_12 : mz_d mb_Ref_ret 12 (.ifCond .ne 5) 3 15 := ⟨by decide +kernel, rfl⟩
theorem md_Ref_ret_15 : mz_d mb_Ref_ret 15 (.iconst 0) 1 16 := ⟨by decide +kernel, rfl⟩
theorem md_Ref_ret_16 : mz_d mb_Ref_ret 16 (.ireturn) 1 17 := ⟨by decide +kernel, rfl⟩
theorem md_Ref_ret_17 : mz_d mb_Ref_ret 17 (.aload_n 0) 1 18 := ⟨by decide +kernel, rfl⟩
theorem md_Ref_ret_18 : mz_d mb_Ref_ret 18 (.getfield 16) 3 21 := ⟨by decide +kernel, rfl⟩
theorem md_Ref_ret_21 : mz_d mb_Ref_ret 21 (.iload_n 1) 1 22 := ⟨by decide +kernel, rfl⟩
theorem md_Ref_ret_22 : mz_d mb_Ref_ret 22 (.iconst 0) 1 23 := ⟨by decide +kernel, rfl⟩
theorem md_Ref_ret_23 : mz_d mb_Ref_ret 23 (.iastore) 1 24 := ⟨by decide +kernel, rfl⟩
theorem md_Ref_ret_24 : mz_d mb_Ref_ret 24 (.aload_n 0) 1 25 := ⟨by decide +kernel, rfl⟩
theorem md_Ref_ret_25 : mz_d mb_Ref_ret 25 (.getfield 19) 3 28 := ⟨by decide +kernel, rfl⟩
theorem md_Ref_ret_28 : mz_d mb_Ref_ret 28 (.iload_n 1) 1 29 := ⟨by decide +kernel, rfl⟩
theorem md_Ref_ret_29 : mz_d mb_Ref_ret 29 (.iload_n 2) 1 30 := ⟨by decide +kernel, rfl⟩
theorem md_Ref_ret_30 : mz_d mb_Ref_ret 30 (.iastore) 1 31 := ⟨by decide +kernel, rfl⟩
theorem md_Ref_ret_31 : mz_d mb_Ref_ret 31 (.iconst 1) 1 32 := ⟨by decide +kernel, rfl⟩
theorem md_Ref_ret_32 : mz_d mb_Ref_ret 32 (.ireturn) 1 33 := ⟨by decide +kernel, rfl⟩
theorem md_Ref_memory_0 : mz_d mb_Ref_memory 0 (.iload_n 1) 1 1 := ⟨by decide +kernel, rfl⟩
theorem md_Ref_memory_1 : mz_d mb_Ref_memory 1 (.ifCond .lt 9) 3 4 := ⟨by decide +kernel, rfl⟩
theorem md_Ref_memory_4 : mz_d mb_Ref_memory 4 (.iload_n 1) 1 5 := ⟨by decide +kernel, rfl⟩
theorem md_Ref_memory_5 : mz_d mb_Ref_memory 5 (.bipush 32) 2 7 := ⟨by decide +kernel, rfl⟩
theorem md_Ref_memory_7 : mz_d mb_Ref_memory 7 (.if_icmp .lt 5) 3 10 := ⟨by decide +kernel, rfl⟩
theorem md_Ref_memory_10 : mz_d mb_Ref_memory 10 (.iconst 0) 1 11 := ⟨by decide +kernel, rfl⟩
theorem md_Ref_memory_11 : mz_d mb_Ref_memory 11 (.ireturn) 1 12 := ⟨by decide +kernel, rfl⟩
theorem md_Ref_memory_12 : mz_d mb_Ref_memory 12 (.aload_n 0) 1 13 := ⟨by decide +kernel, rfl⟩
theorem md_Ref_memory_13 : mz_d mb_Ref_memory 13 (.getfield 28) 3 16 := ⟨by decide +kernel, rfl⟩
theorem md_Ref_memory_16 : mz_d mb_Ref_memory 16 (.iload_n 1) 1 17 := ⟨by decide +kernel, rfl⟩
theorem md_Ref_memory_17 : mz_d mb_Ref_memory 17 (.iload_n 2) 1 18 := ⟨by decide +kernel, rfl⟩
theorem md_Ref_memory_18 : mz_d mb_Ref_memory 18 (.iastore) 1 19 := ⟨by decide +kernel, rfl⟩
theorem md_Ref_memory_19 : mz_d mb_Ref_memory 19 (.iconst 1) 1 20 := ⟨by decide +kernel, rfl⟩
theorem md_Ref_memory_20 : mz_d mb_Ref_memory 20 (.ireturn) 1 21 := ⟨by decide +kernel, rfl⟩
theorem md_Ref_isWord_0 : mz_d mb_Ref_isWord 0 (.iload_n 0) 1 1 := ⟨by decide +kernel, rfl⟩
theorem md_Ref_isWord_1 : mz_d mb_Ref_isWord 1 (.ifCond .lt 13) 3 4 := ⟨by decide +kernel, rfl⟩
theorem md_Ref_isWord_4 : mz_d mb_Ref_isWord 4 (.iload_n 0) 1 5 := ⟨by decide +kernel, rfl⟩
theorem md_Ref_isWord_5 : mz_d mb_Ref_isWord 5 (.bipush 32) 2 7 := ⟨by decide +kernel, rfl⟩
theorem md_Ref_isWord_7 : mz_d mb_Ref_isWord 7 (.if_icmp .ge 7) 3 10 := ⟨by decide +kernel, rfl⟩
theorem md_Ref_isWord_10 : mz_d mb_Ref_isWord 10 (.iconst 1) 1 11 := ⟨by decide +kernel, rfl⟩
theorem md_Ref_isWord_11 : mz_d mb_Ref_isWord 11 (.goto 4) 3 14 := ⟨by decide +kernel, rfl⟩
theorem md_Ref_isWord_14 : mz_d mb_Ref_isWord 14 (.iconst 0) 1 15 := ⟨by decide +kernel, rfl⟩
theorem md_Ref_isWord_15 : mz_d mb_Ref_isWord 15 (.ireturn) 1 16 := ⟨by decide +kernel, rfl⟩
theorem md_Ref_call3_0 : mz_d mb_Ref_call3 0 (.iload_n 2) 1 1 := ⟨by decide +kernel, rfl⟩
theorem md_Ref_call3_1 : mz_d mb_Ref_call3 1 (.bipush 31) 2 3 := ⟨by decide +kernel, rfl⟩
theorem md_Ref_call3_3 : mz_d mb_Ref_call3 3 (.imul) 1 4 := ⟨by decide +kernel, rfl⟩
theorem md_Ref_call3_4 : mz_d mb_Ref_call3 4 (.iload_n 3) 1 5 := ⟨by decide +kernel, rfl⟩
theorem md_Ref_call3_5 : mz_d mb_Ref_call3 5 (.iadd) 1 6 := ⟨by decide +kernel, rfl⟩
theorem md_Ref_call3_6 : mz_d mb_Ref_call3 6 (.bipush 7) 2 8 := ⟨by decide +kernel, rfl⟩
theorem md_Ref_call3_8 : mz_d mb_Ref_call3 8 (.aload_n 0) 1 9 := ⟨by decide +kernel, rfl⟩
theorem md_Ref_call3_9 : mz_d mb_Ref_call3 9 (.getfield 64) 3 12 := ⟨by decide +kernel, rfl⟩
theorem md_Ref_call3_12 : mz_d mb_Ref_call3 12 (.imul) 1 13 := ⟨by decide +kernel, rfl⟩
theorem md_Ref_call3_13 : mz_d mb_Ref_call3 13 (.iadd) 1 14 := ⟨by decide +kernel, rfl⟩
theorem md_Ref_call3_14 : mz_d mb_Ref_call3 14 (.istore 4) 2 16 := ⟨by decide +kernel, rfl⟩
theorem md_Ref_call3_16 : mz_d mb_Ref_call3 16 (.aload_n 0) 1 17 := ⟨by decide +kernel, rfl⟩
theorem md_Ref_call3_17 : mz_d mb_Ref_call3 17 (.getfield 64) 3 20 := ⟨by decide +kernel, rfl⟩
theorem md_Ref_call3_20 : mz_d mb_Ref_call3 20 (.sipush 200) 3 23 := ⟨by decide +kernel, rfl⟩
theorem md_Ref_call3_23 : mz_d mb_Ref_call3 23 (.if_icmp .ge 44) 3 26 := ⟨by decide +kernel, rfl⟩
theorem md_Ref_call3_26 : mz_d mb_Ref_call3 26 (.aload_n 0) 1 27 := ⟨by decide +kernel, rfl⟩
theorem md_Ref_call3_27 : mz_d mb_Ref_call3 27 (.getfield 37) 3 30 := ⟨by decide +kernel, rfl⟩
theorem md_Ref_call3_30 : mz_d mb_Ref_call3 30 (.iconst 3) 1 31 := ⟨by decide +kernel, rfl⟩
theorem md_Ref_call3_31 : mz_d mb_Ref_call3 31 (.aload_n 0) 1 32 := ⟨by decide +kernel, rfl⟩
theorem md_Ref_call3_32 : mz_d mb_Ref_call3 32 (.getfield 64) 3 35 := ⟨by decide +kernel, rfl⟩
theorem md_Ref_call3_35 : mz_d mb_Ref_call3 35 (.imul) 1 36 := ⟨by decide +kernel, rfl⟩
theorem md_Ref_call3_36 : mz_d mb_Ref_call3 36 (.iload_n 3) 1 37 := ⟨by decide +kernel, rfl⟩
theorem md_Ref_call3_37 : mz_d mb_Ref_call3 37 (.iastore) 1 38 := ⟨by decide +kernel, rfl⟩
theorem md_Ref_call3_38 : mz_d mb_Ref_call3 38 (.aload_n 0) 1 39 := ⟨by decide +kernel, rfl⟩
theorem md_Ref_call3_39 : mz_d mb_Ref_call3 39 (.getfield 37) 3 42 := ⟨by decide +kernel, rfl⟩
theorem md_Ref_call3_42 : mz_d mb_Ref_call3 42 (.iconst 3) 1 43 := ⟨by decide +kernel, rfl⟩
theorem md_Ref_call3_43 : mz_d mb_Ref_call3 43 (.aload_n 0) 1 44 := ⟨by decide +kernel, rfl⟩
theorem md_Ref_call3_44 : mz_d mb_Ref_call3 44 (.getfield 64) 3 47 := ⟨by decide +kernel, rfl⟩
theorem md_Ref_call3_47 : mz_d mb_Ref_call3 47 (.imul) 1 48 := ⟨by decide +kernel, rfl⟩
theorem md_Ref_call3_48 : mz_d mb_Ref_call3 48 (.iconst 1) 1 49 := ⟨by decide +kernel, rfl⟩
theorem md_Ref_call3_49 : mz_d mb_Ref_call3 49 (.iadd) 1 50 := ⟨by decide +kernel, rfl⟩
theorem md_Ref_call3_50 : mz_d mb_Ref_call3 50 (.iload_n 2) 1 51 := ⟨by decide +kernel, rfl⟩
theorem md_Ref_call3_51 : mz_d mb_Ref_call3 51 (.iastore) 1 52 := ⟨by decide +kernel, rfl⟩
theorem md_Ref_call3_52 : mz_d mb_Ref_call3 52 (.aload_n 0) 1 53 := ⟨by decide +kernel, rfl⟩
theorem md_Ref_call3_53 : mz_d mb_Ref_call3 53 (.getfield 37) 3 56 := ⟨by decide +kernel, rfl⟩
theorem md_Ref_call3_56 : mz_d mb_Ref_call3 56 (.iconst 3) 1 57 := ⟨by decide +kernel, rfl⟩
theorem md_Ref_call3_57 : mz_d mb_Ref_call3 57 (.aload_n 0) 1 58 := ⟨by decide +kernel, rfl⟩
theorem md_Ref_call3_58 : mz_d mb_Ref_call3 58 (.getfield 64) 3 61 := ⟨by decide +kernel, rfl⟩
theorem md_Ref_call3_61 : mz_d mb_Ref_call3 61 (.imul) 1 62 := ⟨by decide +kernel, rfl⟩
theorem md_Ref_call3_62 : mz_d mb_Ref_call3 62 (.iconst 2) 1 63 := ⟨by decide +kernel, rfl⟩
theorem md_Ref_call3_63 : mz_d mb_Ref_call3 63 (.iadd) 1 64 := ⟨by decide +kernel, rfl⟩
theorem md_Ref_call3_64 : mz_d mb_Ref_call3 64 (.iload 4) 2 66 := ⟨by decide +kernel, rfl⟩
theorem md_Ref_call3_66 : mz_d mb_Ref_call3 66 (.iastore) 1 67 := ⟨by decide +kernel, rfl⟩
theorem md_Ref_call3_67 : mz_d mb_Ref_call3 67 (.aload_n 0) 1 68 := ⟨by decide +kernel, rfl⟩
theorem md_Ref_call3_68 : mz_d mb_Ref_call3 68 (.dup) 1 69 := ⟨by decide +kernel, rfl⟩
theorem md_Ref_call3_69 : mz_d mb_Ref_call3 69 (.getfield 64) 3 72 := ⟨by decide +kernel, rfl⟩
theorem md_Ref_call3_72 : mz_d mb_Ref_call3 72 (.iconst 1) 1 73 := ⟨by decide +kernel, rfl⟩
theorem md_Ref_call3_73 : mz_d mb_Ref_call3 73 (.iadd) 1 74 := ⟨by decide +kernel, rfl⟩
theorem md_Ref_call3_74 : mz_d mb_Ref_call3 74 (.putfield 64) 3 77 := ⟨by decide +kernel, rfl⟩
theorem md_Ref_call3_77 : mz_d mb_Ref_call3 77 (.aload_n 0) 1 78 := ⟨by decide +kernel, rfl⟩
theorem md_Ref_call3_78 : mz_d mb_Ref_call3 78 (.getfield 34) 3 81 := ⟨by decide +kernel, rfl⟩
theorem md_Ref_call3_81 : mz_d mb_Ref_call3 81 (.iload_n 1) 1 82 := ⟨by decide +kernel, rfl⟩
theorem md_Ref_call3_82 : mz_d mb_Ref_call3 82 (.iload 4) 2 84 := ⟨by decide +kernel, rfl⟩
theorem md_Ref_call3_84 : mz_d mb_Ref_call3 84 (.iastore) 1 85 := ⟨by decide +kernel, rfl⟩
theorem md_Ref_call3_85 : mz_d mb_Ref_call3 85 (.return_) 1 86 := ⟨by decide +kernel, rfl⟩
theorem md_Ref_isSlip_0 : mz_d mb_Ref_isSlip 0 (.iload_n 1) 1 1 := ⟨by decide +kernel, rfl⟩
theorem md_Ref_isSlip_1 : mz_d mb_Ref_isSlip 1 (.ifCond .eq 14) 3 4 := ⟨by decide +kernel, rfl⟩
theorem md_Ref_isSlip_4 : mz_d mb_Ref_isSlip 4 (.iload_n 1) 1 5 := ⟨by decide +kernel, rfl⟩
theorem md_Ref_isSlip_5 : mz_d mb_Ref_isSlip 5 (.iconst (-1)) 1 6 := ⟨by decide +kernel, rfl⟩
theorem md_Ref_isSlip_6 : mz_d mb_Ref_isSlip 6 (.if_icmp .ne 13) 3 9 := ⟨by decide +kernel, rfl⟩
theorem md_Ref_isSlip_9 : mz_d mb_Ref_isSlip 9 (.iload_n 0) 1 10 := ⟨by decide +kernel, rfl⟩
theorem md_Ref_isSlip_10 : mz_d mb_Ref_isSlip 10 (.ldc 67) 2 12 := ⟨by decide +kernel, rfl⟩
theorem md_Ref_isSlip_12 : mz_d mb_Ref_isSlip 12 (.if_icmp .ne 7) 3 15 := ⟨by decide +kernel, rfl⟩
theorem md_Ref_isSlip_15 : mz_d mb_Ref_isSlip 15 (.iconst 1) 1 16 := ⟨by decide +kernel, rfl⟩
theorem md_Ref_isSlip_16 : mz_d mb_Ref_isSlip 16 (.goto 4) 3 19 := ⟨by decide +kernel, rfl⟩
theorem md_Ref_isSlip_19 : mz_d mb_Ref_isSlip 19 (.iconst 0) 1 20 := ⟨by decide +kernel, rfl⟩
theorem md_Ref_isSlip_20 : mz_d mb_Ref_isSlip 20 (.ireturn) 1 21 := ⟨by decide +kernel, rfl⟩
theorem md_Ref_reckon_0 : mz_d mb_Ref_reckon 0 (.iload_n 0) 1 1 := ⟨by decide +kernel, rfl⟩
theorem md_Ref_reckon_1 : mz_d mb_Ref_reckon 1 (.tableswitch 142 2 14 #[67, 71, 75, 79, 83, 87, 91, 95, 99, 106, 113, 120, 131]) 67 68 := ⟨by decide +kernel, rfl⟩
theorem md_Ref_reckon_68 : mz_d mb_Ref_reckon 68 (.iload_n 1) 1 69 := ⟨by decide +kernel, rfl⟩
theorem md_Ref_reckon_69 : mz_d mb_Ref_reckon 69 (.iload_n 2) 1 70 := ⟨by decide +kernel, rfl⟩
theorem md_Ref_reckon_70 : mz_d mb_Ref_reckon 70 (.iadd) 1 71 := ⟨by decide +kernel, rfl⟩
theorem md_Ref_reckon_71 : mz_d mb_Ref_reckon 71 (.ireturn) 1 72 := ⟨by decide +kernel, rfl⟩
theorem md_Ref_reckon_72 : mz_d mb_Ref_reckon 72 (.iload_n 1) 1 73 := ⟨by decide +kernel, rfl⟩
theorem md_Ref_reckon_73 : mz_d mb_Ref_reckon 73 (.iload_n 2) 1 74 := ⟨by decide +kernel, rfl⟩
theorem md_Ref_reckon_74 : mz_d mb_Ref_reckon 74 (.isub) 1 75 := ⟨by decide +kernel, rfl⟩
theorem md_Ref_reckon_75 : mz_d mb_Ref_reckon 75 (.ireturn) 1 76 := ⟨by decide +kernel, rfl⟩
theorem md_Ref_reckon_76 : mz_d mb_Ref_reckon 76 (.iload_n 1) 1 77 := ⟨by decide +kernel, rfl⟩
theorem md_Ref_reckon_77 : mz_d mb_Ref_reckon 77 (.iload_n 2) 1 78 := ⟨by decide +kernel, rfl⟩
theorem md_Ref_reckon_78 : mz_d mb_Ref_reckon 78 (.imul) 1 79 := ⟨by decide +kernel, rfl⟩
theorem md_Ref_reckon_79 : mz_d mb_Ref_reckon 79 (.ireturn) 1 80 := ⟨by decide +kernel, rfl⟩
theorem md_Ref_reckon_80 : mz_d mb_Ref_reckon 80 (.iload_n 1) 1 81 := ⟨by decide +kernel, rfl⟩
theorem md_Ref_reckon_81 : mz_d mb_Ref_reckon 81 (.iload_n 2) 1 82 := ⟨by decide +kernel, rfl⟩
theorem md_Ref_reckon_82 : mz_d mb_Ref_reckon 82 (.idiv) 1 83 := ⟨by decide +kernel, rfl⟩
theorem md_Ref_reckon_83 : mz_d mb_Ref_reckon 83 (.ireturn) 1 84 := ⟨by decide +kernel, rfl⟩
theorem md_Ref_reckon_84 : mz_d mb_Ref_reckon 84 (.iload_n 1) 1 85 := ⟨by decide +kernel, rfl⟩
theorem md_Ref_reckon_85 : mz_d mb_Ref_reckon 85 (.iload_n 2) 1 86 := ⟨by decide +kernel, rfl⟩
theorem md_Ref_reckon_86 : mz_d mb_Ref_reckon 86 (.irem) 1 87 := ⟨by decide +kernel, rfl⟩
theorem md_Ref_reckon_87 : mz_d mb_Ref_reckon 87 (.ireturn) 1 88 := ⟨by decide +kernel, rfl⟩
theorem md_Ref_reckon_88 : mz_d mb_Ref_reckon 88 (.iload_n 1) 1 89 := ⟨by decide +kernel, rfl⟩
theorem md_Ref_reckon_89 : mz_d mb_Ref_reckon 89 (.iload_n 2) 1 90 := ⟨by decide +kernel, rfl⟩
theorem md_Ref_reckon_90 : mz_d mb_Ref_reckon 90 (.iand) 1 91 := ⟨by decide +kernel, rfl⟩
theorem md_Ref_reckon_91 : mz_d mb_Ref_reckon 91 (.ireturn) 1 92 := ⟨by decide +kernel, rfl⟩
theorem md_Ref_reckon_92 : mz_d mb_Ref_reckon 92 (.iload_n 1) 1 93 := ⟨by decide +kernel, rfl⟩
theorem md_Ref_reckon_93 : mz_d mb_Ref_reckon 93 (.iload_n 2) 1 94 := ⟨by decide +kernel, rfl⟩
theorem md_Ref_reckon_94 : mz_d mb_Ref_reckon 94 (.ior) 1 95 := ⟨by decide +kernel, rfl⟩
theorem md_Ref_reckon_95 : mz_d mb_Ref_reckon 95 (.ireturn) 1 96 := ⟨by decide +kernel, rfl⟩
theorem md_Ref_reckon_96 : mz_d mb_Ref_reckon 96 (.iload_n 1) 1 97 := ⟨by decide +kernel, rfl⟩
theorem md_Ref_reckon_97 : mz_d mb_Ref_reckon 97 (.iload_n 2) 1 98 := ⟨by decide +kernel, rfl⟩
theorem md_Ref_reckon_98 : mz_d mb_Ref_reckon 98 (.ixor) 1 99 := ⟨by decide +kernel, rfl⟩
theorem md_Ref_reckon_99 : mz_d mb_Ref_reckon 99 (.ireturn) 1 100 := ⟨by decide +kernel, rfl⟩
theorem md_Ref_reckon_100 : mz_d mb_Ref_reckon 100 (.iload_n 1) 1 101 := ⟨by decide +kernel, rfl⟩
theorem md_Ref_reckon_101 : mz_d mb_Ref_reckon 101 (.iload_n 2) 1 102 := ⟨by decide +kernel, rfl⟩
theorem md_Ref_reckon_102 : mz_d mb_Ref_reckon 102 (.bipush 31) 2 104 := ⟨by decide +kernel, rfl⟩
theorem md_Ref_reckon_104 : mz_d mb_Ref_reckon 104 (.iand) 1 105 := ⟨by decide +kernel, rfl⟩
theorem md_Ref_reckon_105 : mz_d mb_Ref_reckon 105 (.ishl) 1 106 := ⟨by decide +kernel, rfl⟩
theorem md_Ref_reckon_106 : mz_d mb_Ref_reckon 106 (.ireturn) 1 107 := ⟨by decide +kernel, rfl⟩
theorem md_Ref_reckon_107 : mz_d mb_Ref_reckon 107 (.iload_n 1) 1 108 := ⟨by decide +kernel, rfl⟩
theorem md_Ref_reckon_108 : mz_d mb_Ref_reckon 108 (.iload_n 2) 1 109 := ⟨by decide +kernel, rfl⟩
theorem md_Ref_reckon_109 : mz_d mb_Ref_reckon 109 (.bipush 31) 2 111 := ⟨by decide +kernel, rfl⟩
theorem md_Ref_reckon_111 : mz_d mb_Ref_reckon 111 (.iand) 1 112 := ⟨by decide +kernel, rfl⟩
theorem md_Ref_reckon_112 : mz_d mb_Ref_reckon 112 (.ishr) 1 113 := ⟨by decide +kernel, rfl⟩
theorem md_Ref_reckon_113 : mz_d mb_Ref_reckon 113 (.ireturn) 1 114 := ⟨by decide +kernel, rfl⟩
theorem md_Ref_reckon_114 : mz_d mb_Ref_reckon 114 (.iload_n 1) 1 115 := ⟨by decide +kernel, rfl⟩
theorem md_Ref_reckon_115 : mz_d mb_Ref_reckon 115 (.iload_n 2) 1 116 := ⟨by decide +kernel, rfl⟩
theorem md_Ref_reckon_116 : mz_d mb_Ref_reckon 116 (.bipush 31) 2 118 := ⟨by decide +kernel, rfl⟩
theorem md_Ref_reckon_118 : mz_d mb_Ref_reckon 118 (.iand) 1 119 := ⟨by decide +kernel, rfl⟩
theorem md_Ref_reckon_119 : mz_d mb_Ref_reckon 119 (.iushr) 1 120 := ⟨by decide +kernel, rfl⟩
theorem md_Ref_reckon_120 : mz_d mb_Ref_reckon 120 (.ireturn) 1 121 := ⟨by decide +kernel, rfl⟩
theorem md_Ref_reckon_121 : mz_d mb_Ref_reckon 121 (.iload_n 1) 1 122 := ⟨by decide +kernel, rfl⟩
theorem md_Ref_reckon_122 : mz_d mb_Ref_reckon 122 (.iload_n 2) 1 123 := ⟨by decide +kernel, rfl⟩
theorem md_Ref_reckon_123 : mz_d mb_Ref_reckon 123 (.if_icmp .ne 7) 3 126 := ⟨by decide +kernel, rfl⟩
theorem md_Ref_reckon_126 : mz_d mb_Ref_reckon 126 (.iconst 1) 1 127 := ⟨by decide +kernel, rfl⟩
theorem md_Ref_reckon_127 : mz_d mb_Ref_reckon 127 (.goto 4) 3 130 := ⟨by decide +kernel, rfl⟩
theorem md_Ref_reckon_130 : mz_d mb_Ref_reckon 130 (.iconst 0) 1 131 := ⟨by decide +kernel, rfl⟩
theorem md_Ref_reckon_131 : mz_d mb_Ref_reckon 131 (.ireturn) 1 132 := ⟨by decide +kernel, rfl⟩
theorem md_Ref_reckon_132 : mz_d mb_Ref_reckon 132 (.iload_n 1) 1 133 := ⟨by decide +kernel, rfl⟩
theorem md_Ref_reckon_133 : mz_d mb_Ref_reckon 133 (.iload_n 2) 1 134 := ⟨by decide +kernel, rfl⟩
theorem md_Ref_reckon_134 : mz_d mb_Ref_reckon 134 (.if_icmp .ge 7) 3 137 := ⟨by decide +kernel, rfl⟩
theorem md_Ref_reckon_137 : mz_d mb_Ref_reckon 137 (.iconst 1) 1 138 := ⟨by decide +kernel, rfl⟩
theorem md_Ref_reckon_138 : mz_d mb_Ref_reckon 138 (.goto 4) 3 141 := ⟨by decide +kernel, rfl⟩
theorem md_Ref_reckon_141 : mz_d mb_Ref_reckon 141 (.iconst 0) 1 142 := ⟨by decide +kernel, rfl⟩
theorem md_Ref_reckon_142 : mz_d mb_Ref_reckon 142 (.ireturn) 1 143 := ⟨by decide +kernel, rfl⟩
theorem md_Ref_reckon_143 : mz_d mb_Ref_reckon 143 (.iload_n 1) 1 144 := ⟨by decide +kernel, rfl⟩
theorem md_Ref_reckon_144 : mz_d mb_Ref_reckon 144 (.i2l) 1 145 := ⟨by decide +kernel, rfl⟩
theorem md_Ref_reckon_145 : mz_d mb_Ref_reckon 145 (.ldc2_w 68) 3 148 := ⟨by decide +kernel, rfl⟩
theorem md_Ref_reckon_148 : mz_d mb_Ref_reckon 148 (.land) 1 149 := ⟨by decide +kernel, rfl⟩
theorem md_Ref_reckon_149 : mz_d mb_Ref_reckon 149 (.iload_n 2) 1 150 := ⟨by decide +kernel, rfl⟩
theorem md_Ref_reckon_150 : mz_d mb_Ref_reckon 150 (.i2l) 1 151 := ⟨by decide +kernel, rfl⟩
theorem md_Ref_reckon_151 : mz_d mb_Ref_reckon 151 (.ldc2_w 68) 3 154 := ⟨by decide +kernel, rfl⟩
theorem md_Ref_reckon_154 : mz_d mb_Ref_reckon 154 (.land) 1 155 := ⟨by decide +kernel, rfl⟩
theorem md_Ref_reckon_155 : mz_d mb_Ref_reckon 155 (.lcmp) 1 156 := ⟨by decide +kernel, rfl⟩
theorem md_Ref_reckon_156 : mz_d mb_Ref_reckon 156 (.ifCond .ge 7) 3 159 := ⟨by decide +kernel, rfl⟩
theorem md_Ref_reckon_159 : mz_d mb_Ref_reckon 159 (.iconst 1) 1 160 := ⟨by decide +kernel, rfl⟩
theorem md_Ref_reckon_160 : mz_d mb_Ref_reckon 160 (.goto 4) 3 163 := ⟨by decide +kernel, rfl⟩
theorem md_Ref_reckon_163 : mz_d mb_Ref_reckon 163 (.iconst 0) 1 164 := ⟨by decide +kernel, rfl⟩
theorem md_Ref_reckon_164 : mz_d mb_Ref_reckon 164 (.ireturn) 1 165 := ⟨by decide +kernel, rfl⟩
theorem md_Ref_step_0 : mz_d mb_Ref_step 0 (.aload_n 0) 1 1 := ⟨by decide +kernel, rfl⟩
theorem md_Ref_step_1 : mz_d mb_Ref_step 1 (.getfield 13) 3 4 := ⟨by decide +kernel, rfl⟩
theorem md_Ref_step_4 : mz_d mb_Ref_step 4 (.iload_n 1) 1 5 := ⟨by decide +kernel, rfl⟩
theorem md_Ref_step_5 : mz_d mb_Ref_step 5 (.iaload) 1 6 := ⟨by decide +kernel, rfl⟩
theorem md_Ref_step_6 : mz_d mb_Ref_step 6 (.istore_n 2) 1 7 := ⟨by decide +kernel, rfl⟩
theorem md_Ref_step_7 : mz_d mb_Ref_step 7 (.aload_n 0) 1 8 := ⟨by decide +kernel, rfl⟩
theorem md_Ref_step_8 : mz_d mb_Ref_step 8 (.getfield 13) 3 11 := ⟨by decide +kernel, rfl⟩
theorem md_Ref_step_11 : mz_d mb_Ref_step 11 (.iload_n 1) 1 12 := ⟨by decide +kernel, rfl⟩
theorem md_Ref_step_12 : mz_d mb_Ref_step 12 (.iconst 1) 1 13 := ⟨by decide +kernel, rfl⟩
theorem md_Ref_step_13 : mz_d mb_Ref_step 13 (.iadd) 1 14 := ⟨by decide +kernel, rfl⟩
theorem md_Ref_step_14 : mz_d mb_Ref_step 14 (.iaload) 1 15 := ⟨by decide +kernel, rfl⟩
theorem md_Ref_step_15 : mz_d mb_Ref_step 15 (.istore_n 3) 1 16 := ⟨by decide +kernel, rfl⟩
theorem md_Ref_step_16 : mz_d mb_Ref_step 16 (.aload_n 0) 1 17 := ⟨by decide +kernel, rfl⟩
theorem md_Ref_step_17 : mz_d mb_Ref_step 17 (.getfield 13) 3 20 := ⟨by decide +kernel, rfl⟩
theorem md_Ref_step_20 : mz_d mb_Ref_step 20 (.iload_n 1) 1 21 := ⟨by decide +kernel, rfl⟩
theorem md_Ref_step_21 : mz_d mb_Ref_step 21 (.iconst 2) 1 22 := ⟨by decide +kernel, rfl⟩
theorem md_Ref_step_22 : mz_d mb_Ref_step 22 (.iadd) 1 23 := ⟨by decide +kernel, rfl⟩
theorem md_Ref_step_23 : mz_d mb_Ref_step 23 (.iaload) 1 24 := ⟨by decide +kernel, rfl⟩
theorem md_Ref_step_24 : mz_d mb_Ref_step 24 (.istore 4) 2 26 := ⟨by decide +kernel, rfl⟩
theorem md_Ref_step_26 : mz_d mb_Ref_step 26 (.aload_n 0) 1 27 := ⟨by decide +kernel, rfl⟩
theorem md_Ref_step_27 : mz_d mb_Ref_step 27 (.getfield 13) 3 30 := ⟨by decide +kernel, rfl⟩
theorem md_Ref_step_30 : mz_d mb_Ref_step 30 (.iload_n 1) 1 31 := ⟨by decide +kernel, rfl⟩
theorem md_Ref_step_31 : mz_d mb_Ref_step 31 (.iconst 3) 1 32 := ⟨by decide +kernel, rfl⟩
theorem md_Ref_step_32 : mz_d mb_Ref_step 32 (.iadd) 1 33 := ⟨by decide +kernel, rfl⟩
theorem md_Ref_step_33 : mz_d mb_Ref_step 33 (.iaload) 1 34 := ⟨by decide +kernel, rfl⟩
theorem md_Ref_step_34 : mz_d mb_Ref_step 34 (.istore 5) 2 36 := ⟨by decide +kernel, rfl⟩
theorem md_Ref_step_36 : mz_d mb_Ref_step 36 (.iload_n 2) 1 37 := ⟨by decide +kernel, rfl⟩
theorem md_Ref_step_37 : mz_d mb_Ref_step 37 (.ifCond .ne 14) 3 40 := ⟨by decide +kernel, rfl⟩
theorem md_Ref_step_40 : mz_d mb_Ref_step 40 (.aload_n 0) 1 41 := ⟨by decide +kernel, rfl⟩
theorem md_Ref_step_41 : mz_d mb_Ref_step 41 (.getfield 34) 3 44 := ⟨by decide +kernel, rfl⟩
theorem md_Ref_step_44 : mz_d mb_Ref_step 44 (.iload_n 3) 1 45 := ⟨by decide +kernel, rfl⟩
theorem md_Ref_step_45 : mz_d mb_Ref_step 45 (.iload 4) 2 47 := ⟨by decide +kernel, rfl⟩
theorem md_Ref_step_47 : mz_d mb_Ref_step 47 (.iastore) 1 48 := ⟨by decide +kernel, rfl⟩
theorem md_Ref_step_48 : mz_d mb_Ref_step 48 (.goto 189) 3 51 := ⟨by decide +kernel, rfl⟩
theorem md_Ref_step_51 : mz_d mb_Ref_step 51 (.iload_n 2) 1 52 := ⟨by decide +kernel, rfl⟩
theorem md_Ref_step_52 : mz_d mb_Ref_step 52 (.iconst 1) 1 53 := ⟨by decide +kernel, rfl⟩
theorem md_Ref_step_53 : mz_d mb_Ref_step 53 (.if_icmp .ne 19) 3 56 := ⟨by decide +kernel, rfl⟩
theorem md_Ref_step_56 : mz_d mb_Ref_step 56 (.aload_n 0) 1 57 := ⟨by decide +kernel, rfl⟩
theorem md_Ref_step_57 : mz_d mb_Ref_step 57 (.getfield 34) 3 60 := ⟨by decide +kernel, rfl⟩
theorem md_Ref_step_60 : mz_d mb_Ref_step 60 (.iload_n 3) 1 61 := ⟨by decide +kernel, rfl⟩
theorem md_Ref_step_61 : mz_d mb_Ref_step 61 (.aload_n 0) 1 62 := ⟨by decide +kernel, rfl⟩
theorem md_Ref_step_62 : mz_d mb_Ref_step 62 (.getfield 34) 3 65 := ⟨by decide +kernel, rfl⟩
theorem md_Ref_step_65 : mz_d mb_Ref_step 65 (.iload 4) 2 67 := ⟨by decide +kernel, rfl⟩
theorem md_Ref_step_67 : mz_d mb_Ref_step 67 (.iaload) 1 68 := ⟨by decide +kernel, rfl⟩
theorem md_Ref_step_68 : mz_d mb_Ref_step 68 (.iastore) 1 69 := ⟨by decide +kernel, rfl⟩
theorem md_Ref_step_69 : mz_d mb_Ref_step 69 (.goto 168) 3 72 := ⟨by decide +kernel, rfl⟩
theorem md_Ref_step_72 : mz_d mb_Ref_step 72 (.iload_n 2) 1 73 := ⟨by decide +kernel, rfl⟩
theorem md_Ref_step_73 : mz_d mb_Ref_step 73 (.bipush 16) 2 75 := ⟨by decide +kernel, rfl⟩
theorem md_Ref_step_75 : mz_d mb_Ref_step 75 (.if_icmp .ge 63) 3 78 := ⟨by decide +kernel, rfl⟩
theorem md_Ref_step_78 : mz_d mb_Ref_step 78 (.iload_n 2) 1 79 := ⟨by decide +kernel, rfl⟩
theorem md_Ref_step_79 : mz_d mb_Ref_step 79 (.iconst 5) 1 80 := ⟨by decide +kernel, rfl⟩
theorem md_Ref_step_80 : mz_d mb_Ref_step 80 (.if_icmp .eq 9) 3 83 := ⟨by decide +kernel, rfl⟩
theorem md_Ref_step_83 : mz_d mb_Ref_step 83 (.iload_n 2) 1 84 := ⟨by decide +kernel, rfl⟩
theorem md_Ref_step_84 : mz_d mb_Ref_step 84 (.bipush 6) 2 86 := ⟨by decide +kernel, rfl⟩
theorem md_Ref_step_86 : mz_d mb_Ref_step 86 (.if_icmp .ne 25) 3 89 := ⟨by decide +kernel, rfl⟩
theorem md_Ref_step_89 : mz_d mb_Ref_step 89 (.aload_n 0) 1 90 := ⟨by decide +kernel, rfl⟩
theorem md_Ref_step_90 : mz_d mb_Ref_step 90 (.getfield 34) 3 93 := ⟨by decide +kernel, rfl⟩
theorem md_Ref_step_93 : mz_d mb_Ref_step 93 (.iload 4) 2 95 := ⟨by decide +kernel, rfl⟩
theorem md_Ref_step_95 : mz_d mb_Ref_step 95 (.iaload) 1 96 := ⟨by decide +kernel, rfl⟩
theorem md_Ref_step_96 : mz_d mb_Ref_step 96 (.aload_n 0) 1 97 := ⟨by decide +kernel, rfl⟩
theorem md_Ref_step_97 : mz_d mb_Ref_step 97 (.getfield 34) 3 100 := ⟨by decide +kernel, rfl⟩
theorem md_Ref_step_100 : mz_d mb_Ref_step 100 (.iload 5) 2 102 := ⟨by decide +kernel, rfl⟩
theorem md_Ref_step_102 : mz_d mb_Ref_step 102 (.iaload) 1 103 := ⟨by decide +kernel, rfl⟩
theorem md_Ref_step_103 : mz_d mb_Ref_step 103 (.invokestatic 70) 3 106 := ⟨by decide +kernel, rfl⟩
theorem md_Ref_step_106 : mz_d mb_Ref_step 106 (.ifCond .eq 5) 3 109 := ⟨by decide +kernel, rfl⟩
theorem md_Ref_step_109 : mz_d mb_Ref_step 109 (.iconst 1) 1 110 := ⟨by decide +kernel, rfl⟩
theorem md_Ref_step_110 : mz_d mb_Ref_step 110 (.ireturn) 1 111 := ⟨by decide +kernel, rfl⟩
theorem md_Ref_step_111 : mz_d mb_Ref_step 111 (.aload_n 0) 1 112 := ⟨by decide +kernel, rfl⟩
theorem md_Ref_step_112 : mz_d mb_Ref_step 112 (.getfield 34) 3 115 := ⟨by decide +kernel, rfl⟩
theorem md_Ref_step_115 : mz_d mb_Ref_step 115 (.iload_n 3) 1 116 := ⟨by decide +kernel, rfl⟩
theorem md_Ref_step_116 : mz_d mb_Ref_step 116 (.iload_n 2) 1 117 := ⟨by decide +kernel, rfl⟩
theorem md_Ref_step_117 : mz_d mb_Ref_step 117 (.aload_n 0) 1 118 := ⟨by decide +kernel, rfl⟩
theorem md_Ref_step_118 : mz_d mb_Ref_step 118 (.getfield 34) 3 121 := ⟨by decide +kernel, rfl⟩
theorem md_Ref_step_121 : mz_d mb_Ref_step 121 (.iload 4) 2 123 := ⟨by decide +kernel, rfl⟩
theorem md_Ref_step_123 : mz_d mb_Ref_step 123 (.iaload) 1 124 := ⟨by decide +kernel, rfl⟩
theorem md_Ref_step_124 : mz_d mb_Ref_step 124 (.aload_n 0) 1 125 := ⟨by decide +kernel, rfl⟩
theorem md_Ref_step_125 : mz_d mb_Ref_step 125 (.getfield 34) 3 128 := ⟨by decide +kernel, rfl⟩
theorem md_Ref_step_128 : mz_d mb_Ref_step 128 (.iload 5) 2 130 := ⟨by decide +kernel, rfl⟩
theorem md_Ref_step_130 : mz_d mb_Ref_step 130 (.iaload) 1 131 := ⟨by decide +kernel, rfl⟩
theorem md_Ref_step_131 : mz_d mb_Ref_step 131 (.invokestatic 74) 3 134 := ⟨by decide +kernel, rfl⟩
theorem md_Ref_step_134 : mz_d mb_Ref_step 134 (.iastore) 1 135 := ⟨by decide +kernel, rfl⟩
theorem md_Ref_step_135 : mz_d mb_Ref_step 135 (.goto 102) 3 138 := ⟨by decide +kernel, rfl⟩
theorem md_Ref_step_138 : mz_d mb_Ref_step 138 (.iload_n 2) 1 139 := ⟨by decide +kernel, rfl⟩
theorem md_Ref_step_139 : mz_d mb_Ref_step 139 (.bipush 16) 2 141 := ⟨by decide +kernel, rfl⟩
theorem md_Ref_step_141 : mz_d mb_Ref_step 141 (.if_icmp .ne 39) 3 144 := ⟨by decide +kernel, rfl⟩
theorem md_Ref_step_144 : mz_d mb_Ref_step 144 (.aload_n 0) 1 145 := ⟨by decide +kernel, rfl⟩
theorem md_Ref_step_145 : mz_d mb_Ref_step 145 (.getfield 34) 3 148 := ⟨by decide +kernel, rfl⟩
theorem md_Ref_step_148 : mz_d mb_Ref_step 148 (.iload 4) 2 150 := ⟨by decide +kernel, rfl⟩
theorem md_Ref_step_150 : mz_d mb_Ref_step 150 (.iaload) 1 151 := ⟨by decide +kernel, rfl⟩
theorem md_Ref_step_151 : mz_d mb_Ref_step 151 (.invokestatic 78) 3 154 := ⟨by decide +kernel, rfl⟩
theorem md_Ref_step_154 : mz_d mb_Ref_step 154 (.ifCond .ne 5) 3 157 := ⟨by decide +kernel, rfl⟩
theorem md_Ref_step_157 : mz_d mb_Ref_step 157 (.iconst 2) 1 158 := ⟨by decide +kernel, rfl⟩
theorem md_Ref_step_158 : mz_d mb_Ref_step 158 (.ireturn) 1 159 := ⟨by decide +kernel, rfl⟩
theorem md_Ref_step_159 : mz_d mb_Ref_step 159 (.aload_n 0) 1 160 := ⟨by decide +kernel, rfl⟩
theorem md_Ref_step_160 : mz_d mb_Ref_step 160 (.getfield 34) 3 163 := ⟨by decide +kernel, rfl⟩
theorem md_Ref_step_163 : mz_d mb_Ref_step 163 (.iload_n 3) 1 164 := ⟨by decide +kernel, rfl⟩
theorem md_Ref_step_164 : mz_d mb_Ref_step 164 (.aload_n 0) 1 165 := ⟨by decide +kernel, rfl⟩
theorem md_Ref_step_165 : mz_d mb_Ref_step 165 (.getfield 31) 3 168 := ⟨by decide +kernel, rfl⟩
theorem md_Ref_step_168 : mz_d mb_Ref_step 168 (.aload_n 0) 1 169 := ⟨by decide +kernel, rfl⟩
theorem md_Ref_step_169 : mz_d mb_Ref_step 169 (.getfield 34) 3 172 := ⟨by decide +kernel, rfl⟩
theorem md_Ref_step_172 : mz_d mb_Ref_step 172 (.iload 4) 2 174 := ⟨by decide +kernel, rfl⟩
theorem md_Ref_step_174 : mz_d mb_Ref_step 174 (.iaload) 1 175 := ⟨by decide +kernel, rfl⟩
theorem md_Ref_step_175 : mz_d mb_Ref_step 175 (.iaload) 1 176 := ⟨by decide +kernel, rfl⟩
theorem md_Ref_step_176 : mz_d mb_Ref_step 176 (.iastore) 1 177 := ⟨by decide +kernel, rfl⟩
theorem md_Ref_step_177 : mz_d mb_Ref_step 177 (.goto 60) 3 180 := ⟨by decide +kernel, rfl⟩
theorem md_Ref_step_180 : mz_d mb_Ref_step 180 (.iload_n 2) 1 181 := ⟨by decide +kernel, rfl⟩
theorem md_Ref_step_181 : mz_d mb_Ref_step 181 (.bipush 17) 2 183 := ⟨by decide +kernel, rfl⟩
theorem md_Ref_step_183 : mz_d mb_Ref_step 183 (.if_icmp .ne 40) 3 186 := ⟨by decide +kernel, rfl⟩
theorem md_Ref_step_186 : mz_d mb_Ref_step 186 (.aload_n 0) 1 187 := ⟨by decide +kernel, rfl⟩
theorem md_Ref_step_187 : mz_d mb_Ref_step 187 (.getfield 34) 3 190 := ⟨by decide +kernel, rfl⟩
theorem md_Ref_step_190 : mz_d mb_Ref_step 190 (.iload 5) 2 192 := ⟨by decide +kernel, rfl⟩
theorem md_Ref_step_192 : mz_d mb_Ref_step 192 (.iaload) 1 193 := ⟨by decide +kernel, rfl⟩
theorem md_Ref_step_193 : mz_d mb_Ref_step 193 (.invokestatic 78) 3 196 := ⟨by decide +kernel, rfl⟩
theorem md_Ref_step_196 : mz_d mb_Ref_step 196 (.ifCond .ne 5) 3 199 := ⟨by decide +kernel, rfl⟩
theorem md_Ref_step_199 : mz_d mb_Ref_step 199 (.iconst 2) 1 200 := ⟨by decide +kernel, rfl⟩
theorem md_Ref_step_200 : mz_d mb_Ref_step 200 (.ireturn) 1 201 := ⟨by decide +kernel, rfl⟩
theorem md_Ref_step_201 : mz_d mb_Ref_step 201 (.aload_n 0) 1 202 := ⟨by decide +kernel, rfl⟩
theorem md_Ref_step_202 : mz_d mb_Ref_step 202 (.getfield 31) 3 205 := ⟨by decide +kernel, rfl⟩
theorem md_Ref_step_205 : mz_d mb_Ref_step 205 (.aload_n 0) 1 206 := ⟨by decide +kernel, rfl⟩
theorem md_Ref_step_206 : mz_d mb_Ref_step 206 (.getfield 34) 3 209 := ⟨by decide +kernel, rfl⟩
theorem md_Ref_step_209 : mz_d mb_Ref_step 209 (.iload 5) 2 211 := ⟨by decide +kernel, rfl⟩
theorem md_Ref_step_211 : mz_d mb_Ref_step 211 (.iaload) 1 212 := ⟨by decide +kernel, rfl⟩
theorem md_Ref_step_212 : mz_d mb_Ref_step 212 (.aload_n 0) 1 213 := ⟨by decide +kernel, rfl⟩
theorem md_Ref_step_213 : mz_d mb_Ref_step 213 (.getfield 34) 3 216 := ⟨by decide +kernel, rfl⟩
theorem md_Ref_step_216 : mz_d mb_Ref_step 216 (.iload 4) 2 218 := ⟨by decide +kernel, rfl⟩
theorem md_Ref_step_218 : mz_d mb_Ref_step 218 (.iaload) 1 219 := ⟨by decide +kernel, rfl⟩
theorem md_Ref_step_219 : mz_d mb_Ref_step 219 (.iastore) 1 220 := ⟨by decide +kernel, rfl⟩
theorem md_Ref_step_220 : mz_d mb_Ref_step 220 (.goto 17) 3 223 := ⟨by decide +kernel, rfl⟩
theorem md_Ref_step_223 : mz_d mb_Ref_step 223 (.aload_n 0) 1 224 := ⟨by decide +kernel, rfl⟩
theorem md_Ref_step_224 : mz_d mb_Ref_step 224 (.iload_n 3) 1 225 := ⟨by decide +kernel, rfl⟩
theorem md_Ref_step_225 : mz_d mb_Ref_step 225 (.aload_n 0) 1 226 := ⟨by decide +kernel, rfl⟩
theorem md_Ref_step_226 : mz_d mb_Ref_step 226 (.getfield 34) 3 229 := ⟨by decide +kernel, rfl⟩
theorem md_Ref_step_229 : mz_d mb_Ref_step 229 (.iload 4) 2 231 := ⟨by decide +kernel, rfl⟩
theorem md_Ref_step_231 : mz_d mb_Ref_step 231 (.iaload) 1 232 := ⟨by decide +kernel, rfl⟩
theorem md_Ref_step_232 : mz_d mb_Ref_step 232 (.iload 5) 2 234 := ⟨by decide +kernel, rfl⟩
theorem md_Ref_step_234 : mz_d mb_Ref_step 234 (.invokevirtual 81) 3 237 := ⟨by decide +kernel, rfl⟩
theorem md_Ref_step_237 : mz_d mb_Ref_step 237 (.iconst 0) 1 238 := ⟨by decide +kernel, rfl⟩
theorem md_Ref_step_238 : mz_d mb_Ref_step 238 (.ireturn) 1 239 := ⟨by decide +kernel, rfl⟩
theorem md_Ref_run_0 : mz_d mb_Ref_run 0 (.aload_n 0) 1 1 := ⟨by decide +kernel, rfl⟩
theorem md_Ref_run_1 : mz_d mb_Ref_run 1 (.getfield 49) 3 4 := ⟨by decide +kernel, rfl⟩
theorem md_Ref_run_4 : mz_d mb_Ref_run 4 (.ifCond .eq 34) 3 7 := ⟨by decide +kernel, rfl⟩
theorem md_Ref_run_7 : mz_d mb_Ref_run 7 (.iload_n 1) 1 8 := ⟨by decide +kernel, rfl⟩
theorem md_Ref_run_8 : mz_d mb_Ref_run 8 (.ifCond .lt 30) 3 11 := ⟨by decide +kernel, rfl⟩
theorem md_Ref_run_11 : mz_d mb_Ref_run 11 (.iload_n 1) 1 12 := ⟨by decide +kernel, rfl⟩
theorem md_Ref_run_12 : mz_d mb_Ref_run 12 (.iconst 3) 1 13 := ⟨by decide +kernel, rfl⟩
theorem md_Ref_run_13 : mz_d mb_Ref_run 13 (.if_icmp .gt 25) 3 16 := ⟨by decide +kernel, rfl⟩
theorem md_Ref_run_16 : mz_d mb_Ref_run 16 (.iload_n 2) 1 17 := ⟨by decide +kernel, rfl⟩
theorem md_Ref_run_17 : mz_d mb_Ref_run 17 (.iconst 2) 1 18 := ⟨by decide +kernel, rfl⟩
theorem md_Ref_run_18 : mz_d mb_Ref_run 18 (.if_icmp .lt 20) 3 21 := ⟨by decide +kernel, rfl⟩
theorem md_Ref_run_21 : mz_d mb_Ref_run 21 (.iload_n 2) 1 22 := ⟨by decide +kernel, rfl⟩
theorem md_Ref_run_22 : mz_d mb_Ref_run 22 (.bipush 8) 2 24 := ⟨by decide +kernel, rfl⟩
theorem md_Ref_run_24 : mz_d mb_Ref_run 24 (.if_icmp .gt 14) 3 27 := ⟨by decide +kernel, rfl⟩
theorem md_Ref_run_27 : mz_d mb_Ref_run 27 (.iload_n 3) 1 28 := ⟨by decide +kernel, rfl⟩
theorem md_Ref_run_28 : mz_d mb_Ref_run 28 (.ifCond .lt 10) 3 31 := ⟨by decide +kernel, rfl⟩
theorem md_Ref_run_31 : mz_d mb_Ref_run 31 (.iload_n 3) 1 32 := ⟨by decide +kernel, rfl⟩
theorem md_Ref_run_32 : mz_d mb_Ref_run 32 (.sipush 500) 3 35 := ⟨by decide +kernel, rfl⟩
theorem md_Ref_run_35 : mz_d mb_Ref_run 35 (.if_icmp .le 5) 3 38 := ⟨by decide +kernel, rfl⟩
theorem md_Ref_run_38 : mz_d mb_Ref_run 38 (.iconst (-1)) 1 39 := ⟨by decide +kernel, rfl⟩
theorem md_Ref_run_39 : mz_d mb_Ref_run 39 (.ireturn) 1 40 := ⟨by decide +kernel, rfl⟩
theorem md_Ref_run_40 : mz_d mb_Ref_run 40 (.aload_n 0) 1 41 := ⟨by decide +kernel, rfl⟩
theorem md_Ref_run_41 : mz_d mb_Ref_run 41 (.iconst 1) 1 42 := ⟨by decide +kernel, rfl⟩
theorem md_Ref_run_42 : mz_d mb_Ref_run 42 (.putfield 85) 3 45 := ⟨by decide +kernel, rfl⟩
theorem md_Ref_run_45 : mz_d mb_Ref_run 45 (.aload_n 0) 1 46 := ⟨by decide +kernel, rfl⟩
theorem md_Ref_run_46 : mz_d mb_Ref_run 46 (.iconst 0) 1 47 := ⟨by decide +kernel, rfl⟩
theorem md_Ref_run_47 : mz_d mb_Ref_run 47 (.putfield 89) 3 50 := ⟨by decide +kernel, rfl⟩
theorem md_Ref_run_50 : mz_d mb_Ref_run 50 (.aload_n 0) 1 51 := ⟨by decide +kernel, rfl⟩
theorem md_Ref_run_51 : mz_d mb_Ref_run 51 (.iconst 0) 1 52 := ⟨by decide +kernel, rfl⟩
theorem md_Ref_run_52 : mz_d mb_Ref_run 52 (.putfield 92) 3 55 := ⟨by decide +kernel, rfl⟩
theorem md_Ref_run_55 : mz_d mb_Ref_run 55 (.aload_n 0) 1 56 := ⟨by decide +kernel, rfl⟩
theorem md_Ref_run_56 : mz_d mb_Ref_run 56 (.iconst 0) 1 57 := ⟨by decide +kernel, rfl⟩
theorem md_Ref_run_57 : mz_d mb_Ref_run 57 (.putfield 64) 3 60 := ⟨by decide +kernel, rfl⟩
theorem md_Ref_run_60 : mz_d mb_Ref_run 60 (.iconst 0) 1 61 := ⟨by decide +kernel, rfl⟩
theorem md_Ref_run_61 : mz_d mb_Ref_run 61 (.istore 4) 2 63 := ⟨by decide +kernel, rfl⟩
theorem md_Ref_run_63 : mz_d mb_Ref_run 63 (.iload 4) 2 65 := ⟨by decide +kernel, rfl⟩
theorem md_Ref_run_65 : mz_d mb_Ref_run 65 (.bipush 10) 2 67 := ⟨by decide +kernel, rfl⟩
theorem md_Ref_run_67 : mz_d mb_Ref_run 67 (.if_icmp .ge 17) 3 70 := ⟨by decide +kernel, rfl⟩
theorem md_Ref_run_70 : mz_d mb_Ref_run 70 (.aload_n 0) 1 71 := ⟨by decide +kernel, rfl⟩
theorem md_Ref_run_71 : mz_d mb_Ref_run 71 (.getfield 34) 3 74 := ⟨by decide +kernel, rfl⟩
theorem md_Ref_run_74 : mz_d mb_Ref_run 74 (.iload 4) 2 76 := ⟨by decide +kernel, rfl⟩
theorem md_Ref_run_76 : mz_d mb_Ref_run 76 (.iconst 0) 1 77 := ⟨by decide +kernel, rfl⟩
theorem md_Ref_run_77 : mz_d mb_Ref_run 77 (.iastore) 1 78 := ⟨by decide +kernel, rfl⟩
theorem md_Ref_run_78 : mz_d mb_Ref_run 78 (.iinc 4 1) 3 81 := ⟨by decide +kernel, rfl⟩
theorem md_Ref_run_81 : mz_d mb_Ref_run 81 (.goto (-18)) 3 84 := ⟨by decide +kernel, rfl⟩
theorem md_Ref_run_84 : mz_d mb_Ref_run 84 (.iconst 0) 1 85 := ⟨by decide +kernel, rfl⟩
theorem md_Ref_run_85 : mz_d mb_Ref_run 85 (.istore 4) 2 87 := ⟨by decide +kernel, rfl⟩
theorem md_Ref_run_87 : mz_d mb_Ref_run 87 (.iload 4) 2 89 := ⟨by decide +kernel, rfl⟩
theorem md_Ref_run_89 : mz_d mb_Ref_run 89 (.bipush 32) 2 91 := ⟨by decide +kernel, rfl⟩
theorem md_Ref_run_91 : mz_d mb_Ref_run 91 (.if_icmp .ge 23) 3 94 := ⟨by decide +kernel, rfl⟩
theorem md_Ref_run_94 : mz_d mb_Ref_run 94 (.aload_n 0) 1 95 := ⟨by decide +kernel, rfl⟩
theorem md_Ref_run_95 : mz_d mb_Ref_run 95 (.getfield 31) 3 98 := ⟨by decide +kernel, rfl⟩
theorem md_Ref_run_98 : mz_d mb_Ref_run 98 (.iload 4) 2 100 := ⟨by decide +kernel, rfl⟩
theorem md_Ref_run_100 : mz_d mb_Ref_run 100 (.aload_n 0) 1 101 := ⟨by decide +kernel, rfl⟩
theorem md_Ref_run_101 : mz_d mb_Ref_run 101 (.getfield 28) 3 104 := ⟨by decide +kernel, rfl⟩
theorem md_Ref_run_104 : mz_d mb_Ref_run 104 (.iload 4) 2 106 := ⟨by decide +kernel, rfl⟩
theorem md_Ref_run_106 : mz_d mb_Ref_run 106 (.iaload) 1 107 := ⟨by decide +kernel, rfl⟩
theorem md_Ref_run_107 : mz_d mb_Ref_run 107 (.iastore) 1 108 := ⟨by decide +kernel, rfl⟩
theorem md_Ref_run_108 : mz_d mb_Ref_run 108 (.iinc 4 1) 3 111 := ⟨by decide +kernel, rfl⟩
theorem md_Ref_run_111 : mz_d mb_Ref_run 111 (.goto (-24)) 3 114 := ⟨by decide +kernel, rfl⟩
theorem md_Ref_run_114 : mz_d mb_Ref_run 114 (.iconst 0) 1 115 := ⟨by decide +kernel, rfl⟩
theorem md_Ref_run_115 : mz_d mb_Ref_run 115 (.istore 4) 2 117 := ⟨by decide +kernel, rfl⟩
theorem md_Ref_run_117 : mz_d mb_Ref_run 117 (.aload_n 0) 1 118 := ⟨by decide +kernel, rfl⟩
theorem md_Ref_run_118 : mz_d mb_Ref_run 118 (.getfield 92) 3 121 := ⟨by decide +kernel, rfl⟩
theorem md_Ref_run_121 : mz_d mb_Ref_run 121 (.iload_n 3) 1 122 := ⟨by decide +kernel, rfl⟩
theorem md_Ref_run_122 : mz_d mb_Ref_run 122 (.if_icmp .ge 134) 3 125 := ⟨by decide +kernel, rfl⟩
theorem md_Ref_run_125 : mz_d mb_Ref_run 125 (.aload_n 0) 1 126 := ⟨by decide +kernel, rfl⟩
theorem md_Ref_run_126 : mz_d mb_Ref_run 126 (.dup) 1 127 := ⟨by decide +kernel, rfl⟩
theorem md_Ref_run_127 : mz_d mb_Ref_run 127 (.getfield 92) 3 130 := ⟨by decide +kernel, rfl⟩
theorem md_Ref_run_130 : mz_d mb_Ref_run 130 (.iconst 1) 1 131 := ⟨by decide +kernel, rfl⟩
theorem md_Ref_run_131 : mz_d mb_Ref_run 131 (.iadd) 1 132 := ⟨by decide +kernel, rfl⟩
theorem md_Ref_run_132 : mz_d mb_Ref_run 132 (.putfield 92) 3 135 := ⟨by decide +kernel, rfl⟩
theorem md_Ref_run_135 : mz_d mb_Ref_run 135 (.iconst 0) 1 136 := ⟨by decide +kernel, rfl⟩
theorem md_Ref_run_136 : mz_d mb_Ref_run 136 (.istore 5) 2 138 := ⟨by decide +kernel, rfl⟩
theorem md_Ref_run_138 : mz_d mb_Ref_run 138 (.iload 5) 2 140 := ⟨by decide +kernel, rfl⟩
theorem md_Ref_run_140 : mz_d mb_Ref_run 140 (.aload_n 0) 1 141 := ⟨by decide +kernel, rfl⟩
theorem md_Ref_run_141 : mz_d mb_Ref_run 141 (.getfield 7) 3 144 := ⟨by decide +kernel, rfl⟩
theorem md_Ref_run_144 : mz_d mb_Ref_run 144 (.iload 4) 2 146 := ⟨by decide +kernel, rfl⟩
theorem md_Ref_run_146 : mz_d mb_Ref_run 146 (.iaload) 1 147 := ⟨by decide +kernel, rfl⟩
theorem md_Ref_run_147 : mz_d mb_Ref_run 147 (.if_icmp .ge 33) 3 150 := ⟨by decide +kernel, rfl⟩
theorem md_Ref_run_150 : mz_d mb_Ref_run 150 (.aload_n 0) 1 151 := ⟨by decide +kernel, rfl⟩
theorem md_Ref_run_151 : mz_d mb_Ref_run 151 (.bipush 48) 2 153 := ⟨by decide +kernel, rfl⟩
theorem md_Ref_run_153 : mz_d mb_Ref_run 153 (.iload 4) 2 155 := ⟨by decide +kernel, rfl⟩
theorem md_Ref_run_155 : mz_d mb_Ref_run 155 (.imul) 1 156 := ⟨by decide +kernel, rfl⟩
theorem md_Ref_run_156 : mz_d mb_Ref_run 156 (.iconst 4) 1 157 := ⟨by decide +kernel, rfl⟩
theorem md_Ref_run_157 : mz_d mb_Ref_run 157 (.iload 5) 2 159 := ⟨by decide +kernel, rfl⟩
theorem md_Ref_run_159 : mz_d mb_Ref_run 159 (.imul) 1 160 := ⟨by decide +kernel, rfl⟩
theorem md_Ref_run_160 : mz_d mb_Ref_run 160 (.iadd) 1 161 := ⟨by decide +kernel, rfl⟩
theorem md_Ref_run_161 : mz_d mb_Ref_run 161 (.invokevirtual 95) 3 164 := ⟨by decide +kernel, rfl⟩
theorem md_Ref_run_164 : mz_d mb_Ref_run 164 (.istore 6) 2 166 := ⟨by decide +kernel, rfl⟩
theorem md_Ref_run_166 : mz_d mb_Ref_run 166 (.iload 6) 2 168 := ⟨by decide +kernel, rfl⟩
theorem md_Ref_run_168 : mz_d mb_Ref_run 168 (.ifCond .le 6) 3 171 := ⟨by decide +kernel, rfl⟩
theorem md_Ref_run_171 : mz_d mb_Ref_run 171 (.iload 6) 2 173 := ⟨by decide +kernel, rfl⟩
theorem md_Ref_run_173 : mz_d mb_Ref_run 173 (.ireturn) 1 174 := ⟨by decide +kernel, rfl⟩
theorem md_Ref_run_174 : mz_d mb_Ref_run 174 (.iinc 5 1) 3 177 := ⟨by decide +kernel, rfl⟩
theorem md_Ref_run_177 : mz_d mb_Ref_run 177 (.goto (-39)) 3 180 := ⟨by decide +kernel, rfl⟩
theorem md_Ref_run_180 : mz_d mb_Ref_run 180 (.aload_n 0) 1 181 := ⟨by decide +kernel, rfl⟩
theorem md_Ref_run_181 : mz_d mb_Ref_run 181 (.getfield 16) 3 184 := ⟨by decide +kernel, rfl⟩
theorem md_Ref_run_184 : mz_d mb_Ref_run 184 (.iload 4) 2 186 := ⟨by decide +kernel, rfl⟩
theorem md_Ref_run_186 : mz_d mb_Ref_run 186 (.iaload) 1 187 := ⟨by decide +kernel, rfl⟩
theorem md_Ref_run_187 : mz_d mb_Ref_run 187 (.ifCond .ne 21) 3 190 := ⟨by decide +kernel, rfl⟩
theorem md_Ref_run_190 : mz_d mb_Ref_run 190 (.aload_n 0) 1 191 := ⟨by decide +kernel, rfl⟩
theorem md_Ref_run_191 : mz_d mb_Ref_run 191 (.aload_n 0) 1 192 := ⟨by decide +kernel, rfl⟩
theorem md_Ref_run_192 : mz_d mb_Ref_run 192 (.getfield 34) 3 195 := ⟨by decide +kernel, rfl⟩
theorem md_Ref_run_195 : mz_d mb_Ref_run 195 (.aload_n 0) 1 196 := ⟨by decide +kernel, rfl⟩
theorem md_Ref_run_196 : mz_d mb_Ref_run 196 (.getfield 19) 3 199 := ⟨by decide +kernel, rfl⟩
theorem md_Ref_run_199 : mz_d mb_Ref_run 199 (.iload 4) 2 201 := ⟨by decide +kernel, rfl⟩
theorem md_Ref_run_201 : mz_d mb_Ref_run 201 (.iaload) 1 202 := ⟨by decide +kernel, rfl⟩
theorem md_Ref_run_202 : mz_d mb_Ref_run 202 (.iaload) 1 203 := ⟨by decide +kernel, rfl⟩
theorem md_Ref_run_203 : mz_d mb_Ref_run 203 (.putfield 89) 3 206 := ⟨by decide +kernel, rfl⟩
theorem md_Ref_run_206 : mz_d mb_Ref_run 206 (.iconst 0) 1 207 := ⟨by decide +kernel, rfl⟩
theorem md_Ref_run_207 : mz_d mb_Ref_run 207 (.ireturn) 1 208 := ⟨by decide +kernel, rfl⟩
theorem md_Ref_run_208 : mz_d mb_Ref_run 208 (.aload_n 0) 1 209 := ⟨by decide +kernel, rfl⟩
theorem md_Ref_run_209 : mz_d mb_Ref_run 209 (.getfield 16) 3 212 := ⟨by decide +kernel, rfl⟩
theorem md_Ref_run_212 : mz_d mb_Ref_run 212 (.iload 4) 2 214 := ⟨by decide +kernel, rfl⟩
theorem md_Ref_run_214 : mz_d mb_Ref_run 214 (.iaload) 1 215 := ⟨by decide +kernel, rfl⟩
theorem md_Ref_run_215 : mz_d mb_Ref_run 215 (.iconst 1) 1 216 := ⟨by decide +kernel, rfl⟩
theorem md_Ref_run_216 : mz_d mb_Ref_run 216 (.if_icmp .eq 18) 3 219 := ⟨by decide +kernel, rfl⟩
theorem md_Ref_run_219 : mz_d mb_Ref_run 219 (.aload_n 0) 1 220 := ⟨by decide +kernel, rfl⟩
theorem md_Ref_run_220 : mz_d mb_Ref_run 220 (.getfield 34) 3 223 := ⟨by decide +kernel, rfl⟩
theorem md_Ref_run_223 : mz_d mb_Ref_run 223 (.aload_n 0) 1 224 := ⟨by decide +kernel, rfl⟩
theorem md_Ref_run_224 : mz_d mb_Ref_run 224 (.getfield 19) 3 227 := ⟨by decide +kernel, rfl⟩
theorem md_Ref_run_227 : mz_d mb_Ref_run 227 (.iload 4) 2 229 := ⟨by decide +kernel, rfl⟩
theorem md_Ref_run_229 : mz_d mb_Ref_run 229 (.iaload) 1 230 := ⟨by decide +kernel, rfl⟩
theorem md_Ref_run_230 : mz_d mb_Ref_run 230 (.iaload) 1 231 := ⟨by decide +kernel, rfl⟩
theorem md_Ref_run_231 : mz_d mb_Ref_run 231 (.ifCond .eq 13) 3 234 := ⟨by decide +kernel, rfl⟩
theorem md_Ref_run_234 : mz_d mb_Ref_run 234 (.aload_n 0) 1 235 := ⟨by decide +kernel, rfl⟩
theorem md_Ref_run_235 : mz_d mb_Ref_run 235 (.getfield 22) 3 238 := ⟨by decide +kernel, rfl⟩
theorem md_Ref_run_238 : mz_d mb_Ref_run 238 (.iload 4) 2 240 := ⟨by decide +kernel, rfl⟩
theorem md_Ref_run_240 : mz_d mb_Ref_run 240 (.iaload) 1 241 := ⟨by decide +kernel, rfl⟩
theorem md_Ref_run_241 : mz_d mb_Ref_run 241 (.goto 10) 3 244 := ⟨by decide +kernel, rfl⟩
theorem md_Ref_run_244 : mz_d mb_Ref_run 244 (.aload_n 0) 1 245 := ⟨by decide +kernel, rfl⟩
theorem md_Ref_run_245 : mz_d mb_Ref_run 245 (.getfield 25) 3 248 := ⟨by decide +kernel, rfl⟩
theorem md_Ref_run_248 : mz_d mb_Ref_run 248 (.iload 4) 2 250 := ⟨by decide +kernel, rfl⟩
theorem md_Ref_run_250 : mz_d mb_Ref_run 250 (.iaload) 1 251 := ⟨by decide +kernel, rfl⟩
theorem md_Ref_run_251 : mz_d mb_Ref_run 251 (.istore 4) 2 253 := ⟨by decide +kernel, rfl⟩
theorem md_Ref_run_253 : mz_d mb_Ref_run 253 (.goto (-136)) 3 256 := ⟨by decide +kernel, rfl⟩
theorem md_Ref_run_256 : mz_d mb_Ref_run 256 (.iconst 3) 1 257 := ⟨by decide +kernel, rfl⟩
theorem md_Ref_run_257 : mz_d mb_Ref_run 257 (.ireturn) 1 258 := ⟨by decide +kernel, rfl⟩
theorem md_Ref_value_0 : mz_d mb_Ref_value 0 (.aload_n 0) 1 1 := ⟨by decide +kernel, rfl⟩
theorem md_Ref_value_1 : mz_d mb_Ref_value 1 (.getfield 89) 3 4 := ⟨by decide +kernel, rfl⟩
theorem md_Ref_value_4 : mz_d mb_Ref_value 4 (.ireturn) 1 5 := ⟨by decide +kernel, rfl⟩
theorem md_Ref_entered_0 : mz_d mb_Ref_entered 0 (.aload_n 0) 1 1 := ⟨by decide +kernel, rfl⟩
theorem md_Ref_entered_1 : mz_d mb_Ref_entered 1 (.getfield 92) 3 4 := ⟨by decide +kernel, rfl⟩
theorem md_Ref_entered_4 : mz_d mb_Ref_entered 4 (.ireturn) 1 5 := ⟨by decide +kernel, rfl⟩
theorem md_Ref_word_0 : mz_d mb_Ref_word 0 (.aload_n 0) 1 1 := ⟨by decide +kernel, rfl⟩
theorem md_Ref_word_1 : mz_d mb_Ref_word 1 (.getfield 85) 3 4 := ⟨by decide +kernel, rfl⟩
theorem md_Ref_word_4 : mz_d mb_Ref_word 4 (.ifCond .eq 19) 3 7 := ⟨by decide +kernel, rfl⟩
theorem md_Ref_word_7 : mz_d mb_Ref_word 7 (.iload_n 1) 1 8 := ⟨by decide +kernel, rfl⟩
theorem md_Ref_word_8 : mz_d mb_Ref_word 8 (.invokestatic 78) 3 11 := ⟨by decide +kernel, rfl⟩
theorem md_Ref_word_11 : mz_d mb_Ref_word 11 (.ifCond .eq 12) 3 14 := ⟨by decide +kernel, rfl⟩
theorem md_Ref_word_14 : mz_d mb_Ref_word 14 (.aload_n 0) 1 15 := ⟨by decide +kernel, rfl⟩
theorem md_Ref_word_15 : mz_d mb_Ref_word 15 (.getfield 31) 3 18 := ⟨by decide +kernel, rfl⟩
theorem md_Ref_word_18 : mz_d mb_Ref_word 18 (.iload_n 1) 1 19 := ⟨by decide +kernel, rfl⟩
theorem md_Ref_word_19 : mz_d mb_Ref_word 19 (.iaload) 1 20 := ⟨by decide +kernel, rfl⟩
theorem md_Ref_word_20 : mz_d mb_Ref_word 20 (.goto 4) 3 23 := ⟨by decide +kernel, rfl⟩
theorem md_Ref_word_23 : mz_d mb_Ref_word 23 (.iconst 0) 1 24 := ⟨by decide +kernel, rfl⟩
theorem md_Ref_word_24 : mz_d mb_Ref_word 24 (.ireturn) 1 25 := ⟨by decide +kernel, rfl⟩
theorem md_Ref_calls_0 : mz_d mb_Ref_calls 0 (.aload_n 0) 1 1 := ⟨by decide +kernel, rfl⟩
theorem md_Ref_calls_1 : mz_d mb_Ref_calls 1 (.getfield 64) 3 4 := ⟨by decide +kernel, rfl⟩
theorem md_Ref_calls_4 : mz_d mb_Ref_calls 4 (.ireturn) 1 5 := ⟨by decide +kernel, rfl⟩
theorem md_Ref_call2_0 : mz_d mb_Ref_call2 0 (.iload_n 1) 1 1 := ⟨by decide +kernel, rfl⟩
theorem md_Ref_call2_1 : mz_d mb_Ref_call2 1 (.ifCond .lt 40) 3 4 := ⟨by decide +kernel, rfl⟩
theorem md_Ref_call2_4 : mz_d mb_Ref_call2 4 (.iload_n 1) 1 5 := ⟨by decide +kernel, rfl⟩
theorem md_Ref_call2_5 : mz_d mb_Ref_call2 5 (.aload_n 0) 1 6 := ⟨by decide +kernel, rfl⟩
theorem md_Ref_call2_6 : mz_d mb_Ref_call2 6 (.getfield 64) 3 9 := ⟨by decide +kernel, rfl⟩
theorem md_Ref_call2_9 : mz_d mb_Ref_call2 9 (.if_icmp .ge 32) 3 12 := ⟨by decide +kernel, rfl⟩
theorem md_Ref_call2_12 : mz_d mb_Ref_call2 12 (.iload_n 1) 1 13 := ⟨by decide +kernel, rfl⟩
theorem md_Ref_call2_13 : mz_d mb_Ref_call2 13 (.sipush 200) 3 16 := ⟨by decide +kernel, rfl⟩
theorem md_Ref_call2_16 : mz_d mb_Ref_call2 16 (.if_icmp .ge 25) 3 19 := ⟨by decide +kernel, rfl⟩
theorem md_Ref_call2_19 : mz_d mb_Ref_call2 19 (.iload_n 2) 1 20 := ⟨by decide +kernel, rfl⟩
theorem md_Ref_call2_20 : mz_d mb_Ref_call2 20 (.ifCond .lt 21) 3 23 := ⟨by decide +kernel, rfl⟩
theorem md_Ref_call2_23 : mz_d mb_Ref_call2 23 (.iload_n 2) 1 24 := ⟨by decide +kernel, rfl⟩
theorem md_Ref_call2_24 : mz_d mb_Ref_call2 24 (.iconst 3) 1 25 := ⟨by decide +kernel, rfl⟩
theorem md_Ref_call2_25 : mz_d mb_Ref_call2 25 (.if_icmp .ge 16) 3 28 := ⟨by decide +kernel, rfl⟩
theorem md_Ref_call2_28 : mz_d mb_Ref_call2 28 (.aload_n 0) 1 29 := ⟨by decide +kernel, rfl⟩
theorem md_Ref_call2_29 : mz_d mb_Ref_call2 29 (.getfield 37) 3 32 := ⟨by decide +kernel, rfl⟩
theorem md_Ref_call2_32 : mz_d mb_Ref_call2 32 (.iconst 3) 1 33 := ⟨by decide +kernel, rfl⟩
theorem md_Ref_call2_33 : mz_d mb_Ref_call2 33 (.iload_n 1) 1 34 := ⟨by decide +kernel, rfl⟩
theorem md_Ref_call2_34 : mz_d mb_Ref_call2 34 (.imul) 1 35 := ⟨by decide +kernel, rfl⟩
theorem md_Ref_call2_35 : mz_d mb_Ref_call2 35 (.iload_n 2) 1 36 := ⟨by decide +kernel, rfl⟩
theorem md_Ref_call2_36 : mz_d mb_Ref_call2 36 (.iadd) 1 37 := ⟨by decide +kernel, rfl⟩
theorem md_Ref_call2_37 : mz_d mb_Ref_call2 37 (.iaload) 1 38 := ⟨by decide +kernel, rfl⟩
theorem md_Ref_call2_38 : mz_d mb_Ref_call2 38 (.goto 4) 3 41 := ⟨by decide +kernel, rfl⟩
theorem md_Ref_call2_41 : mz_d mb_Ref_call2 41 (.iconst 0) 1 42 := ⟨by decide +kernel, rfl⟩
theorem md_Ref_call2_42 : mz_d mb_Ref_call2 42 (.ireturn) 1 43 := ⟨by decide +kernel, rfl⟩
theorem md_Ref_hasEdge_0 : mz_d mb_Ref_hasEdge 0 (.aload_n 0) 1 1 := ⟨by decide +kernel, rfl⟩
theorem md_Ref_hasEdge_1 : mz_d mb_Ref_hasEdge 1 (.getfield 16) 3 4 := ⟨by decide +kernel, rfl⟩
theorem md_Ref_hasEdge_4 : mz_d mb_Ref_hasEdge 4 (.iload_n 1) 1 5 := ⟨by decide +kernel, rfl⟩
theorem md_Ref_hasEdge_5 : mz_d mb_Ref_hasEdge 5 (.iaload) 1 6 := ⟨by decide +kernel, rfl⟩
theorem md_Ref_hasEdge_6 : mz_d mb_Ref_hasEdge 6 (.ifCond .le 13) 3 9 := ⟨by decide +kernel, rfl⟩
theorem md_Ref_hasEdge_9 : mz_d mb_Ref_hasEdge 9 (.aload_n 0) 1 10 := ⟨by decide +kernel, rfl⟩
theorem md_Ref_hasEdge_10 : mz_d mb_Ref_hasEdge 10 (.getfield 22) 3 13 := ⟨by decide +kernel, rfl⟩
theorem md_Ref_hasEdge_13 : mz_d mb_Ref_hasEdge 13 (.iload_n 1) 1 14 := ⟨by decide +kernel, rfl⟩
theorem md_Ref_hasEdge_14 : mz_d mb_Ref_hasEdge 14 (.iaload) 1 15 := ⟨by decide +kernel, rfl⟩
theorem md_Ref_hasEdge_15 : mz_d mb_Ref_hasEdge 15 (.iload_n 2) 1 16 := ⟨by decide +kernel, rfl⟩
theorem md_Ref_hasEdge_16 : mz_d mb_Ref_hasEdge 16 (.if_icmp .eq 23) 3 19 := ⟨by decide +kernel, rfl⟩
theorem md_Ref_hasEdge_19 : mz_d mb_Ref_hasEdge 19 (.aload_n 0) 1 20 := ⟨by decide +kernel, rfl⟩
theorem md_Ref_hasEdge_20 : mz_d mb_Ref_hasEdge 20 (.getfield 16) 3 23 := ⟨by decide +kernel, rfl⟩
theorem md_Ref_hasEdge_23 : mz_d mb_Ref_hasEdge 23 (.iload_n 1) 1 24 := ⟨by decide +kernel, rfl⟩
theorem md_Ref_hasEdge_24 : mz_d mb_Ref_hasEdge 24 (.iaload) 1 25 := ⟨by decide +kernel, rfl⟩
theorem md_Ref_hasEdge_25 : mz_d mb_Ref_hasEdge 25 (.iconst 2) 1 26 := ⟨by decide +kernel, rfl⟩
theorem md_Ref_hasEdge_26 : mz_d mb_Ref_hasEdge 26 (.if_icmp .ne 17) 3 29 := ⟨by decide +kernel, rfl⟩
theorem md_Ref_hasEdge_29 : mz_d mb_Ref_hasEdge 29 (.aload_n 0) 1 30 := ⟨by decide +kernel, rfl⟩
theorem md_Ref_hasEdge_30 : mz_d mb_Ref_hasEdge 30 (.getfield 25) 3 33 := ⟨by decide +kernel, rfl⟩
theorem md_Ref_hasEdge_33 : mz_d mb_Ref_hasEdge 33 (.iload_n 1) 1 34 := ⟨by decide +kernel, rfl⟩
theorem md_Ref_hasEdge_34 : mz_d mb_Ref_hasEdge 34 (.iaload) 1 35 := ⟨by decide +kernel, rfl⟩
theorem md_Ref_hasEdge_35 : mz_d mb_Ref_hasEdge 35 (.iload_n 2) 1 36 := ⟨by decide +kernel, rfl⟩
theorem md_Ref_hasEdge_36 : mz_d mb_Ref_hasEdge 36 (.if_icmp .ne 7) 3 39 := ⟨by decide +kernel, rfl⟩
theorem md_Ref_hasEdge_39 : mz_d mb_Ref_hasEdge 39 (.iconst 1) 1 40 := ⟨by decide +kernel, rfl⟩
theorem md_Ref_hasEdge_40 : mz_d mb_Ref_hasEdge 40 (.goto 4) 3 43 := ⟨by decide +kernel, rfl⟩
theorem md_Ref_hasEdge_43 : mz_d mb_Ref_hasEdge 43 (.iconst 0) 1 44 := ⟨by decide +kernel, rfl⟩
theorem md_Ref_hasEdge_44 : mz_d mb_Ref_hasEdge 44 (.ireturn) 1 45 := ⟨by decide +kernel, rfl⟩
theorem md_Ref_reach_0 : mz_d mb_Ref_reach 0 (.iload_n 2) 1 1 := ⟨by decide +kernel, rfl⟩
theorem md_Ref_reach_1 : mz_d mb_Ref_reach 1 (.ifCond .ge 7) 3 4 := ⟨by decide +kernel, rfl⟩
theorem md_Ref_reach_4 : mz_d mb_Ref_reach 4 (.iload_n 1) 1 5 := ⟨by decide +kernel, rfl⟩
theorem md_Ref_reach_5 : mz_d mb_Ref_reach 5 (.goto 10) 3 8 := ⟨by decide +kernel, rfl⟩
theorem md_Ref_reach_8 : mz_d mb_Ref_reach 8 (.iload_n 1) 1 9 := ⟨by decide +kernel, rfl⟩
theorem md_Ref_reach_9 : mz_d mb_Ref_reach 9 (.iconst 1) 1 10 := ⟨by decide +kernel, rfl⟩
theorem md_Ref_reach_10 : mz_d mb_Ref_reach 10 (.iload_n 2) 1 11 := ⟨by decide +kernel, rfl⟩
theorem md_Ref_reach_11 : mz_d mb_Ref_reach 11 (.ishl) 1 12 := ⟨by decide +kernel, rfl⟩
theorem md_Ref_reach_12 : mz_d mb_Ref_reach 12 (.iconst (-1)) 1 13 := ⟨by decide +kernel, rfl⟩
theorem md_Ref_reach_13 : mz_d mb_Ref_reach 13 (.ixor) 1 14 := ⟨by decide +kernel, rfl⟩
theorem md_Ref_reach_14 : mz_d mb_Ref_reach 14 (.iand) 1 15 := ⟨by decide +kernel, rfl⟩
theorem md_Ref_reach_15 : mz_d mb_Ref_reach 15 (.istore_n 3) 1 16 := ⟨by decide +kernel, rfl⟩
theorem md_Ref_reach_16 : mz_d mb_Ref_reach 16 (.iconst 0) 1 17 := ⟨by decide +kernel, rfl⟩
theorem md_Ref_reach_17 : mz_d mb_Ref_reach 17 (.istore 4) 2 19 := ⟨by decide +kernel, rfl⟩
theorem md_Ref_reach_19 : mz_d mb_Ref_reach 19 (.iload 4) 2 21 := ⟨by decide +kernel, rfl⟩
theorem md_Ref_reach_21 : mz_d mb_Ref_reach 21 (.bipush 10) 2 23 := ⟨by decide +kernel, rfl⟩
theorem md_Ref_reach_23 : mz_d mb_Ref_reach 23 (.if_icmp .ge 83) 3 26 := ⟨by decide +kernel, rfl⟩
theorem md_Ref_reach_26 : mz_d mb_Ref_reach 26 (.iconst 0) 1 27 := ⟨by decide +kernel, rfl⟩
theorem md_Ref_reach_27 : mz_d mb_Ref_reach 27 (.istore 5) 2 29 := ⟨by decide +kernel, rfl⟩
theorem md_Ref_reach_29 : mz_d mb_Ref_reach 29 (.iload 5) 2 31 := ⟨by decide +kernel, rfl⟩
theorem md_Ref_reach_31 : mz_d mb_Ref_reach 31 (.aload_n 0) 1 32 := ⟨by decide +kernel, rfl⟩
theorem md_Ref_reach_32 : mz_d mb_Ref_reach 32 (.getfield 49) 3 35 := ⟨by decide +kernel, rfl⟩
theorem md_Ref_reach_35 : mz_d mb_Ref_reach 35 (.if_icmp .ge 65) 3 38 := ⟨by decide +kernel, rfl⟩
theorem md_Ref_reach_38 : mz_d mb_Ref_reach 38 (.iconst 0) 1 39 := ⟨by decide +kernel, rfl⟩
theorem md_Ref_reach_39 : mz_d mb_Ref_reach 39 (.istore 6) 2 41 := ⟨by decide +kernel, rfl⟩
theorem md_Ref_reach_41 : mz_d mb_Ref_reach 41 (.iload 6) 2 43 := ⟨by decide +kernel, rfl⟩
theorem md_Ref_reach_43 : mz_d mb_Ref_reach 43 (.aload_n 0) 1 44 := ⟨by decide +kernel, rfl⟩
theorem md_Ref_reach_44 : mz_d mb_Ref_reach 44 (.getfield 49) 3 47 := ⟨by decide +kernel, rfl⟩
theorem md_Ref_reach_47 : mz_d mb_Ref_reach 47 (.if_icmp .ge 47) 3 50 := ⟨by decide +kernel, rfl⟩
theorem md_Ref_reach_50 : mz_d mb_Ref_reach 50 (.iload_n 3) 1 51 := ⟨by decide +kernel, rfl⟩
theorem md_Ref_reach_51 : mz_d mb_Ref_reach 51 (.iload 5) 2 53 := ⟨by decide +kernel, rfl⟩
theorem md_Ref_reach_53 : mz_d mb_Ref_reach 53 (.ishr) 1 54 := ⟨by decide +kernel, rfl⟩
theorem md_Ref_reach_54 : mz_d mb_Ref_reach 54 (.iconst 1) 1 55 := ⟨by decide +kernel, rfl⟩
theorem md_Ref_reach_55 : mz_d mb_Ref_reach 55 (.iand) 1 56 := ⟨by decide +kernel, rfl⟩
theorem md_Ref_reach_56 : mz_d mb_Ref_reach 56 (.iconst 1) 1 57 := ⟨by decide +kernel, rfl⟩
theorem md_Ref_reach_57 : mz_d mb_Ref_reach 57 (.if_icmp .ne 37) 3 60 := ⟨by decide +kernel, rfl⟩
theorem md_Ref_reach_60 : mz_d mb_Ref_reach 60 (.iload_n 3) 1 61 := ⟨by decide +kernel, rfl⟩
theorem md_Ref_reach_61 : mz_d mb_Ref_reach 61 (.aload_n 0) 1 62 := ⟨by decide +kernel, rfl⟩
theorem md_Ref_reach_62 : mz_d mb_Ref_reach 62 (.iload 5) 2 64 := ⟨by decide +kernel, rfl⟩
theorem md_Ref_reach_64 : mz_d mb_Ref_reach 64 (.iload 6) 2 66 := ⟨by decide +kernel, rfl⟩
theorem md_Ref_reach_66 : mz_d mb_Ref_reach 66 (.invokevirtual 99) 3 69 := ⟨by decide +kernel, rfl⟩
theorem md_Ref_reach_69 : mz_d mb_Ref_reach 69 (.ifCond .eq 16) 3 72 := ⟨by decide +kernel, rfl⟩
theorem md_Ref_reach_72 : mz_d mb_Ref_reach 72 (.iload 6) 2 74 := ⟨by decide +kernel, rfl⟩
theorem md_Ref_reach_74 : mz_d mb_Ref_reach 74 (.iload_n 2) 1 75 := ⟨by decide +kernel, rfl⟩
theorem md_Ref_reach_75 : mz_d mb_Ref_reach 75 (.if_icmp .eq 10) 3 78 := ⟨by decide +kernel, rfl⟩
theorem md_Ref_reach_78 : mz_d mb_Ref_reach 78 (.iconst 1) 1 79 := ⟨by decide +kernel, rfl⟩
theorem md_Ref_reach_79 : mz_d mb_Ref_reach 79 (.iload 6) 2 81 := ⟨by decide +kernel, rfl⟩
theorem md_Ref_reach_81 : mz_d mb_Ref_reach 81 (.ishl) 1 82 := ⟨by decide +kernel, rfl⟩
theorem md_Ref_reach_82 : mz_d mb_Ref_reach 82 (.goto 4) 3 85 := ⟨by decide +kernel, rfl⟩
theorem md_Ref_reach_85 : mz_d mb_Ref_reach 85 (.iconst 0) 1 86 := ⟨by decide +kernel, rfl⟩
theorem md_Ref_reach_86 : mz_d mb_Ref_reach 86 (.ior) 1 87 := ⟨by decide +kernel, rfl⟩
theorem md_Ref_reach_87 : mz_d mb_Ref_reach 87 (.istore_n 3) 1 88 := ⟨by decide +kernel, rfl⟩
theorem md_Ref_reach_88 : mz_d mb_Ref_reach 88 (.iinc 6 1) 3 91 := ⟨by decide +kernel, rfl⟩
theorem md_Ref_reach_91 : mz_d mb_Ref_reach 91 (.goto (-50)) 3 94 := ⟨by decide +kernel, rfl⟩
theorem md_Ref_reach_94 : mz_d mb_Ref_reach 94 (.iinc 5 1) 3 97 := ⟨by decide +kernel, rfl⟩
theorem md_Ref_reach_97 : mz_d mb_Ref_reach 97 (.goto (-68)) 3 100 := ⟨by decide +kernel, rfl⟩
theorem md_Ref_reach_100 : mz_d mb_Ref_reach 100 (.iinc 4 1) 3 103 := ⟨by decide +kernel, rfl⟩
theorem md_Ref_reach_103 : mz_d mb_Ref_reach 103 (.goto (-84)) 3 106 := ⟨by decide +kernel, rfl⟩
theorem md_Ref_reach_106 : mz_d mb_Ref_reach 106 (.iload_n 3) 1 107 := ⟨by decide +kernel, rfl⟩
theorem md_Ref_reach_107 : mz_d mb_Ref_reach 107 (.ireturn) 1 108 := ⟨by decide +kernel, rfl⟩
theorem md_Ref_isAlive_0 : mz_d mb_Ref_isAlive 0 (.aload_n 0) 1 1 := ⟨by decide +kernel, rfl⟩
theorem md_Ref_isAlive_1 : mz_d mb_Ref_isAlive 1 (.iload_n 1) 1 2 := ⟨by decide +kernel, rfl⟩
theorem md_Ref_isAlive_2 : mz_d mb_Ref_isAlive 2 (.invokevirtual 57) 3 5 := ⟨by decide +kernel, rfl⟩
theorem md_Ref_isAlive_5 : mz_d mb_Ref_isAlive 5 (.ifCond .eq 21) 3 8 := ⟨by decide +kernel, rfl⟩
theorem md_Ref_isAlive_8 : mz_d mb_Ref_isAlive 8 (.aload_n 0) 1 9 := ⟨by decide +kernel, rfl⟩
theorem md_Ref_isAlive_9 : mz_d mb_Ref_isAlive 9 (.iconst 1) 1 10 := ⟨by decide +kernel, rfl⟩
theorem md_Ref_isAlive_10 : mz_d mb_Ref_isAlive 10 (.iconst (-1)) 1 11 := ⟨by decide +kernel, rfl⟩
theorem md_Ref_isAlive_11 : mz_d mb_Ref_isAlive 11 (.invokevirtual 102) 3 14 := ⟨by decide +kernel, rfl⟩
theorem md_Ref_isAlive_14 : mz_d mb_Ref_isAlive 14 (.iload_n 1) 1 15 := ⟨by decide +kernel, rfl⟩
theorem md_Ref_isAlive_15 : mz_d mb_Ref_isAlive 15 (.ishr) 1 16 := ⟨by decide +kernel, rfl⟩
theorem md_Ref_isAlive_16 : mz_d mb_Ref_isAlive 16 (.iconst 1) 1 17 := ⟨by decide +kernel, rfl⟩
theorem md_Ref_isAlive_17 : mz_d mb_Ref_isAlive 17 (.iand) 1 18 := ⟨by decide +kernel, rfl⟩
theorem md_Ref_isAlive_18 : mz_d mb_Ref_isAlive 18 (.iconst 1) 1 19 := ⟨by decide +kernel, rfl⟩
theorem md_Ref_isAlive_19 : mz_d mb_Ref_isAlive 19 (.if_icmp .ne 7) 3 22 := ⟨by decide +kernel, rfl⟩
theorem md_Ref_isAlive_22 : mz_d mb_Ref_isAlive 22 (.iconst 1) 1 23 := ⟨by decide +kernel, rfl⟩
theorem md_Ref_isAlive_23 : mz_d mb_Ref_isAlive 23 (.goto 4) 3 26 := ⟨by decide +kernel, rfl⟩
theorem md_Ref_isAlive_26 : mz_d mb_Ref_isAlive 26 (.iconst 0) 1 27 := ⟨by decide +kernel, rfl⟩
theorem md_Ref_isAlive_27 : mz_d mb_Ref_isAlive 27 (.ireturn) 1 28 := ⟨by decide +kernel, rfl⟩
theorem md_Ref_note_0 : mz_d mb_Ref_note 0 (.iconst 0) 1 1 := ⟨by decide +kernel, rfl⟩
theorem md_Ref_note_1 : mz_d mb_Ref_note 1 (.istore_n 1) 1 2 := ⟨by decide +kernel, rfl⟩
theorem md_Ref_note_2 : mz_d mb_Ref_note 2 (.iconst 0) 1 3 := ⟨by decide +kernel, rfl⟩
theorem md_Ref_note_3 : mz_d mb_Ref_note 3 (.istore_n 2) 1 4 := ⟨by decide +kernel, rfl⟩
theorem md_Ref_note_4 : mz_d mb_Ref_note 4 (.iconst 0) 1 5 := ⟨by decide +kernel, rfl⟩
theorem md_Ref_note_5 : mz_d mb_Ref_note 5 (.istore_n 3) 1 6 := ⟨by decide +kernel, rfl⟩
theorem md_Ref_note_6 : mz_d mb_Ref_note 6 (.aload_n 0) 1 7 := ⟨by decide +kernel, rfl⟩
theorem md_Ref_note_7 : mz_d mb_Ref_note 7 (.getfield 49) 3 10 := ⟨by decide +kernel, rfl⟩
theorem md_Ref_note_10 : mz_d mb_Ref_note 10 (.ifCond .le 21) 3 13 := ⟨by decide +kernel, rfl⟩
theorem md_Ref_note_13 : mz_d mb_Ref_note 13 (.aload_n 0) 1 14 := ⟨by decide +kernel, rfl⟩
theorem md_Ref_note_14 : mz_d mb_Ref_note 14 (.getfield 43) 3 17 := ⟨by decide +kernel, rfl⟩
theorem md_Ref_note_17 : mz_d mb_Ref_note 17 (.iconst 0) 1 18 := ⟨by decide +kernel, rfl⟩
theorem md_Ref_note_18 : mz_d mb_Ref_note 18 (.iconst 0) 1 19 := ⟨by decide +kernel, rfl⟩
theorem md_Ref_note_19 : mz_d mb_Ref_note 19 (.iastore) 1 20 := ⟨by decide +kernel, rfl⟩
theorem md_Ref_note_20 : mz_d mb_Ref_note 20 (.aload_n 0) 1 21 := ⟨by decide +kernel, rfl⟩
theorem md_Ref_note_21 : mz_d mb_Ref_note 21 (.getfield 46) 3 24 := ⟨by decide +kernel, rfl⟩
theorem md_Ref_note_24 : mz_d mb_Ref_note 24 (.iconst 0) 1 25 := ⟨by decide +kernel, rfl⟩
theorem md_Ref_note_25 : mz_d mb_Ref_note 25 (.iconst 0) 1 26 := ⟨by decide +kernel, rfl⟩
theorem md_Ref_note_26 : mz_d mb_Ref_note 26 (.iastore) 1 27 := ⟨by decide +kernel, rfl⟩
theorem md_Ref_note_27 : mz_d mb_Ref_note 27 (.iconst 1) 1 28 := ⟨by decide +kernel, rfl⟩
theorem md_Ref_note_28 : mz_d mb_Ref_note 28 (.istore_n 3) 1 29 := ⟨by decide +kernel, rfl⟩
theorem md_Ref_note_29 : mz_d mb_Ref_note 29 (.iconst 1) 1 30 := ⟨by decide +kernel, rfl⟩
theorem md_Ref_note_30 : mz_d mb_Ref_note 30 (.istore_n 2) 1 31 := ⟨by decide +kernel, rfl⟩
theorem md_Ref_note_31 : mz_d mb_Ref_note 31 (.iload_n 2) 1 32 := ⟨by decide +kernel, rfl⟩
theorem md_Ref_note_32 : mz_d mb_Ref_note 32 (.ifCond .le 125) 3 35 := ⟨by decide +kernel, rfl⟩
theorem md_Ref_note_35 : mz_d mb_Ref_note 35 (.aload_n 0) 1 36 := ⟨by decide +kernel, rfl⟩
theorem md_Ref_note_36 : mz_d mb_Ref_note 36 (.getfield 43) 3 39 := ⟨by decide +kernel, rfl⟩
theorem md_Ref_note_39 : mz_d mb_Ref_note 39 (.iload_n 2) 1 40 := ⟨by decide +kernel, rfl⟩
theorem md_Ref_note_40 : mz_d mb_Ref_note 40 (.iconst 1) 1 41 := ⟨by decide +kernel, rfl⟩
theorem md_Ref_note_41 : mz_d mb_Ref_note 41 (.isub) 1 42 := ⟨by decide +kernel, rfl⟩
theorem md_Ref_note_42 : mz_d mb_Ref_note 42 (.iaload) 1 43 := ⟨by decide +kernel, rfl⟩
theorem md_Ref_note_43 : mz_d mb_Ref_note 43 (.istore 4) 2 45 := ⟨by decide +kernel, rfl⟩
theorem md_Ref_note_45 : mz_d mb_Ref_note 45 (.aload_n 0) 1 46 := ⟨by decide +kernel, rfl⟩
theorem md_Ref_note_46 : mz_d mb_Ref_note 46 (.getfield 46) 3 49 := ⟨by decide +kernel, rfl⟩
theorem md_Ref_note_49 : mz_d mb_Ref_note 49 (.iload_n 2) 1 50 := ⟨by decide +kernel, rfl⟩
theorem md_Ref_note_50 : mz_d mb_Ref_note 50 (.iconst 1) 1 51 := ⟨by decide +kernel, rfl⟩
theorem md_Ref_note_51 : mz_d mb_Ref_note 51 (.isub) 1 52 := ⟨by decide +kernel, rfl⟩
theorem md_Ref_note_52 : mz_d mb_Ref_note 52 (.iaload) 1 53 := ⟨by decide +kernel, rfl⟩
theorem md_Ref_note_53 : mz_d mb_Ref_note 53 (.istore 5) 2 55 := ⟨by decide +kernel, rfl⟩
theorem md_Ref_note_55 : mz_d mb_Ref_note 55 (.aload_n 0) 1 56 := ⟨by decide +kernel, rfl⟩
theorem md_Ref_note_56 : mz_d mb_Ref_note 56 (.getfield 46) 3 59 := ⟨by decide +kernel, rfl⟩
theorem md_Ref_note_59 : mz_d mb_Ref_note 59 (.iload_n 2) 1 60 := ⟨by decide +kernel, rfl⟩
theorem md_Ref_note_60 : mz_d mb_Ref_note 60 (.iconst 1) 1 61 := ⟨by decide +kernel, rfl⟩
theorem md_Ref_note_61 : mz_d mb_Ref_note 61 (.isub) 1 62 := ⟨by decide +kernel, rfl⟩
theorem md_Ref_note_62 : mz_d mb_Ref_note 62 (.dup2) 1 63 := ⟨by decide +kernel, rfl⟩
theorem md_Ref_note_63 : mz_d mb_Ref_note 63 (.iaload) 1 64 := ⟨by decide +kernel, rfl⟩
theorem md_Ref_note_64 : mz_d mb_Ref_note 64 (.iconst 1) 1 65 := ⟨by decide +kernel, rfl⟩
theorem md_Ref_note_65 : mz_d mb_Ref_note 65 (.iadd) 1 66 := ⟨by decide +kernel, rfl⟩
theorem md_Ref_note_66 : mz_d mb_Ref_note 66 (.iastore) 1 67 := ⟨by decide +kernel, rfl⟩
theorem md_Ref_note_67 : mz_d mb_Ref_note 67 (.iload 5) 2 69 := ⟨by decide +kernel, rfl⟩
theorem md_Ref_note_69 : mz_d mb_Ref_note 69 (.aload_n 0) 1 70 := ⟨by decide +kernel, rfl⟩
theorem md_Ref_note_70 : mz_d mb_Ref_note 70 (.getfield 16) 3 73 := ⟨by decide +kernel, rfl⟩
theorem md_Ref_note_73 : mz_d mb_Ref_note 73 (.iload 4) 2 75 := ⟨by decide +kernel, rfl⟩
theorem md_Ref_note_75 : mz_d mb_Ref_note 75 (.iaload) 1 76 := ⟨by decide +kernel, rfl⟩
theorem md_Ref_note_76 : mz_d mb_Ref_note 76 (.if_icmp .ge 64) 3 79 := ⟨by decide +kernel, rfl⟩
theorem md_Ref_note_79 : mz_d mb_Ref_note 79 (.iload 5) 2 81 := ⟨by decide +kernel, rfl⟩
theorem md_Ref_note_81 : mz_d mb_Ref_note 81 (.ifCond .ne 13) 3 84 := ⟨by decide +kernel, rfl⟩
theorem md_Ref_note_84 : mz_d mb_Ref_note 84 (.aload_n 0) 1 85 := ⟨by decide +kernel, rfl⟩
theorem md_Ref_note_85 : mz_d mb_Ref_note 85 (.getfield 22) 3 88 := ⟨by decide +kernel, rfl⟩
theorem md_Ref_note_88 : mz_d mb_Ref_note 88 (.iload 4) 2 90 := ⟨by decide +kernel, rfl⟩
theorem md_Ref_note_90 : mz_d mb_Ref_note 90 (.iaload) 1 91 := ⟨by decide +kernel, rfl⟩
theorem md_Ref_note_91 : mz_d mb_Ref_note 91 (.goto 10) 3 94 := ⟨by decide +kernel, rfl⟩
theorem md_Ref_note_94 : mz_d mb_Ref_note 94 (.aload_n 0) 1 95 := ⟨by decide +kernel, rfl⟩
theorem md_Ref_note_95 : mz_d mb_Ref_note 95 (.getfield 25) 3 98 := ⟨by decide +kernel, rfl⟩
theorem md_Ref_note_98 : mz_d mb_Ref_note 98 (.iload 4) 2 100 := ⟨by decide +kernel, rfl⟩
theorem md_Ref_note_100 : mz_d mb_Ref_note 100 (.iaload) 1 101 := ⟨by decide +kernel, rfl⟩
theorem md_Ref_note_101 : mz_d mb_Ref_note 101 (.istore 6) 2 103 := ⟨by decide +kernel, rfl⟩
theorem md_Ref_note_103 : mz_d mb_Ref_note 103 (.iload_n 3) 1 104 := ⟨by decide +kernel, rfl⟩
theorem md_Ref_note_104 : mz_d mb_Ref_note 104 (.iload 6) 2 106 := ⟨by decide +kernel, rfl⟩
theorem md_Ref_note_106 : mz_d mb_Ref_note 106 (.ishr) 1 107 := ⟨by decide +kernel, rfl⟩
theorem md_Ref_note_107 : mz_d mb_Ref_note 107 (.iconst 1) 1 108 := ⟨by decide +kernel, rfl⟩
theorem md_Ref_note_108 : mz_d mb_Ref_note 108 (.iand) 1 109 := ⟨by decide +kernel, rfl⟩
theorem md_Ref_note_109 : mz_d mb_Ref_note 109 (.ifCond .ne 28) 3 112 := ⟨by decide +kernel, rfl⟩
theorem md_Ref_note_112 : mz_d mb_Ref_note 112 (.iload_n 3) 1 113 := ⟨by decide +kernel, rfl⟩
theorem md_Ref_note_113 : mz_d mb_Ref_note 113 (.iconst 1) 1 114 := ⟨by decide +kernel, rfl⟩
theorem md_Ref_note_114 : mz_d mb_Ref_note 114 (.iload 6) 2 116 := ⟨by decide +kernel, rfl⟩
theorem md_Ref_note_116 : mz_d mb_Ref_note 116 (.ishl) 1 117 := ⟨by decide +kernel, rfl⟩
theorem md_Ref_note_117 : mz_d mb_Ref_note 117 (.ior) 1 118 := ⟨by decide +kernel, rfl⟩
theorem md_Ref_note_118 : mz_d mb_Ref_note 118 (.istore_n 3) 1 119 := ⟨by decide +kernel, rfl⟩
theorem md_Ref_note_119 : mz_d mb_Ref_note 119 (.aload_n 0) 1 120 := ⟨by decide +kernel, rfl⟩
theorem md_Ref_note_120 : mz_d mb_Ref_note 120 (.getfield 43) 3 123 := ⟨by decide +kernel, rfl⟩
theorem md_Ref_note_123 : mz_d mb_Ref_note 123 (.iload_n 2) 1 124 := ⟨by decide +kernel, rfl⟩
theorem md_Ref_note_124 : mz_d mb_Ref_note 124 (.iload 6) 2 126 := ⟨by decide +kernel, rfl⟩
theorem md_Ref_note_126 : mz_d mb_Ref_note 126 (.iastore) 1 127 := ⟨by decide +kernel, rfl⟩
theorem md_Ref_note_127 : mz_d mb_Ref_note 127 (.aload_n 0) 1 128 := ⟨by decide +kernel, rfl⟩
theorem md_Ref_note_128 : mz_d mb_Ref_note 128 (.getfield 46) 3 131 := ⟨by decide +kernel, rfl⟩
theorem md_Ref_note_131 : mz_d mb_Ref_note 131 (.iload_n 2) 1 132 := ⟨by decide +kernel, rfl⟩
theorem md_Ref_note_132 : mz_d mb_Ref_note 132 (.iconst 0) 1 133 := ⟨by decide +kernel, rfl⟩
theorem md_Ref_note_133 : mz_d mb_Ref_note 133 (.iastore) 1 134 := ⟨by decide +kernel, rfl⟩
theorem md_Ref_note_134 : mz_d mb_Ref_note 134 (.iinc 2 1) 3 137 := ⟨by decide +kernel, rfl⟩
theorem md_Ref_note_137 : mz_d mb_Ref_note 137 (.goto 17) 3 140 := ⟨by decide +kernel, rfl⟩
theorem md_Ref_note_140 : mz_d mb_Ref_note 140 (.aload_n 0) 1 141 := ⟨by decide +kernel, rfl⟩
theorem md_Ref_note_141 : mz_d mb_Ref_note 141 (.getfield 40) 3 144 := ⟨by decide +kernel, rfl⟩
theorem md_Ref_note_144 : mz_d mb_Ref_note 144 (.iload_n 1) 1 145 := ⟨by decide +kernel, rfl⟩
theorem md_Ref_note_145 : mz_d mb_Ref_note 145 (.iload 4) 2 147 := ⟨by decide +kernel, rfl⟩
theorem md_Ref_note_147 : mz_d mb_Ref_note 147 (.iastore) 1 148 := ⟨by decide +kernel, rfl⟩
theorem md_Ref_note_148 : mz_d mb_Ref_note 148 (.iinc 1 1) 3 151 := ⟨by decide +kernel, rfl⟩
theorem md_Ref_note_151 : mz_d mb_Ref_note 151 (.iinc 2 (-1)) 3 154 := ⟨by decide +kernel, rfl⟩
theorem md_Ref_note_154 : mz_d mb_Ref_note 154 (.goto (-123)) 3 157 := ⟨by decide +kernel, rfl⟩
theorem md_Ref_note_157 : mz_d mb_Ref_note 157 (.iload_n 1) 1 158 := ⟨by decide +kernel, rfl⟩
theorem md_Ref_note_158 : mz_d mb_Ref_note 158 (.ireturn) 1 159 := ⟨by decide +kernel, rfl⟩
theorem md_Ref_order_0 : mz_d mb_Ref_order 0 (.aload_n 0) 1 1 := ⟨by decide +kernel, rfl⟩
theorem md_Ref_order_1 : mz_d mb_Ref_order 1 (.invokevirtual 106) 3 4 := ⟨by decide +kernel, rfl⟩
theorem md_Ref_order_4 : mz_d mb_Ref_order 4 (.istore_n 2) 1 5 := ⟨by decide +kernel, rfl⟩
theorem md_Ref_order_5 : mz_d mb_Ref_order 5 (.iload_n 1) 1 6 := ⟨by decide +kernel, rfl⟩
theorem md_Ref_order_6 : mz_d mb_Ref_order 6 (.ifCond .lt 21) 3 9 := ⟨by decide +kernel, rfl⟩
theorem md_Ref_order_9 : mz_d mb_Ref_order 9 (.iload_n 1) 1 10 := ⟨by decide +kernel, rfl⟩
theorem md_Ref_order_10 : mz_d mb_Ref_order 10 (.iload_n 2) 1 11 := ⟨by decide +kernel, rfl⟩
theorem md_Ref_order_11 : mz_d mb_Ref_order 11 (.if_icmp .ge 16) 3 14 := ⟨by decide +kernel, rfl⟩
theorem md_Ref_order_14 : mz_d mb_Ref_order 14 (.aload_n 0) 1 15 := ⟨by decide +kernel, rfl⟩
theorem md_Ref_order_15 : mz_d mb_Ref_order 15 (.getfield 40) 3 18 := ⟨by decide +kernel, rfl⟩
theorem md_Ref_order_18 : mz_d mb_Ref_order 18 (.iload_n 2) 1 19 := ⟨by decide +kernel, rfl⟩
theorem md_Ref_order_19 : mz_d mb_Ref_order 19 (.iconst 1) 1 20 := ⟨by decide +kernel, rfl⟩
theorem md_Ref_order_20 : mz_d mb_Ref_order 20 (.isub) 1 21 := ⟨by decide +kernel, rfl⟩
theorem md_Ref_order_21 : mz_d mb_Ref_order 21 (.iload_n 1) 1 22 := ⟨by decide +kernel, rfl⟩
theorem md_Ref_order_22 : mz_d mb_Ref_order 22 (.isub) 1 23 := ⟨by decide +kernel, rfl⟩
theorem md_Ref_order_23 : mz_d mb_Ref_order 23 (.iaload) 1 24 := ⟨by decide +kernel, rfl⟩
theorem md_Ref_order_24 : mz_d mb_Ref_order 24 (.goto 4) 3 27 := ⟨by decide +kernel, rfl⟩
theorem md_Ref_order_27 : mz_d mb_Ref_order 27 (.iconst (-1)) 1 28 := ⟨by decide +kernel, rfl⟩
theorem md_Ref_order_28 : mz_d mb_Ref_order 28 (.ireturn) 1 29 := ⟨by decide +kernel, rfl⟩
theorem md_Ref_dominates_0 : mz_d mb_Ref_dominates 0 (.aload_n 0) 1 1 := ⟨by decide +kernel, rfl⟩
theorem md_Ref_dominates_1 : mz_d mb_Ref_dominates 1 (.iload_n 1) 1 2 := ⟨by decide +kernel, rfl⟩
theorem md_Ref_dominates_2 : mz_d mb_Ref_dominates 2 (.invokevirtual 110) 3 5 := ⟨by decide +kernel, rfl⟩
theorem md_Ref_dominates_5 : mz_d mb_Ref_dominates 5 (.ifCond .eq 33) 3 8 := ⟨by decide +kernel, rfl⟩
theorem md_Ref_dominates_8 : mz_d mb_Ref_dominates 8 (.aload_n 0) 1 9 := ⟨by decide +kernel, rfl⟩
theorem md_Ref_dominates_9 : mz_d mb_Ref_dominates 9 (.iload_n 2) 1 10 := ⟨by decide +kernel, rfl⟩
theorem md_Ref_dominates_10 : mz_d mb_Ref_dominates 10 (.invokevirtual 110) 3 13 := ⟨by decide +kernel, rfl⟩
theorem md_Ref_dominates_13 : mz_d mb_Ref_dominates 13 (.ifCond .eq 25) 3 16 := ⟨by decide +kernel, rfl⟩
theorem md_Ref_dominates_16 : mz_d mb_Ref_dominates 16 (.iload_n 1) 1 17 := ⟨by decide +kernel, rfl⟩
theorem md_Ref_dominates_17 : mz_d mb_Ref_dominates 17 (.iload_n 2) 1 18 := ⟨by decide +kernel, rfl⟩
theorem md_Ref_dominates_18 : mz_d mb_Ref_dominates 18 (.if_icmp .eq 16) 3 21 := ⟨by decide +kernel, rfl⟩
theorem md_Ref_dominates_21 : mz_d mb_Ref_dominates 21 (.aload_n 0) 1 22 := ⟨by decide +kernel, rfl⟩
theorem md_Ref_dominates_22 : mz_d mb_Ref_dominates 22 (.iconst 1) 1 23 := ⟨by decide +kernel, rfl⟩
theorem md_Ref_dominates_23 : mz_d mb_Ref_dominates 23 (.iload_n 1) 1 24 := ⟨by decide +kernel, rfl⟩
theorem md_Ref_dominates_24 : mz_d mb_Ref_dominates 24 (.invokevirtual 102) 3 27 := ⟨by decide +kernel, rfl⟩
theorem md_Ref_dominates_27 : mz_d mb_Ref_dominates 27 (.iload_n 2) 1 28 := ⟨by decide +kernel, rfl⟩
theorem md_Ref_dominates_28 : mz_d mb_Ref_dominates 28 (.ishr) 1 29 := ⟨by decide +kernel, rfl⟩
theorem md_Ref_dominates_29 : mz_d mb_Ref_dominates 29 (.iconst 1) 1 30 := ⟨by decide +kernel, rfl⟩
theorem md_Ref_dominates_30 : mz_d mb_Ref_dominates 30 (.iand) 1 31 := ⟨by decide +kernel, rfl⟩
theorem md_Ref_dominates_31 : mz_d mb_Ref_dominates 31 (.ifCond .ne 7) 3 34 := ⟨by decide +kernel, rfl⟩
theorem md_Ref_dominates_34 : mz_d mb_Ref_dominates 34 (.iconst 1) 1 35 := ⟨by decide +kernel, rfl⟩
theorem md_Ref_dominates_35 : mz_d mb_Ref_dominates 35 (.goto 4) 3 38 := ⟨by decide +kernel, rfl⟩
theorem md_Ref_dominates_38 : mz_d mb_Ref_dominates 38 (.iconst 0) 1 39 := ⟨by decide +kernel, rfl⟩
theorem md_Ref_dominates_39 : mz_d mb_Ref_dominates 39 (.ireturn) 1 40 := ⟨by decide +kernel, rfl⟩
theorem md_Ref_nearest_0 : mz_d mb_Ref_nearest 0 (.iconst 0) 1 1 := ⟨by decide +kernel, rfl⟩
theorem md_Ref_nearest_1 : mz_d mb_Ref_nearest 1 (.istore_n 2) 1 2 := ⟨by decide +kernel, rfl⟩
theorem md_Ref_nearest_2 : mz_d mb_Ref_nearest 2 (.iload_n 2) 1 3 := ⟨by decide +kernel, rfl⟩
theorem md_Ref_nearest_3 : mz_d mb_Ref_nearest 3 (.aload_n 0) 1 4 := ⟨by decide +kernel, rfl⟩
theorem md_Ref_nearest_4 : mz_d mb_Ref_nearest 4 (.getfield 49) 3 7 := ⟨by decide +kernel, rfl⟩
theorem md_Ref_nearest_7 : mz_d mb_Ref_nearest 7 (.if_icmp .ge 85) 3 10 := ⟨by decide +kernel, rfl⟩
theorem md_Ref_nearest_10 : mz_d mb_Ref_nearest 10 (.iload_n 2) 1 11 := ⟨by decide +kernel, rfl⟩
theorem md_Ref_nearest_11 : mz_d mb_Ref_nearest 11 (.iload_n 1) 1 12 := ⟨by decide +kernel, rfl⟩
theorem md_Ref_nearest_12 : mz_d mb_Ref_nearest 12 (.if_icmp .eq 74) 3 15 := ⟨by decide +kernel, rfl⟩
theorem md_Ref_nearest_15 : mz_d mb_Ref_nearest 15 (.aload_n 0) 1 16 := ⟨by decide +kernel, rfl⟩
theorem md_Ref_nearest_16 : mz_d mb_Ref_nearest 16 (.iload_n 2) 1 17 := ⟨by decide +kernel, rfl⟩
theorem md_Ref_nearest_17 : mz_d mb_Ref_nearest 17 (.iload_n 1) 1 18 := ⟨by decide +kernel, rfl⟩
theorem md_Ref_nearest_18 : mz_d mb_Ref_nearest 18 (.invokevirtual 113) 3 21 := ⟨by decide +kernel, rfl⟩
theorem md_Ref_nearest_21 : mz_d mb_Ref_nearest 21 (.ifCond .eq 65) 3 24 := ⟨by decide +kernel, rfl⟩
theorem md_Ref_nearest_24 : mz_d mb_Ref_nearest 24 (.iconst 1) 1 25 := ⟨by decide +kernel, rfl⟩
theorem md_Ref_nearest_25 : mz_d mb_Ref_nearest 25 (.istore_n 3) 1 26 := ⟨by decide +kernel, rfl⟩
theorem md_Ref_nearest_26 : mz_d mb_Ref_nearest 26 (.iconst 0) 1 27 := ⟨by decide +kernel, rfl⟩
theorem md_Ref_nearest_27 : mz_d mb_Ref_nearest 27 (.istore 4) 2 29 := ⟨by decide +kernel, rfl⟩
theorem md_Ref_nearest_29 : mz_d mb_Ref_nearest 29 (.iload 4) 2 31 := ⟨by decide +kernel, rfl⟩
theorem md_Ref_nearest_31 : mz_d mb_Ref_nearest 31 (.aload_n 0) 1 32 := ⟨by decide +kernel, rfl⟩
theorem md_Ref_nearest_32 : mz_d mb_Ref_nearest 32 (.getfield 49) 3 35 := ⟨by decide +kernel, rfl⟩
theorem md_Ref_nearest_35 : mz_d mb_Ref_nearest 35 (.if_icmp .ge 45) 3 38 := ⟨by decide +kernel, rfl⟩
theorem md_Ref_nearest_38 : mz_d mb_Ref_nearest 38 (.iload_n 3) 1 39 := ⟨by decide +kernel, rfl⟩
theorem md_Ref_nearest_39 : mz_d mb_Ref_nearest 39 (.ifCond .eq 33) 3 42 := ⟨by decide +kernel, rfl⟩
theorem md_Ref_nearest_42 : mz_d mb_Ref_nearest 42 (.iload 4) 2 44 := ⟨by decide +kernel, rfl⟩
theorem md_Ref_nearest_44 : mz_d mb_Ref_nearest 44 (.iload_n 1) 1 45 := ⟨by decide +kernel, rfl⟩
theorem md_Ref_nearest_45 : mz_d mb_Ref_nearest 45 (.if_icmp .eq 23) 3 48 := ⟨by decide +kernel, rfl⟩
theorem md_Ref_nearest_48 : mz_d mb_Ref_nearest 48 (.aload_n 0) 1 49 := ⟨by decide +kernel, rfl⟩
theorem md_Ref_nearest_49 : mz_d mb_Ref_nearest 49 (.iload 4) 2 51 := ⟨by decide +kernel, rfl⟩
theorem md_Ref_nearest_51 : mz_d mb_Ref_nearest 51 (.iload_n 1) 1 52 := ⟨by decide +kernel, rfl⟩
theorem md_Ref_nearest_52 : mz_d mb_Ref_nearest 52 (.invokevirtual 113) 3 55 := ⟨by decide +kernel, rfl⟩
theorem md_Ref_nearest_55 : mz_d mb_Ref_nearest 55 (.ifCond .eq 13) 3 58 := ⟨by decide +kernel, rfl⟩
theorem md_Ref_nearest_58 : mz_d mb_Ref_nearest 58 (.aload_n 0) 1 59 := ⟨by decide +kernel, rfl⟩
theorem md_Ref_nearest_59 : mz_d mb_Ref_nearest 59 (.iload 4) 2 61 := ⟨by decide +kernel, rfl⟩
theorem md_Ref_nearest_61 : mz_d mb_Ref_nearest 61 (.iload_n 2) 1 62 := ⟨by decide +kernel, rfl⟩
theorem md_Ref_nearest_62 : mz_d mb_Ref_nearest 62 (.invokevirtual 113) 3 65 := ⟨by decide +kernel, rfl⟩
theorem md_Ref_nearest_65 : mz_d mb_Ref_nearest 65 (.ifCond .eq 7) 3 68 := ⟨by decide +kernel, rfl⟩
theorem md_Ref_nearest_68 : mz_d mb_Ref_nearest 68 (.iconst 1) 1 69 := ⟨by decide +kernel, rfl⟩
theorem md_Ref_nearest_69 : mz_d mb_Ref_nearest 69 (.goto 4) 3 72 := ⟨by decide +kernel, rfl⟩
theorem md_Ref_nearest_72 : mz_d mb_Ref_nearest 72 (.iconst 0) 1 73 := ⟨by decide +kernel, rfl⟩
theorem md_Ref_nearest_73 : mz_d mb_Ref_nearest 73 (.istore_n 3) 1 74 := ⟨by decide +kernel, rfl⟩
theorem md_Ref_nearest_74 : mz_d mb_Ref_nearest 74 (.iinc 4 1) 3 77 := ⟨by decide +kernel, rfl⟩
theorem md_Ref_nearest_77 : mz_d mb_Ref_nearest 77 (.goto (-48)) 3 80 := ⟨by decide +kernel, rfl⟩
theorem md_Ref_nearest_80 : mz_d mb_Ref_nearest 80 (.iload_n 3) 1 81 := ⟨by decide +kernel, rfl⟩
theorem md_Ref_nearest_81 : mz_d mb_Ref_nearest 81 (.ifCond .eq 5) 3 84 := ⟨by decide +kernel, rfl⟩
theorem md_Ref_nearest_84 : mz_d mb_Ref_nearest 84 (.iload_n 2) 1 85 := ⟨by decide +kernel, rfl⟩
theorem md_Ref_nearest_85 : mz_d mb_Ref_nearest 85 (.ireturn) 1 86 := ⟨by decide +kernel, rfl⟩
theorem md_Ref_nearest_86 : mz_d mb_Ref_nearest 86 (.iinc 2 1) 3 89 := ⟨by decide +kernel, rfl⟩
theorem md_Ref_nearest_89 : mz_d mb_Ref_nearest 89 (.goto (-87)) 3 92 := ⟨by decide +kernel, rfl⟩
theorem md_Ref_nearest_92 : mz_d mb_Ref_nearest 92 (.iconst (-1)) 1 93 := ⟨by decide +kernel, rfl⟩
theorem md_Ref_nearest_93 : mz_d mb_Ref_nearest 93 (.ireturn) 1 94 := ⟨by decide +kernel, rfl⟩
theorem md_Ref_frontier_0 : mz_d mb_Ref_frontier 0 (.iconst 0) 1 1 := ⟨by decide +kernel, rfl⟩
theorem md_Ref_frontier_1 : mz_d mb_Ref_frontier 1 (.istore_n 3) 1 2 := ⟨by decide +kernel, rfl⟩
theorem md_Ref_frontier_2 : mz_d mb_Ref_frontier 2 (.iconst 0) 1 3 := ⟨by decide +kernel, rfl⟩
theorem md_Ref_frontier_3 : mz_d mb_Ref_frontier 3 (.istore 4) 2 5 := ⟨by decide +kernel, rfl⟩
theorem md_Ref_frontier_5 : mz_d mb_Ref_frontier 5 (.iload 4) 2 7 := ⟨by decide +kernel, rfl⟩
theorem md_Ref_frontier_7 : mz_d mb_Ref_frontier 7 (.aload_n 0) 1 8 := ⟨by decide +kernel, rfl⟩
theorem md_Ref_frontier_8 : mz_d mb_Ref_frontier 8 (.getfield 49) 3 11 := ⟨by decide +kernel, rfl⟩
theorem md_Ref_frontier_11 : mz_d mb_Ref_frontier 11 (.if_icmp .ge 47) 3 14 := ⟨by decide +kernel, rfl⟩
theorem md_Ref_frontier_14 : mz_d mb_Ref_frontier 14 (.aload_n 0) 1 15 := ⟨by decide +kernel, rfl⟩
theorem md_Ref_frontier_15 : mz_d mb_Ref_frontier 15 (.iload_n 2) 1 16 := ⟨by decide +kernel, rfl⟩
theorem md_Ref_frontier_16 : mz_d mb_Ref_frontier 16 (.invokevirtual 110) 3 19 := ⟨by decide +kernel, rfl⟩
theorem md_Ref_frontier_19 : mz_d mb_Ref_frontier 19 (.ifCond .eq 39) 3 22 := ⟨by decide +kernel, rfl⟩
theorem md_Ref_frontier_22 : mz_d mb_Ref_frontier 22 (.iload_n 3) 1 23 := ⟨by decide +kernel, rfl⟩
theorem md_Ref_frontier_23 : mz_d mb_Ref_frontier 23 (.ifCond .ne 23) 3 26 := ⟨by decide +kernel, rfl⟩
theorem md_Ref_frontier_26 : mz_d mb_Ref_frontier 26 (.aload_n 0) 1 27 := ⟨by decide +kernel, rfl⟩
theorem md_Ref_frontier_27 : mz_d mb_Ref_frontier 27 (.iload 4) 2 29 := ⟨by decide +kernel, rfl⟩
theorem md_Ref_frontier_29 : mz_d mb_Ref_frontier 29 (.iload_n 2) 1 30 := ⟨by decide +kernel, rfl⟩
theorem md_Ref_frontier_30 : mz_d mb_Ref_frontier 30 (.invokevirtual 99) 3 33 := ⟨by decide +kernel, rfl⟩
theorem md_Ref_frontier_33 : mz_d mb_Ref_frontier 33 (.ifCond .eq 17) 3 36 := ⟨by decide +kernel, rfl⟩
theorem md_Ref_frontier_36 : mz_d mb_Ref_frontier 36 (.aload_n 0) 1 37 := ⟨by decide +kernel, rfl⟩
theorem md_Ref_frontier_37 : mz_d mb_Ref_frontier 37 (.iload_n 1) 1 38 := ⟨by decide +kernel, rfl⟩
theorem md_Ref_frontier_38 : mz_d mb_Ref_frontier 38 (.iload 4) 2 40 := ⟨by decide +kernel, rfl⟩
theorem md_Ref_frontier_40 : mz_d mb_Ref_frontier 40 (.invokevirtual 113) 3 43 := ⟨by decide +kernel, rfl⟩
theorem md_Ref_frontier_43 : mz_d mb_Ref_frontier 43 (.ifCond .eq 7) 3 46 := ⟨by decide +kernel, rfl⟩
theorem md_Ref_frontier_46 : mz_d mb_Ref_frontier 46 (.iconst 1) 1 47 := ⟨by decide +kernel, rfl⟩
theorem md_Ref_frontier_47 : mz_d mb_Ref_frontier 47 (.goto 4) 3 50 := ⟨by decide +kernel, rfl⟩
theorem md_Ref_frontier_50 : mz_d mb_Ref_frontier 50 (.iconst 0) 1 51 := ⟨by decide +kernel, rfl⟩
theorem md_Ref_frontier_51 : mz_d mb_Ref_frontier 51 (.istore_n 3) 1 52 := ⟨by decide +kernel, rfl⟩
theorem md_Ref_frontier_52 : mz_d mb_Ref_frontier 52 (.iinc 4 1) 3 55 := ⟨by decide +kernel, rfl⟩
theorem md_Ref_frontier_55 : mz_d mb_Ref_frontier 55 (.goto (-50)) 3 58 := ⟨by decide +kernel, rfl⟩
theorem md_Ref_frontier_58 : mz_d mb_Ref_frontier 58 (.iload_n 3) 1 59 := ⟨by decide +kernel, rfl⟩
theorem md_Ref_frontier_59 : mz_d mb_Ref_frontier 59 (.ifCond .eq 21) 3 62 := ⟨by decide +kernel, rfl⟩
theorem md_Ref_frontier_62 : mz_d mb_Ref_frontier 62 (.iload_n 1) 1 63 := ⟨by decide +kernel, rfl⟩
theorem md_Ref_frontier_63 : mz_d mb_Ref_frontier 63 (.iload_n 2) 1 64 := ⟨by decide +kernel, rfl⟩
theorem md_Ref_frontier_64 : mz_d mb_Ref_frontier 64 (.if_icmp .eq 12) 3 67 := ⟨by decide +kernel, rfl⟩
theorem md_Ref_frontier_67 : mz_d mb_Ref_frontier 67 (.aload_n 0) 1 68 := ⟨by decide +kernel, rfl⟩
theorem md_Ref_frontier_68 : mz_d mb_Ref_frontier 68 (.iload_n 1) 1 69 := ⟨by decide +kernel, rfl⟩
theorem md_Ref_frontier_69 : mz_d mb_Ref_frontier 69 (.iload_n 2) 1 70 := ⟨by decide +kernel, rfl⟩
theorem md_Ref_frontier_70 : mz_d mb_Ref_frontier 70 (.invokevirtual 113) 3 73 := ⟨by decide +kernel, rfl⟩
theorem md_Ref_frontier_73 : mz_d mb_Ref_frontier 73 (.ifCond .ne 7) 3 76 := ⟨by decide +kernel, rfl⟩
theorem md_Ref_frontier_76 : mz_d mb_Ref_frontier 76 (.iconst 1) 1 77 := ⟨by decide +kernel, rfl⟩
theorem md_Ref_frontier_77 : mz_d mb_Ref_frontier 77 (.goto 4) 3 80 := ⟨by decide +kernel, rfl⟩
theorem md_Ref_frontier_80 : mz_d mb_Ref_frontier 80 (.iconst 0) 1 81 := ⟨by decide +kernel, rfl⟩
theorem md_Ref_frontier_81 : mz_d mb_Ref_frontier 81 (.ireturn) 1 82 := ⟨by decide +kernel, rfl⟩
theorem md_Ref_uses_0 : mz_d mb_Ref_uses 0 (.iload_n 0) 1 1 := ⟨by decide +kernel, rfl⟩
theorem md_Ref_uses_1 : mz_d mb_Ref_uses 1 (.ifCond .le 12) 3 4 := ⟨by decide +kernel, rfl⟩
theorem md_Ref_uses_4 : mz_d mb_Ref_uses 4 (.iload_n 1) 1 5 := ⟨by decide +kernel, rfl⟩
theorem md_Ref_uses_5 : mz_d mb_Ref_uses 5 (.iload_n 3) 1 6 := ⟨by decide +kernel, rfl⟩
theorem md_Ref_uses_6 : mz_d mb_Ref_uses 6 (.if_icmp .ne 7) 3 9 := ⟨by decide +kernel, rfl⟩
theorem md_Ref_uses_9 : mz_d mb_Ref_uses 9 (.iconst 1) 1 10 := ⟨by decide +kernel, rfl⟩
theorem md_Ref_uses_10 : mz_d mb_Ref_uses 10 (.goto 4) 3 13 := ⟨by decide +kernel, rfl⟩
theorem md_Ref_uses_13 : mz_d mb_Ref_uses 13 (.iconst 0) 1 14 := ⟨by decide +kernel, rfl⟩
theorem md_Ref_uses_14 : mz_d mb_Ref_uses 14 (.istore 4) 2 16 := ⟨by decide +kernel, rfl⟩
theorem md_Ref_uses_16 : mz_d mb_Ref_uses 16 (.iload_n 0) 1 17 := ⟨by decide +kernel, rfl⟩
theorem md_Ref_uses_17 : mz_d mb_Ref_uses 17 (.iconst 1) 1 18 := ⟨by decide +kernel, rfl⟩
theorem md_Ref_uses_18 : mz_d mb_Ref_uses 18 (.if_icmp .le 9) 3 21 := ⟨by decide +kernel, rfl⟩
theorem md_Ref_uses_21 : mz_d mb_Ref_uses 21 (.iload_n 0) 1 22 := ⟨by decide +kernel, rfl⟩
theorem md_Ref_uses_22 : mz_d mb_Ref_uses 22 (.bipush 16) 2 24 := ⟨by decide +kernel, rfl⟩
theorem md_Ref_uses_24 : mz_d mb_Ref_uses 24 (.if_icmp .lt 9) 3 27 := ⟨by decide +kernel, rfl⟩
theorem md_Ref_uses_27 : mz_d mb_Ref_uses 27 (.iload_n 0) 1 28 := ⟨by decide +kernel, rfl⟩
theorem md_Ref_uses_28 : mz_d mb_Ref_uses 28 (.bipush 17) 2 30 := ⟨by decide +kernel, rfl⟩
theorem md_Ref_uses_30 : mz_d mb_Ref_uses 30 (.if_icmp .ne 12) 3 33 := ⟨by decide +kernel, rfl⟩
theorem md_Ref_uses_33 : mz_d mb_Ref_uses 33 (.iload_n 2) 1 34 := ⟨by decide +kernel, rfl⟩
theorem md_Ref_uses_34 : mz_d mb_Ref_uses 34 (.iload_n 3) 1 35 := ⟨by decide +kernel, rfl⟩
theorem md_Ref_uses_35 : mz_d mb_Ref_uses 35 (.if_icmp .ne 7) 3 38 := ⟨by decide +kernel, rfl⟩
theorem md_Ref_uses_38 : mz_d mb_Ref_uses 38 (.iconst 1) 1 39 := ⟨by decide +kernel, rfl⟩
theorem md_Ref_uses_39 : mz_d mb_Ref_uses 39 (.goto 4) 3 42 := ⟨by decide +kernel, rfl⟩
theorem md_Ref_uses_42 : mz_d mb_Ref_uses 42 (.iconst 0) 1 43 := ⟨by decide +kernel, rfl⟩
theorem md_Ref_uses_43 : mz_d mb_Ref_uses 43 (.istore 5) 2 45 := ⟨by decide +kernel, rfl⟩
theorem md_Ref_uses_45 : mz_d mb_Ref_uses 45 (.iload 4) 2 47 := ⟨by decide +kernel, rfl⟩
theorem md_Ref_uses_47 : mz_d mb_Ref_uses 47 (.ifCond .ne 8) 3 50 := ⟨by decide +kernel, rfl⟩
theorem md_Ref_uses_50 : mz_d mb_Ref_uses 50 (.iload 5) 2 52 := ⟨by decide +kernel, rfl⟩
theorem md_Ref_uses_52 : mz_d mb_Ref_uses 52 (.ifCond .eq 7) 3 55 := ⟨by decide +kernel, rfl⟩
theorem md_Ref_uses_55 : mz_d mb_Ref_uses 55 (.iconst 1) 1 56 := ⟨by decide +kernel, rfl⟩
theorem md_Ref_uses_56 : mz_d mb_Ref_uses 56 (.goto 4) 3 59 := ⟨by decide +kernel, rfl⟩
theorem md_Ref_uses_59 : mz_d mb_Ref_uses 59 (.iconst 0) 1 60 := ⟨by decide +kernel, rfl⟩
theorem md_Ref_uses_60 : mz_d mb_Ref_uses 60 (.ireturn) 1 61 := ⟨by decide +kernel, rfl⟩
theorem md_Ref_fate_0 : mz_d mb_Ref_fate 0 (.iconst 0) 1 1 := ⟨by decide +kernel, rfl⟩
theorem md_Ref_fate_1 : mz_d mb_Ref_fate 1 (.istore_n 3) 1 2 := ⟨by decide +kernel, rfl⟩
theorem md_Ref_fate_2 : mz_d mb_Ref_fate 2 (.iload_n 3) 1 3 := ⟨by decide +kernel, rfl⟩
theorem md_Ref_fate_3 : mz_d mb_Ref_fate 3 (.aload_n 0) 1 4 := ⟨by decide +kernel, rfl⟩
theorem md_Ref_fate_4 : mz_d mb_Ref_fate 4 (.getfield 7) 3 7 := ⟨by decide +kernel, rfl⟩
theorem md_Ref_fate_7 : mz_d mb_Ref_fate 7 (.iload_n 1) 1 8 := ⟨by decide +kernel, rfl⟩
theorem md_Ref_fate_8 : mz_d mb_Ref_fate 8 (.iaload) 1 9 := ⟨by decide +kernel, rfl⟩
theorem md_Ref_fate_9 : mz_d mb_Ref_fate 9 (.if_icmp .ge 80) 3 12 := ⟨by decide +kernel, rfl⟩
theorem md_Ref_fate_12 : mz_d mb_Ref_fate 12 (.bipush 48) 2 14 := ⟨by decide +kernel, rfl⟩
theorem md_Ref_fate_14 : mz_d mb_Ref_fate 14 (.iload_n 1) 1 15 := ⟨by decide +kernel, rfl⟩
theorem md_Ref_fate_15 : mz_d mb_Ref_fate 15 (.imul) 1 16 := ⟨by decide +kernel, rfl⟩
theorem md_Ref_fate_16 : mz_d mb_Ref_fate 16 (.iconst 4) 1 17 := ⟨by decide +kernel, rfl⟩
theorem md_Ref_fate_17 : mz_d mb_Ref_fate 17 (.iload_n 3) 1 18 := ⟨by decide +kernel, rfl⟩
theorem md_Ref_fate_18 : mz_d mb_Ref_fate 18 (.imul) 1 19 := ⟨by decide +kernel, rfl⟩
theorem md_Ref_fate_19 : mz_d mb_Ref_fate 19 (.iadd) 1 20 := ⟨by decide +kernel, rfl⟩
theorem md_Ref_fate_20 : mz_d mb_Ref_fate 20 (.istore 4) 2 22 := ⟨by decide +kernel, rfl⟩
theorem md_Ref_fate_22 : mz_d mb_Ref_fate 22 (.aload_n 0) 1 23 := ⟨by decide +kernel, rfl⟩
theorem md_Ref_fate_23 : mz_d mb_Ref_fate 23 (.getfield 13) 3 26 := ⟨by decide +kernel, rfl⟩
theorem md_Ref_fate_26 : mz_d mb_Ref_fate 26 (.iload 4) 2 28 := ⟨by decide +kernel, rfl⟩
theorem md_Ref_fate_28 : mz_d mb_Ref_fate 28 (.iaload) 1 29 := ⟨by decide +kernel, rfl⟩
theorem md_Ref_fate_29 : mz_d mb_Ref_fate 29 (.aload_n 0) 1 30 := ⟨by decide +kernel, rfl⟩
theorem md_Ref_fate_30 : mz_d mb_Ref_fate 30 (.getfield 13) 3 33 := ⟨by decide +kernel, rfl⟩
theorem md_Ref_fate_33 : mz_d mb_Ref_fate 33 (.iload 4) 2 35 := ⟨by decide +kernel, rfl⟩
theorem md_Ref_fate_35 : mz_d mb_Ref_fate 35 (.iconst 2) 1 36 := ⟨by decide +kernel, rfl⟩
theorem md_Ref_fate_36 : mz_d mb_Ref_fate 36 (.iadd) 1 37 := ⟨by decide +kernel, rfl⟩
theorem md_Ref_fate_37 : mz_d mb_Ref_fate 37 (.iaload) 1 38 := ⟨by decide +kernel, rfl⟩
theorem md_Ref_fate_38 : mz_d mb_Ref_fate 38 (.aload_n 0) 1 39 := ⟨by decide +kernel, rfl⟩
theorem md_Ref_fate_39 : mz_d mb_Ref_fate 39 (.getfield 13) 3 42 := ⟨by decide +kernel, rfl⟩
theorem md_Ref_fate_42 : mz_d mb_Ref_fate 42 (.iload 4) 2 44 := ⟨by decide +kernel, rfl⟩
theorem md_Ref_fate_44 : mz_d mb_Ref_fate 44 (.iconst 3) 1 45 := ⟨by decide +kernel, rfl⟩
theorem md_Ref_fate_45 : mz_d mb_Ref_fate 45 (.iadd) 1 46 := ⟨by decide +kernel, rfl⟩
theorem md_Ref_fate_46 : mz_d mb_Ref_fate 46 (.iaload) 1 47 := ⟨by decide +kernel, rfl⟩
theorem md_Ref_fate_47 : mz_d mb_Ref_fate 47 (.iload_n 2) 1 48 := ⟨by decide +kernel, rfl⟩
theorem md_Ref_fate_48 : mz_d mb_Ref_fate 48 (.invokestatic 116) 3 51 := ⟨by decide +kernel, rfl⟩
theorem md_Ref_fate_51 : mz_d mb_Ref_fate 51 (.ifCond .eq 5) 3 54 := ⟨by decide +kernel, rfl⟩
theorem md_Ref_fate_54 : mz_d mb_Ref_fate 54 (.iconst 1) 1 55 := ⟨by decide +kernel, rfl⟩
theorem md_Ref_fate_55 : mz_d mb_Ref_fate 55 (.ireturn) 1 56 := ⟨by decide +kernel, rfl⟩
theorem md_Ref_fate_56 : mz_d mb_Ref_fate 56 (.aload_n 0) 1 57 := ⟨by decide +kernel, rfl⟩
theorem md_Ref_fate_57 : mz_d mb_Ref_fate 57 (.getfield 13) 3 60 := ⟨by decide +kernel, rfl⟩
theorem md_Ref_fate_60 : mz_d mb_Ref_fate 60 (.iload 4) 2 62 := ⟨by decide +kernel, rfl⟩
theorem md_Ref_fate_62 : mz_d mb_Ref_fate 62 (.iaload) 1 63 := ⟨by decide +kernel, rfl⟩
theorem md_Ref_fate_63 : mz_d mb_Ref_fate 63 (.bipush 17) 2 65 := ⟨by decide +kernel, rfl⟩
theorem md_Ref_fate_65 : mz_d mb_Ref_fate 65 (.if_icmp .eq 18) 3 68 := ⟨by decide +kernel, rfl⟩
theorem md_Ref_fate_68 : mz_d mb_Ref_fate 68 (.aload_n 0) 1 69 := ⟨by decide +kernel, rfl⟩
theorem md_Ref_fate_69 : mz_d mb_Ref_fate 69 (.getfield 13) 3 72 := ⟨by decide +kernel, rfl⟩
theorem md_Ref_fate_72 : mz_d mb_Ref_fate 72 (.iload 4) 2 74 := ⟨by decide +kernel, rfl⟩
theorem md_Ref_fate_74 : mz_d mb_Ref_fate 74 (.iconst 1) 1 75 := ⟨by decide +kernel, rfl⟩
theorem md_Ref_fate_75 : mz_d mb_Ref_fate 75 (.iadd) 1 76 := ⟨by decide +kernel, rfl⟩
theorem md_Ref_fate_76 : mz_d mb_Ref_fate 76 (.iaload) 1 77 := ⟨by decide +kernel, rfl⟩
theorem md_Ref_fate_77 : mz_d mb_Ref_fate 77 (.iload_n 2) 1 78 := ⟨by decide +kernel, rfl⟩
theorem md_Ref_fate_78 : mz_d mb_Ref_fate 78 (.if_icmp .ne 5) 3 81 := ⟨by decide +kernel, rfl⟩
theorem md_Ref_fate_81 : mz_d mb_Ref_fate 81 (.iconst 2) 1 82 := ⟨by decide +kernel, rfl⟩
theorem md_Ref_fate_82 : mz_d mb_Ref_fate 82 (.ireturn) 1 83 := ⟨by decide +kernel, rfl⟩
theorem md_Ref_fate_83 : mz_d mb_Ref_fate 83 (.iinc 3 1) 3 86 := ⟨by decide +kernel, rfl⟩
theorem md_Ref_fate_86 : mz_d mb_Ref_fate 86 (.goto (-84)) 3 89 := ⟨by decide +kernel, rfl⟩
theorem md_Ref_fate_89 : mz_d mb_Ref_fate 89 (.aload_n 0) 1 90 := ⟨by decide +kernel, rfl⟩
theorem md_Ref_fate_90 : mz_d mb_Ref_fate 90 (.getfield 16) 3 93 := ⟨by decide +kernel, rfl⟩
theorem md_Ref_fate_93 : mz_d mb_Ref_fate 93 (.iload_n 1) 1 94 := ⟨by decide +kernel, rfl⟩
theorem md_Ref_fate_94 : mz_d mb_Ref_fate 94 (.iaload) 1 95 := ⟨by decide +kernel, rfl⟩
theorem md_Ref_fate_95 : mz_d mb_Ref_fate 95 (.iconst 1) 1 96 := ⟨by decide +kernel, rfl⟩
theorem md_Ref_fate_96 : mz_d mb_Ref_fate 96 (.if_icmp .eq 17) 3 99 := ⟨by decide +kernel, rfl⟩
theorem md_Ref_fate_99 : mz_d mb_Ref_fate 99 (.aload_n 0) 1 100 := ⟨by decide +kernel, rfl⟩
theorem md_Ref_fate_100 : mz_d mb_Ref_fate 100 (.getfield 19) 3 103 := ⟨by decide +kernel, rfl⟩
theorem md_Ref_fate_103 : mz_d mb_Ref_fate 103 (.iload_n 1) 1 104 := ⟨by decide +kernel, rfl⟩
theorem md_Ref_fate_104 : mz_d mb_Ref_fate 104 (.iaload) 1 105 := ⟨by decide +kernel, rfl⟩
theorem md_Ref_fate_105 : mz_d mb_Ref_fate 105 (.iload_n 2) 1 106 := ⟨by decide +kernel, rfl⟩
theorem md_Ref_fate_106 : mz_d mb_Ref_fate 106 (.if_icmp .ne 7) 3 109 := ⟨by decide +kernel, rfl⟩
theorem md_Ref_fate_109 : mz_d mb_Ref_fate 109 (.iconst 1) 1 110 := ⟨by decide +kernel, rfl⟩
theorem md_Ref_fate_110 : mz_d mb_Ref_fate 110 (.goto 4) 3 113 := ⟨by decide +kernel, rfl⟩
theorem md_Ref_fate_113 : mz_d mb_Ref_fate 113 (.iconst 0) 1 114 := ⟨by decide +kernel, rfl⟩
theorem md_Ref_fate_114 : mz_d mb_Ref_fate 114 (.ireturn) 1 115 := ⟨by decide +kernel, rfl⟩
theorem md_Ref_isSet_0 : mz_d mb_Ref_isSet 0 (.iconst 0) 1 1 := ⟨by decide +kernel, rfl⟩
theorem md_Ref_isSet_1 : mz_d mb_Ref_isSet 1 (.istore_n 3) 1 2 := ⟨by decide +kernel, rfl⟩
theorem md_Ref_isSet_2 : mz_d mb_Ref_isSet 2 (.iconst 0) 1 3 := ⟨by decide +kernel, rfl⟩
theorem md_Ref_isSet_3 : mz_d mb_Ref_isSet 3 (.istore 4) 2 5 := ⟨by decide +kernel, rfl⟩
theorem md_Ref_isSet_5 : mz_d mb_Ref_isSet 5 (.iload 4) 2 7 := ⟨by decide +kernel, rfl⟩
theorem md_Ref_isSet_7 : mz_d mb_Ref_isSet 7 (.aload_n 0) 1 8 := ⟨by decide +kernel, rfl⟩
theorem md_Ref_isSet_8 : mz_d mb_Ref_isSet 8 (.getfield 7) 3 11 := ⟨by decide +kernel, rfl⟩
theorem md_Ref_isSet_11 : mz_d mb_Ref_isSet 11 (.iload_n 1) 1 12 := ⟨by decide +kernel, rfl⟩
theorem md_Ref_isSet_12 : mz_d mb_Ref_isSet 12 (.iaload) 1 13 := ⟨by decide +kernel, rfl⟩
theorem md_Ref_isSet_13 : mz_d mb_Ref_isSet 13 (.if_icmp .ge 58) 3 16 := ⟨by decide +kernel, rfl⟩
theorem md_Ref_isSet_16 : mz_d mb_Ref_isSet 16 (.iload_n 3) 1 17 := ⟨by decide +kernel, rfl⟩
theorem md_Ref_isSet_17 : mz_d mb_Ref_isSet 17 (.ifCond .ne 42) 3 20 := ⟨by decide +kernel, rfl⟩
theorem md_Ref_isSet_20 : mz_d mb_Ref_isSet 20 (.aload_n 0) 1 21 := ⟨by decide +kernel, rfl⟩
theorem md_Ref_isSet_21 : mz_d mb_Ref_isSet 21 (.getfield 13) 3 24 := ⟨by decide +kernel, rfl⟩
theorem md_Ref_isSet_24 : mz_d mb_Ref_isSet 24 (.bipush 48) 2 26 := ⟨by decide +kernel, rfl⟩
theorem md_Ref_isSet_26 : mz_d mb_Ref_isSet 26 (.iload_n 1) 1 27 := ⟨by decide +kernel, rfl⟩
theorem md_Ref_isSet_27 : mz_d mb_Ref_isSet 27 (.imul) 1 28 := ⟨by decide +kernel, rfl⟩
theorem md_Ref_isSet_28 : mz_d mb_Ref_isSet 28 (.iconst 4) 1 29 := ⟨by decide +kernel, rfl⟩
theorem md_Ref_isSet_29 : mz_d mb_Ref_isSet 29 (.iload 4) 2 31 := ⟨by decide +kernel, rfl⟩
theorem md_Ref_isSet_31 : mz_d mb_Ref_isSet 31 (.imul) 1 32 := ⟨by decide +kernel, rfl⟩
theorem md_Ref_isSet_32 : mz_d mb_Ref_isSet 32 (.iadd) 1 33 := ⟨by decide +kernel, rfl⟩
theorem md_Ref_isSet_33 : mz_d mb_Ref_isSet 33 (.iaload) 1 34 := ⟨by decide +kernel, rfl⟩
theorem md_Ref_isSet_34 : mz_d mb_Ref_isSet 34 (.bipush 17) 2 36 := ⟨by decide +kernel, rfl⟩
theorem md_Ref_isSet_36 : mz_d mb_Ref_isSet 36 (.if_icmp .eq 27) 3 39 := ⟨by decide +kernel, rfl⟩
theorem md_Ref_isSet_39 : mz_d mb_Ref_isSet 39 (.aload_n 0) 1 40 := ⟨by decide +kernel, rfl⟩
theorem md_Ref_isSet_40 : mz_d mb_Ref_isSet 40 (.getfield 13) 3 43 := ⟨by decide +kernel, rfl⟩
theorem md_Ref_isSet_43 : mz_d mb_Ref_isSet 43 (.bipush 48) 2 45 := ⟨by decide +kernel, rfl⟩
theorem md_Ref_isSet_45 : mz_d mb_Ref_isSet 45 (.iload_n 1) 1 46 := ⟨by decide +kernel, rfl⟩
theorem md_Ref_isSet_46 : mz_d mb_Ref_isSet 46 (.imul) 1 47 := ⟨by decide +kernel, rfl⟩
theorem md_Ref_isSet_47 : mz_d mb_Ref_isSet 47 (.iconst 4) 1 48 := ⟨by decide +kernel, rfl⟩
theorem md_Ref_isSet_48 : mz_d mb_Ref_isSet 48 (.iload 4) 2 50 := ⟨by decide +kernel, rfl⟩
theorem md_Ref_isSet_50 : mz_d mb_Ref_isSet 50 (.imul) 1 51 := ⟨by decide +kernel, rfl⟩
theorem md_Ref_isSet_51 : mz_d mb_Ref_isSet 51 (.iadd) 1 52 := ⟨by decide +kernel, rfl⟩
theorem md_Ref_isSet_52 : mz_d mb_Ref_isSet 52 (.iconst 1) 1 53 := ⟨by decide +kernel, rfl⟩
theorem md_Ref_isSet_53 : mz_d mb_Ref_isSet 53 (.iadd) 1 54 := ⟨by decide +kernel, rfl⟩
theorem md_Ref_isSet_54 : mz_d mb_Ref_isSet 54 (.iaload) 1 55 := ⟨by decide +kernel, rfl⟩
theorem md_Ref_isSet_55 : mz_d mb_Ref_isSet 55 (.iload_n 2) 1 56 := ⟨by decide +kernel, rfl⟩
theorem md_Ref_isSet_56 : mz_d mb_Ref_isSet 56 (.if_icmp .ne 7) 3 59 := ⟨by decide +kernel, rfl⟩
theorem md_Ref_isSet_59 : mz_d mb_Ref_isSet 59 (.iconst 1) 1 60 := ⟨by decide +kernel, rfl⟩
theorem md_Ref_isSet_60 : mz_d mb_Ref_isSet 60 (.goto 4) 3 63 := ⟨by decide +kernel, rfl⟩
theorem md_Ref_isSet_63 : mz_d mb_Ref_isSet 63 (.iconst 0) 1 64 := ⟨by decide +kernel, rfl⟩
theorem md_Ref_isSet_64 : mz_d mb_Ref_isSet 64 (.istore_n 3) 1 65 := ⟨by decide +kernel, rfl⟩
theorem md_Ref_isSet_65 : mz_d mb_Ref_isSet 65 (.iinc 4 1) 3 68 := ⟨by decide +kernel, rfl⟩
theorem md_Ref_isSet_68 : mz_d mb_Ref_isSet 68 (.goto (-63)) 3 71 := ⟨by decide +kernel, rfl⟩
theorem md_Ref_isSet_71 : mz_d mb_Ref_isSet 71 (.iload_n 3) 1 72 := ⟨by decide +kernel, rfl⟩
theorem md_Ref_isSet_72 : mz_d mb_Ref_isSet 72 (.ireturn) 1 73 := ⟨by decide +kernel, rfl⟩
theorem md_Ref_live_0 : mz_d mb_Ref_live 0 (.aload_n 0) 1 1 := ⟨by decide +kernel, rfl⟩
theorem md_Ref_live_1 : mz_d mb_Ref_live 1 (.iload_n 1) 1 2 := ⟨by decide +kernel, rfl⟩
theorem md_Ref_live_2 : mz_d mb_Ref_live 2 (.invokevirtual 57) 3 5 := ⟨by decide +kernel, rfl⟩
theorem md_Ref_live_5 : mz_d mb_Ref_live 5 (.ifCond .eq 10) 3 8 := ⟨by decide +kernel, rfl⟩
theorem md_Ref_live_8 : mz_d mb_Ref_live 8 (.iload_n 2) 1 9 := ⟨by decide +kernel, rfl⟩
theorem md_Ref_live_9 : mz_d mb_Ref_live 9 (.invokestatic 53) 3 12 := ⟨by decide +kernel, rfl⟩
theorem md_Ref_live_12 : mz_d mb_Ref_live 12 (.ifCond .ne 5) 3 15 := ⟨by decide +kernel, rfl⟩
theorem md_Ref_live_15 : mz_d mb_Ref_live 15 (.iconst 0) 1 16 := ⟨by decide +kernel, rfl⟩
theorem md_Ref_live_16 : mz_d mb_Ref_live 16 (.ireturn) 1 17 := ⟨by decide +kernel, rfl⟩
theorem md_Ref_live_17 : mz_d mb_Ref_live 17 (.iconst 0) 1 18 := ⟨by decide +kernel, rfl⟩
theorem md_Ref_live_18 : mz_d mb_Ref_live 18 (.istore_n 3) 1 19 := ⟨by decide +kernel, rfl⟩
theorem md_Ref_live_19 : mz_d mb_Ref_live 19 (.iconst 0) 1 20 := ⟨by decide +kernel, rfl⟩
theorem md_Ref_live_20 : mz_d mb_Ref_live 20 (.istore 4) 2 22 := ⟨by decide +kernel, rfl⟩
theorem md_Ref_live_22 : mz_d mb_Ref_live 22 (.iload 4) 2 24 := ⟨by decide +kernel, rfl⟩
theorem md_Ref_live_24 : mz_d mb_Ref_live 24 (.bipush 10) 2 26 := ⟨by decide +kernel, rfl⟩
theorem md_Ref_live_26 : mz_d mb_Ref_live 26 (.if_icmp .gt 122) 3 29 := ⟨by decide +kernel, rfl⟩
theorem md_Ref_live_29 : mz_d mb_Ref_live 29 (.iconst 0) 1 30 := ⟨by decide +kernel, rfl⟩
theorem md_Ref_live_30 : mz_d mb_Ref_live 30 (.istore 5) 2 32 := ⟨by decide +kernel, rfl⟩
theorem md_Ref_live_32 : mz_d mb_Ref_live 32 (.iload 5) 2 34 := ⟨by decide +kernel, rfl⟩
theorem md_Ref_live_34 : mz_d mb_Ref_live 34 (.aload_n 0) 1 35 := ⟨by decide +kernel, rfl⟩
theorem md_Ref_live_35 : mz_d mb_Ref_live 35 (.getfield 49) 3 38 := ⟨by decide +kernel, rfl⟩
theorem md_Ref_live_38 : mz_d mb_Ref_live 38 (.if_icmp .ge 104) 3 41 := ⟨by decide +kernel, rfl⟩
theorem md_Ref_live_41 : mz_d mb_Ref_live 41 (.aload_n 0) 1 42 := ⟨by decide +kernel, rfl⟩
theorem md_Ref_live_42 : mz_d mb_Ref_live 42 (.iload 5) 2 44 := ⟨by decide +kernel, rfl⟩
theorem md_Ref_live_44 : mz_d mb_Ref_live 44 (.iload_n 2) 1 45 := ⟨by decide +kernel, rfl⟩
theorem md_Ref_live_45 : mz_d mb_Ref_live 45 (.invokevirtual 119) 3 48 := ⟨by decide +kernel, rfl⟩
theorem md_Ref_live_48 : mz_d mb_Ref_live 48 (.iconst 1) 1 49 := ⟨by decide +kernel, rfl⟩
theorem md_Ref_live_49 : mz_d mb_Ref_live 49 (.if_icmp .ne 7) 3 52 := ⟨by decide +kernel, rfl⟩
theorem md_Ref_live_52 : mz_d mb_Ref_live 52 (.iconst 1) 1 53 := ⟨by decide +kernel, rfl⟩
theorem md_Ref_live_53 : mz_d mb_Ref_live 53 (.goto 4) 3 56 := ⟨by decide +kernel, rfl⟩
theorem md_Ref_live_56 : mz_d mb_Ref_live 56 (.iconst 0) 1 57 := ⟨by decide +kernel, rfl⟩
theorem md_Ref_live_57 : mz_d mb_Ref_live 57 (.istore 6) 2 59 := ⟨by decide +kernel, rfl⟩
theorem md_Ref_live_59 : mz_d mb_Ref_live 59 (.iconst 0) 1 60 := ⟨by decide +kernel, rfl⟩
theorem md_Ref_live_60 : mz_d mb_Ref_live 60 (.istore 7) 2 62 := ⟨by decide +kernel, rfl⟩
theorem md_Ref_live_62 : mz_d mb_Ref_live 62 (.iload 7) 2 64 := ⟨by decide +kernel, rfl⟩
theorem md_Ref_live_64 : mz_d mb_Ref_live 64 (.aload_n 0) 1 65 := ⟨by decide +kernel, rfl⟩
theorem md_Ref_live_65 : mz_d mb_Ref_live 65 (.getfield 49) 3 68 := ⟨by decide +kernel, rfl⟩
theorem md_Ref_live_68 : mz_d mb_Ref_live 68 (.if_icmp .ge 52) 3 71 := ⟨by decide +kernel, rfl⟩
theorem md_Ref_live_71 : mz_d mb_Ref_live 71 (.iload 6) 2 73 := ⟨by decide +kernel, rfl⟩
theorem md_Ref_live_73 : mz_d mb_Ref_live 73 (.ifCond .ne 34) 3 76 := ⟨by decide +kernel, rfl⟩
theorem md_Ref_live_76 : mz_d mb_Ref_live 76 (.aload_n 0) 1 77 := ⟨by decide +kernel, rfl⟩
theorem md_Ref_live_77 : mz_d mb_Ref_live 77 (.iload 5) 2 79 := ⟨by decide +kernel, rfl⟩
theorem md_Ref_live_79 : mz_d mb_Ref_live 79 (.iload_n 2) 1 80 := ⟨by decide +kernel, rfl⟩
theorem md_Ref_live_80 : mz_d mb_Ref_live 80 (.invokevirtual 119) 3 83 := ⟨by decide +kernel, rfl⟩
theorem md_Ref_live_83 : mz_d mb_Ref_live 83 (.ifCond .ne 28) 3 86 := ⟨by decide +kernel, rfl⟩
theorem md_Ref_live_86 : mz_d mb_Ref_live 86 (.aload_n 0) 1 87 := ⟨by decide +kernel, rfl⟩
theorem md_Ref_live_87 : mz_d mb_Ref_live 87 (.iload 5) 2 89 := ⟨by decide +kernel, rfl⟩
theorem md_Ref_live_89 : mz_d mb_Ref_live 89 (.iload 7) 2 91 := ⟨by decide +kernel, rfl⟩
theorem md_Ref_live_91 : mz_d mb_Ref_live 91 (.invokevirtual 99) 3 94 := ⟨by decide +kernel, rfl⟩
theorem md_Ref_live_94 : mz_d mb_Ref_live 94 (.ifCond .eq 17) 3 97 := ⟨by decide +kernel, rfl⟩
theorem md_Ref_live_97 : mz_d mb_Ref_live 97 (.iload_n 3) 1 98 := ⟨by decide +kernel, rfl⟩
theorem md_Ref_live_98 : mz_d mb_Ref_live 98 (.iload 7) 2 100 := ⟨by decide +kernel, rfl⟩
theorem md_Ref_live_100 : mz_d mb_Ref_live 100 (.ishr) 1 101 := ⟨by decide +kernel, rfl⟩
theorem md_Ref_live_101 : mz_d mb_Ref_live 101 (.iconst 1) 1 102 := ⟨by decide +kernel, rfl⟩
theorem md_Ref_live_102 : mz_d mb_Ref_live 102 (.iand) 1 103 := ⟨by decide +kernel, rfl⟩
theorem md_Ref_live_103 : mz_d mb_Ref_live 103 (.iconst 1) 1 104 := ⟨by decide +kernel, rfl⟩
theorem md_Ref_live_104 : mz_d mb_Ref_live 104 (.if_icmp .ne 7) 3 107 := ⟨by decide +kernel, rfl⟩
theorem md_Ref_live_107 : mz_d mb_Ref_live 107 (.iconst 1) 1 108 := ⟨by decide +kernel, rfl⟩
theorem md_Ref_live_108 : mz_d mb_Ref_live 108 (.goto 4) 3 111 := ⟨by decide +kernel, rfl⟩
theorem md_Ref_live_111 : mz_d mb_Ref_live 111 (.iconst 0) 1 112 := ⟨by decide +kernel, rfl⟩
theorem md_Ref_live_112 : mz_d mb_Ref_live 112 (.istore 6) 2 114 := ⟨by decide +kernel, rfl⟩
theorem md_Ref_live_114 : mz_d mb_Ref_live 114 (.iinc 7 1) 3 117 := ⟨by decide +kernel, rfl⟩
theorem md_Ref_live_117 : mz_d mb_Ref_live 117 (.goto (-55)) 3 120 := ⟨by decide +kernel, rfl⟩
theorem md_Ref_live_120 : mz_d mb_Ref_live 120 (.iload_n 3) 1 121 := ⟨by decide +kernel, rfl⟩
theorem md_Ref_live_121 : mz_d mb_Ref_live 121 (.iload 6) 2 123 := ⟨by decide +kernel, rfl⟩
theorem md_Ref_live_123 : mz_d mb_Ref_live 123 (.ifCond .eq 10) 3 126 := ⟨by decide +kernel, rfl⟩
theorem md_Ref_live_126 : mz_d mb_Ref_live 126 (.iconst 1) 1 127 := ⟨by decide +kernel, rfl⟩
theorem md_Ref_live_127 : mz_d mb_Ref_live 127 (.iload 5) 2 129 := ⟨by decide +kernel, rfl⟩
theorem md_Ref_live_129 : mz_d mb_Ref_live 129 (.ishl) 1 130 := ⟨by decide +kernel, rfl⟩
theorem md_Ref_live_130 : mz_d mb_Ref_live 130 (.goto 4) 3 133 := ⟨by decide +kernel, rfl⟩
theorem md_Ref_live_133 : mz_d mb_Ref_live 133 (.iconst 0) 1 134 := ⟨by decide +kernel, rfl⟩
theorem md_Ref_live_134 : mz_d mb_Ref_live 134 (.ior) 1 135 := ⟨by decide +kernel, rfl⟩
theorem md_Ref_live_135 : mz_d mb_Ref_live 135 (.istore_n 3) 1 136 := ⟨by decide +kernel, rfl⟩
theorem md_Ref_live_136 : mz_d mb_Ref_live 136 (.iinc 5 1) 3 139 := ⟨by decide +kernel, rfl⟩
theorem md_Ref_live_139 : mz_d mb_Ref_live 139 (.goto (-107)) 3 142 := ⟨by decide +kernel, rfl⟩
theorem md_Ref_live_142 : mz_d mb_Ref_live 142 (.iinc 4 1) 3 145 := ⟨by decide +kernel, rfl⟩
theorem md_Ref_live_145 : mz_d mb_Ref_live 145 (.goto (-123)) 3 148 := ⟨by decide +kernel, rfl⟩
theorem md_Ref_live_148 : mz_d mb_Ref_live 148 (.iload_n 3) 1 149 := ⟨by decide +kernel, rfl⟩
theorem md_Ref_live_149 : mz_d mb_Ref_live 149 (.iload_n 1) 1 150 := ⟨by decide +kernel, rfl⟩
theorem md_Ref_live_150 : mz_d mb_Ref_live 150 (.ishr) 1 151 := ⟨by decide +kernel, rfl⟩
theorem md_Ref_live_151 : mz_d mb_Ref_live 151 (.iconst 1) 1 152 := ⟨by decide +kernel, rfl⟩
theorem md_Ref_live_152 : mz_d mb_Ref_live 152 (.iand) 1 153 := ⟨by decide +kernel, rfl⟩
theorem md_Ref_live_153 : mz_d mb_Ref_live 153 (.iconst 1) 1 154 := ⟨by decide +kernel, rfl⟩
theorem md_Ref_live_154 : mz_d mb_Ref_live 154 (.if_icmp .ne 7) 3 157 := ⟨by decide +kernel, rfl⟩
theorem md_Ref_live_157 : mz_d mb_Ref_live 157 (.iconst 1) 1 158 := ⟨by decide +kernel, rfl⟩
theorem md_Ref_live_158 : mz_d mb_Ref_live 158 (.goto 4) 3 161 := ⟨by decide +kernel, rfl⟩
theorem md_Ref_live_161 : mz_d mb_Ref_live 161 (.iconst 0) 1 162 := ⟨by decide +kernel, rfl⟩
theorem md_Ref_live_162 : mz_d mb_Ref_live 162 (.ireturn) 1 163 := ⟨by decide +kernel, rfl⟩
theorem md_Ref_phi_0 : mz_d mb_Ref_phi 0 (.aload_n 0) 1 1 := ⟨by decide +kernel, rfl⟩
theorem md_Ref_phi_1 : mz_d mb_Ref_phi 1 (.iload_n 1) 1 2 := ⟨by decide +kernel, rfl⟩
theorem md_Ref_phi_2 : mz_d mb_Ref_phi 2 (.invokevirtual 110) 3 5 := ⟨by decide +kernel, rfl⟩
theorem md_Ref_phi_5 : mz_d mb_Ref_phi 5 (.ifCond .eq 19) 3 8 := ⟨by decide +kernel, rfl⟩
theorem md_Ref_phi_8 : mz_d mb_Ref_phi 8 (.iload_n 2) 1 9 := ⟨by decide +kernel, rfl⟩
theorem md_Ref_phi_9 : mz_d mb_Ref_phi 9 (.invokestatic 53) 3 12 := ⟨by decide +kernel, rfl⟩
theorem md_Ref_phi_12 : mz_d mb_Ref_phi 12 (.ifCond .eq 12) 3 15 := ⟨by decide +kernel, rfl⟩
theorem md_Ref_phi_15 : mz_d mb_Ref_phi 15 (.aload_n 0) 1 16 := ⟨by decide +kernel, rfl⟩
theorem md_Ref_phi_16 : mz_d mb_Ref_phi 16 (.iload_n 1) 1 17 := ⟨by decide +kernel, rfl⟩
theorem md_Ref_phi_17 : mz_d mb_Ref_phi 17 (.iload_n 2) 1 18 := ⟨by decide +kernel, rfl⟩
theorem md_Ref_phi_18 : mz_d mb_Ref_phi 18 (.invokevirtual 122) 3 21 := ⟨by decide +kernel, rfl⟩
theorem md_Ref_phi_21 : mz_d mb_Ref_phi 21 (.ifCond .ne 5) 3 24 := ⟨by decide +kernel, rfl⟩
theorem md_Ref_phi_24 : mz_d mb_Ref_phi 24 (.iconst 0) 1 25 := ⟨by decide +kernel, rfl⟩
theorem md_Ref_phi_25 : mz_d mb_Ref_phi 25 (.ireturn) 1 26 := ⟨by decide +kernel, rfl⟩
theorem md_Ref_phi_26 : mz_d mb_Ref_phi 26 (.iconst 1) 1 27 := ⟨by decide +kernel, rfl⟩
theorem md_Ref_phi_27 : mz_d mb_Ref_phi 27 (.istore_n 3) 1 28 := ⟨by decide +kernel, rfl⟩
theorem md_Ref_phi_28 : mz_d mb_Ref_phi 28 (.iconst 0) 1 29 := ⟨by decide +kernel, rfl⟩
theorem md_Ref_phi_29 : mz_d mb_Ref_phi 29 (.istore 4) 2 31 := ⟨by decide +kernel, rfl⟩
theorem md_Ref_phi_31 : mz_d mb_Ref_phi 31 (.iload 4) 2 33 := ⟨by decide +kernel, rfl⟩
theorem md_Ref_phi_33 : mz_d mb_Ref_phi 33 (.aload_n 0) 1 34 := ⟨by decide +kernel, rfl⟩
theorem md_Ref_phi_34 : mz_d mb_Ref_phi 34 (.getfield 49) 3 37 := ⟨by decide +kernel, rfl⟩
theorem md_Ref_phi_37 : mz_d mb_Ref_phi 37 (.if_icmp .ge 39) 3 40 := ⟨by decide +kernel, rfl⟩
theorem md_Ref_phi_40 : mz_d mb_Ref_phi 40 (.iload_n 3) 1 41 := ⟨by decide +kernel, rfl⟩
theorem md_Ref_phi_41 : mz_d mb_Ref_phi 41 (.aload_n 0) 1 42 := ⟨by decide +kernel, rfl⟩
theorem md_Ref_phi_42 : mz_d mb_Ref_phi 42 (.iload 4) 2 44 := ⟨by decide +kernel, rfl⟩
theorem md_Ref_phi_44 : mz_d mb_Ref_phi 44 (.invokevirtual 110) 3 47 := ⟨by decide +kernel, rfl⟩
theorem md_Ref_phi_47 : mz_d mb_Ref_phi 47 (.ifCond .eq 20) 3 50 := ⟨by decide +kernel, rfl⟩
theorem md_Ref_phi_50 : mz_d mb_Ref_phi 50 (.aload_n 0) 1 51 := ⟨by decide +kernel, rfl⟩
theorem md_Ref_phi_51 : mz_d mb_Ref_phi 51 (.iload 4) 2 53 := ⟨by decide +kernel, rfl⟩
theorem md_Ref_phi_53 : mz_d mb_Ref_phi 53 (.iload_n 2) 1 54 := ⟨by decide +kernel, rfl⟩
theorem md_Ref_phi_54 : mz_d mb_Ref_phi 54 (.invokevirtual 125) 3 57 := ⟨by decide +kernel, rfl⟩
theorem md_Ref_phi_57 : mz_d mb_Ref_phi 57 (.ifCond .eq 10) 3 60 := ⟨by decide +kernel, rfl⟩
theorem md_Ref_phi_60 : mz_d mb_Ref_phi 60 (.iconst 1) 1 61 := ⟨by decide +kernel, rfl⟩
theorem md_Ref_phi_61 : mz_d mb_Ref_phi 61 (.iload 4) 2 63 := ⟨by decide +kernel, rfl⟩
theorem md_Ref_phi_63 : mz_d mb_Ref_phi 63 (.ishl) 1 64 := ⟨by decide +kernel, rfl⟩
theorem md_Ref_phi_64 : mz_d mb_Ref_phi 64 (.goto 4) 3 67 := ⟨by decide +kernel, rfl⟩
theorem md_Ref_phi_67 : mz_d mb_Ref_phi 67 (.iconst 0) 1 68 := ⟨by decide +kernel, rfl⟩
theorem md_Ref_phi_68 : mz_d mb_Ref_phi 68 (.ior) 1 69 := ⟨by decide +kernel, rfl⟩
theorem md_Ref_phi_69 : mz_d mb_Ref_phi 69 (.istore_n 3) 1 70 := ⟨by decide +kernel, rfl⟩
theorem md_Ref_phi_70 : mz_d mb_Ref_phi 70 (.iinc 4 1) 3 73 := ⟨by decide +kernel, rfl⟩
theorem md_Ref_phi_73 : mz_d mb_Ref_phi 73 (.goto (-42)) 3 76 := ⟨by decide +kernel, rfl⟩
theorem md_Ref_phi_76 : mz_d mb_Ref_phi 76 (.iconst 0) 1 77 := ⟨by decide +kernel, rfl⟩
theorem md_Ref_phi_77 : mz_d mb_Ref_phi 77 (.istore 4) 2 79 := ⟨by decide +kernel, rfl⟩
theorem md_Ref_phi_79 : mz_d mb_Ref_phi 79 (.iconst 0) 1 80 := ⟨by decide +kernel, rfl⟩
theorem md_Ref_phi_80 : mz_d mb_Ref_phi 80 (.istore 5) 2 82 := ⟨by decide +kernel, rfl⟩
theorem md_Ref_phi_82 : mz_d mb_Ref_phi 82 (.iload 5) 2 84 := ⟨by decide +kernel, rfl⟩
theorem md_Ref_phi_84 : mz_d mb_Ref_phi 84 (.bipush 10) 2 86 := ⟨by decide +kernel, rfl⟩
theorem md_Ref_phi_86 : mz_d mb_Ref_phi 86 (.if_icmp .ge 82) 3 89 := ⟨by decide +kernel, rfl⟩
theorem md_Ref_phi_89 : mz_d mb_Ref_phi 89 (.iconst 0) 1 90 := ⟨by decide +kernel, rfl⟩
theorem md_Ref_phi_90 : mz_d mb_Ref_phi 90 (.istore 6) 2 92 := ⟨by decide +kernel, rfl⟩
theorem md_Ref_phi_92 : mz_d mb_Ref_phi 92 (.iload 6) 2 94 := ⟨by decide +kernel, rfl⟩
theorem md_Ref_phi_94 : mz_d mb_Ref_phi 94 (.aload_n 0) 1 95 := ⟨by decide +kernel, rfl⟩
theorem md_Ref_phi_95 : mz_d mb_Ref_phi 95 (.getfield 49) 3 98 := ⟨by decide +kernel, rfl⟩
theorem md_Ref_phi_98 : mz_d mb_Ref_phi 98 (.if_icmp .ge 64) 3 101 := ⟨by decide +kernel, rfl⟩
theorem md_Ref_phi_101 : mz_d mb_Ref_phi 101 (.iconst 0) 1 102 := ⟨by decide +kernel, rfl⟩
theorem md_Ref_phi_102 : mz_d mb_Ref_phi 102 (.istore 7) 2 104 := ⟨by decide +kernel, rfl⟩
theorem md_Ref_phi_104 : mz_d mb_Ref_phi 104 (.iload 7) 2 106 := ⟨by decide +kernel, rfl⟩
theorem md_Ref_phi_106 : mz_d mb_Ref_phi 106 (.aload_n 0) 1 107 := ⟨by decide +kernel, rfl⟩
theorem md_Ref_phi_107 : mz_d mb_Ref_phi 107 (.getfield 49) 3 110 := ⟨by decide +kernel, rfl⟩
theorem md_Ref_phi_110 : mz_d mb_Ref_phi 110 (.if_icmp .ge 46) 3 113 := ⟨by decide +kernel, rfl⟩
theorem md_Ref_phi_113 : mz_d mb_Ref_phi 113 (.iload_n 3) 1 114 := ⟨by decide +kernel, rfl⟩
theorem md_Ref_phi_114 : mz_d mb_Ref_phi 114 (.iload 4) 2 116 := ⟨by decide +kernel, rfl⟩
theorem md_Ref_phi_116 : mz_d mb_Ref_phi 116 (.ior) 1 117 := ⟨by decide +kernel, rfl⟩
theorem md_Ref_phi_117 : mz_d mb_Ref_phi 117 (.iload 6) 2 119 := ⟨by decide +kernel, rfl⟩
theorem md_Ref_phi_119 : mz_d mb_Ref_phi 119 (.ishr) 1 120 := ⟨by decide +kernel, rfl⟩
theorem md_Ref_phi_120 : mz_d mb_Ref_phi 120 (.iconst 1) 1 121 := ⟨by decide +kernel, rfl⟩
theorem md_Ref_phi_121 : mz_d mb_Ref_phi 121 (.iand) 1 122 := ⟨by decide +kernel, rfl⟩
theorem md_Ref_phi_122 : mz_d mb_Ref_phi 122 (.iconst 1) 1 123 := ⟨by decide +kernel, rfl⟩
theorem md_Ref_phi_123 : mz_d mb_Ref_phi 123 (.if_icmp .ne 33) 3 126 := ⟨by decide +kernel, rfl⟩
theorem md_Ref_phi_126 : mz_d mb_Ref_phi 126 (.iload 4) 2 128 := ⟨by decide +kernel, rfl⟩
theorem md_Ref_phi_128 : mz_d mb_Ref_phi 128 (.aload_n 0) 1 129 := ⟨by decide +kernel, rfl⟩
theorem md_Ref_phi_129 : mz_d mb_Ref_phi 129 (.iload 6) 2 131 := ⟨by decide +kernel, rfl⟩
theorem md_Ref_phi_131 : mz_d mb_Ref_phi 131 (.iload 7) 2 133 := ⟨by decide +kernel, rfl⟩
theorem md_Ref_phi_133 : mz_d mb_Ref_phi 133 (.invokevirtual 128) 3 136 := ⟨by decide +kernel, rfl⟩
theorem md_Ref_phi_136 : mz_d mb_Ref_phi 136 (.ifCond .eq 10) 3 139 := ⟨by decide +kernel, rfl⟩
theorem md_Ref_phi_139 : mz_d mb_Ref_phi 139 (.iconst 1) 1 140 := ⟨by decide +kernel, rfl⟩
theorem md_Ref_phi_140 : mz_d mb_Ref_phi 140 (.iload 7) 2 142 := ⟨by decide +kernel, rfl⟩
theorem md_Ref_phi_142 : mz_d mb_Ref_phi 142 (.ishl) 1 143 := ⟨by decide +kernel, rfl⟩
theorem md_Ref_phi_143 : mz_d mb_Ref_phi 143 (.goto 4) 3 146 := ⟨by decide +kernel, rfl⟩
theorem md_Ref_phi_146 : mz_d mb_Ref_phi 146 (.iconst 0) 1 147 := ⟨by decide +kernel, rfl⟩
theorem md_Ref_phi_147 : mz_d mb_Ref_phi 147 (.ior) 1 148 := ⟨by decide +kernel, rfl⟩
theorem md_Ref_phi_148 : mz_d mb_Ref_phi 148 (.istore 4) 2 150 := ⟨by decide +kernel, rfl⟩
theorem md_Ref_phi_150 : mz_d mb_Ref_phi 150 (.iinc 7 1) 3 153 := ⟨by decide +kernel, rfl⟩
theorem md_Ref_phi_153 : mz_d mb_Ref_phi 153 (.goto (-49)) 3 156 := ⟨by decide +kernel, rfl⟩
theorem md_Ref_phi_156 : mz_d mb_Ref_phi 156 (.iinc 6 1) 3 159 := ⟨by decide +kernel, rfl⟩
theorem md_Ref_phi_159 : mz_d mb_Ref_phi 159 (.goto (-67)) 3 162 := ⟨by decide +kernel, rfl⟩
theorem md_Ref_phi_162 : mz_d mb_Ref_phi 162 (.iinc 5 1) 3 165 := ⟨by decide +kernel, rfl⟩
theorem md_Ref_phi_165 : mz_d mb_Ref_phi 165 (.goto (-83)) 3 168 := ⟨by decide +kernel, rfl⟩
theorem md_Ref_phi_168 : mz_d mb_Ref_phi 168 (.iload 4) 2 170 := ⟨by decide +kernel, rfl⟩
theorem md_Ref_phi_170 : mz_d mb_Ref_phi 170 (.iload_n 1) 1 171 := ⟨by decide +kernel, rfl⟩
theorem md_Ref_phi_171 : mz_d mb_Ref_phi 171 (.ishr) 1 172 := ⟨by decide +kernel, rfl⟩
theorem md_Ref_phi_172 : mz_d mb_Ref_phi 172 (.iconst 1) 1 173 := ⟨by decide +kernel, rfl⟩
theorem md_Ref_phi_173 : mz_d mb_Ref_phi 173 (.iand) 1 174 := ⟨by decide +kernel, rfl⟩
theorem md_Ref_phi_174 : mz_d mb_Ref_phi 174 (.iconst 1) 1 175 := ⟨by decide +kernel, rfl⟩
theorem md_Ref_phi_175 : mz_d mb_Ref_phi 175 (.if_icmp .ne 7) 3 178 := ⟨by decide +kernel, rfl⟩
theorem md_Ref_phi_178 : mz_d mb_Ref_phi 178 (.iconst 1) 1 179 := ⟨by decide +kernel, rfl⟩
theorem md_Ref_phi_179 : mz_d mb_Ref_phi 179 (.goto 4) 3 182 := ⟨by decide +kernel, rfl⟩
theorem md_Ref_phi_182 : mz_d mb_Ref_phi 182 (.iconst 0) 1 183 := ⟨by decide +kernel, rfl⟩
theorem md_Ref_phi_183 : mz_d mb_Ref_phi 183 (.ireturn) 1 184 := ⟨by decide +kernel, rfl⟩
theorem md_Ref_isInLoop_0 : mz_d mb_Ref_isInLoop 0 (.iconst 0) 1 1 := ⟨by decide +kernel, rfl⟩
theorem md_Ref_isInLoop_1 : mz_d mb_Ref_isInLoop 1 (.istore_n 3) 1 2 := ⟨by decide +kernel, rfl⟩
theorem md_Ref_isInLoop_2 : mz_d mb_Ref_isInLoop 2 (.iconst 0) 1 3 := ⟨by decide +kernel, rfl⟩
theorem md_Ref_isInLoop_3 : mz_d mb_Ref_isInLoop 3 (.istore 4) 2 5 := ⟨by decide +kernel, rfl⟩
theorem md_Ref_isInLoop_5 : mz_d mb_Ref_isInLoop 5 (.iload 4) 2 7 := ⟨by decide +kernel, rfl⟩
theorem md_Ref_isInLoop_7 : mz_d mb_Ref_isInLoop 7 (.aload_n 0) 1 8 := ⟨by decide +kernel, rfl⟩
theorem md_Ref_isInLoop_8 : mz_d mb_Ref_isInLoop 8 (.getfield 49) 3 11 := ⟨by decide +kernel, rfl⟩
theorem md_Ref_isInLoop_11 : mz_d mb_Ref_isInLoop 11 (.if_icmp .ge 40) 3 14 := ⟨by decide +kernel, rfl⟩
theorem md_Ref_isInLoop_14 : mz_d mb_Ref_isInLoop 14 (.iload_n 3) 1 15 := ⟨by decide +kernel, rfl⟩
theorem md_Ref_isInLoop_15 : mz_d mb_Ref_isInLoop 15 (.aload_n 0) 1 16 := ⟨by decide +kernel, rfl⟩
theorem md_Ref_isInLoop_16 : mz_d mb_Ref_isInLoop 16 (.iload 4) 2 18 := ⟨by decide +kernel, rfl⟩
theorem md_Ref_isInLoop_18 : mz_d mb_Ref_isInLoop 18 (.iload_n 2) 1 19 := ⟨by decide +kernel, rfl⟩
theorem md_Ref_isInLoop_19 : mz_d mb_Ref_isInLoop 19 (.invokevirtual 99) 3 22 := ⟨by decide +kernel, rfl⟩
theorem md_Ref_isInLoop_22 : mz_d mb_Ref_isInLoop 22 (.ifCond .eq 20) 3 25 := ⟨by decide +kernel, rfl⟩
theorem md_Ref_isInLoop_25 : mz_d mb_Ref_isInLoop 25 (.aload_n 0) 1 26 := ⟨by decide +kernel, rfl⟩
theorem md_Ref_isInLoop_26 : mz_d mb_Ref_isInLoop 26 (.iload_n 2) 1 27 := ⟨by decide +kernel, rfl⟩
theorem md_Ref_isInLoop_27 : mz_d mb_Ref_isInLoop 27 (.iload 4) 2 29 := ⟨by decide +kernel, rfl⟩
theorem md_Ref_isInLoop_29 : mz_d mb_Ref_isInLoop 29 (.invokevirtual 113) 3 32 := ⟨by decide +kernel, rfl⟩
theorem md_Ref_isInLoop_32 : mz_d mb_Ref_isInLoop 32 (.ifCond .eq 10) 3 35 := ⟨by decide +kernel, rfl⟩
theorem md_Ref_isInLoop_35 : mz_d mb_Ref_isInLoop 35 (.iconst 1) 1 36 := ⟨by decide +kernel, rfl⟩
theorem md_Ref_isInLoop_36 : mz_d mb_Ref_isInLoop 36 (.iload 4) 2 38 := ⟨by decide +kernel, rfl⟩
theorem md_Ref_isInLoop_38 : mz_d mb_Ref_isInLoop 38 (.ishl) 1 39 := ⟨by decide +kernel, rfl⟩
theorem md_Ref_isInLoop_39 : mz_d mb_Ref_isInLoop 39 (.goto 4) 3 42 := ⟨by decide +kernel, rfl⟩
theorem md_Ref_isInLoop_42 : mz_d mb_Ref_isInLoop 42 (.iconst 0) 1 43 := ⟨by decide +kernel, rfl⟩
theorem md_Ref_isInLoop_43 : mz_d mb_Ref_isInLoop 43 (.ior) 1 44 := ⟨by decide +kernel, rfl⟩
theorem md_Ref_isInLoop_44 : mz_d mb_Ref_isInLoop 44 (.istore_n 3) 1 45 := ⟨by decide +kernel, rfl⟩
theorem md_Ref_isInLoop_45 : mz_d mb_Ref_isInLoop 45 (.iinc 4 1) 3 48 := ⟨by decide +kernel, rfl⟩
theorem md_Ref_isInLoop_48 : mz_d mb_Ref_isInLoop 48 (.goto (-43)) 3 51 := ⟨by decide +kernel, rfl⟩
theorem md_Ref_isInLoop_51 : mz_d mb_Ref_isInLoop 51 (.iload_n 3) 1 52 := ⟨by decide +kernel, rfl⟩
theorem md_Ref_isInLoop_52 : mz_d mb_Ref_isInLoop 52 (.ifCond .eq 25) 3 55 := ⟨by decide +kernel, rfl⟩
theorem md_Ref_isInLoop_55 : mz_d mb_Ref_isInLoop 55 (.iload_n 1) 1 56 := ⟨by decide +kernel, rfl⟩
theorem md_Ref_isInLoop_56 : mz_d mb_Ref_isInLoop 56 (.iload_n 2) 1 57 := ⟨by decide +kernel, rfl⟩
theorem md_Ref_isInLoop_57 : mz_d mb_Ref_isInLoop 57 (.if_icmp .eq 16) 3 60 := ⟨by decide +kernel, rfl⟩
theorem md_Ref_isInLoop_60 : mz_d mb_Ref_isInLoop 60 (.aload_n 0) 1 61 := ⟨by decide +kernel, rfl⟩
theorem md_Ref_isInLoop_61 : mz_d mb_Ref_isInLoop 61 (.iconst 1) 1 62 := ⟨by decide +kernel, rfl⟩
theorem md_Ref_isInLoop_62 : mz_d mb_Ref_isInLoop 62 (.iload_n 1) 1 63 := ⟨by decide +kernel, rfl⟩
theorem md_Ref_isInLoop_63 : mz_d mb_Ref_isInLoop 63 (.ishl) 1 64 := ⟨by decide +kernel, rfl⟩
theorem md_Ref_isInLoop_64 : mz_d mb_Ref_isInLoop 64 (.iload_n 2) 1 65 := ⟨by decide +kernel, rfl⟩
theorem md_Ref_isInLoop_65 : mz_d mb_Ref_isInLoop 65 (.invokevirtual 102) 3 68 := ⟨by decide +kernel, rfl⟩
theorem md_Ref_isInLoop_68 : mz_d mb_Ref_isInLoop 68 (.iload_n 3) 1 69 := ⟨by decide +kernel, rfl⟩
theorem md_Ref_isInLoop_69 : mz_d mb_Ref_isInLoop 69 (.iand) 1 70 := ⟨by decide +kernel, rfl⟩
theorem md_Ref_isInLoop_70 : mz_d mb_Ref_isInLoop 70 (.ifCond .eq 7) 3 73 := ⟨by decide +kernel, rfl⟩
theorem md_Ref_isInLoop_73 : mz_d mb_Ref_isInLoop 73 (.iconst 1) 1 74 := ⟨by decide +kernel, rfl⟩
theorem md_Ref_isInLoop_74 : mz_d mb_Ref_isInLoop 74 (.goto 4) 3 77 := ⟨by decide +kernel, rfl⟩
theorem md_Ref_isInLoop_77 : mz_d mb_Ref_isInLoop 77 (.iconst 0) 1 78 := ⟨by decide +kernel, rfl⟩
theorem md_Ref_isInLoop_78 : mz_d mb_Ref_isInLoop 78 (.ireturn) 1 79 := ⟨by decide +kernel, rfl⟩
theorem md_Ref_depth_0 : mz_d mb_Ref_depth 0 (.aload_n 0) 1 1 := ⟨by decide +kernel, rfl⟩
theorem md_Ref_depth_1 : mz_d mb_Ref_depth 1 (.iload_n 1) 1 2 := ⟨by decide +kernel, rfl⟩
theorem md_Ref_depth_2 : mz_d mb_Ref_depth 2 (.invokevirtual 110) 3 5 := ⟨by decide +kernel, rfl⟩
theorem md_Ref_depth_5 : mz_d mb_Ref_depth 5 (.ifCond .ne 5) 3 8 := ⟨by decide +kernel, rfl⟩
theorem md_Ref_depth_8 : mz_d mb_Ref_depth 8 (.iconst (-1)) 1 9 := ⟨by decide +kernel, rfl⟩
theorem md_Ref_depth_9 : mz_d mb_Ref_depth 9 (.ireturn) 1 10 := ⟨by decide +kernel, rfl⟩
theorem md_Ref_depth_10 : mz_d mb_Ref_depth 10 (.iconst 0) 1 11 := ⟨by decide +kernel, rfl⟩
theorem md_Ref_depth_11 : mz_d mb_Ref_depth 11 (.istore_n 2) 1 12 := ⟨by decide +kernel, rfl⟩
theorem md_Ref_depth_12 : mz_d mb_Ref_depth 12 (.iconst 0) 1 13 := ⟨by decide +kernel, rfl⟩
theorem md_Ref_depth_13 : mz_d mb_Ref_depth 13 (.istore_n 3) 1 14 := ⟨by decide +kernel, rfl⟩
theorem md_Ref_depth_14 : mz_d mb_Ref_depth 14 (.iload_n 3) 1 15 := ⟨by decide +kernel, rfl⟩
theorem md_Ref_depth_15 : mz_d mb_Ref_depth 15 (.aload_n 0) 1 16 := ⟨by decide +kernel, rfl⟩
theorem md_Ref_depth_16 : mz_d mb_Ref_depth 16 (.getfield 49) 3 19 := ⟨by decide +kernel, rfl⟩
theorem md_Ref_depth_19 : mz_d mb_Ref_depth 19 (.if_icmp .ge 26) 3 22 := ⟨by decide +kernel, rfl⟩
theorem md_Ref_depth_22 : mz_d mb_Ref_depth 22 (.iload_n 2) 1 23 := ⟨by decide +kernel, rfl⟩
theorem md_Ref_depth_23 : mz_d mb_Ref_depth 23 (.aload_n 0) 1 24 := ⟨by decide +kernel, rfl⟩
theorem md_Ref_depth_24 : mz_d mb_Ref_depth 24 (.iload_n 1) 1 25 := ⟨by decide +kernel, rfl⟩
theorem md_Ref_depth_25 : mz_d mb_Ref_depth 25 (.iload_n 3) 1 26 := ⟨by decide +kernel, rfl⟩
theorem md_Ref_depth_26 : mz_d mb_Ref_depth 26 (.invokevirtual 131) 3 29 := ⟨by decide +kernel, rfl⟩
theorem md_Ref_depth_29 : mz_d mb_Ref_depth 29 (.ifCond .eq 7) 3 32 := ⟨by decide +kernel, rfl⟩
theorem md_Ref_depth_32 : mz_d mb_Ref_depth 32 (.iconst 1) 1 33 := ⟨by decide +kernel, rfl⟩
theorem md_Ref_depth_33 : mz_d mb_Ref_depth 33 (.goto 4) 3 36 := ⟨by decide +kernel, rfl⟩
theorem md_Ref_depth_36 : mz_d mb_Ref_depth 36 (.iconst 0) 1 37 := ⟨by decide +kernel, rfl⟩
theorem md_Ref_depth_37 : mz_d mb_Ref_depth 37 (.iadd) 1 38 := ⟨by decide +kernel, rfl⟩
theorem md_Ref_depth_38 : mz_d mb_Ref_depth 38 (.istore_n 2) 1 39 := ⟨by decide +kernel, rfl⟩
theorem md_Ref_depth_39 : mz_d mb_Ref_depth 39 (.iinc 3 1) 3 42 := ⟨by decide +kernel, rfl⟩
theorem md_Ref_depth_42 : mz_d mb_Ref_depth 42 (.goto (-28)) 3 45 := ⟨by decide +kernel, rfl⟩
theorem md_Ref_depth_45 : mz_d mb_Ref_depth 45 (.iload_n 2) 1 46 := ⟨by decide +kernel, rfl⟩
theorem md_Ref_depth_46 : mz_d mb_Ref_depth 46 (.ireturn) 1 47 := ⟨by decide +kernel, rfl⟩
/-- ValueMillModel.isBlock(I)Z: what it does, as a transformer of what must hold behind it -/
def mw_Ref_isBlock (K : Int32 → mz_St → Prop) (a0 : Int32) (s0 : mz_St) : Prop :=
  ((a0 < 0 →
   K 0 s0) ∧
  (¬ a0 < 0 →
   (((s0 1016 0) ≤ a0 →
    K 0 s0) ∧
   (¬ (s0 1016 0) ≤ a0 →
    K 1 s0))))
set_option maxRecDepth 100000 in
set_option maxHeartbeats 4000000 in
theorem ms_Ref_isBlock (l : Launch) (E : mz_En) (hI : mz_Inj E) (K : Int32 → mz_St → Prop) (a0 : Int32) (s0 : mz_St) (h : mw_Ref_isBlock K a0 s0) : mz_Ci l E my_Ref_isBlock mb_Ref_isBlock 2 (some .boolean) (0) (0) [.ref (E.2.1 11), .int a0] s0 K := by
  refine mz_cti hI (by decide +kernel) (Nat.le_of_ble_eq_true rfl) (fun X C R => ?_)
  show mz_G E X 2 0 [(0, .ref (E.2.1 11)), (1, .int a0)] [] s0
  unfold mw_Ref_isBlock at h
  refine mr_iload_n C 1 md_Ref_isBlock_0 rfl rfl ?_
  refine mr_if_lt C md_Ref_isBlock_1 rfl (fun hc => ?_) (fun hc => ?_)
  · replace h := h.1 hc
    refine mr_iconst C md_Ref_isBlock_16 mk_iconst_0 ?_
    exact mr_zret C R mb_0 h md_Ref_isBlock_17
  replace h := h.2 hc
  refine mr_iload_n C 1 md_Ref_isBlock_4 rfl rfl ?_
  refine mr_aload_n C 0 md_Ref_isBlock_5 rfl rfl ?_
  refine mr_get C 11 0 mc_Ref_cls ml_1013 rfl (by decide) (by decide) (fun _ => rfl) rfl md_Ref_isBlock_6 ?_
  refine mr_icmp_ge C md_Ref_isBlock_9 rfl (fun hc => ?_) (fun hc => ?_)
  · replace h := h.1 hc
    refine mr_iconst C md_Ref_isBlock_16 mk_iconst_0 ?_
    exact mr_zret C R mb_0 h md_Ref_isBlock_17
  replace h := h.2 hc
  refine mr_iconst C md_Ref_isBlock_12 mk_iconst_1 ?_
  refine mr_goto C md_Ref_isBlock_13 rfl ?_
  exact mr_zret C R mb_1 h md_Ref_isBlock_17
/-- ValueMillModel.isTemp(I)Z: what it does, as a transformer of what must hold behind it -/
def mw_Ref_isTemp (K : Int32 → mz_St → Prop) (a0 : Int32) (s0 : mz_St) : Prop :=
  ((a0 < 0 →
   K 0 s0) ∧
  (¬ a0 < 0 →
   ((10 ≤ a0 →
    K 0 s0) ∧
   (¬ 10 ≤ a0 →
    K 1 s0))))
set_option maxRecDepth 100000 in
set_option maxHeartbeats 4000000 in
theorem ms_Ref_isTemp (l : Launch) (E : mz_En) (hI : mz_Inj E) (K : Int32 → mz_St → Prop) (a0 : Int32) (s0 : mz_St) (h : mw_Ref_isTemp K a0 s0) : mz_Ci l E my_Ref_isTemp mb_Ref_isTemp 1 (some .boolean) (0) (0) [.int a0] s0 K := by
  refine mz_cti hI (by decide +kernel) (Nat.le_of_ble_eq_true rfl) (fun X C R => ?_)
  show mz_G E X 1 0 [(0, .int a0)] [] s0
  unfold mw_Ref_isTemp at h
  refine mr_iload_n C 0 md_Ref_isTemp_0 rfl rfl ?_
  refine mr_if_lt C md_Ref_isTemp_1 rfl (fun hc => ?_) (fun hc => ?_)
  · replace h := h.1 hc
    refine mr_iconst C md_Ref_isTemp_14 mk_iconst_0 ?_
    exact mr_zret C R mb_0 h md_Ref_isTemp_15
  replace h := h.2 hc
  refine mr_iload_n C 0 md_Ref_isTemp_4 rfl rfl ?_
  refine mr_bipush C md_Ref_isTemp_5 mk_bipush_10 ?_
  refine mr_icmp_ge C md_Ref_isTemp_7 rfl (fun hc => ?_) (fun hc => ?_)
  · replace h := h.1 hc
    refine mr_iconst C md_Ref_isTemp_14 mk_iconst_0 ?_
    exact mr_zret C R mb_0 h md_Ref_isTemp_15
  replace h := h.2 hc
  refine mr_iconst C md_Ref_isTemp_10 mk_iconst_1 ?_
  refine mr_goto C md_Ref_isTemp_11 rfl ?_
  exact mr_zret C R mb_1 h md_Ref_isTemp_15
/-- ValueMillModel.block()I: what it does, as a transformer of what must hold behind it -/
def mw_Ref_block (K : Int32 → mz_St → Prop) (s0 : mz_St) : Prop :=
  ((¬ (s0 1016 0) = 10 →
   K (((mz_up s0 1016 0 ((s0 1016 0) + 1)) 1016 0) - 1) (mz_up s0 1016 0 ((s0 1016 0) + 1))) ∧
  ((s0 1016 0) = 10 →
   K (-1) s0))
set_option maxRecDepth 100000 in
set_option maxHeartbeats 4000000 in
theorem ms_Ref_block (l : Launch) (E : mz_En) (hI : mz_Inj E) (K : Int32 → mz_St → Prop) (s0 : mz_St) (h : mw_Ref_block K s0) : mz_Ci l E my_Ref_block mb_Ref_block 1 (some .int) (0) (0) [.ref (E.2.1 11)] s0 K := by
  refine mz_cti hI (by decide +kernel) (Nat.le_of_ble_eq_true rfl) (fun X C R => ?_)
  show mz_G E X 1 0 [(0, .ref (E.2.1 11))] [] s0
  unfold mw_Ref_block at h
  refine mr_aload_n C 0 md_Ref_block_0 rfl rfl ?_
  refine mr_get C 11 0 mc_Ref_cls ml_1013 rfl (by decide) (by decide) (fun _ => rfl) rfl md_Ref_block_1 ?_
  refine mr_bipush C md_Ref_block_4 mk_bipush_10 ?_
  refine mr_icmp_ne C md_Ref_block_6 rfl (fun hc => ?_) (fun hc => ?_)
  · replace h := h.1 hc
    refine mr_aload_n C 0 md_Ref_block_11 rfl rfl ?_
    refine mr_dup C md_Ref_block_12 rfl ?_
    refine mr_get C 11 0 mc_Ref_cls ml_1013 rfl (by decide) (by decide) (fun _ => rfl) rfl md_Ref_block_13 ?_
    refine mr_iconst C md_Ref_block_16 mk_iconst_1 ?_
    refine mr_iadd C md_Ref_block_17 ?_
    refine mr_put C (t0 := .int) 11 0 1016 mc_Ref_cls ml_1013 rfl (by decide) (by decide) (fun _ => rfl) rfl (by decide +kernel) rfl rfl (Nat.le_of_ble_eq_true rfl) (fun _ => rfl) (mp_1016 E _) md_Ref_block_18 ?_
    refine mr_aload_n C 0 md_Ref_block_21 rfl rfl ?_
    refine mr_get C 11 0 mc_Ref_cls ml_1013 rfl (by decide) (by decide) (fun _ => rfl) rfl md_Ref_block_22 ?_
    refine mr_iconst C md_Ref_block_25 mk_iconst_1 ?_
    refine mr_isub C md_Ref_block_26 ?_
    exact mr_iret C R h md_Ref_block_27
  replace h := h.2 hc
  refine mr_iconst C md_Ref_block_9 mk_iconst_m1 ?_
  exact mr_iret C R h md_Ref_block_10
def mw_Ref_isOp_69 (K : Int32 → mz_St → Prop) (a1 : Int32) (a2 : Int32) (a3 : Int32) (s69 : mz_St) : Prop :=
  mw_Ref_isTemp (fun r1 u1 =>
   ((r1 = 0 →
    K 0 u1) ∧
   (¬ r1 = 0 →
    mw_Ref_isTemp (fun r2 u2 =>
     ((r2 = 0 →
      K 0 u2) ∧
     (¬ r2 = 0 →
      ((¬ a3 = 0 →
       K 0 u2) ∧
      (a3 = 0 →
       K 1 u2))))) a2 u1))) a1 s69
/-- ValueMillModel.isOp(IIII)Z: what it does, as a transformer of what must hold behind it -/
def mw_Ref_isOp (K : Int32 → mz_St → Prop) (a0 : Int32) (a1 : Int32) (a2 : Int32) (a3 : Int32) (s0 : mz_St) : Prop :=
  (∀ P69 : mz_St → Prop, (∀ (s69 : mz_St), mw_Ref_isOp_69 K a1 a2 a3 s69 → P69 s69) →
  ((a0 = 0 →
   mw_Ref_isTemp (fun r3 u3 =>
    ((r3 = 0 →
     K 0 u3) ∧
    (¬ r3 = 0 →
     ((¬ a3 = 0 →
      K 0 u3) ∧
     (a3 = 0 →
      K 1 u3))))) a1 s0) ∧
  (¬ a0 = 0 →
  ((a0 = 1 →
   P69 s0) ∧
  (¬ a0 = 1 →
  ((a0 = 16 →
   P69 s0) ∧
  (¬ a0 = 16 →
  ((a0 = 17 →
   ((¬ a1 = 0 →
    K 0 s0) ∧
   (a1 = 0 →
    mw_Ref_isTemp (fun r4 u4 =>
     ((r4 = 0 →
      K 0 u4) ∧
     (¬ r4 = 0 →
      mw_Ref_isTemp (fun r5 u5 =>
       ((r5 = 0 →
        K 0 u5) ∧
       (¬ r5 = 0 →
        K 1 u5))) a3 u4))) a2 s0))) ∧
  (¬ a0 = 17 →
  ((a0 = 18 →
   mw_Ref_isTemp (fun r6 u6 =>
    ((r6 = 0 →
     K 0 u6) ∧
    (¬ r6 = 0 →
     mw_Ref_isTemp (fun r7 u7 =>
      ((r7 = 0 →
       K 0 u7) ∧
      (¬ r7 = 0 →
       ((a3 < 0 →
        K 0 u7) ∧
       (¬ a3 < 0 →
        ((9 < a3 →
         K 0 u7) ∧
        (¬ 9 < a3 →
         K 1 u7))))))) a2 u6))) a1 s0) ∧
  (¬ a0 = 18 →
  ((a0 ≤ 1 →
   K 0 s0) ∧
  (¬ a0 ≤ 1 →
   ((16 ≤ a0 →
    K 0 s0) ∧
   (¬ 16 ≤ a0 →
    mw_Ref_isTemp (fun r8 u8 =>
     ((r8 = 0 →
      K 0 u8) ∧
     (¬ r8 = 0 →
      mw_Ref_isTemp (fun r9 u9 =>
       ((r9 = 0 →
        K 0 u9) ∧
       (¬ r9 = 0 →
        mw_Ref_isTemp (fun r10 u10 =>
         ((r10 = 0 →
          K 0 u10) ∧
         (¬ r10 = 0 →
          K 1 u10))) a3 u9))) a2 u8))) a1 s0)))))))))))))))
set_option maxRecDepth 100000 in
set_option maxHeartbeats 4000000 in
theorem ms_Ref_isOp (l : Launch) (E : mz_En) (hI : mz_Inj E) (K : Int32 → mz_St → Prop) (a0 : Int32) (a1 : Int32) (a2 : Int32) (a3 : Int32) (s0 : mz_St) (h : mw_Ref_isOp K a0 a1 a2 a3 s0) : mz_Ci l E my_Ref_isOp mb_Ref_isOp 4 (some .boolean) (1) (20) [.int a0, .int a1, .int a2, .int a3] s0 K := by
  refine mz_cti hI (by decide +kernel) (Nat.le_of_ble_eq_true rfl) (fun X C R => ?_)
  show mz_G E X 4 0 [(0, .int a0), (1, .int a1), (2, .int a2), (3, .int a3)] [] s0
  unfold mw_Ref_isOp at h
  refine mr_iload_n C 0 md_Ref_isOp_0 rfl rfl ?_
  refine mj (h (fun (s69 : mz_St) => mz_G E X 4 69 [(1, .int a1), (2, .int a2), (3, .int a3)] [] s69) (fun s69 h => ?_)) (fun h => ?_)
  · unfold mw_Ref_isOp_69 at h
    refine mr_iload_n C 0 md_Ref_isOp_69 rfl rfl ?_
    refine mr_cSi C (As := [.int a1]) (rest := []) (ms_Ref_isTemp _ E hI _ a1 _ h) mo_Ref_isTemp mt_Ref_isTemp ml_1083 rfl rfl (Nat.le_of_ble_eq_true rfl) (Nat.le_of_ble_eq_true rfl) (Nat.le_of_ble_eq_true rfl) md_Ref_isOp_70 (fun r1 u1 h => ?_)
    refine mr_if_eq C md_Ref_isOp_73 rfl (fun hc => ?_) (fun hc => ?_)
    · replace h := h.1 hc
      refine mr_iconst C md_Ref_isOp_91 mk_iconst_0 ?_
      exact mr_zret C R mb_0 h md_Ref_isOp_92
    replace h := h.2 hc
    refine mr_iload_n C 1 md_Ref_isOp_76 rfl rfl ?_
    refine mr_cSi C (As := [.int a2]) (rest := []) (ms_Ref_isTemp _ E hI _ a2 _ h) mo_Ref_isTemp mt_Ref_isTemp ml_1083 rfl rfl (Nat.le_of_ble_eq_true rfl) (Nat.le_of_ble_eq_true rfl) (Nat.le_of_ble_eq_true rfl) md_Ref_isOp_77 (fun r2 u2 h => ?_)
    refine mr_if_eq C md_Ref_isOp_80 rfl (fun hc => ?_) (fun hc => ?_)
    · replace h := h.1 hc
      refine mr_iconst C md_Ref_isOp_91 mk_iconst_0 ?_
      exact mr_zret C R mb_0 h md_Ref_isOp_92
    replace h := h.2 hc
    refine mr_iload_n C 2 md_Ref_isOp_83 rfl rfl ?_
    refine mr_if_ne C md_Ref_isOp_84 rfl (fun hc => ?_) (fun hc => ?_)
    · replace h := h.1 hc
      refine mr_iconst C md_Ref_isOp_91 mk_iconst_0 ?_
      exact mr_zret C R mb_0 h md_Ref_isOp_92
    replace h := h.2 hc
    refine mr_iconst C md_Ref_isOp_87 mk_iconst_1 ?_
    refine mr_goto C md_Ref_isOp_88 rfl ?_
    exact mr_zret C R mb_1 h md_Ref_isOp_92
  by_cases hc0 : a0 = 0
  · replace h := h.1 hc0
    refine mr_look C (51) md_Ref_isOp_1 (by decide) (by rw [hc0]; decide) rfl ?_
    refine mr_iload_n C 1 md_Ref_isOp_52 rfl rfl ?_
    refine mr_cSi C (As := [.int a1]) (rest := []) (ms_Ref_isTemp _ E hI _ a1 _ h) mo_Ref_isTemp mt_Ref_isTemp ml_1083 rfl rfl (Nat.le_of_ble_eq_true rfl) (Nat.le_of_ble_eq_true rfl) (Nat.le_of_ble_eq_true rfl) md_Ref_isOp_53 (fun r3 u3 h => ?_)
    refine mr_if_eq C md_Ref_isOp_56 rfl (fun hc => ?_) (fun hc => ?_)
    · replace h := h.1 hc
      refine mr_iconst C md_Ref_isOp_67 mk_iconst_0 ?_
      exact mr_zret C R mb_0 h md_Ref_isOp_68
    replace h := h.2 hc
    refine mr_iload_n C 3 md_Ref_isOp_59 rfl rfl ?_
    refine mr_if_ne C md_Ref_isOp_60 rfl (fun hc => ?_) (fun hc => ?_)
    · replace h := h.1 hc
      refine mr_iconst C md_Ref_isOp_67 mk_iconst_0 ?_
      exact mr_zret C R mb_0 h md_Ref_isOp_68
    replace h := h.2 hc
    refine mr_iconst C md_Ref_isOp_63 mk_iconst_1 ?_
    refine mr_goto C md_Ref_isOp_64 rfl ?_
    exact mr_zret C R mb_1 h md_Ref_isOp_68
  replace h := h.2 hc0
  by_cases hc1 : a0 = 1
  · replace h := h.1 hc1
    refine mr_look C (68) md_Ref_isOp_1 (by decide) (by rw [hc1]; decide) rfl ?_
    refine mr_sub [1, 2, 3] rfl ?_
    exact h
  replace h := h.2 hc1
  by_cases hc16 : a0 = 16
  · replace h := h.1 hc16
    refine mr_look C (68) md_Ref_isOp_1 (by decide) (by rw [hc16]; decide) rfl ?_
    refine mr_sub [1, 2, 3] rfl ?_
    exact h
  replace h := h.2 hc16
  by_cases hc17 : a0 = 17
  · replace h := h.1 hc17
    refine mr_look C (92) md_Ref_isOp_1 (by decide) (by rw [hc17]; decide) rfl ?_
    refine mr_iload_n C 1 md_Ref_isOp_93 rfl rfl ?_
    refine mr_if_ne C md_Ref_isOp_94 rfl (fun hc => ?_) (fun hc => ?_)
    · replace h := h.1 hc
      refine mr_iconst C md_Ref_isOp_115 mk_iconst_0 ?_
      exact mr_zret C R mb_0 h md_Ref_isOp_116
    replace h := h.2 hc
    refine mr_iload_n C 2 md_Ref_isOp_97 rfl rfl ?_
    refine mr_cSi C (As := [.int a2]) (rest := []) (ms_Ref_isTemp _ E hI _ a2 _ h) mo_Ref_isTemp mt_Ref_isTemp ml_1083 rfl rfl (Nat.le_of_ble_eq_true rfl) (Nat.le_of_ble_eq_true rfl) (Nat.le_of_ble_eq_true rfl) md_Ref_isOp_98 (fun r4 u4 h => ?_)
    refine mr_if_eq C md_Ref_isOp_101 rfl (fun hc => ?_) (fun hc => ?_)
    · replace h := h.1 hc
      refine mr_iconst C md_Ref_isOp_115 mk_iconst_0 ?_
      exact mr_zret C R mb_0 h md_Ref_isOp_116
    replace h := h.2 hc
    refine mr_iload_n C 3 md_Ref_isOp_104 rfl rfl ?_
    refine mr_cSi C (As := [.int a3]) (rest := []) (ms_Ref_isTemp _ E hI _ a3 _ h) mo_Ref_isTemp mt_Ref_isTemp ml_1083 rfl rfl (Nat.le_of_ble_eq_true rfl) (Nat.le_of_ble_eq_true rfl) (Nat.le_of_ble_eq_true rfl) md_Ref_isOp_105 (fun r5 u5 h => ?_)
    refine mr_if_eq C md_Ref_isOp_108 rfl (fun hc => ?_) (fun hc => ?_)
    · replace h := h.1 hc
      refine mr_iconst C md_Ref_isOp_115 mk_iconst_0 ?_
      exact mr_zret C R mb_0 h md_Ref_isOp_116
    replace h := h.2 hc
    refine mr_iconst C md_Ref_isOp_111 mk_iconst_1 ?_
    refine mr_goto C md_Ref_isOp_112 rfl ?_
    exact mr_zret C R mb_1 h md_Ref_isOp_116
  replace h := h.2 hc17
  by_cases hc18 : a0 = 18
  · replace h := h.1 hc18
    refine mr_look C (116) md_Ref_isOp_1 (by decide) (by rw [hc18]; decide) rfl ?_
    refine mr_iload_n C 1 md_Ref_isOp_117 rfl rfl ?_
    refine mr_cSi C (As := [.int a1]) (rest := []) (ms_Ref_isTemp _ E hI _ a1 _ h) mo_Ref_isTemp mt_Ref_isTemp ml_1083 rfl rfl (Nat.le_of_ble_eq_true rfl) (Nat.le_of_ble_eq_true rfl) (Nat.le_of_ble_eq_true rfl) md_Ref_isOp_118 (fun r6 u6 h => ?_)
    refine mr_if_eq C md_Ref_isOp_121 rfl (fun hc => ?_) (fun hc => ?_)
    · replace h := h.1 hc
      refine mr_iconst C md_Ref_isOp_145 mk_iconst_0 ?_
      exact mr_zret C R mb_0 h md_Ref_isOp_146
    replace h := h.2 hc
    refine mr_iload_n C 2 md_Ref_isOp_124 rfl rfl ?_
    refine mr_cSi C (As := [.int a2]) (rest := []) (ms_Ref_isTemp _ E hI _ a2 _ h) mo_Ref_isTemp mt_Ref_isTemp ml_1083 rfl rfl (Nat.le_of_ble_eq_true rfl) (Nat.le_of_ble_eq_true rfl) (Nat.le_of_ble_eq_true rfl) md_Ref_isOp_125 (fun r7 u7 h => ?_)
    refine mr_if_eq C md_Ref_isOp_128 rfl (fun hc => ?_) (fun hc => ?_)
    · replace h := h.1 hc
      refine mr_iconst C md_Ref_isOp_145 mk_iconst_0 ?_
      exact mr_zret C R mb_0 h md_Ref_isOp_146
    replace h := h.2 hc
    refine mr_iload_n C 3 md_Ref_isOp_131 rfl rfl ?_
    refine mr_if_lt C md_Ref_isOp_132 rfl (fun hc => ?_) (fun hc => ?_)
    · replace h := h.1 hc
      refine mr_iconst C md_Ref_isOp_145 mk_iconst_0 ?_
      exact mr_zret C R mb_0 h md_Ref_isOp_146
    replace h := h.2 hc
    refine mr_iload_n C 3 md_Ref_isOp_135 rfl rfl ?_
    refine mr_bipush C md_Ref_isOp_136 mk_bipush_9 ?_
    refine mr_icmp_gt C md_Ref_isOp_138 rfl (fun hc => ?_) (fun hc => ?_)
    · replace h := h.1 hc
      refine mr_iconst C md_Ref_isOp_145 mk_iconst_0 ?_
      exact mr_zret C R mb_0 h md_Ref_isOp_146
    replace h := h.2 hc
    refine mr_iconst C md_Ref_isOp_141 mk_iconst_1 ?_
    refine mr_goto C md_Ref_isOp_142 rfl ?_
    exact mr_zret C R mb_1 h md_Ref_isOp_146
  replace h := h.2 hc18
  refine mr_look C (146) md_Ref_isOp_1 (by decide) (by
    rw [lv_osw hc0 (show (0 : Int32).toInt = 0 by decide), lv_osw hc1 (show (1 : Int32).toInt = 1 by decide), lv_osw hc16 (show (16 : Int32).toInt = 16 by decide), lv_osw hc17 (show (17 : Int32).toInt = 17 by decide), lv_osw hc18 (show (18 : Int32).toInt = 18 by decide)]
    rfl) rfl ?_
  refine mr_iload_n C 0 md_Ref_isOp_147 rfl rfl ?_
  refine mr_iconst C md_Ref_isOp_148 mk_iconst_1 ?_
  refine mr_icmp_le C md_Ref_isOp_149 rfl (fun hc => ?_) (fun hc => ?_)
  · replace h := h.1 hc
    refine mr_iconst C md_Ref_isOp_183 mk_iconst_0 ?_
    exact mr_zret C R mb_0 h md_Ref_isOp_184
  replace h := h.2 hc
  refine mr_iload_n C 0 md_Ref_isOp_152 rfl rfl ?_
  refine mr_bipush C md_Ref_isOp_153 mk_bipush_16 ?_
  refine mr_icmp_ge C md_Ref_isOp_155 rfl (fun hc => ?_) (fun hc => ?_)
  · replace h := h.1 hc
    refine mr_iconst C md_Ref_isOp_183 mk_iconst_0 ?_
    exact mr_zret C R mb_0 h md_Ref_isOp_184
  replace h := h.2 hc
  refine mr_iload_n C 1 md_Ref_isOp_158 rfl rfl ?_
  refine mr_cSi C (As := [.int a1]) (rest := []) (ms_Ref_isTemp _ E hI _ a1 _ h) mo_Ref_isTemp mt_Ref_isTemp ml_1083 rfl rfl (Nat.le_of_ble_eq_true rfl) (Nat.le_of_ble_eq_true rfl) (Nat.le_of_ble_eq_true rfl) md_Ref_isOp_159 (fun r8 u8 h => ?_)
  refine mr_if_eq C md_Ref_isOp_162 rfl (fun hc => ?_) (fun hc => ?_)
  · replace h := h.1 hc
    refine mr_iconst C md_Ref_isOp_183 mk_iconst_0 ?_
    exact mr_zret C R mb_0 h md_Ref_isOp_184
  replace h := h.2 hc
  refine mr_iload_n C 2 md_Ref_isOp_165 rfl rfl ?_
  refine mr_cSi C (As := [.int a2]) (rest := []) (ms_Ref_isTemp _ E hI _ a2 _ h) mo_Ref_isTemp mt_Ref_isTemp ml_1083 rfl rfl (Nat.le_of_ble_eq_true rfl) (Nat.le_of_ble_eq_true rfl) (Nat.le_of_ble_eq_true rfl) md_Ref_isOp_166 (fun r9 u9 h => ?_)
  refine mr_if_eq C md_Ref_isOp_169 rfl (fun hc => ?_) (fun hc => ?_)
  · replace h := h.1 hc
    refine mr_iconst C md_Ref_isOp_183 mk_iconst_0 ?_
    exact mr_zret C R mb_0 h md_Ref_isOp_184
  replace h := h.2 hc
  refine mr_iload_n C 3 md_Ref_isOp_172 rfl rfl ?_
  refine mr_cSi C (As := [.int a3]) (rest := []) (ms_Ref_isTemp _ E hI _ a3 _ h) mo_Ref_isTemp mt_Ref_isTemp ml_1083 rfl rfl (Nat.le_of_ble_eq_true rfl) (Nat.le_of_ble_eq_true rfl) (Nat.le_of_ble_eq_true rfl) md_Ref_isOp_173 (fun r10 u10 h => ?_)
  refine mr_if_eq C md_Ref_isOp_176 rfl (fun hc => ?_) (fun hc => ?_)
  · replace h := h.1 hc
    refine mr_iconst C md_Ref_isOp_183 mk_iconst_0 ?_
    exact mr_zret C R mb_0 h md_Ref_isOp_184
  replace h := h.2 hc
  refine mr_iconst C md_Ref_isOp_179 mk_iconst_1 ?_
  refine mr_goto C md_Ref_isOp_180 rfl ?_
  exact mr_zret C R mb_1 h md_Ref_isOp_184
/-- ValueMillModel.op(IIIII)Z: what it does, as a transformer of what must hold behind it -/
def mw_Ref_op (K : Int32 → mz_St → Prop) (a0 : Int32) (a1 : Int32) (a2 : Int32) (a3 : Int32) (a4 : Int32) (s0 : mz_St) : Prop :=
  mw_Ref_isBlock (fun r1 u1 =>
   ((r1 = 0 →
    K 0 u1) ∧
   (¬ r1 = 0 →
    vp_in a0 10 ∧
    (((mz_rd u1 60 a0) = 12 →
     K 0 u1) ∧
    (¬ (mz_rd u1 60 a0) = 12 →
     mw_Ref_isOp (fun r2 u2 =>
      ((¬ r2 = 0 →
       vp_in a0 10 ∧
       vp_in (((48 : Int32) * a0) + ((4 : Int32) * (mz_rd u2 60 a0))) 480 ∧
       vp_in ((((48 : Int32) * a0) + ((4 : Int32) * (mz_rd u2 60 a0))) + 1) 480 ∧
       vp_in ((((48 : Int32) * a0) + ((4 : Int32) * (mz_rd u2 60 a0))) + 2) 480 ∧
       vp_in ((((48 : Int32) * a0) + ((4 : Int32) * (mz_rd u2 60 a0))) + 3) 480 ∧
       vp_in a0 10 ∧
       vp_in a0 10 ∧
       K 1 (mz_wr (mz_wr (mz_wr (mz_wr (mz_wr u2 61 (((48 : Int32) * a0) + ((4 : Int32) * (mz_rd u2 60 a0))) a1) 61 ((((48 : Int32) * a0) + ((4 : Int32) * (mz_rd u2 60 a0))) + 1) a2) 61 ((((48 : Int32) * a0) + ((4 : Int32) * (mz_rd u2 60 a0))) + 2) a3) 61 ((((48 : Int32) * a0) + ((4 : Int32) * (mz_rd u2 60 a0))) + 3) a4) 60 a0 ((mz_rd (mz_wr (mz_wr (mz_wr (mz_wr u2 61 (((48 : Int32) * a0) + ((4 : Int32) * (mz_rd u2 60 a0))) a1) 61 ((((48 : Int32) * a0) + ((4 : Int32) * (mz_rd u2 60 a0))) + 1) a2) 61 ((((48 : Int32) * a0) + ((4 : Int32) * (mz_rd u2 60 a0))) + 2) a3) 61 ((((48 : Int32) * a0) + ((4 : Int32) * (mz_rd u2 60 a0))) + 3) a4) 60 a0) + 1))) ∧
      (r2 = 0 →
       K 0 u2))) a1 a2 a3 a4 u1))))) a0 s0
set_option maxRecDepth 100000 in
set_option maxHeartbeats 4000000 in
theorem ms_Ref_op (l : Launch) (E : mz_En) (hI : mz_Inj E) (K : Int32 → mz_St → Prop) (a0 : Int32) (a1 : Int32) (a2 : Int32) (a3 : Int32) (a4 : Int32) (s0 : mz_St) (h : mw_Ref_op K a0 a1 a2 a3 a4 s0) : mz_Ci l E my_Ref_op mb_Ref_op 7 (some .boolean) (2) (43) [.ref (E.2.1 11), .int a0, .int a1, .int a2, .int a3, .int a4] s0 K := by
  refine mz_cti hI (by decide +kernel) (Nat.le_of_ble_eq_true rfl) (fun X C R => ?_)
  show mz_G E X 7 0 [(0, .ref (E.2.1 11)), (1, .int a0), (2, .int a1), (3, .int a2), (4, .int a3), (5, .int a4)] [] s0
  unfold mw_Ref_op at h
  refine mr_aload_n C 0 md_Ref_op_0 rfl rfl ?_
  refine mr_iload_n C 1 md_Ref_op_1 rfl rfl ?_
  refine mr_cVi C (As := [.int a0]) (rest := []) 11 (ms_Ref_isBlock _ E hI _ a0 _ h) mo_Ref_isBlock mi_Ref_isBlock mc_Ref_cls ml_1076 (by decide) (fun _ => rfl) rfl rfl (Nat.le_of_ble_eq_true rfl) (Nat.le_of_ble_eq_true rfl) (Nat.le_of_ble_eq_true rfl) md_Ref_op_2 (fun r1 u1 h => ?_)
  refine mr_if_eq C md_Ref_op_5 rfl (fun hc => ?_) (fun hc => ?_)
  · replace h := h.1 hc
    refine mr_iconst C md_Ref_op_31 mk_iconst_0 ?_
    exact mr_zret C R mb_0 h md_Ref_op_32
  replace h := h.2 hc
  refine mr_aload_n C 0 md_Ref_op_8 rfl rfl ?_
  refine mr_get C 11 1 mc_Ref_cls ml_1014 rfl (by decide) (by decide) (fun _ => rfl) rfl md_Ref_op_9 ?_
  refine mr_iload_n C 1 md_Ref_op_12 rfl rfl ?_
  refine mr_iald C 60 10 (by decide) (fun _ => rfl) h.1 md_Ref_op_13 ?_
  replace h := h.2
  refine mr_bipush C md_Ref_op_14 mk_bipush_12 ?_
  refine mr_icmp_eq C md_Ref_op_16 rfl (fun hc => ?_) (fun hc => ?_)
  · replace h := h.1 hc
    refine mr_iconst C md_Ref_op_31 mk_iconst_0 ?_
    exact mr_zret C R mb_0 h md_Ref_op_32
  replace h := h.2 hc
  refine mr_iload_n C 2 md_Ref_op_19 rfl rfl ?_
  refine mr_iload_n C 3 md_Ref_op_20 rfl rfl ?_
  refine mr_iload C 4 md_Ref_op_21 rfl ?_
  refine mr_iload C 5 md_Ref_op_23 rfl ?_
  refine mr_cSi C (As := [.int a1, .int a2, .int a3, .int a4]) (rest := []) (ms_Ref_isOp _ E hI _ a1 a2 a3 a4 _ h) mo_Ref_isOp mt_Ref_isOp ml_1080 rfl rfl (Nat.le_of_ble_eq_true rfl) (Nat.le_of_ble_eq_true rfl) (Nat.le_of_ble_eq_true rfl) md_Ref_op_25 (fun r2 u2 h => ?_)
  refine mr_if_ne C md_Ref_op_28 rfl (fun hc => ?_) (fun hc => ?_)
  · replace h := h.1 hc
    refine mr_bipush C md_Ref_op_33 mk_bipush_48 ?_
    refine mr_iload_n C 1 md_Ref_op_35 rfl rfl ?_
    refine mr_imul C md_Ref_op_36 ?_
    refine mr_iconst C md_Ref_op_37 mk_iconst_4 ?_
    refine mr_aload_n C 0 md_Ref_op_38 rfl rfl ?_
    refine mr_get C 11 1 mc_Ref_cls ml_1014 rfl (by decide) (by decide) (fun _ => rfl) rfl md_Ref_op_39 ?_
    refine mr_iload_n C 1 md_Ref_op_42 rfl rfl ?_
    refine mr_iald C 60 10 (by decide) (fun _ => rfl) h.1 md_Ref_op_43 ?_
    replace h := h.2
    refine mr_imul C md_Ref_op_44 ?_
    refine mr_iadd C md_Ref_op_45 ?_
    refine mr_istore C (L' := [(6, .int (((48 : Int32) * a0) + ((4 : Int32) * (mz_rd u2 60 a0)))), (0, .ref (E.2.1 11)), (1, .int a0), (2, .int a1), (3, .int a2), (4, .int a3), (5, .int a4)]) md_Ref_op_46 (Nat.le_of_ble_eq_true rfl) rfl ?_
    refine mr_aload_n C 1 md_Ref_op_48 rfl rfl ?_
    refine mr_get C 11 2 mc_Ref_cls ml_1015 rfl (by decide) (by decide) (fun _ => rfl) rfl md_Ref_op_49 ?_
    refine mr_iload C 0 md_Ref_op_52 rfl ?_
    refine mr_iload_n C 3 md_Ref_op_54 rfl rfl ?_
    refine mr_iast C 61 480 (by decide) (by decide) (fun _ _ => rfl) h.1 md_Ref_op_55 ?_
    replace h := h.2
    refine mr_aload_n C 1 md_Ref_op_56 rfl rfl ?_
    refine mr_get C 11 2 mc_Ref_cls ml_1015 rfl (by decide) (by decide) (fun _ => rfl) rfl md_Ref_op_57 ?_
    refine mr_iload C 0 md_Ref_op_60 rfl ?_
    refine mr_iconst C md_Ref_op_62 mk_iconst_1 ?_
    refine mr_iadd C md_Ref_op_63 ?_
    refine mr_iload_n C 4 md_Ref_op_64 rfl rfl ?_
    refine mr_iast C 61 480 (by decide) (by decide) (fun _ _ => rfl) h.1 md_Ref_op_65 ?_
    replace h := h.2
    refine mr_aload_n C 1 md_Ref_op_66 rfl rfl ?_
    refine mr_get C 11 2 mc_Ref_cls ml_1015 rfl (by decide) (by decide) (fun _ => rfl) rfl md_Ref_op_67 ?_
    refine mr_iload C 0 md_Ref_op_70 rfl ?_
    refine mr_iconst C md_Ref_op_72 mk_iconst_2 ?_
    refine mr_iadd C md_Ref_op_73 ?_
    refine mr_iload C 5 md_Ref_op_74 rfl ?_
    refine mr_iast C 61 480 (by decide) (by decide) (fun _ _ => rfl) h.1 md_Ref_op_76 ?_
    replace h := h.2
    refine mr_aload_n C 1 md_Ref_op_77 rfl rfl ?_
    refine mr_get C 11 2 mc_Ref_cls ml_1015 rfl (by decide) (by decide) (fun _ => rfl) rfl md_Ref_op_78 ?_
    refine mr_iload C 0 md_Ref_op_81 rfl ?_
    refine mr_iconst C md_Ref_op_83 mk_iconst_3 ?_
    refine mr_iadd C md_Ref_op_84 ?_
    refine mr_iload C 6 md_Ref_op_85 rfl ?_
    refine mr_iast C 61 480 (by decide) (by decide) (fun _ _ => rfl) h.1 md_Ref_op_87 ?_
    replace h := h.2
    refine mr_aload_n C 1 md_Ref_op_88 rfl rfl ?_
    refine mr_get C 11 1 mc_Ref_cls ml_1014 rfl (by decide) (by decide) (fun _ => rfl) rfl md_Ref_op_89 ?_
    refine mr_iload_n C 2 md_Ref_op_92 rfl rfl ?_
    refine mr_dup2 C md_Ref_op_93 rfl rfl ?_
    refine mr_iald C 60 10 (by decide) (fun _ => rfl) h.1 md_Ref_op_94 ?_
    replace h := h.2
    refine mr_iconst C md_Ref_op_95 mk_iconst_1 ?_
    refine mr_iadd C md_Ref_op_96 ?_
    refine mr_iast C 60 10 (by decide) (by decide) (fun _ _ => rfl) h.1 md_Ref_op_97 ?_
    replace h := h.2
    refine mr_iconst C md_Ref_op_98 mk_iconst_1 ?_
    exact mr_zret C R mb_1 h md_Ref_op_99
  replace h := h.2 hc
  refine mr_iconst C md_Ref_op_31 mk_iconst_0 ?_
  exact mr_zret C R mb_0 h md_Ref_op_32
/-- ValueMillModel.jump(II)Z: what it does, as a transformer of what must hold behind it -/
def mw_Ref_jump (K : Int32 → mz_St → Prop) (a0 : Int32) (a1 : Int32) (s0 : mz_St) : Prop :=
  mw_Ref_isBlock (fun r1 u1 =>
   ((r1 = 0 →
    K 0 u1) ∧
   (¬ r1 = 0 →
    mw_Ref_isBlock (fun r2 u2 =>
     ((¬ r2 = 0 →
      vp_in a0 10 ∧
      vp_in a0 10 ∧
      K 1 (mz_wr (mz_wr u2 62 a0 1) 64 a0 a1)) ∧
     (r2 = 0 →
      K 0 u2))) a1 u1))) a0 s0
set_option maxRecDepth 100000 in
set_option maxHeartbeats 4000000 in
theorem ms_Ref_jump (l : Launch) (E : mz_En) (hI : mz_Inj E) (K : Int32 → mz_St → Prop) (a0 : Int32) (a1 : Int32) (s0 : mz_St) (h : mw_Ref_jump K a0 a1 s0) : mz_Ci l E my_Ref_jump mb_Ref_jump 3 (some .boolean) (1) (21) [.ref (E.2.1 11), .int a0, .int a1] s0 K := by
  refine mz_cti hI (by decide +kernel) (Nat.le_of_ble_eq_true rfl) (fun X C R => ?_)
  show mz_G E X 3 0 [(0, .ref (E.2.1 11)), (1, .int a0), (2, .int a1)] [] s0
  unfold mw_Ref_jump at h
  refine mr_aload_n C 0 md_Ref_jump_0 rfl rfl ?_
  refine mr_iload_n C 1 md_Ref_jump_1 rfl rfl ?_
  refine mr_cVi C (As := [.int a0]) (rest := []) 11 (ms_Ref_isBlock _ E hI _ a0 _ h) mo_Ref_isBlock mi_Ref_isBlock mc_Ref_cls ml_1076 (by decide) (fun _ => rfl) rfl rfl (Nat.le_of_ble_eq_true rfl) (Nat.le_of_ble_eq_true rfl) (Nat.le_of_ble_eq_true rfl) md_Ref_jump_2 (fun r1 u1 h => ?_)
  refine mr_if_eq C md_Ref_jump_5 rfl (fun hc => ?_) (fun hc => ?_)
  · replace h := h.1 hc
    refine mr_iconst C md_Ref_jump_16 mk_iconst_0 ?_
    exact mr_zret C R mb_0 h md_Ref_jump_17
  replace h := h.2 hc
  refine mr_aload_n C 0 md_Ref_jump_8 rfl rfl ?_
  refine mr_iload_n C 2 md_Ref_jump_9 rfl rfl ?_
  refine mr_cVi C (As := [.int a1]) (rest := []) 11 (ms_Ref_isBlock _ E hI _ a1 _ h) mo_Ref_isBlock mi_Ref_isBlock mc_Ref_cls ml_1076 (by decide) (fun _ => rfl) rfl rfl (Nat.le_of_ble_eq_true rfl) (Nat.le_of_ble_eq_true rfl) (Nat.le_of_ble_eq_true rfl) md_Ref_jump_10 (fun r2 u2 h => ?_)
  refine mr_if_ne C md_Ref_jump_13 rfl (fun hc => ?_) (fun hc => ?_)
  · replace h := h.1 hc
    refine mr_aload_n C 0 md_Ref_jump_18 rfl rfl ?_
    refine mr_get C 11 3 mc_Ref_cls ml_1016 rfl (by decide) (by decide) (fun _ => rfl) rfl md_Ref_jump_19 ?_
    refine mr_iload_n C 1 md_Ref_jump_22 rfl rfl ?_
    refine mr_iconst C md_Ref_jump_23 mk_iconst_1 ?_
    refine mr_iast C 62 10 (by decide) (by decide) (fun _ _ => rfl) h.1 md_Ref_jump_24 ?_
    replace h := h.2
    refine mr_aload_n C 0 md_Ref_jump_25 rfl rfl ?_
    refine mr_get C 11 5 mc_Ref_cls ml_1018 rfl (by decide) (by decide) (fun _ => rfl) rfl md_Ref_jump_26 ?_
    refine mr_iload_n C 1 md_Ref_jump_29 rfl rfl ?_
    refine mr_iload_n C 2 md_Ref_jump_30 rfl rfl ?_
    refine mr_iast C 64 10 (by decide) (by decide) (fun _ _ => rfl) h.1 md_Ref_jump_31 ?_
    replace h := h.2
    refine mr_iconst C md_Ref_jump_32 mk_iconst_1 ?_
    exact mr_zret C R mb_1 h md_Ref_jump_33
  replace h := h.2 hc
  refine mr_iconst C md_Ref_jump_16 mk_iconst_0 ?_
  exact mr_zret C R mb_0 h md_Ref_jump_17
/-- ValueMillModel.branch(IIII)Z: what it does, as a transformer of what must hold behind it -/
def mw_Ref_branch (K : Int32 → mz_St → Prop) (a0 : Int32) (a1 : Int32) (a2 : Int32) (a3 : Int32) (s0 : mz_St) : Prop :=
  mw_Ref_isBlock (fun r1 u1 =>
   ((r1 = 0 →
    K 0 u1) ∧
   (¬ r1 = 0 →
    mw_Ref_isTemp (fun r2 u2 =>
     ((r2 = 0 →
      K 0 u2) ∧
     (¬ r2 = 0 →
      mw_Ref_isBlock (fun r3 u3 =>
       ((r3 = 0 →
        K 0 u3) ∧
       (¬ r3 = 0 →
        mw_Ref_isBlock (fun r4 u4 =>
         ((¬ r4 = 0 →
          vp_in a0 10 ∧
          vp_in a0 10 ∧
          vp_in a0 10 ∧
          vp_in a0 10 ∧
          K 1 (mz_wr (mz_wr (mz_wr (mz_wr u4 62 a0 2) 63 a0 a1) 64 a0 a2) 65 a0 a3)) ∧
         (r4 = 0 →
          K 0 u4))) a3 u3))) a2 u2))) a1 u1))) a0 s0
set_option maxRecDepth 100000 in
set_option maxHeartbeats 4000000 in
theorem ms_Ref_branch (l : Launch) (E : mz_En) (hI : mz_Inj E) (K : Int32 → mz_St → Prop) (a0 : Int32) (a1 : Int32) (a2 : Int32) (a3 : Int32) (s0 : mz_St) (h : mw_Ref_branch K a0 a1 a2 a3 s0) : mz_Ci l E my_Ref_branch mb_Ref_branch 5 (some .boolean) (1) (21) [.ref (E.2.1 11), .int a0, .int a1, .int a2, .int a3] s0 K := by
  refine mz_cti hI (by decide +kernel) (Nat.le_of_ble_eq_true rfl) (fun X C R => ?_)
  show mz_G E X 5 0 [(0, .ref (E.2.1 11)), (1, .int a0), (2, .int a1), (3, .int a2), (4, .int a3)] [] s0
  unfold mw_Ref_branch at h
  refine mr_aload_n C 0 md_Ref_branch_0 rfl rfl ?_
  refine mr_iload_n C 1 md_Ref_branch_1 rfl rfl ?_
  refine mr_cVi C (As := [.int a0]) (rest := []) 11 (ms_Ref_isBlock _ E hI _ a0 _ h) mo_Ref_isBlock mi_Ref_isBlock mc_Ref_cls ml_1076 (by decide) (fun _ => rfl) rfl rfl (Nat.le_of_ble_eq_true rfl) (Nat.le_of_ble_eq_true rfl) (Nat.le_of_ble_eq_true rfl) md_Ref_branch_2 (fun r1 u1 h => ?_)
  refine mr_if_eq C md_Ref_branch_5 rfl (fun hc => ?_) (fun hc => ?_)
  · replace h := h.1 hc
    refine mr_iconst C md_Ref_branch_32 mk_iconst_0 ?_
    exact mr_zret C R mb_0 h md_Ref_branch_33
  replace h := h.2 hc
  refine mr_iload_n C 2 md_Ref_branch_8 rfl rfl ?_
  refine mr_cSi C (As := [.int a1]) (rest := []) (ms_Ref_isTemp _ E hI _ a1 _ h) mo_Ref_isTemp mt_Ref_isTemp ml_1083 rfl rfl (Nat.le_of_ble_eq_true rfl) (Nat.le_of_ble_eq_true rfl) (Nat.le_of_ble_eq_true rfl) md_Ref_branch_9 (fun r2 u2 h => ?_)
  refine mr_if_eq C md_Ref_branch_12 rfl (fun hc => ?_) (fun hc => ?_)
  · replace h := h.1 hc
    refine mr_iconst C md_Ref_branch_32 mk_iconst_0 ?_
    exact mr_zret C R mb_0 h md_Ref_branch_33
  replace h := h.2 hc
  refine mr_aload_n C 0 md_Ref_branch_15 rfl rfl ?_
  refine mr_iload_n C 3 md_Ref_branch_16 rfl rfl ?_
  refine mr_cVi C (As := [.int a2]) (rest := []) 11 (ms_Ref_isBlock _ E hI _ a2 _ h) mo_Ref_isBlock mi_Ref_isBlock mc_Ref_cls ml_1076 (by decide) (fun _ => rfl) rfl rfl (Nat.le_of_ble_eq_true rfl) (Nat.le_of_ble_eq_true rfl) (Nat.le_of_ble_eq_true rfl) md_Ref_branch_17 (fun r3 u3 h => ?_)
  refine mr_if_eq C md_Ref_branch_20 rfl (fun hc => ?_) (fun hc => ?_)
  · replace h := h.1 hc
    refine mr_iconst C md_Ref_branch_32 mk_iconst_0 ?_
    exact mr_zret C R mb_0 h md_Ref_branch_33
  replace h := h.2 hc
  refine mr_aload_n C 0 md_Ref_branch_23 rfl rfl ?_
  refine mr_iload C 4 md_Ref_branch_24 rfl ?_
  refine mr_cVi C (As := [.int a3]) (rest := []) 11 (ms_Ref_isBlock _ E hI _ a3 _ h) mo_Ref_isBlock mi_Ref_isBlock mc_Ref_cls ml_1076 (by decide) (fun _ => rfl) rfl rfl (Nat.le_of_ble_eq_true rfl) (Nat.le_of_ble_eq_true rfl) (Nat.le_of_ble_eq_true rfl) md_Ref_branch_26 (fun r4 u4 h => ?_)
  refine mr_if_ne C md_Ref_branch_29 rfl (fun hc => ?_) (fun hc => ?_)
  · replace h := h.1 hc
    refine mr_aload_n C 0 md_Ref_branch_34 rfl rfl ?_
    refine mr_get C 11 3 mc_Ref_cls ml_1016 rfl (by decide) (by decide) (fun _ => rfl) rfl md_Ref_branch_35 ?_
    refine mr_iload_n C 1 md_Ref_branch_38 rfl rfl ?_
    refine mr_iconst C md_Ref_branch_39 mk_iconst_2 ?_
    refine mr_iast C 62 10 (by decide) (by decide) (fun _ _ => rfl) h.1 md_Ref_branch_40 ?_
    replace h := h.2
    refine mr_aload_n C 0 md_Ref_branch_41 rfl rfl ?_
    refine mr_get C 11 4 mc_Ref_cls ml_1017 rfl (by decide) (by decide) (fun _ => rfl) rfl md_Ref_branch_42 ?_
    refine mr_iload_n C 1 md_Ref_branch_45 rfl rfl ?_
    refine mr_iload_n C 2 md_Ref_branch_46 rfl rfl ?_
    refine mr_iast C 63 10 (by decide) (by decide) (fun _ _ => rfl) h.1 md_Ref_branch_47 ?_
    replace h := h.2
    refine mr_aload_n C 0 md_Ref_branch_48 rfl rfl ?_
    refine mr_get C 11 5 mc_Ref_cls ml_1018 rfl (by decide) (by decide) (fun _ => rfl) rfl md_Ref_branch_49 ?_
    refine mr_iload_n C 1 md_Ref_branch_52 rfl rfl ?_
    refine mr_iload_n C 3 md_Ref_branch_53 rfl rfl ?_
    refine mr_iast C 64 10 (by decide) (by decide) (fun _ _ => rfl) h.1 md_Ref_branch_54 ?_
    replace h := h.2
    refine mr_aload_n C 0 md_Ref_branch_55 rfl rfl ?_
    refine mr_get C 11 6 mc_Ref_cls ml_1019 rfl (by decide) (by decide) (fun _ => rfl) rfl md_Ref_branch_56 ?_
    refine mr_iload_n C 1 md_Ref_branch_59 rfl rfl ?_
    refine mr_iload C 4 md_Ref_branch_60 rfl ?_
    refine mr_iast C 65 10 (by decide) (by decide) (fun _ _ => rfl) h.1 md_Ref_branch_62 ?_
    replace h := h.2
    refine mr_iconst C md_Ref_branch_63 mk_iconst_1 ?_
    exact mr_zret C R mb_1 h md_Ref_branch_64
  replace h := h.2 hc
  refine mr_iconst C md_Ref_branch_32 mk_iconst_0 ?_
  exact mr_zret C R mb_0 h md_Ref_branch_33
/-- ValueMillModel.ret(II)Z: what it does, as a transformer of what must hold behind it -/
def mw_Ref_ret (K : Int32 → mz_St → Prop) (a0 : Int32) (a1 : Int32) (s0 : mz_St) : Prop :=
  mw_Ref_isBlock (fun r1 u1 =>
   ((r1 = 0 →
    K 0 u1) ∧
   (¬ r1 = 0 →
    mw_Ref_isTemp (fun r2 u2 =>
     ((¬ r2 = 0 →
      vp_in a0 10 ∧
      vp_in a0 10 ∧
      K 1 (mz_wr (mz_wr u2 62 a0 0) 63 a0 a1)) ∧
     (r2 = 0 →
      K 0 u2))) a1 u1))) a0 s0
set_option maxRecDepth 100000 in
set_option maxHeartbeats 4000000 in
theorem ms_Ref_ret (l : Launch) (E : mz_En) (hI : mz_Inj E) (K : Int32 → mz_St → Prop) (a0 : Int32) (a1 : Int32) (s0 : mz_St) (h : mw_Ref_ret K a0 a1 s0) : mz_Ci l E my_Ref_ret mb_Ref_ret 3 (some .boolean) (1) (21) [.ref (E.2.1 11), .int a0, .int a1] s0 K := by
  refine mz_cti hI (by decide +kernel) (Nat.le_of_ble_eq_true rfl) (fun X C R => ?_)
  show mz_G E X 3 0 [(0, .ref (E.2.1 11)), (1, .int a0), (2, .int a1)] [] s0
  unfold mw_Ref_ret at h
  refine mr_aload_n C 0 md_Ref_ret_0 rfl rfl ?_
  refine mr_iload_n C 1 md_Ref_ret_1 rfl rfl ?_
  refine mr_cVi C (As := [.int a0]) (rest := []) 11 (ms_Ref_isBlock _ E hI _ a0 _ h) mo_Ref_isBlock mi_Ref_isBlock mc_Ref_cls ml_1076 (by decide) (fun _ => rfl) rfl rfl (Nat.le_of_ble_eq_true rfl) (Nat.le_of_ble_eq_true rfl) (Nat.le_of_ble_eq_true rfl) md_Ref_ret_2 (fun r1 u1 h => ?_)
  refine mr_if_eq C md_Ref_ret_5 rfl (fun hc => ?_) (fun hc => ?_)
  · replace h := h.1 hc
    refine mr_iconst C md_Ref_ret_15 mk_iconst_0 ?_
    exact mr_zret C R mb_0 h md_Ref_ret_16
  replace h := h.2 hc
  refine mr_iload_n C 2 md_Ref_ret_8 rfl rfl ?_
  refine mr_cSi C (As := [.int a1]) (rest := []) (ms_Ref_isTemp _ E hI _ a1 _ h) mo_Ref_isTemp mt_Ref_isTemp ml_1083 rfl rfl (Nat.le_of_ble_eq_true rfl) (Nat.le_of_ble_eq_true rfl) (Nat.le_of_ble_eq_true rfl) md_Ref_ret_9 (fun r2 u2 h => ?_)
  refine mr_if_ne C md_Ref_ret_12 rfl (fun hc => ?_) (fun hc => ?_)
  · replace h := h.1 hc
    refine mr_aload_n C 0 md_Ref_ret_17 rfl rfl ?_
    refine mr_get C 11 3 mc_Ref_cls ml_1016 rfl (by decide) (by decide) (fun _ => rfl) rfl md_Ref_ret_18 ?_
    refine mr_iload_n C 1 md_Ref_ret_21 rfl rfl ?_
    refine mr_iconst C md_Ref_ret_22 mk_iconst_0 ?_
    refine mr_iast C 62 10 (by decide) (by decide) (fun _ _ => rfl) h.1 md_Ref_ret_23 ?_
    replace h := h.2
    refine mr_aload_n C 0 md_Ref_ret_24 rfl rfl ?_
    refine mr_get C 11 4 mc_Ref_cls ml_1017 rfl (by decide) (by decide) (fun _ => rfl) rfl md_Ref_ret_25 ?_
    refine mr_iload_n C 1 md_Ref_ret_28 rfl rfl ?_
    refine mr_iload_n C 2 md_Ref_ret_29 rfl rfl ?_
    refine mr_iast C 63 10 (by decide) (by decide) (fun _ _ => rfl) h.1 md_Ref_ret_30 ?_
    replace h := h.2
    refine mr_iconst C md_Ref_ret_31 mk_iconst_1 ?_
    exact mr_zret C R mb_1 h md_Ref_ret_32
  replace h := h.2 hc
  refine mr_iconst C md_Ref_ret_15 mk_iconst_0 ?_
  exact mr_zret C R mb_0 h md_Ref_ret_16
/-- ValueMillModel.memory(II)Z: what it does, as a transformer of what must hold behind it -/
def mw_Ref_memory (K : Int32 → mz_St → Prop) (a0 : Int32) (a1 : Int32) (s0 : mz_St) : Prop :=
  ((a0 < 0 →
   K 0 s0) ∧
  (¬ a0 < 0 →
   ((a0 < 32 →
    vp_in a0 32 ∧
    K 1 (mz_wr s0 66 a0 a1)) ∧
   (¬ a0 < 32 →
    K 0 s0))))
set_option maxRecDepth 100000 in
set_option maxHeartbeats 4000000 in
theorem ms_Ref_memory (l : Launch) (E : mz_En) (hI : mz_Inj E) (K : Int32 → mz_St → Prop) (a0 : Int32) (a1 : Int32) (s0 : mz_St) (h : mw_Ref_memory K a0 a1 s0) : mz_Ci l E my_Ref_memory mb_Ref_memory 3 (some .boolean) (0) (0) [.ref (E.2.1 11), .int a0, .int a1] s0 K := by
  refine mz_cti hI (by decide +kernel) (Nat.le_of_ble_eq_true rfl) (fun X C R => ?_)
  show mz_G E X 3 0 [(0, .ref (E.2.1 11)), (1, .int a0), (2, .int a1)] [] s0
  unfold mw_Ref_memory at h
  refine mr_iload_n C 1 md_Ref_memory_0 rfl rfl ?_
  refine mr_if_lt C md_Ref_memory_1 rfl (fun hc => ?_) (fun hc => ?_)
  · replace h := h.1 hc
    refine mr_iconst C md_Ref_memory_10 mk_iconst_0 ?_
    exact mr_zret C R mb_0 h md_Ref_memory_11
  replace h := h.2 hc
  refine mr_iload_n C 1 md_Ref_memory_4 rfl rfl ?_
  refine mr_bipush C md_Ref_memory_5 mk_bipush_32 ?_
  refine mr_icmp_lt C md_Ref_memory_7 rfl (fun hc => ?_) (fun hc => ?_)
  · replace h := h.1 hc
    refine mr_aload_n C 0 md_Ref_memory_12 rfl rfl ?_
    refine mr_get C 11 7 mc_Ref_cls ml_1020 rfl (by decide) (by decide) (fun _ => rfl) rfl md_Ref_memory_13 ?_
    refine mr_iload_n C 1 md_Ref_memory_16 rfl rfl ?_
    refine mr_iload_n C 2 md_Ref_memory_17 rfl rfl ?_
    refine mr_iast C 66 32 (by decide) (by decide) (fun _ _ => rfl) h.1 md_Ref_memory_18 ?_
    replace h := h.2
    refine mr_iconst C md_Ref_memory_19 mk_iconst_1 ?_
    exact mr_zret C R mb_1 h md_Ref_memory_20
  replace h := h.2 hc
  refine mr_iconst C md_Ref_memory_10 mk_iconst_0 ?_
  exact mr_zret C R mb_0 h md_Ref_memory_11
/-- ValueMillModel.isWord(I)Z: what it does, as a transformer of what must hold behind it -/
def mw_Ref_isWord (K : Int32 → mz_St → Prop) (a0 : Int32) (s0 : mz_St) : Prop :=
  ((a0 < 0 →
   K 0 s0) ∧
  (¬ a0 < 0 →
   ((32 ≤ a0 →
    K 0 s0) ∧
   (¬ 32 ≤ a0 →
    K 1 s0))))
set_option maxRecDepth 100000 in
set_option maxHeartbeats 4000000 in
theorem ms_Ref_isWord (l : Launch) (E : mz_En) (hI : mz_Inj E) (K : Int32 → mz_St → Prop) (a0 : Int32) (s0 : mz_St) (h : mw_Ref_isWord K a0 s0) : mz_Ci l E my_Ref_isWord mb_Ref_isWord 1 (some .boolean) (0) (0) [.int a0] s0 K := by
  refine mz_cti hI (by decide +kernel) (Nat.le_of_ble_eq_true rfl) (fun X C R => ?_)
  show mz_G E X 1 0 [(0, .int a0)] [] s0
  unfold mw_Ref_isWord at h
  refine mr_iload_n C 0 md_Ref_isWord_0 rfl rfl ?_
  refine mr_if_lt C md_Ref_isWord_1 rfl (fun hc => ?_) (fun hc => ?_)
  · replace h := h.1 hc
    refine mr_iconst C md_Ref_isWord_14 mk_iconst_0 ?_
    exact mr_zret C R mb_0 h md_Ref_isWord_15
  replace h := h.2 hc
  refine mr_iload_n C 0 md_Ref_isWord_4 rfl rfl ?_
  refine mr_bipush C md_Ref_isWord_5 mk_bipush_32 ?_
  refine mr_icmp_ge C md_Ref_isWord_7 rfl (fun hc => ?_) (fun hc => ?_)
  · replace h := h.1 hc
    refine mr_iconst C md_Ref_isWord_14 mk_iconst_0 ?_
    exact mr_zret C R mb_0 h md_Ref_isWord_15
  replace h := h.2 hc
  refine mr_iconst C md_Ref_isWord_10 mk_iconst_1 ?_
  refine mr_goto C md_Ref_isWord_11 rfl ?_
  exact mr_zret C R mb_1 h md_Ref_isWord_15
def mw_Ref_call3_67 (K : mz_St → Prop) (a0 : Int32) (a1 : Int32) (a2 : Int32) (s0 : mz_St) (s67 : mz_St) : Prop :=
  vp_in a0 10 ∧
  K (mz_wr (mz_up s67 1020 0 ((s67 1020 0) + 1)) 68 a0 (((a1 * 31) + a2) + ((7 : Int32) * (s0 1020 0))))
/-- ValueMillModel.call(III)V: what it does, as a transformer of what must hold behind it -/
def mw_Ref_call3 (K : mz_St → Prop) (a0 : Int32) (a1 : Int32) (a2 : Int32) (s0 : mz_St) : Prop :=
  (∀ P67 : mz_St → Prop, (∀ (s67 : mz_St), mw_Ref_call3_67 K a0 a1 a2 s0 s67 → P67 s67) →
  ((200 ≤ (s0 1020 0) →
   P67 s0) ∧
  (¬ 200 ≤ (s0 1020 0) →
   vp_in ((3 : Int32) * (s0 1020 0)) 600 ∧
   vp_in (((3 : Int32) * ((mz_wr s0 69 ((3 : Int32) * (s0 1020 0)) a2) 1020 0)) + 1) 600 ∧
   vp_in (((3 : Int32) * ((mz_wr (mz_wr s0 69 ((3 : Int32) * (s0 1020 0)) a2) 69 (((3 : Int32) * ((mz_wr s0 69 ((3 : Int32) * (s0 1020 0)) a2) 1020 0)) + 1) a1) 1020 0)) + 2) 600 ∧
   P67 (mz_wr (mz_wr (mz_wr s0 69 ((3 : Int32) * (s0 1020 0)) a2) 69 (((3 : Int32) * ((mz_wr s0 69 ((3 : Int32) * (s0 1020 0)) a2) 1020 0)) + 1) a1) 69 (((3 : Int32) * ((mz_wr (mz_wr s0 69 ((3 : Int32) * (s0 1020 0)) a2) 69 (((3 : Int32) * ((mz_wr s0 69 ((3 : Int32) * (s0 1020 0)) a2) 1020 0)) + 1) a1) 1020 0)) + 2) (((a1 * 31) + a2) + ((7 : Int32) * (s0 1020 0)))))))
set_option maxRecDepth 100000 in
set_option maxHeartbeats 4000000 in
theorem ms_Ref_call3 (l : Launch) (E : mz_En) (hI : mz_Inj E) (K : mz_St → Prop) (a0 : Int32) (a1 : Int32) (a2 : Int32) (s0 : mz_St) (h : mw_Ref_call3 K a0 a1 a2 s0) : mz_Cv l E my_Ref_call3 mb_Ref_call3 5 (0) (0) [.ref (E.2.1 11), .int a0, .int a1, .int a2] s0 K := by
  refine mz_ctv hI (by decide +kernel) (Nat.le_of_ble_eq_true rfl) (fun X C R => ?_)
  show mz_G E X 5 0 [(0, .ref (E.2.1 11)), (1, .int a0), (2, .int a1), (3, .int a2)] [] s0
  unfold mw_Ref_call3 at h
  refine mr_iload_n C 2 md_Ref_call3_0 rfl rfl ?_
  refine mr_bipush C md_Ref_call3_1 mk_bipush_31 ?_
  refine mr_imul C md_Ref_call3_3 ?_
  refine mr_iload_n C 3 md_Ref_call3_4 rfl rfl ?_
  refine mr_iadd C md_Ref_call3_5 ?_
  refine mr_bipush C md_Ref_call3_6 mk_bipush_7 ?_
  refine mr_aload_n C 0 md_Ref_call3_8 rfl rfl ?_
  refine mr_get C 11 13 mc_Ref_cls ml_1026 rfl (by decide) (by decide) (fun _ => rfl) rfl md_Ref_call3_9 ?_
  refine mr_imul C md_Ref_call3_12 ?_
  refine mr_iadd C md_Ref_call3_13 ?_
  refine mr_istore C (L' := [(4, .int (((a1 * 31) + a2) + ((7 : Int32) * (s0 1020 0)))), (0, .ref (E.2.1 11)), (1, .int a0), (2, .int a1), (3, .int a2)]) md_Ref_call3_14 (Nat.le_of_ble_eq_true rfl) rfl ?_
  refine mr_aload_n C 1 md_Ref_call3_16 rfl rfl ?_
  refine mr_get C 11 13 mc_Ref_cls ml_1026 rfl (by decide) (by decide) (fun _ => rfl) rfl md_Ref_call3_17 ?_
  refine mr_sipush C md_Ref_call3_20 mk_sipush_200 ?_
  refine mj (h (fun (s67 : mz_St) => mz_G E X 5 67 [(0, .ref (E.2.1 11)), (1, .int a0), (4, .int (((a1 * 31) + a2) + ((7 : Int32) * (s0 1020 0))))] [] s67) (fun s67 h => ?_)) (fun h => ?_)
  · unfold mw_Ref_call3_67 at h
    refine mr_aload_n C 0 md_Ref_call3_67 rfl rfl ?_
    refine mr_dup C md_Ref_call3_68 rfl ?_
    refine mr_get C 11 13 mc_Ref_cls ml_1026 rfl (by decide) (by decide) (fun _ => rfl) rfl md_Ref_call3_69 ?_
    refine mr_iconst C md_Ref_call3_72 mk_iconst_1 ?_
    refine mr_iadd C md_Ref_call3_73 ?_
    refine mr_put C (t0 := .int) 11 13 1020 mc_Ref_cls ml_1026 rfl (by decide) (by decide) (fun _ => rfl) rfl (by decide +kernel) rfl rfl (Nat.le_of_ble_eq_true rfl) (fun _ => rfl) (mp_1020 E _) md_Ref_call3_74 ?_
    refine mr_aload_n C 0 md_Ref_call3_77 rfl rfl ?_
    refine mr_get C 11 12 mc_Ref_cls ml_1025 rfl (by decide) (by decide) (fun _ => rfl) rfl md_Ref_call3_78 ?_
    refine mr_iload_n C 1 md_Ref_call3_81 rfl rfl ?_
    refine mr_iload C 2 md_Ref_call3_82 rfl ?_
    refine mr_iast C 68 10 (by decide) (by decide) (fun _ _ => rfl) h.1 md_Ref_call3_84 ?_
    replace h := h.2
    exact mr_vret C R h md_Ref_call3_85
  refine mr_icmp_ge C md_Ref_call3_23 rfl (fun hc => ?_) (fun hc => ?_)
  · replace h := h.1 hc
    refine mr_sub [1, 2, 0] rfl ?_
    exact h
  replace h := h.2 hc
  refine mr_aload_n C 1 md_Ref_call3_26 rfl rfl ?_
  refine mr_get C 11 14 mc_Ref_cls ml_1027 rfl (by decide) (by decide) (fun _ => rfl) rfl md_Ref_call3_27 ?_
  refine mr_iconst C md_Ref_call3_30 mk_iconst_3 ?_
  refine mr_aload_n C 1 md_Ref_call3_31 rfl rfl ?_
  refine mr_get C 11 13 mc_Ref_cls ml_1026 rfl (by decide) (by decide) (fun _ => rfl) rfl md_Ref_call3_32 ?_
  refine mr_imul C md_Ref_call3_35 ?_
  refine mr_iload_n C 4 md_Ref_call3_36 rfl rfl ?_
  refine mr_iast C 69 600 (by decide) (by decide) (fun _ _ => rfl) h.1 md_Ref_call3_37 ?_
  replace h := h.2
  refine mr_aload_n C 1 md_Ref_call3_38 rfl rfl ?_
  refine mr_get C 11 14 mc_Ref_cls ml_1027 rfl (by decide) (by decide) (fun _ => rfl) rfl md_Ref_call3_39 ?_
  refine mr_iconst C md_Ref_call3_42 mk_iconst_3 ?_
  refine mr_aload_n C 1 md_Ref_call3_43 rfl rfl ?_
  refine mr_get C 11 13 mc_Ref_cls ml_1026 rfl (by decide) (by decide) (fun _ => rfl) rfl md_Ref_call3_44 ?_
  refine mr_imul C md_Ref_call3_47 ?_
  refine mr_iconst C md_Ref_call3_48 mk_iconst_1 ?_
  refine mr_iadd C md_Ref_call3_49 ?_
  refine mr_iload_n C 3 md_Ref_call3_50 rfl rfl ?_
  refine mr_iast C 69 600 (by decide) (by decide) (fun _ _ => rfl) h.1 md_Ref_call3_51 ?_
  replace h := h.2
  refine mr_aload_n C 1 md_Ref_call3_52 rfl rfl ?_
  refine mr_get C 11 14 mc_Ref_cls ml_1027 rfl (by decide) (by decide) (fun _ => rfl) rfl md_Ref_call3_53 ?_
  refine mr_iconst C md_Ref_call3_56 mk_iconst_3 ?_
  refine mr_aload_n C 1 md_Ref_call3_57 rfl rfl ?_
  refine mr_get C 11 13 mc_Ref_cls ml_1026 rfl (by decide) (by decide) (fun _ => rfl) rfl md_Ref_call3_58 ?_
  refine mr_imul C md_Ref_call3_61 ?_
  refine mr_iconst C md_Ref_call3_62 mk_iconst_2 ?_
  refine mr_iadd C md_Ref_call3_63 ?_
  refine mr_iload C 0 md_Ref_call3_64 rfl ?_
  refine mr_iast C 69 600 (by decide) (by decide) (fun _ _ => rfl) h.1 md_Ref_call3_66 ?_
  replace h := h.2
  refine mr_sub [1, 2, 0] rfl ?_
  exact h
def mw_Ref_isSlip_15 (K : Int32 → mz_St → Prop) (s15 : mz_St) : Prop :=
  K 1 s15
/-- ValueMillModel.isSlip(II)Z: what it does, as a transformer of what must hold behind it -/
def mw_Ref_isSlip (K : Int32 → mz_St → Prop) (a0 : Int32) (a1 : Int32) (s0 : mz_St) : Prop :=
  (∀ P15 : mz_St → Prop, (∀ (s15 : mz_St), mw_Ref_isSlip_15 K s15 → P15 s15) →
  ((a1 = 0 →
   P15 s0) ∧
  (¬ a1 = 0 →
   ((¬ a1 = (-1) →
    K 0 s0) ∧
   (a1 = (-1) →
    ((¬ a0 = (-2147483648) →
     K 0 s0) ∧
    (a0 = (-2147483648) →
     P15 s0)))))))
set_option maxRecDepth 100000 in
set_option maxHeartbeats 4000000 in
theorem ms_Ref_isSlip (l : Launch) (E : mz_En) (hI : mz_Inj E) (K : Int32 → mz_St → Prop) (a0 : Int32) (a1 : Int32) (s0 : mz_St) (h : mw_Ref_isSlip K a0 a1 s0) : mz_Ci l E my_Ref_isSlip mb_Ref_isSlip 2 (some .boolean) (0) (0) [.int a0, .int a1] s0 K := by
  refine mz_cti hI (by decide +kernel) (Nat.le_of_ble_eq_true rfl) (fun X C R => ?_)
  show mz_G E X 2 0 [(0, .int a0), (1, .int a1)] [] s0
  unfold mw_Ref_isSlip at h
  refine mr_iload_n C 1 md_Ref_isSlip_0 rfl rfl ?_
  refine mj (h (fun (s15 : mz_St) => mz_G E X 2 15 [] [] s15) (fun s15 h => ?_)) (fun h => ?_)
  · unfold mw_Ref_isSlip_15 at h
    refine mr_iconst C md_Ref_isSlip_15 mk_iconst_1 ?_
    refine mr_goto C md_Ref_isSlip_16 rfl ?_
    exact mr_zret C R mb_1 h md_Ref_isSlip_20
  refine mr_if_eq C md_Ref_isSlip_1 rfl (fun hc => ?_) (fun hc => ?_)
  · replace h := h.1 hc
    refine mr_sub [] rfl ?_
    exact h
  replace h := h.2 hc
  refine mr_iload_n C 1 md_Ref_isSlip_4 rfl rfl ?_
  refine mr_iconst C md_Ref_isSlip_5 mk_iconst_m1 ?_
  refine mr_icmp_ne C md_Ref_isSlip_6 rfl (fun hc => ?_) (fun hc => ?_)
  · replace h := h.1 hc
    refine mr_iconst C md_Ref_isSlip_19 mk_iconst_0 ?_
    exact mr_zret C R mb_0 h md_Ref_isSlip_20
  replace h := h.2 hc
  refine mr_iload_n C 0 md_Ref_isSlip_9 rfl rfl ?_
  refine mr_ldc C md_Ref_isSlip_10 ml_1113 ?_
  refine mr_icmp_ne C md_Ref_isSlip_12 rfl (fun hc => ?_) (fun hc => ?_)
  · replace h := h.1 hc
    refine mr_iconst C md_Ref_isSlip_19 mk_iconst_0 ?_
    exact mr_zret C R mb_0 h md_Ref_isSlip_20
  replace h := h.2 hc
  refine mr_sub [] rfl ?_
  exact h
/-- ValueMillModel.reckon(III)I: what it does, as a transformer of what must hold behind it -/
def mw_Ref_reckon (K : Int32 → mz_St → Prop) (a0 : Int32) (a1 : Int32) (a2 : Int32) (s0 : mz_St) : Prop :=
  ((a0 = 2 →
   K (a1 + a2) s0) ∧
  (¬ a0 = 2 →
  ((a0 = 3 →
   K (a1 - a2) s0) ∧
  (¬ a0 = 3 →
  ((a0 = 4 →
   K (a1 * a2) s0) ∧
  (¬ a0 = 4 →
  ((a0 = 5 →
   (¬ (a2 : Int32) = 0) ∧
   K (a1 / a2) s0) ∧
  (¬ a0 = 5 →
  ((a0 = 6 →
   (¬ (a2 : Int32) = 0) ∧
   K (a1 - a1 / a2 * a2) s0) ∧
  (¬ a0 = 6 →
  ((a0 = 7 →
   K (a1 &&& a2) s0) ∧
  (¬ a0 = 7 →
  ((a0 = 8 →
   K (a1 ||| a2) s0) ∧
  (¬ a0 = 8 →
  ((a0 = 9 →
   K (a1 ^^^ a2) s0) ∧
  (¬ a0 = 9 →
  ((a0 = 10 →
   K (a1 <<< ((a2 &&& 31) &&& 31)) s0) ∧
  (¬ a0 = 10 →
  ((a0 = 11 →
   K (a1 >>> ((a2 &&& 31) &&& 31)) s0) ∧
  (¬ a0 = 11 →
  ((a0 = 12 →
   K ((a1.toUInt32 >>> ((a2 &&& 31).toUInt32 &&& Int32.toUInt32 31)).toInt32) s0) ∧
  (¬ a0 = 12 →
  ((a0 = 13 →
   ((¬ a1 = a2 →
    K 0 s0) ∧
   (a1 = a2 →
    K 1 s0))) ∧
  (¬ a0 = 13 →
  ((a0 = 14 →
   ((a2 ≤ a1 →
    K 0 s0) ∧
   (¬ a2 ≤ a1 →
    K 1 s0))) ∧
  (¬ a0 = 14 →
  ((0 ≤ (lg_cmp (a1.toInt64 &&& 4294967295) (a2.toInt64 &&& 4294967295)) →
   K 0 s0) ∧
  (¬ 0 ≤ (lg_cmp (a1.toInt64 &&& 4294967295) (a2.toInt64 &&& 4294967295)) →
   K 1 s0))))))))))))))))))))))))))))
set_option maxRecDepth 100000 in
set_option maxHeartbeats 4000000 in
theorem ms_Ref_reckon (l : Launch) (E : mz_En) (hI : mz_Inj E) (K : Int32 → mz_St → Prop) (a0 : Int32) (a1 : Int32) (a2 : Int32) (s0 : mz_St) (h : mw_Ref_reckon K a0 a1 a2 s0) : mz_Ci l E my_Ref_reckon mb_Ref_reckon 3 (some .int) (0) (0) [.int a0, .int a1, .int a2] s0 K := by
  refine mz_cti hI (by decide +kernel) (Nat.le_of_ble_eq_true rfl) (fun X C R => ?_)
  show mz_G E X 3 0 [(0, .int a0), (1, .int a1), (2, .int a2)] [] s0
  unfold mw_Ref_reckon at h
  refine mr_iload_n C 0 md_Ref_reckon_0 rfl rfl ?_
  by_cases hc2 : a0 = 2
  · replace h := h.1 hc2
    refine mr_tabIn C 2 (67) hc2 md_Ref_reckon_1 (by decide) (by decide) (by decide) rfl ?_
    refine mr_iload_n C 1 md_Ref_reckon_68 rfl rfl ?_
    refine mr_iload_n C 2 md_Ref_reckon_69 rfl rfl ?_
    refine mr_iadd C md_Ref_reckon_70 ?_
    exact mr_iret C R h md_Ref_reckon_71
  replace h := h.2 hc2
  by_cases hc3 : a0 = 3
  · replace h := h.1 hc3
    refine mr_tabIn C 3 (71) hc3 md_Ref_reckon_1 (by decide) (by decide) (by decide) rfl ?_
    refine mr_iload_n C 1 md_Ref_reckon_72 rfl rfl ?_
    refine mr_iload_n C 2 md_Ref_reckon_73 rfl rfl ?_
    refine mr_isub C md_Ref_reckon_74 ?_
    exact mr_iret C R h md_Ref_reckon_75
  replace h := h.2 hc3
  by_cases hc4 : a0 = 4
  · replace h := h.1 hc4
    refine mr_tabIn C 4 (75) hc4 md_Ref_reckon_1 (by decide) (by decide) (by decide) rfl ?_
    refine mr_iload_n C 1 md_Ref_reckon_76 rfl rfl ?_
    refine mr_iload_n C 2 md_Ref_reckon_77 rfl rfl ?_
    refine mr_imul C md_Ref_reckon_78 ?_
    exact mr_iret C R h md_Ref_reckon_79
  replace h := h.2 hc4
  by_cases hc5 : a0 = 5
  · replace h := h.1 hc5
    refine mr_tabIn C 5 (79) hc5 md_Ref_reckon_1 (by decide) (by decide) (by decide) rfl ?_
    refine mr_iload_n C 1 md_Ref_reckon_80 rfl rfl ?_
    refine mr_iload_n C 2 md_Ref_reckon_81 rfl rfl ?_
    refine mr_idiv C md_Ref_reckon_82 h.1 ?_
    replace h := h.2
    exact mr_iret C R h md_Ref_reckon_83
  replace h := h.2 hc5
  by_cases hc6 : a0 = 6
  · replace h := h.1 hc6
    refine mr_tabIn C 6 (83) hc6 md_Ref_reckon_1 (by decide) (by decide) (by decide) rfl ?_
    refine mr_iload_n C 1 md_Ref_reckon_84 rfl rfl ?_
    refine mr_iload_n C 2 md_Ref_reckon_85 rfl rfl ?_
    refine mr_irem C md_Ref_reckon_86 h.1 ?_
    replace h := h.2
    exact mr_iret C R h md_Ref_reckon_87
  replace h := h.2 hc6
  by_cases hc7 : a0 = 7
  · replace h := h.1 hc7
    refine mr_tabIn C 7 (87) hc7 md_Ref_reckon_1 (by decide) (by decide) (by decide) rfl ?_
    refine mr_iload_n C 1 md_Ref_reckon_88 rfl rfl ?_
    refine mr_iload_n C 2 md_Ref_reckon_89 rfl rfl ?_
    refine mr_iand C md_Ref_reckon_90 ?_
    exact mr_iret C R h md_Ref_reckon_91
  replace h := h.2 hc7
  by_cases hc8 : a0 = 8
  · replace h := h.1 hc8
    refine mr_tabIn C 8 (91) hc8 md_Ref_reckon_1 (by decide) (by decide) (by decide) rfl ?_
    refine mr_iload_n C 1 md_Ref_reckon_92 rfl rfl ?_
    refine mr_iload_n C 2 md_Ref_reckon_93 rfl rfl ?_
    refine mr_ior C md_Ref_reckon_94 ?_
    exact mr_iret C R h md_Ref_reckon_95
  replace h := h.2 hc8
  by_cases hc9 : a0 = 9
  · replace h := h.1 hc9
    refine mr_tabIn C 9 (95) hc9 md_Ref_reckon_1 (by decide) (by decide) (by decide) rfl ?_
    refine mr_iload_n C 1 md_Ref_reckon_96 rfl rfl ?_
    refine mr_iload_n C 2 md_Ref_reckon_97 rfl rfl ?_
    refine mr_ixor C md_Ref_reckon_98 ?_
    exact mr_iret C R h md_Ref_reckon_99
  replace h := h.2 hc9
  by_cases hc10 : a0 = 10
  · replace h := h.1 hc10
    refine mr_tabIn C 10 (99) hc10 md_Ref_reckon_1 (by decide) (by decide) (by decide) rfl ?_
    refine mr_iload_n C 1 md_Ref_reckon_100 rfl rfl ?_
    refine mr_iload_n C 2 md_Ref_reckon_101 rfl rfl ?_
    refine mr_bipush C md_Ref_reckon_102 mk_bipush_31 ?_
    refine mr_iand C md_Ref_reckon_104 ?_
    refine mr_ishl C md_Ref_reckon_105 ?_
    exact mr_iret C R h md_Ref_reckon_106
  replace h := h.2 hc10
  by_cases hc11 : a0 = 11
  · replace h := h.1 hc11
    refine mr_tabIn C 11 (106) hc11 md_Ref_reckon_1 (by decide) (by decide) (by decide) rfl ?_
    refine mr_iload_n C 1 md_Ref_reckon_107 rfl rfl ?_
    refine mr_iload_n C 2 md_Ref_reckon_108 rfl rfl ?_
    refine mr_bipush C md_Ref_reckon_109 mk_bipush_31 ?_
    refine mr_iand C md_Ref_reckon_111 ?_
    refine mr_ishr C md_Ref_reckon_112 ?_
    exact mr_iret C R h md_Ref_reckon_113
  replace h := h.2 hc11
  by_cases hc12 : a0 = 12
  · replace h := h.1 hc12
    refine mr_tabIn C 12 (113) hc12 md_Ref_reckon_1 (by decide) (by decide) (by decide) rfl ?_
    refine mr_iload_n C 1 md_Ref_reckon_114 rfl rfl ?_
    refine mr_iload_n C 2 md_Ref_reckon_115 rfl rfl ?_
    refine mr_bipush C md_Ref_reckon_116 mk_bipush_31 ?_
    refine mr_iand C md_Ref_reckon_118 ?_
    refine mr_iushr C md_Ref_reckon_119 ?_
    exact mr_iret C R h md_Ref_reckon_120
  replace h := h.2 hc12
  by_cases hc13 : a0 = 13
  · replace h := h.1 hc13
    refine mr_tabIn C 13 (120) hc13 md_Ref_reckon_1 (by decide) (by decide) (by decide) rfl ?_
    refine mr_iload_n C 1 md_Ref_reckon_121 rfl rfl ?_
    refine mr_iload_n C 2 md_Ref_reckon_122 rfl rfl ?_
    refine mr_icmp_ne C md_Ref_reckon_123 rfl (fun hc => ?_) (fun hc => ?_)
    · replace h := h.1 hc
      refine mr_iconst C md_Ref_reckon_130 mk_iconst_0 ?_
      exact mr_iret C R h md_Ref_reckon_131
    replace h := h.2 hc
    refine mr_iconst C md_Ref_reckon_126 mk_iconst_1 ?_
    refine mr_goto C md_Ref_reckon_127 rfl ?_
    exact mr_iret C R h md_Ref_reckon_131
  replace h := h.2 hc13
  by_cases hc14 : a0 = 14
  · replace h := h.1 hc14
    refine mr_tabIn C 14 (131) hc14 md_Ref_reckon_1 (by decide) (by decide) (by decide) rfl ?_
    refine mr_iload_n C 1 md_Ref_reckon_132 rfl rfl ?_
    refine mr_iload_n C 2 md_Ref_reckon_133 rfl rfl ?_
    refine mr_icmp_ge C md_Ref_reckon_134 rfl (fun hc => ?_) (fun hc => ?_)
    · replace h := h.1 hc
      refine mr_iconst C md_Ref_reckon_141 mk_iconst_0 ?_
      exact mr_iret C R h md_Ref_reckon_142
    replace h := h.2 hc
    refine mr_iconst C md_Ref_reckon_137 mk_iconst_1 ?_
    refine mr_goto C md_Ref_reckon_138 rfl ?_
    exact mr_iret C R h md_Ref_reckon_142
  replace h := h.2 hc14
  have hout : a0.toInt < 2 ∨ 14 < a0.toInt := by
    have hq2 := lv_neT hc2 (show (2 : Int32).toInt = 2 by decide)
    have hq3 := lv_neT hc3 (show (3 : Int32).toInt = 3 by decide)
    have hq4 := lv_neT hc4 (show (4 : Int32).toInt = 4 by decide)
    have hq5 := lv_neT hc5 (show (5 : Int32).toInt = 5 by decide)
    have hq6 := lv_neT hc6 (show (6 : Int32).toInt = 6 by decide)
    have hq7 := lv_neT hc7 (show (7 : Int32).toInt = 7 by decide)
    have hq8 := lv_neT hc8 (show (8 : Int32).toInt = 8 by decide)
    have hq9 := lv_neT hc9 (show (9 : Int32).toInt = 9 by decide)
    have hq10 := lv_neT hc10 (show (10 : Int32).toInt = 10 by decide)
    have hq11 := lv_neT hc11 (show (11 : Int32).toInt = 11 by decide)
    have hq12 := lv_neT hc12 (show (12 : Int32).toInt = 12 by decide)
    have hq13 := lv_neT hc13 (show (13 : Int32).toInt = 13 by decide)
    have hq14 := lv_neT hc14 (show (14 : Int32).toInt = 14 by decide)
    omega
  refine mr_tabOut C hout md_Ref_reckon_1 rfl ?_
  refine mr_iload_n C 1 md_Ref_reckon_143 rfl rfl ?_
  refine mr_i2l C md_Ref_reckon_144 ?_
  refine mr_ldc2 C md_Ref_reckon_145 ml_1117 ?_
  refine mr_land C md_Ref_reckon_148 ?_
  refine mr_iload_n C 2 md_Ref_reckon_149 rfl rfl ?_
  refine mr_i2l C md_Ref_reckon_150 ?_
  refine mr_ldc2 C md_Ref_reckon_151 ml_1117 ?_
  refine mr_land C md_Ref_reckon_154 ?_
  refine mr_lcmp C md_Ref_reckon_155 ?_
  refine mr_if_ge C md_Ref_reckon_156 rfl (fun hc => ?_) (fun hc => ?_)
  · replace h := h.1 hc
    refine mr_iconst C md_Ref_reckon_163 mk_iconst_0 ?_
    exact mr_iret C R h md_Ref_reckon_164
  replace h := h.2 hc
  refine mr_iconst C md_Ref_reckon_159 mk_iconst_1 ?_
  refine mr_goto C md_Ref_reckon_160 rfl ?_
  exact mr_iret C R h md_Ref_reckon_164
def mw_Ref_step_111 (K : Int32 → mz_St → Prop) (a0 : Int32) (s0 : mz_St) (s111 : mz_St) : Prop :=
  vp_in (mz_rd s0 61 (a0 + 2)) 10 ∧
  vp_in (mz_rd s0 61 (a0 + 3)) 10 ∧
  mw_Ref_reckon (fun r3 u4 =>
   vp_in (mz_rd s0 61 (a0 + 1)) 10 ∧
   K 0 (mz_wr u4 68 (mz_rd s0 61 (a0 + 1)) r3)) (mz_rd s0 61 a0) (mz_rd s111 68 (mz_rd s0 61 (a0 + 2))) (mz_rd s111 68 (mz_rd s0 61 (a0 + 3))) s111
def mw_Ref_step_89 (K : Int32 → mz_St → Prop) (a0 : Int32) (s0 : mz_St) (P111 : mz_St → Prop) (s89 : mz_St) : Prop :=
  vp_in (mz_rd s0 61 (a0 + 2)) 10 ∧
  vp_in (mz_rd s0 61 (a0 + 3)) 10 ∧
  mw_Ref_isSlip (fun r4 u5 =>
   ((r4 = 0 →
    P111 u5) ∧
   (¬ r4 = 0 →
    K 1 u5))) (mz_rd s89 68 (mz_rd s0 61 (a0 + 2))) (mz_rd s89 68 (mz_rd s0 61 (a0 + 3))) s89
/-- ValueMillModel.step(I)I: what it does, as a transformer of what must hold behind it -/
def mw_Ref_step (K : Int32 → mz_St → Prop) (a0 : Int32) (s0 : mz_St) : Prop :=
  vp_in a0 480 ∧
  vp_in (a0 + 1) 480 ∧
  vp_in (a0 + 2) 480 ∧
  vp_in (a0 + 3) 480 ∧
  ((¬ (mz_rd s0 61 a0) = 0 →
   ((¬ (mz_rd s0 61 a0) = 1 →
    ((16 ≤ (mz_rd s0 61 a0) →
     ((¬ (mz_rd s0 61 a0) = 16 →
      ((¬ (mz_rd s0 61 a0) = 17 →
       vp_in (mz_rd s0 61 (a0 + 2)) 10 ∧
       mw_Ref_call3 (fun u1 =>
        K 0 u1) (mz_rd s0 61 (a0 + 1)) (mz_rd s0 68 (mz_rd s0 61 (a0 + 2))) (mz_rd s0 61 (a0 + 3)) s0) ∧
      ((mz_rd s0 61 a0) = 17 →
       vp_in (mz_rd s0 61 (a0 + 3)) 10 ∧
       mw_Ref_isWord (fun r1 u2 =>
        ((¬ r1 = 0 →
         vp_in (mz_rd s0 61 (a0 + 3)) 10 ∧
         vp_in (mz_rd s0 61 (a0 + 2)) 10 ∧
         vp_in (mz_rd u2 68 (mz_rd s0 61 (a0 + 3))) 32 ∧
         K 0 (mz_wr u2 67 (mz_rd u2 68 (mz_rd s0 61 (a0 + 3))) (mz_rd u2 68 (mz_rd s0 61 (a0 + 2))))) ∧
        (r1 = 0 →
         K 2 u2))) (mz_rd s0 68 (mz_rd s0 61 (a0 + 3))) s0))) ∧
     ((mz_rd s0 61 a0) = 16 →
      vp_in (mz_rd s0 61 (a0 + 2)) 10 ∧
      mw_Ref_isWord (fun r2 u3 =>
       ((¬ r2 = 0 →
        vp_in (mz_rd s0 61 (a0 + 2)) 10 ∧
        vp_in (mz_rd u3 68 (mz_rd s0 61 (a0 + 2))) 32 ∧
        vp_in (mz_rd s0 61 (a0 + 1)) 10 ∧
        K 0 (mz_wr u3 68 (mz_rd s0 61 (a0 + 1)) (mz_rd u3 67 (mz_rd u3 68 (mz_rd s0 61 (a0 + 2)))))) ∧
       (r2 = 0 →
        K 2 u3))) (mz_rd s0 68 (mz_rd s0 61 (a0 + 2))) s0))) ∧
    (¬ 16 ≤ (mz_rd s0 61 a0) →
     (∀ P111 : mz_St → Prop, (∀ (s111 : mz_St), mw_Ref_step_111 K a0 s0 s111 → P111 s111) →
     (∀ P89 : mz_St → Prop, (∀ (s89 : mz_St), mw_Ref_step_89 K a0 s0 P111 s89 → P89 s89) →
     (((mz_rd s0 61 a0) = 5 →
      P89 s0) ∧
     (¬ (mz_rd s0 61 a0) = 5 →
      ((¬ (mz_rd s0 61 a0) = 6 →
       P111 s0) ∧
      ((mz_rd s0 61 a0) = 6 →
       P89 s0))))))))) ∧
   ((mz_rd s0 61 a0) = 1 →
    vp_in (mz_rd s0 61 (a0 + 2)) 10 ∧
    vp_in (mz_rd s0 61 (a0 + 1)) 10 ∧
    K 0 (mz_wr s0 68 (mz_rd s0 61 (a0 + 1)) (mz_rd s0 68 (mz_rd s0 61 (a0 + 2))))))) ∧
  ((mz_rd s0 61 a0) = 0 →
   vp_in (mz_rd s0 61 (a0 + 1)) 10 ∧
   K 0 (mz_wr s0 68 (mz_rd s0 61 (a0 + 1)) (mz_rd s0 61 (a0 + 2)))))
set_option maxRecDepth 100000 in
set_option maxHeartbeats 4000000 in
theorem ms_Ref_step (l : Launch) (E : mz_En) (hI : mz_Inj E) (K : Int32 → mz_St → Prop) (a0 : Int32) (s0 : mz_St) (h : mw_Ref_step K a0 s0) : mz_Ci l E my_Ref_step mb_Ref_step 6 (some .int) (1) (24) [.ref (E.2.1 11), .int a0] s0 K := by
  refine mz_cti hI (by decide +kernel) (Nat.le_of_ble_eq_true rfl) (fun X C R => ?_)
  show mz_G E X 6 0 [(0, .ref (E.2.1 11)), (1, .int a0)] [] s0
  unfold mw_Ref_step at h
  refine mr_aload_n C 0 md_Ref_step_0 rfl rfl ?_
  refine mr_get C 11 2 mc_Ref_cls ml_1015 rfl (by decide) (by decide) (fun _ => rfl) rfl md_Ref_step_1 ?_
  refine mr_iload_n C 1 md_Ref_step_4 rfl rfl ?_
  refine mr_iald C 61 480 (by decide) (fun _ => rfl) h.1 md_Ref_step_5 ?_
  replace h := h.2
  refine mr_istore_n C (L' := [(2, .int (mz_rd s0 61 a0)), (0, .ref (E.2.1 11)), (1, .int a0)]) md_Ref_step_6 rfl (Nat.le_of_ble_eq_true rfl) rfl ?_
  refine mr_aload_n C 1 md_Ref_step_7 rfl rfl ?_
  refine mr_get C 11 2 mc_Ref_cls ml_1015 rfl (by decide) (by decide) (fun _ => rfl) rfl md_Ref_step_8 ?_
  refine mr_iload_n C 2 md_Ref_step_11 rfl rfl ?_
  refine mr_iconst C md_Ref_step_12 mk_iconst_1 ?_
  refine mr_iadd C md_Ref_step_13 ?_
  refine mr_iald C 61 480 (by decide) (fun _ => rfl) h.1 md_Ref_step_14 ?_
  replace h := h.2
  refine mr_istore_n C (L' := [(3, .int (mz_rd s0 61 (a0 + 1))), (2, .int (mz_rd s0 61 a0)), (0, .ref (E.2.1 11)), (1, .int a0)]) md_Ref_step_15 rfl (Nat.le_of_ble_eq_true rfl) rfl ?_
  refine mr_aload_n C 2 md_Ref_step_16 rfl rfl ?_
  refine mr_get C 11 2 mc_Ref_cls ml_1015 rfl (by decide) (by decide) (fun _ => rfl) rfl md_Ref_step_17 ?_
  refine mr_iload_n C 3 md_Ref_step_20 rfl rfl ?_
  refine mr_iconst C md_Ref_step_21 mk_iconst_2 ?_
  refine mr_iadd C md_Ref_step_22 ?_
  refine mr_iald C 61 480 (by decide) (fun _ => rfl) h.1 md_Ref_step_23 ?_
  replace h := h.2
  refine mr_istore C (L' := [(4, .int (mz_rd s0 61 (a0 + 2))), (3, .int (mz_rd s0 61 (a0 + 1))), (2, .int (mz_rd s0 61 a0)), (0, .ref (E.2.1 11)), (1, .int a0)]) md_Ref_step_24 (Nat.le_of_ble_eq_true rfl) rfl ?_
  refine mr_aload_n C 3 md_Ref_step_26 rfl rfl ?_
  refine mr_get C 11 2 mc_Ref_cls ml_1015 rfl (by decide) (by decide) (fun _ => rfl) rfl md_Ref_step_27 ?_
  refine mr_iload_n C 4 md_Ref_step_30 rfl rfl ?_
  refine mr_iconst C md_Ref_step_31 mk_iconst_3 ?_
  refine mr_iadd C md_Ref_step_32 ?_
  refine mr_iald C 61 480 (by decide) (fun _ => rfl) h.1 md_Ref_step_33 ?_
  replace h := h.2
  refine mr_istore C (L' := [(5, .int (mz_rd s0 61 (a0 + 3))), (4, .int (mz_rd s0 61 (a0 + 2))), (3, .int (mz_rd s0 61 (a0 + 1))), (2, .int (mz_rd s0 61 a0)), (0, .ref (E.2.1 11)), (1, .int a0)]) md_Ref_step_34 (Nat.le_of_ble_eq_true rfl) rfl ?_
  refine mr_iload_n C 3 md_Ref_step_36 rfl rfl ?_
  refine mr_if_ne C md_Ref_step_37 rfl (fun hc => ?_) (fun hc => ?_)
  · replace h := h.1 hc
    refine mr_iload_n C 3 md_Ref_step_51 rfl rfl ?_
    refine mr_iconst C md_Ref_step_52 mk_iconst_1 ?_
    refine mr_icmp_ne C md_Ref_step_53 rfl (fun hc => ?_) (fun hc => ?_)
    · replace h := h.1 hc
      refine mr_iload_n C 3 md_Ref_step_72 rfl rfl ?_
      refine mr_bipush C md_Ref_step_73 mk_bipush_16 ?_
      refine mr_icmp_ge C md_Ref_step_75 rfl (fun hc => ?_) (fun hc => ?_)
      · replace h := h.1 hc
        refine mr_iload_n C 3 md_Ref_step_138 rfl rfl ?_
        refine mr_bipush C md_Ref_step_139 mk_bipush_16 ?_
        refine mr_icmp_ne C md_Ref_step_141 rfl (fun hc => ?_) (fun hc => ?_)
        · replace h := h.1 hc
          refine mr_iload_n C 3 md_Ref_step_180 rfl rfl ?_
          refine mr_bipush C md_Ref_step_181 mk_bipush_17 ?_
          refine mr_icmp_ne C md_Ref_step_183 rfl (fun hc => ?_) (fun hc => ?_)
          · replace h := h.1 hc
            refine mr_aload_n C 4 md_Ref_step_223 rfl rfl ?_
            refine mr_iload_n C 2 md_Ref_step_224 rfl rfl ?_
            refine mr_aload_n C 4 md_Ref_step_225 rfl rfl ?_
            refine mr_get C 11 12 mc_Ref_cls ml_1025 rfl (by decide) (by decide) (fun _ => rfl) rfl md_Ref_step_226 ?_
            refine mr_iload C 1 md_Ref_step_229 rfl ?_
            refine mr_iald C 68 10 (by decide) (fun _ => rfl) h.1 md_Ref_step_231 ?_
            replace h := h.2
            refine mr_iload C 0 md_Ref_step_232 rfl ?_
            refine mr_cVv C (As := [.int (mz_rd s0 61 (a0 + 1)), .int (mz_rd s0 68 (mz_rd s0 61 (a0 + 2))), .int (mz_rd s0 61 (a0 + 3))]) (rest := []) 11 (ms_Ref_call3 _ E hI _ (mz_rd s0 61 (a0 + 1)) (mz_rd s0 68 (mz_rd s0 61 (a0 + 2))) (mz_rd s0 61 (a0 + 3)) _ h) mo_Ref_call3 mi_Ref_call3 mc_Ref_cls ml_1121 (by decide) (fun _ => rfl) rfl rfl (Nat.le_of_ble_eq_true rfl) (Nat.le_of_ble_eq_true rfl) (Nat.le_of_ble_eq_true rfl) md_Ref_step_234 (fun u1 h => ?_)
            refine mr_iconst C md_Ref_step_237 mk_iconst_0 ?_
            exact mr_iret C R h md_Ref_step_238
          replace h := h.2 hc
          refine mr_aload_n C 4 md_Ref_step_186 rfl rfl ?_
          refine mr_get C 11 12 mc_Ref_cls ml_1025 rfl (by decide) (by decide) (fun _ => rfl) rfl md_Ref_step_187 ?_
          refine mr_iload C 0 md_Ref_step_190 rfl ?_
          refine mr_iald C 68 10 (by decide) (fun _ => rfl) h.1 md_Ref_step_192 ?_
          replace h := h.2
          refine mr_cSi C (As := [.int (mz_rd s0 68 (mz_rd s0 61 (a0 + 3)))]) (rest := []) (ms_Ref_isWord _ E hI _ (mz_rd s0 68 (mz_rd s0 61 (a0 + 3))) _ h) mo_Ref_isWord mt_Ref_isWord ml_1118 rfl rfl (Nat.le_of_ble_eq_true rfl) (Nat.le_of_ble_eq_true rfl) (Nat.le_of_ble_eq_true rfl) md_Ref_step_193 (fun r1 u2 h => ?_)
          refine mr_if_ne C md_Ref_step_196 rfl (fun hc => ?_) (fun hc => ?_)
          · replace h := h.1 hc
            refine mr_aload_n C 4 md_Ref_step_201 rfl rfl ?_
            refine mr_get C 11 11 mc_Ref_cls ml_1024 rfl (by decide) (by decide) (fun _ => rfl) rfl md_Ref_step_202 ?_
            refine mr_aload_n C 4 md_Ref_step_205 rfl rfl ?_
            refine mr_get C 11 12 mc_Ref_cls ml_1025 rfl (by decide) (by decide) (fun _ => rfl) rfl md_Ref_step_206 ?_
            refine mr_iload C 0 md_Ref_step_209 rfl ?_
            refine mr_iald C 68 10 (by decide) (fun _ => rfl) h.1 md_Ref_step_211 ?_
            replace h := h.2
            refine mr_aload_n C 4 md_Ref_step_212 rfl rfl ?_
            refine mr_get C 11 12 mc_Ref_cls ml_1025 rfl (by decide) (by decide) (fun _ => rfl) rfl md_Ref_step_213 ?_
            refine mr_iload C 1 md_Ref_step_216 rfl ?_
            refine mr_iald C 68 10 (by decide) (fun _ => rfl) h.1 md_Ref_step_218 ?_
            replace h := h.2
            refine mr_iast C 67 32 (by decide) (by decide) (fun _ _ => rfl) h.1 md_Ref_step_219 ?_
            replace h := h.2
            refine mr_goto C md_Ref_step_220 rfl ?_
            refine mr_iconst C md_Ref_step_237 mk_iconst_0 ?_
            exact mr_iret C R h md_Ref_step_238
          replace h := h.2 hc
          refine mr_iconst C md_Ref_step_199 mk_iconst_2 ?_
          exact mr_iret C R h md_Ref_step_200
        replace h := h.2 hc
        refine mr_aload_n C 4 md_Ref_step_144 rfl rfl ?_
        refine mr_get C 11 12 mc_Ref_cls ml_1025 rfl (by decide) (by decide) (fun _ => rfl) rfl md_Ref_step_145 ?_
        refine mr_iload C 1 md_Ref_step_148 rfl ?_
        refine mr_iald C 68 10 (by decide) (fun _ => rfl) h.1 md_Ref_step_150 ?_
        replace h := h.2
        refine mr_cSi C (As := [.int (mz_rd s0 68 (mz_rd s0 61 (a0 + 2)))]) (rest := []) (ms_Ref_isWord _ E hI _ (mz_rd s0 68 (mz_rd s0 61 (a0 + 2))) _ h) mo_Ref_isWord mt_Ref_isWord ml_1118 rfl rfl (Nat.le_of_ble_eq_true rfl) (Nat.le_of_ble_eq_true rfl) (Nat.le_of_ble_eq_true rfl) md_Ref_step_151 (fun r2 u3 h => ?_)
        refine mr_if_ne C md_Ref_step_154 rfl (fun hc => ?_) (fun hc => ?_)
        · replace h := h.1 hc
          refine mr_aload_n C 4 md_Ref_step_159 rfl rfl ?_
          refine mr_get C 11 12 mc_Ref_cls ml_1025 rfl (by decide) (by decide) (fun _ => rfl) rfl md_Ref_step_160 ?_
          refine mr_iload_n C 2 md_Ref_step_163 rfl rfl ?_
          refine mr_aload_n C 4 md_Ref_step_164 rfl rfl ?_
          refine mr_get C 11 11 mc_Ref_cls ml_1024 rfl (by decide) (by decide) (fun _ => rfl) rfl md_Ref_step_165 ?_
          refine mr_aload_n C 4 md_Ref_step_168 rfl rfl ?_
          refine mr_get C 11 12 mc_Ref_cls ml_1025 rfl (by decide) (by decide) (fun _ => rfl) rfl md_Ref_step_169 ?_
          refine mr_iload C 1 md_Ref_step_172 rfl ?_
          refine mr_iald C 68 10 (by decide) (fun _ => rfl) h.1 md_Ref_step_174 ?_
          replace h := h.2
          refine mr_iald C 67 32 (by decide) (fun _ => rfl) h.1 md_Ref_step_175 ?_
          replace h := h.2
          refine mr_iast C 68 10 (by decide) (by decide) (fun _ _ => rfl) h.1 md_Ref_step_176 ?_
          replace h := h.2
          refine mr_goto C md_Ref_step_177 rfl ?_
          refine mr_iconst C md_Ref_step_237 mk_iconst_0 ?_
          exact mr_iret C R h md_Ref_step_238
        replace h := h.2 hc
        refine mr_iconst C md_Ref_step_157 mk_iconst_2 ?_
        exact mr_iret C R h md_Ref_step_158
      replace h := h.2 hc
      refine mr_iload_n C 3 md_Ref_step_78 rfl rfl ?_
      refine mr_iconst C md_Ref_step_79 mk_iconst_5 ?_
      refine mj (h (fun (s111 : mz_St) => mz_G E X 6 111 [(0, .ref (E.2.1 11)), (2, .int (mz_rd s0 61 a0)), (3, .int (mz_rd s0 61 (a0 + 1))), (4, .int (mz_rd s0 61 (a0 + 2))), (5, .int (mz_rd s0 61 (a0 + 3)))] [] s111) (fun s111 h => ?_)) (fun h => ?_)
      · unfold mw_Ref_step_111 at h
        refine mr_aload_n C 0 md_Ref_step_111 rfl rfl ?_
        refine mr_get C 11 12 mc_Ref_cls ml_1025 rfl (by decide) (by decide) (fun _ => rfl) rfl md_Ref_step_112 ?_
        refine mr_iload_n C 2 md_Ref_step_115 rfl rfl ?_
        refine mr_iload_n C 1 md_Ref_step_116 rfl rfl ?_
        refine mr_aload_n C 0 md_Ref_step_117 rfl rfl ?_
        refine mr_get C 11 12 mc_Ref_cls ml_1025 rfl (by decide) (by decide) (fun _ => rfl) rfl md_Ref_step_118 ?_
        refine mr_iload C 3 md_Ref_step_121 rfl ?_
        refine mr_iald C 68 10 (by decide) (fun _ => rfl) h.1 md_Ref_step_123 ?_
        replace h := h.2
        refine mr_aload_n C 0 md_Ref_step_124 rfl rfl ?_
        refine mr_get C 11 12 mc_Ref_cls ml_1025 rfl (by decide) (by decide) (fun _ => rfl) rfl md_Ref_step_125 ?_
        refine mr_iload C 4 md_Ref_step_128 rfl ?_
        refine mr_iald C 68 10 (by decide) (fun _ => rfl) h.1 md_Ref_step_130 ?_
        replace h := h.2
        refine mr_cSi C (As := [.int (mz_rd s0 61 a0), .int (mz_rd s111 68 (mz_rd s0 61 (a0 + 2))), .int (mz_rd s111 68 (mz_rd s0 61 (a0 + 3)))]) (rest := [.int (mz_rd s0 61 (a0 + 1)), .ref (E.2.1 68)]) (ms_Ref_reckon _ E hI _ (mz_rd s0 61 a0) (mz_rd s111 68 (mz_rd s0 61 (a0 + 2))) (mz_rd s111 68 (mz_rd s0 61 (a0 + 3))) _ h) mo_Ref_reckon mt_Ref_reckon ml_1114 rfl rfl (Nat.le_of_ble_eq_true rfl) (Nat.le_of_ble_eq_true rfl) (Nat.le_of_ble_eq_true rfl) md_Ref_step_131 (fun r3 u4 h => ?_)
        refine mr_iast C 68 10 (by decide) (by decide) (fun _ _ => rfl) h.1 md_Ref_step_134 ?_
        replace h := h.2
        refine mr_goto C md_Ref_step_135 rfl ?_
        refine mr_iconst C md_Ref_step_237 mk_iconst_0 ?_
        exact mr_iret C R h md_Ref_step_238
      refine mj (h (fun (s89 : mz_St) => mz_G E X 6 89 [(0, .ref (E.2.1 11)), (2, .int (mz_rd s0 61 a0)), (3, .int (mz_rd s0 61 (a0 + 1))), (4, .int (mz_rd s0 61 (a0 + 2))), (5, .int (mz_rd s0 61 (a0 + 3)))] [] s89) (fun s89 h => ?_)) (fun h => ?_)
      · unfold mw_Ref_step_89 at h
        refine mr_aload_n C 0 md_Ref_step_89 rfl rfl ?_
        refine mr_get C 11 12 mc_Ref_cls ml_1025 rfl (by decide) (by decide) (fun _ => rfl) rfl md_Ref_step_90 ?_
        refine mr_iload C 3 md_Ref_step_93 rfl ?_
        refine mr_iald C 68 10 (by decide) (fun _ => rfl) h.1 md_Ref_step_95 ?_
        replace h := h.2
        refine mr_aload_n C 0 md_Ref_step_96 rfl rfl ?_
        refine mr_get C 11 12 mc_Ref_cls ml_1025 rfl (by decide) (by decide) (fun _ => rfl) rfl md_Ref_step_97 ?_
        refine mr_iload C 4 md_Ref_step_100 rfl ?_
        refine mr_iald C 68 10 (by decide) (fun _ => rfl) h.1 md_Ref_step_102 ?_
        replace h := h.2
        refine mr_cSi C (As := [.int (mz_rd s89 68 (mz_rd s0 61 (a0 + 2))), .int (mz_rd s89 68 (mz_rd s0 61 (a0 + 3)))]) (rest := []) (ms_Ref_isSlip _ E hI _ (mz_rd s89 68 (mz_rd s0 61 (a0 + 2))) (mz_rd s89 68 (mz_rd s0 61 (a0 + 3))) _ h) mo_Ref_isSlip mt_Ref_isSlip ml_1110 rfl rfl (Nat.le_of_ble_eq_true rfl) (Nat.le_of_ble_eq_true rfl) (Nat.le_of_ble_eq_true rfl) md_Ref_step_103 (fun r4 u5 h => ?_)
        refine mr_if_eq C md_Ref_step_106 rfl (fun hc => ?_) (fun hc => ?_)
        · replace h := h.1 hc
          exact h
        replace h := h.2 hc
        refine mr_iconst C md_Ref_step_109 mk_iconst_1 ?_
        exact mr_iret C R h md_Ref_step_110
      refine mr_icmp_eq C md_Ref_step_80 rfl (fun hc => ?_) (fun hc => ?_)
      · replace h := h.1 hc
        refine mr_sub [4, 3, 2, 1, 0] rfl ?_
        exact h
      replace h := h.2 hc
      refine mr_iload_n C 3 md_Ref_step_83 rfl rfl ?_
      refine mr_bipush C md_Ref_step_84 mk_bipush_6 ?_
      refine mr_icmp_ne C md_Ref_step_86 rfl (fun hc => ?_) (fun hc => ?_)
      · replace h := h.1 hc
        refine mr_sub [4, 3, 2, 1, 0] rfl ?_
        exact h
      replace h := h.2 hc
      refine mr_sub [4, 3, 2, 1, 0] rfl ?_
      exact h
    replace h := h.2 hc
    refine mr_aload_n C 4 md_Ref_step_56 rfl rfl ?_
    refine mr_get C 11 12 mc_Ref_cls ml_1025 rfl (by decide) (by decide) (fun _ => rfl) rfl md_Ref_step_57 ?_
    refine mr_iload_n C 2 md_Ref_step_60 rfl rfl ?_
    refine mr_aload_n C 4 md_Ref_step_61 rfl rfl ?_
    refine mr_get C 11 12 mc_Ref_cls ml_1025 rfl (by decide) (by decide) (fun _ => rfl) rfl md_Ref_step_62 ?_
    refine mr_iload C 1 md_Ref_step_65 rfl ?_
    refine mr_iald C 68 10 (by decide) (fun _ => rfl) h.1 md_Ref_step_67 ?_
    replace h := h.2
    refine mr_iast C 68 10 (by decide) (by decide) (fun _ _ => rfl) h.1 md_Ref_step_68 ?_
    replace h := h.2
    refine mr_goto C md_Ref_step_69 rfl ?_
    refine mr_iconst C md_Ref_step_237 mk_iconst_0 ?_
    exact mr_iret C R h md_Ref_step_238
  replace h := h.2 hc
  refine mr_aload_n C 4 md_Ref_step_40 rfl rfl ?_
  refine mr_get C 11 12 mc_Ref_cls ml_1025 rfl (by decide) (by decide) (fun _ => rfl) rfl md_Ref_step_41 ?_
  refine mr_iload_n C 2 md_Ref_step_44 rfl rfl ?_
  refine mr_iload C 1 md_Ref_step_45 rfl ?_
  refine mr_iast C 68 10 (by decide) (by decide) (fun _ _ => rfl) h.1 md_Ref_step_47 ?_
  replace h := h.2
  refine mr_goto C md_Ref_step_48 rfl ?_
  refine mr_iconst C md_Ref_step_237 mk_iconst_0 ?_
  exact mr_iret C R h md_Ref_step_238
def mw_Ref_run_251 (P117 : Int32 → mz_St → Prop) (y0_251 : Int32) (s251 : mz_St) : Prop :=
  P117 y0_251 s251
def mw_Ref_run_234 (x4_117 : Int32) (P251 : Int32 → mz_St → Prop) (s234 : mz_St) : Prop :=
  vp_in x4_117 10 ∧
  P251 (mz_rd s234 64 x4_117) s234
def mw_Ref_run_138 (K : Int32 → mz_St → Prop) (P117 : Int32 → mz_St → Prop) (x4_117 : Int32) (P138 : Int32 → mz_St → Prop) (x5_138 : Int32) (s138 : mz_St) : Prop :=
  vp_in x4_117 10 ∧
  (((mz_rd s138 60 x4_117) ≤ x5_138 →
   vp_in x4_117 10 ∧
   ((¬ (mz_rd s138 62 x4_117) = 0 →
    vp_in x4_117 10 ∧
    (∀ P251 : Int32 → mz_St → Prop, (∀ (y0_251 : Int32) (s251 : mz_St), mw_Ref_run_251 P117 y0_251 s251 → P251 y0_251 s251) →
    (∀ P234 : mz_St → Prop, (∀ (s234 : mz_St), mw_Ref_run_234 x4_117 P251 s234 → P234 s234) →
    (((mz_rd s138 62 x4_117) = 1 →
     P234 s138) ∧
    (¬ (mz_rd s138 62 x4_117) = 1 →
     vp_in x4_117 10 ∧
     vp_in (mz_rd s138 63 x4_117) 10 ∧
     (((mz_rd s138 68 (mz_rd s138 63 x4_117)) = 0 →
      vp_in x4_117 10 ∧
      P251 (mz_rd s138 65 x4_117) s138) ∧
     (¬ (mz_rd s138 68 (mz_rd s138 63 x4_117)) = 0 →
      P234 s138))))))) ∧
   ((mz_rd s138 62 x4_117) = 0 →
    vp_in x4_117 10 ∧
    vp_in (mz_rd s138 63 x4_117) 10 ∧
    K 0 (mz_up s138 1018 0 (mz_rd s138 68 (mz_rd s138 63 x4_117)))))) ∧
  (¬ (mz_rd s138 60 x4_117) ≤ x5_138 →
   mw_Ref_step (fun r1 u1 =>
    ((r1 ≤ 0 →
     P138 (x5_138 + 1) u1) ∧
    (¬ r1 ≤ 0 →
     K r1 u1))) (((48 : Int32) * x4_117) + ((4 : Int32) * x5_138)) s138))
def mw_Ref_run_117 (K : Int32 → mz_St → Prop) (a2 : Int32) (P117 : Int32 → mz_St → Prop) (x4_117 : Int32) (s117 : mz_St) : Prop :=
  ((a2 ≤ (s117 1019 0) →
   K 3 s117) ∧
  (¬ a2 ≤ (s117 1019 0) →
   (∀ P138 : Int32 → mz_St → Prop, (∀ (x5_138 : Int32) (s138 : mz_St), mw_Ref_run_138 K P117 x4_117 P138 x5_138 s138 → P138 x5_138 s138) →
   P138 0 (mz_up s117 1019 0 ((s117 1019 0) + 1)))))
def mw_Ref_run_87 (K : Int32 → mz_St → Prop) (a2 : Int32) (P87 : Int32 → mz_St → Prop) (x4_87 : Int32) (s87 : mz_St) : Prop :=
  ((32 ≤ x4_87 →
   (∀ P117 : Int32 → mz_St → Prop, (∀ (x4_117 : Int32) (s117 : mz_St), mw_Ref_run_117 K a2 P117 x4_117 s117 → P117 x4_117 s117) →
   P117 0 s87)) ∧
  (¬ 32 ≤ x4_87 →
   vp_in x4_87 32 ∧
   vp_in x4_87 32 ∧
   P87 (x4_87 + 1) (mz_wr s87 67 x4_87 (mz_rd s87 66 x4_87))))
def mw_Ref_run_63 (K : Int32 → mz_St → Prop) (a2 : Int32) (P63 : Int32 → mz_St → Prop) (x4_63 : Int32) (s63 : mz_St) : Prop :=
  ((10 ≤ x4_63 →
   (∀ P87 : Int32 → mz_St → Prop, (∀ (x4_87 : Int32) (s87 : mz_St), mw_Ref_run_87 K a2 P87 x4_87 s87 → P87 x4_87 s87) →
   P87 0 s63)) ∧
  (¬ 10 ≤ x4_63 →
   vp_in x4_63 10 ∧
   P63 (x4_63 + 1) (mz_wr s63 68 x4_63 0)))
/-- ValueMillModel.run(III)I: what it does, as a transformer of what must hold behind it -/
def mw_Ref_run (K : Int32 → mz_St → Prop) (a0 : Int32) (a1 : Int32) (a2 : Int32) (s0 : mz_St) : Prop :=
  (((s0 1016 0) = 0 →
   K (-1) s0) ∧
  (¬ (s0 1016 0) = 0 →
   ((a0 < 0 →
    K (-1) s0) ∧
   (¬ a0 < 0 →
    ((3 < a0 →
     K (-1) s0) ∧
    (¬ 3 < a0 →
     ((a1 < 2 →
      K (-1) s0) ∧
     (¬ a1 < 2 →
      ((8 < a1 →
       K (-1) s0) ∧
      (¬ 8 < a1 →
       ((a2 < 0 →
        K (-1) s0) ∧
       (¬ a2 < 0 →
        ((a2 ≤ 500 →
         (∀ P63 : Int32 → mz_St → Prop, (∀ (x4_63 : Int32) (s63 : mz_St), mw_Ref_run_63 K a2 P63 x4_63 s63 → P63 x4_63 s63) →
         P63 0 (mz_up (mz_up (mz_up (mz_up s0 1017 0 1) 1018 0 0) 1019 0 0) 1020 0 0))) ∧
        (¬ a2 ≤ 500 →
         K (-1) s0))))))))))))))
set_option maxRecDepth 100000 in
set_option maxHeartbeats 4000000 in
theorem ms_Ref_run (l : Launch) (E : mz_En) (hI : mz_Inj E) (K : Int32 → mz_St → Prop) (a0 : Int32) (a1 : Int32) (a2 : Int32) (s0 : mz_St) (h : mw_Ref_run K a0 a1 a2 s0) : mz_Ci l E my_Ref_run mb_Ref_run 7 (some .int) (2) (49) [.ref (E.2.1 11), .int a0, .int a1, .int a2] s0 K := by
  refine mz_cti hI (by decide +kernel) (Nat.le_of_ble_eq_true rfl) (fun X C R => ?_)
  show mz_G E X 7 0 [(0, .ref (E.2.1 11)), (1, .int a0), (2, .int a1), (3, .int a2)] [] s0
  unfold mw_Ref_run at h
  refine mr_aload_n C 0 md_Ref_run_0 rfl rfl ?_
  refine mr_get C 11 0 mc_Ref_cls ml_1013 rfl (by decide) (by decide) (fun _ => rfl) rfl md_Ref_run_1 ?_
  refine mr_if_eq C md_Ref_run_4 rfl (fun hc => ?_) (fun hc => ?_)
  · replace h := h.1 hc
    refine mr_iconst C md_Ref_run_38 mk_iconst_m1 ?_
    exact mr_iret C R h md_Ref_run_39
  replace h := h.2 hc
  refine mr_iload_n C 1 md_Ref_run_7 rfl rfl ?_
  refine mr_if_lt C md_Ref_run_8 rfl (fun hc => ?_) (fun hc => ?_)
  · replace h := h.1 hc
    refine mr_iconst C md_Ref_run_38 mk_iconst_m1 ?_
    exact mr_iret C R h md_Ref_run_39
  replace h := h.2 hc
  refine mr_iload_n C 1 md_Ref_run_11 rfl rfl ?_
  refine mr_iconst C md_Ref_run_12 mk_iconst_3 ?_
  refine mr_icmp_gt C md_Ref_run_13 rfl (fun hc => ?_) (fun hc => ?_)
  · replace h := h.1 hc
    refine mr_iconst C md_Ref_run_38 mk_iconst_m1 ?_
    exact mr_iret C R h md_Ref_run_39
  replace h := h.2 hc
  refine mr_iload_n C 2 md_Ref_run_16 rfl rfl ?_
  refine mr_iconst C md_Ref_run_17 mk_iconst_2 ?_
  refine mr_icmp_lt C md_Ref_run_18 rfl (fun hc => ?_) (fun hc => ?_)
  · replace h := h.1 hc
    refine mr_iconst C md_Ref_run_38 mk_iconst_m1 ?_
    exact mr_iret C R h md_Ref_run_39
  replace h := h.2 hc
  refine mr_iload_n C 2 md_Ref_run_21 rfl rfl ?_
  refine mr_bipush C md_Ref_run_22 mk_bipush_8 ?_
  refine mr_icmp_gt C md_Ref_run_24 rfl (fun hc => ?_) (fun hc => ?_)
  · replace h := h.1 hc
    refine mr_iconst C md_Ref_run_38 mk_iconst_m1 ?_
    exact mr_iret C R h md_Ref_run_39
  replace h := h.2 hc
  refine mr_iload_n C 3 md_Ref_run_27 rfl rfl ?_
  refine mr_if_lt C md_Ref_run_28 rfl (fun hc => ?_) (fun hc => ?_)
  · replace h := h.1 hc
    refine mr_iconst C md_Ref_run_38 mk_iconst_m1 ?_
    exact mr_iret C R h md_Ref_run_39
  replace h := h.2 hc
  refine mr_iload_n C 3 md_Ref_run_31 rfl rfl ?_
  refine mr_sipush C md_Ref_run_32 mk_sipush_500 ?_
  refine mr_icmp_le C md_Ref_run_35 rfl (fun hc => ?_) (fun hc => ?_)
  · replace h := h.1 hc
    refine mr_aload_n C 0 md_Ref_run_40 rfl rfl ?_
    refine mr_iconst C md_Ref_run_41 mk_iconst_1 ?_
    refine mr_put C (t0 := .boolean) 11 8 1017 mc_Ref_cls ml_1021 rfl (by decide) (by decide) (fun _ => rfl) rfl (by decide +kernel) (mb_nar mb_1) (mb_fit mb_1) (Nat.le_of_ble_eq_true rfl) (fun _ => rfl) (mp_1017 E _) md_Ref_run_42 ?_
    refine mr_aload_n C 0 md_Ref_run_45 rfl rfl ?_
    refine mr_iconst C md_Ref_run_46 mk_iconst_0 ?_
    refine mr_put C (t0 := .int) 11 9 1018 mc_Ref_cls ml_1022 rfl (by decide) (by decide) (fun _ => rfl) rfl (by decide +kernel) rfl rfl (Nat.le_of_ble_eq_true rfl) (fun _ => rfl) (mp_1018 E _) md_Ref_run_47 ?_
    refine mr_aload_n C 0 md_Ref_run_50 rfl rfl ?_
    refine mr_iconst C md_Ref_run_51 mk_iconst_0 ?_
    refine mr_put C (t0 := .int) 11 10 1019 mc_Ref_cls ml_1023 rfl (by decide) (by decide) (fun _ => rfl) rfl (by decide +kernel) rfl rfl (Nat.le_of_ble_eq_true rfl) (fun _ => rfl) (mp_1019 E _) md_Ref_run_52 ?_
    refine mr_aload_n C 0 md_Ref_run_55 rfl rfl ?_
    refine mr_iconst C md_Ref_run_56 mk_iconst_0 ?_
    refine mr_put C (t0 := .int) 11 13 1020 mc_Ref_cls ml_1026 rfl (by decide) (by decide) (fun _ => rfl) rfl (by decide +kernel) rfl rfl (Nat.le_of_ble_eq_true rfl) (fun _ => rfl) (mp_1020 E _) md_Ref_run_57 ?_
    refine mr_iconst C md_Ref_run_60 mk_iconst_0 ?_
    refine mr_istore C (L' := [(4, .int 0), (0, .ref (E.2.1 11)), (1, .int a0), (2, .int a1), (3, .int a2)]) md_Ref_run_61 (Nat.le_of_ble_eq_true rfl) rfl ?_
    refine mr_sub [1, 4, 0] rfl ?_
    refine h (fun (x4_63 : Int32) (s63 : mz_St) => mz_G E X 7 63 [(0, .ref (E.2.1 11)), (3, .int a2), (4, .int x4_63)] [] s63) (fun x4_63 s63 h => ?_)
    unfold mw_Ref_run_63 at h
    refine mr_iload C 2 md_Ref_run_63 rfl ?_
    refine mr_bipush C md_Ref_run_65 mk_bipush_10 ?_
    refine mr_icmp_ge C md_Ref_run_67 rfl (fun hc => ?_) (fun hc => ?_)
    · replace h := h.1 hc
      refine mr_iconst C md_Ref_run_84 mk_iconst_0 ?_
      refine mr_istore C (L' := [(4, .int 0), (0, .ref (E.2.1 11)), (3, .int a2)]) md_Ref_run_85 (Nat.le_of_ble_eq_true rfl) rfl ?_
      refine mr_sub [1, 2, 0] rfl ?_
      refine h (fun (x4_87 : Int32) (s87 : mz_St) => mz_G E X 7 87 [(0, .ref (E.2.1 11)), (3, .int a2), (4, .int x4_87)] [] s87) (fun x4_87 s87 h => ?_)
      unfold mw_Ref_run_87 at h
      refine mr_iload C 2 md_Ref_run_87 rfl ?_
      refine mr_bipush C md_Ref_run_89 mk_bipush_32 ?_
      refine mr_icmp_ge C md_Ref_run_91 rfl (fun hc => ?_) (fun hc => ?_)
      · replace h := h.1 hc
        refine mr_iconst C md_Ref_run_114 mk_iconst_0 ?_
        refine mr_istore C (L' := [(4, .int 0), (0, .ref (E.2.1 11)), (3, .int a2)]) md_Ref_run_115 (Nat.le_of_ble_eq_true rfl) rfl ?_
        refine mr_sub [1, 2, 0] rfl ?_
        refine h (fun (x4_117 : Int32) (s117 : mz_St) => mz_G E X 7 117 [(0, .ref (E.2.1 11)), (3, .int a2), (4, .int x4_117)] [] s117) (fun x4_117 s117 h => ?_)
        unfold mw_Ref_run_117 at h
        refine mr_aload_n C 0 md_Ref_run_117 rfl rfl ?_
        refine mr_get C 11 10 mc_Ref_cls ml_1023 rfl (by decide) (by decide) (fun _ => rfl) rfl md_Ref_run_118 ?_
        refine mr_iload_n C 1 md_Ref_run_121 rfl rfl ?_
        refine mr_icmp_ge C md_Ref_run_122 rfl (fun hc => ?_) (fun hc => ?_)
        · replace h := h.1 hc
          refine mr_iconst C md_Ref_run_256 mk_iconst_3 ?_
          exact mr_iret C R h md_Ref_run_257
        replace h := h.2 hc
        refine mr_aload_n C 0 md_Ref_run_125 rfl rfl ?_
        refine mr_dup C md_Ref_run_126 rfl ?_
        refine mr_get C 11 10 mc_Ref_cls ml_1023 rfl (by decide) (by decide) (fun _ => rfl) rfl md_Ref_run_127 ?_
        refine mr_iconst C md_Ref_run_130 mk_iconst_1 ?_
        refine mr_iadd C md_Ref_run_131 ?_
        refine mr_put C (t0 := .int) 11 10 1019 mc_Ref_cls ml_1023 rfl (by decide) (by decide) (fun _ => rfl) rfl (by decide +kernel) rfl rfl (Nat.le_of_ble_eq_true rfl) (fun _ => rfl) (mp_1019 E _) md_Ref_run_132 ?_
        refine mr_iconst C md_Ref_run_135 mk_iconst_0 ?_
        refine mr_istore C (L' := [(5, .int 0), (0, .ref (E.2.1 11)), (3, .int a2), (4, .int x4_117)]) md_Ref_run_136 (Nat.le_of_ble_eq_true rfl) rfl ?_
        refine mr_sub [1, 2, 3, 0] rfl ?_
        refine h (fun (x5_138 : Int32) (s138 : mz_St) => mz_G E X 7 138 [(0, .ref (E.2.1 11)), (3, .int a2), (4, .int x4_117), (5, .int x5_138)] [] s138) (fun x5_138 s138 h => ?_)
        unfold mw_Ref_run_138 at h
        refine mr_iload C 3 md_Ref_run_138 rfl ?_
        refine mr_aload_n C 0 md_Ref_run_140 rfl rfl ?_
        refine mr_get C 11 1 mc_Ref_cls ml_1014 rfl (by decide) (by decide) (fun _ => rfl) rfl md_Ref_run_141 ?_
        refine mr_iload C 2 md_Ref_run_144 rfl ?_
        refine mr_iald C 60 10 (by decide) (fun _ => rfl) h.1 md_Ref_run_146 ?_
        replace h := h.2
        refine mr_icmp_ge C md_Ref_run_147 rfl (fun hc => ?_) (fun hc => ?_)
        · replace h := h.1 hc
          refine mr_aload_n C 0 md_Ref_run_180 rfl rfl ?_
          refine mr_get C 11 3 mc_Ref_cls ml_1016 rfl (by decide) (by decide) (fun _ => rfl) rfl md_Ref_run_181 ?_
          refine mr_iload C 2 md_Ref_run_184 rfl ?_
          refine mr_iald C 62 10 (by decide) (fun _ => rfl) h.1 md_Ref_run_186 ?_
          replace h := h.2
          refine mr_if_ne C md_Ref_run_187 rfl (fun hc => ?_) (fun hc => ?_)
          · replace h := h.1 hc
            refine mr_aload_n C 0 md_Ref_run_208 rfl rfl ?_
            refine mr_get C 11 3 mc_Ref_cls ml_1016 rfl (by decide) (by decide) (fun _ => rfl) rfl md_Ref_run_209 ?_
            refine mr_iload C 2 md_Ref_run_212 rfl ?_
            refine mr_iald C 62 10 (by decide) (fun _ => rfl) h.1 md_Ref_run_214 ?_
            replace h := h.2
            refine mr_iconst C md_Ref_run_215 mk_iconst_1 ?_
            refine mj (h (fun (y0_251 : Int32) (s251 : mz_St) => mz_G E X 7 251 [(0, .ref (E.2.1 11)), (3, .int a2)] [.int y0_251] s251) (fun y0_251 s251 h => ?_)) (fun h => ?_)
            · unfold mw_Ref_run_251 at h
              refine mr_istore C (L' := [(4, .int y0_251), (0, .ref (E.2.1 11)), (3, .int a2)]) md_Ref_run_251 (Nat.le_of_ble_eq_true rfl) rfl ?_
              refine mr_goto C md_Ref_run_253 rfl ?_
              refine mr_sub [1, 2, 0] rfl ?_
              exact h
            refine mj (h (fun (s234 : mz_St) => mz_G E X 7 234 [(0, .ref (E.2.1 11)), (3, .int a2), (4, .int x4_117)] [] s234) (fun s234 h => ?_)) (fun h => ?_)
            · unfold mw_Ref_run_234 at h
              refine mr_aload_n C 0 md_Ref_run_234 rfl rfl ?_
              refine mr_get C 11 5 mc_Ref_cls ml_1018 rfl (by decide) (by decide) (fun _ => rfl) rfl md_Ref_run_235 ?_
              refine mr_iload C 2 md_Ref_run_238 rfl ?_
              refine mr_iald C 64 10 (by decide) (fun _ => rfl) h.1 md_Ref_run_240 ?_
              replace h := h.2
              refine mr_goto C md_Ref_run_241 rfl ?_
              refine mr_sub [0, 1] rfl ?_
              exact h
            refine mr_icmp_eq C md_Ref_run_216 rfl (fun hc => ?_) (fun hc => ?_)
            · replace h := h.1 hc
              refine mr_sub [0, 1, 2] rfl ?_
              exact h
            replace h := h.2 hc
            refine mr_aload_n C 0 md_Ref_run_219 rfl rfl ?_
            refine mr_get C 11 12 mc_Ref_cls ml_1025 rfl (by decide) (by decide) (fun _ => rfl) rfl md_Ref_run_220 ?_
            refine mr_aload_n C 0 md_Ref_run_223 rfl rfl ?_
            refine mr_get C 11 4 mc_Ref_cls ml_1017 rfl (by decide) (by decide) (fun _ => rfl) rfl md_Ref_run_224 ?_
            refine mr_iload C 2 md_Ref_run_227 rfl ?_
            refine mr_iald C 63 10 (by decide) (fun _ => rfl) h.1 md_Ref_run_229 ?_
            replace h := h.2
            refine mr_iald C 68 10 (by decide) (fun _ => rfl) h.1 md_Ref_run_230 ?_
            replace h := h.2
            refine mr_if_eq C md_Ref_run_231 rfl (fun hc => ?_) (fun hc => ?_)
            · replace h := h.1 hc
              refine mr_aload_n C 0 md_Ref_run_244 rfl rfl ?_
              refine mr_get C 11 6 mc_Ref_cls ml_1019 rfl (by decide) (by decide) (fun _ => rfl) rfl md_Ref_run_245 ?_
              refine mr_iload C 2 md_Ref_run_248 rfl ?_
              refine mr_iald C 65 10 (by decide) (fun _ => rfl) h.1 md_Ref_run_250 ?_
              replace h := h.2
              refine mr_sub [0, 1] rfl ?_
              exact h
            replace h := h.2 hc
            refine mr_sub [0, 1, 2] rfl ?_
            exact h
          replace h := h.2 hc
          refine mr_aload_n C 0 md_Ref_run_190 rfl rfl ?_
          refine mr_aload_n C 0 md_Ref_run_191 rfl rfl ?_
          refine mr_get C 11 12 mc_Ref_cls ml_1025 rfl (by decide) (by decide) (fun _ => rfl) rfl md_Ref_run_192 ?_
          refine mr_aload_n C 0 md_Ref_run_195 rfl rfl ?_
          refine mr_get C 11 4 mc_Ref_cls ml_1017 rfl (by decide) (by decide) (fun _ => rfl) rfl md_Ref_run_196 ?_
          refine mr_iload C 2 md_Ref_run_199 rfl ?_
          refine mr_iald C 63 10 (by decide) (fun _ => rfl) h.1 md_Ref_run_201 ?_
          replace h := h.2
          refine mr_iald C 68 10 (by decide) (fun _ => rfl) h.1 md_Ref_run_202 ?_
          replace h := h.2
          refine mr_put C (t0 := .int) 11 9 1018 mc_Ref_cls ml_1022 rfl (by decide) (by decide) (fun _ => rfl) rfl (by decide +kernel) rfl rfl (Nat.le_of_ble_eq_true rfl) (fun _ => rfl) (mp_1018 E _) md_Ref_run_203 ?_
          refine mr_iconst C md_Ref_run_206 mk_iconst_0 ?_
          exact mr_iret C R h md_Ref_run_207
        replace h := h.2 hc
        refine mr_aload_n C 0 md_Ref_run_150 rfl rfl ?_
        refine mr_bipush C md_Ref_run_151 mk_bipush_48 ?_
        refine mr_iload C 2 md_Ref_run_153 rfl ?_
        refine mr_imul C md_Ref_run_155 ?_
        refine mr_iconst C md_Ref_run_156 mk_iconst_4 ?_
        refine mr_iload C 3 md_Ref_run_157 rfl ?_
        refine mr_imul C md_Ref_run_159 ?_
        refine mr_iadd C md_Ref_run_160 ?_
        refine mr_cVi C (As := [.int (((48 : Int32) * x4_117) + ((4 : Int32) * x5_138))]) (rest := []) 11 (ms_Ref_step _ E hI _ (((48 : Int32) * x4_117) + ((4 : Int32) * x5_138)) _ h) mo_Ref_step mi_Ref_step mc_Ref_cls ml_1106 (by decide) (fun _ => rfl) rfl rfl (Nat.le_of_ble_eq_true rfl) (Nat.le_of_ble_eq_true rfl) (Nat.le_of_ble_eq_true rfl) md_Ref_run_161 (fun r1 u1 h => ?_)
        refine mr_istore C (L' := [(6, .int r1), (0, .ref (E.2.1 11)), (3, .int a2), (4, .int x4_117), (5, .int x5_138)]) md_Ref_run_164 (Nat.le_of_ble_eq_true rfl) rfl ?_
        refine mr_iload C 0 md_Ref_run_166 rfl ?_
        refine mr_if_le C md_Ref_run_168 rfl (fun hc => ?_) (fun hc => ?_)
        · replace h := h.1 hc
          refine mr_iinc C (L' := [(5, .int (x5_138 + 1)), (6, .int r1), (0, .ref (E.2.1 11)), (3, .int a2), (4, .int x4_117)]) 4 md_Ref_run_174 rfl (mk_inc mk_iconst_1) (Nat.le_of_ble_eq_true rfl) rfl ?_
          refine mr_goto C md_Ref_run_177 rfl ?_
          refine mr_sub [2, 3, 4, 0] rfl ?_
          exact h
        replace h := h.2 hc
        refine mr_iload C 0 md_Ref_run_171 rfl ?_
        exact mr_iret C R h md_Ref_run_173
      replace h := h.2 hc
      refine mr_aload_n C 0 md_Ref_run_94 rfl rfl ?_
      refine mr_get C 11 11 mc_Ref_cls ml_1024 rfl (by decide) (by decide) (fun _ => rfl) rfl md_Ref_run_95 ?_
      refine mr_iload C 2 md_Ref_run_98 rfl ?_
      refine mr_aload_n C 0 md_Ref_run_100 rfl rfl ?_
      refine mr_get C 11 7 mc_Ref_cls ml_1020 rfl (by decide) (by decide) (fun _ => rfl) rfl md_Ref_run_101 ?_
      refine mr_iload C 2 md_Ref_run_104 rfl ?_
      refine mr_iald C 66 32 (by decide) (fun _ => rfl) h.1 md_Ref_run_106 ?_
      replace h := h.2
      refine mr_iast C 67 32 (by decide) (by decide) (fun _ _ => rfl) h.1 md_Ref_run_107 ?_
      replace h := h.2
      refine mr_iinc C (L' := [(4, .int (x4_87 + 1)), (0, .ref (E.2.1 11)), (3, .int a2)]) 2 md_Ref_run_108 rfl (mk_inc mk_iconst_1) (Nat.le_of_ble_eq_true rfl) rfl ?_
      refine mr_goto C md_Ref_run_111 rfl ?_
      refine mr_sub [1, 2, 0] rfl ?_
      exact h
    replace h := h.2 hc
    refine mr_aload_n C 0 md_Ref_run_70 rfl rfl ?_
    refine mr_get C 11 12 mc_Ref_cls ml_1025 rfl (by decide) (by decide) (fun _ => rfl) rfl md_Ref_run_71 ?_
    refine mr_iload C 2 md_Ref_run_74 rfl ?_
    refine mr_iconst C md_Ref_run_76 mk_iconst_0 ?_
    refine mr_iast C 68 10 (by decide) (by decide) (fun _ _ => rfl) h.1 md_Ref_run_77 ?_
    replace h := h.2
    refine mr_iinc C (L' := [(4, .int (x4_63 + 1)), (0, .ref (E.2.1 11)), (3, .int a2)]) 2 md_Ref_run_78 rfl (mk_inc mk_iconst_1) (Nat.le_of_ble_eq_true rfl) rfl ?_
    refine mr_goto C md_Ref_run_81 rfl ?_
    refine mr_sub [1, 2, 0] rfl ?_
    exact h
  replace h := h.2 hc
  refine mr_iconst C md_Ref_run_38 mk_iconst_m1 ?_
  exact mr_iret C R h md_Ref_run_39
/-- ValueMillModel.value()I: what it does, as a transformer of what must hold behind it -/
def mw_Ref_value (K : Int32 → mz_St → Prop) (s0 : mz_St) : Prop :=
  K (s0 1018 0) s0
set_option maxRecDepth 100000 in
set_option maxHeartbeats 4000000 in
theorem ms_Ref_value (l : Launch) (E : mz_En) (hI : mz_Inj E) (K : Int32 → mz_St → Prop) (s0 : mz_St) (h : mw_Ref_value K s0) : mz_Ci l E my_Ref_value mb_Ref_value 1 (some .int) (0) (0) [.ref (E.2.1 11)] s0 K := by
  refine mz_cti hI (by decide +kernel) (Nat.le_of_ble_eq_true rfl) (fun X C R => ?_)
  show mz_G E X 1 0 [(0, .ref (E.2.1 11))] [] s0
  unfold mw_Ref_value at h
  refine mr_aload_n C 0 md_Ref_value_0 rfl rfl ?_
  refine mr_get C 11 9 mc_Ref_cls ml_1022 rfl (by decide) (by decide) (fun _ => rfl) rfl md_Ref_value_1 ?_
  exact mr_iret C R h md_Ref_value_4
/-- ValueMillModel.entered()I: what it does, as a transformer of what must hold behind it -/
def mw_Ref_entered (K : Int32 → mz_St → Prop) (s0 : mz_St) : Prop :=
  K (s0 1019 0) s0
set_option maxRecDepth 100000 in
set_option maxHeartbeats 4000000 in
theorem ms_Ref_entered (l : Launch) (E : mz_En) (hI : mz_Inj E) (K : Int32 → mz_St → Prop) (s0 : mz_St) (h : mw_Ref_entered K s0) : mz_Ci l E my_Ref_entered mb_Ref_entered 1 (some .int) (0) (0) [.ref (E.2.1 11)] s0 K := by
  refine mz_cti hI (by decide +kernel) (Nat.le_of_ble_eq_true rfl) (fun X C R => ?_)
  show mz_G E X 1 0 [(0, .ref (E.2.1 11))] [] s0
  unfold mw_Ref_entered at h
  refine mr_aload_n C 0 md_Ref_entered_0 rfl rfl ?_
  refine mr_get C 11 10 mc_Ref_cls ml_1023 rfl (by decide) (by decide) (fun _ => rfl) rfl md_Ref_entered_1 ?_
  exact mr_iret C R h md_Ref_entered_4
/-- ValueMillModel.word(I)I: what it does, as a transformer of what must hold behind it -/
def mw_Ref_word (K : Int32 → mz_St → Prop) (a0 : Int32) (s0 : mz_St) : Prop :=
  (((s0 1017 0) = 0 →
   K 0 s0) ∧
  (¬ (s0 1017 0) = 0 →
   mw_Ref_isWord (fun r1 u1 =>
    ((r1 = 0 →
     K 0 u1) ∧
    (¬ r1 = 0 →
     vp_in a0 32 ∧
     K (mz_rd u1 67 a0) u1))) a0 s0))
set_option maxRecDepth 100000 in
set_option maxHeartbeats 4000000 in
theorem ms_Ref_word (l : Launch) (E : mz_En) (hI : mz_Inj E) (K : Int32 → mz_St → Prop) (a0 : Int32) (s0 : mz_St) (h : mw_Ref_word K a0 s0) : mz_Ci l E my_Ref_word mb_Ref_word 2 (some .int) (1) (20) [.ref (E.2.1 11), .int a0] s0 K := by
  refine mz_cti hI (by decide +kernel) (Nat.le_of_ble_eq_true rfl) (fun X C R => ?_)
  show mz_G E X 2 0 [(0, .ref (E.2.1 11)), (1, .int a0)] [] s0
  unfold mw_Ref_word at h
  refine mr_aload_n C 0 md_Ref_word_0 rfl rfl ?_
  refine mr_get C 11 8 mc_Ref_cls ml_1021 rfl (by decide) (by decide) (fun _ => rfl) rfl md_Ref_word_1 ?_
  refine mr_if_eq C md_Ref_word_4 rfl (fun hc => ?_) (fun hc => ?_)
  · replace h := h.1 hc
    refine mr_iconst C md_Ref_word_23 mk_iconst_0 ?_
    exact mr_iret C R h md_Ref_word_24
  replace h := h.2 hc
  refine mr_iload_n C 1 md_Ref_word_7 rfl rfl ?_
  refine mr_cSi C (As := [.int a0]) (rest := []) (ms_Ref_isWord _ E hI _ a0 _ h) mo_Ref_isWord mt_Ref_isWord ml_1118 rfl rfl (Nat.le_of_ble_eq_true rfl) (Nat.le_of_ble_eq_true rfl) (Nat.le_of_ble_eq_true rfl) md_Ref_word_8 (fun r1 u1 h => ?_)
  refine mr_if_eq C md_Ref_word_11 rfl (fun hc => ?_) (fun hc => ?_)
  · replace h := h.1 hc
    refine mr_iconst C md_Ref_word_23 mk_iconst_0 ?_
    exact mr_iret C R h md_Ref_word_24
  replace h := h.2 hc
  refine mr_aload_n C 0 md_Ref_word_14 rfl rfl ?_
  refine mr_get C 11 11 mc_Ref_cls ml_1024 rfl (by decide) (by decide) (fun _ => rfl) rfl md_Ref_word_15 ?_
  refine mr_iload_n C 1 md_Ref_word_18 rfl rfl ?_
  refine mr_iald C 67 32 (by decide) (fun _ => rfl) h.1 md_Ref_word_19 ?_
  replace h := h.2
  refine mr_goto C md_Ref_word_20 rfl ?_
  exact mr_iret C R h md_Ref_word_24
/-- ValueMillModel.calls()I: what it does, as a transformer of what must hold behind it -/
def mw_Ref_calls (K : Int32 → mz_St → Prop) (s0 : mz_St) : Prop :=
  K (s0 1020 0) s0
set_option maxRecDepth 100000 in
set_option maxHeartbeats 4000000 in
theorem ms_Ref_calls (l : Launch) (E : mz_En) (hI : mz_Inj E) (K : Int32 → mz_St → Prop) (s0 : mz_St) (h : mw_Ref_calls K s0) : mz_Ci l E my_Ref_calls mb_Ref_calls 1 (some .int) (0) (0) [.ref (E.2.1 11)] s0 K := by
  refine mz_cti hI (by decide +kernel) (Nat.le_of_ble_eq_true rfl) (fun X C R => ?_)
  show mz_G E X 1 0 [(0, .ref (E.2.1 11))] [] s0
  unfold mw_Ref_calls at h
  refine mr_aload_n C 0 md_Ref_calls_0 rfl rfl ?_
  refine mr_get C 11 13 mc_Ref_cls ml_1026 rfl (by decide) (by decide) (fun _ => rfl) rfl md_Ref_calls_1 ?_
  exact mr_iret C R h md_Ref_calls_4
/-- ValueMillModel.call(II)I: what it does, as a transformer of what must hold behind it -/
def mw_Ref_call2 (K : Int32 → mz_St → Prop) (a0 : Int32) (a1 : Int32) (s0 : mz_St) : Prop :=
  ((a0 < 0 →
   K 0 s0) ∧
  (¬ a0 < 0 →
   (((s0 1020 0) ≤ a0 →
    K 0 s0) ∧
   (¬ (s0 1020 0) ≤ a0 →
    ((200 ≤ a0 →
     K 0 s0) ∧
    (¬ 200 ≤ a0 →
     ((a1 < 0 →
      K 0 s0) ∧
     (¬ a1 < 0 →
      ((3 ≤ a1 →
       K 0 s0) ∧
      (¬ 3 ≤ a1 →
       vp_in (((3 : Int32) * a0) + a1) 600 ∧
       K (mz_rd s0 69 (((3 : Int32) * a0) + a1)) s0))))))))))
set_option maxRecDepth 100000 in
set_option maxHeartbeats 4000000 in
theorem ms_Ref_call2 (l : Launch) (E : mz_En) (hI : mz_Inj E) (K : Int32 → mz_St → Prop) (a0 : Int32) (a1 : Int32) (s0 : mz_St) (h : mw_Ref_call2 K a0 a1 s0) : mz_Ci l E my_Ref_call2 mb_Ref_call2 3 (some .int) (0) (0) [.ref (E.2.1 11), .int a0, .int a1] s0 K := by
  refine mz_cti hI (by decide +kernel) (Nat.le_of_ble_eq_true rfl) (fun X C R => ?_)
  show mz_G E X 3 0 [(0, .ref (E.2.1 11)), (1, .int a0), (2, .int a1)] [] s0
  unfold mw_Ref_call2 at h
  refine mr_iload_n C 1 md_Ref_call2_0 rfl rfl ?_
  refine mr_if_lt C md_Ref_call2_1 rfl (fun hc => ?_) (fun hc => ?_)
  · replace h := h.1 hc
    refine mr_iconst C md_Ref_call2_41 mk_iconst_0 ?_
    exact mr_iret C R h md_Ref_call2_42
  replace h := h.2 hc
  refine mr_iload_n C 1 md_Ref_call2_4 rfl rfl ?_
  refine mr_aload_n C 0 md_Ref_call2_5 rfl rfl ?_
  refine mr_get C 11 13 mc_Ref_cls ml_1026 rfl (by decide) (by decide) (fun _ => rfl) rfl md_Ref_call2_6 ?_
  refine mr_icmp_ge C md_Ref_call2_9 rfl (fun hc => ?_) (fun hc => ?_)
  · replace h := h.1 hc
    refine mr_iconst C md_Ref_call2_41 mk_iconst_0 ?_
    exact mr_iret C R h md_Ref_call2_42
  replace h := h.2 hc
  refine mr_iload_n C 1 md_Ref_call2_12 rfl rfl ?_
  refine mr_sipush C md_Ref_call2_13 mk_sipush_200 ?_
  refine mr_icmp_ge C md_Ref_call2_16 rfl (fun hc => ?_) (fun hc => ?_)
  · replace h := h.1 hc
    refine mr_iconst C md_Ref_call2_41 mk_iconst_0 ?_
    exact mr_iret C R h md_Ref_call2_42
  replace h := h.2 hc
  refine mr_iload_n C 2 md_Ref_call2_19 rfl rfl ?_
  refine mr_if_lt C md_Ref_call2_20 rfl (fun hc => ?_) (fun hc => ?_)
  · replace h := h.1 hc
    refine mr_iconst C md_Ref_call2_41 mk_iconst_0 ?_
    exact mr_iret C R h md_Ref_call2_42
  replace h := h.2 hc
  refine mr_iload_n C 2 md_Ref_call2_23 rfl rfl ?_
  refine mr_iconst C md_Ref_call2_24 mk_iconst_3 ?_
  refine mr_icmp_ge C md_Ref_call2_25 rfl (fun hc => ?_) (fun hc => ?_)
  · replace h := h.1 hc
    refine mr_iconst C md_Ref_call2_41 mk_iconst_0 ?_
    exact mr_iret C R h md_Ref_call2_42
  replace h := h.2 hc
  refine mr_aload_n C 0 md_Ref_call2_28 rfl rfl ?_
  refine mr_get C 11 14 mc_Ref_cls ml_1027 rfl (by decide) (by decide) (fun _ => rfl) rfl md_Ref_call2_29 ?_
  refine mr_iconst C md_Ref_call2_32 mk_iconst_3 ?_
  refine mr_iload_n C 1 md_Ref_call2_33 rfl rfl ?_
  refine mr_imul C md_Ref_call2_34 ?_
  refine mr_iload_n C 2 md_Ref_call2_35 rfl rfl ?_
  refine mr_iadd C md_Ref_call2_36 ?_
  refine mr_iald C 69 600 (by decide) (fun _ => rfl) h.1 md_Ref_call2_37 ?_
  replace h := h.2
  refine mr_goto C md_Ref_call2_38 rfl ?_
  exact mr_iret C R h md_Ref_call2_42
def mw_Ref_hasEdge_39 (K : Int32 → mz_St → Prop) (s39 : mz_St) : Prop :=
  K 1 s39
def mw_Ref_hasEdge_19 (K : Int32 → mz_St → Prop) (a0 : Int32) (a1 : Int32) (P39 : mz_St → Prop) (s19 : mz_St) : Prop :=
  vp_in a0 10 ∧
  ((¬ (mz_rd s19 62 a0) = 2 →
   K 0 s19) ∧
  ((mz_rd s19 62 a0) = 2 →
   vp_in a0 10 ∧
   ((¬ (mz_rd s19 65 a0) = a1 →
    K 0 s19) ∧
   ((mz_rd s19 65 a0) = a1 →
    P39 s19))))
/-- ValueMillModel.hasEdge(II)Z: what it does, as a transformer of what must hold behind it -/
def mw_Ref_hasEdge (K : Int32 → mz_St → Prop) (a0 : Int32) (a1 : Int32) (s0 : mz_St) : Prop :=
  vp_in a0 10 ∧
  (∀ P39 : mz_St → Prop, (∀ (s39 : mz_St), mw_Ref_hasEdge_39 K s39 → P39 s39) →
  (∀ P19 : mz_St → Prop, (∀ (s19 : mz_St), mw_Ref_hasEdge_19 K a0 a1 P39 s19 → P19 s19) →
  (((mz_rd s0 62 a0) ≤ 0 →
   P19 s0) ∧
  (¬ (mz_rd s0 62 a0) ≤ 0 →
   vp_in a0 10 ∧
   (((mz_rd s0 64 a0) = a1 →
    P39 s0) ∧
   (¬ (mz_rd s0 64 a0) = a1 →
    P19 s0))))))
set_option maxRecDepth 100000 in
set_option maxHeartbeats 4000000 in
theorem ms_Ref_hasEdge (l : Launch) (E : mz_En) (hI : mz_Inj E) (K : Int32 → mz_St → Prop) (a0 : Int32) (a1 : Int32) (s0 : mz_St) (h : mw_Ref_hasEdge K a0 a1 s0) : mz_Ci l E my_Ref_hasEdge mb_Ref_hasEdge 3 (some .boolean) (0) (0) [.ref (E.2.1 11), .int a0, .int a1] s0 K := by
  refine mz_cti hI (by decide +kernel) (Nat.le_of_ble_eq_true rfl) (fun X C R => ?_)
  show mz_G E X 3 0 [(0, .ref (E.2.1 11)), (1, .int a0), (2, .int a1)] [] s0
  unfold mw_Ref_hasEdge at h
  refine mr_aload_n C 0 md_Ref_hasEdge_0 rfl rfl ?_
  refine mr_get C 11 3 mc_Ref_cls ml_1016 rfl (by decide) (by decide) (fun _ => rfl) rfl md_Ref_hasEdge_1 ?_
  refine mr_iload_n C 1 md_Ref_hasEdge_4 rfl rfl ?_
  refine mr_iald C 62 10 (by decide) (fun _ => rfl) h.1 md_Ref_hasEdge_5 ?_
  replace h := h.2
  refine mj (h (fun (s39 : mz_St) => mz_G E X 3 39 [] [] s39) (fun s39 h => ?_)) (fun h => ?_)
  · unfold mw_Ref_hasEdge_39 at h
    refine mr_iconst C md_Ref_hasEdge_39 mk_iconst_1 ?_
    refine mr_goto C md_Ref_hasEdge_40 rfl ?_
    exact mr_zret C R mb_1 h md_Ref_hasEdge_44
  refine mj (h (fun (s19 : mz_St) => mz_G E X 3 19 [(0, .ref (E.2.1 11)), (1, .int a0), (2, .int a1)] [] s19) (fun s19 h => ?_)) (fun h => ?_)
  · unfold mw_Ref_hasEdge_19 at h
    refine mr_aload_n C 0 md_Ref_hasEdge_19 rfl rfl ?_
    refine mr_get C 11 3 mc_Ref_cls ml_1016 rfl (by decide) (by decide) (fun _ => rfl) rfl md_Ref_hasEdge_20 ?_
    refine mr_iload_n C 1 md_Ref_hasEdge_23 rfl rfl ?_
    refine mr_iald C 62 10 (by decide) (fun _ => rfl) h.1 md_Ref_hasEdge_24 ?_
    replace h := h.2
    refine mr_iconst C md_Ref_hasEdge_25 mk_iconst_2 ?_
    refine mr_icmp_ne C md_Ref_hasEdge_26 rfl (fun hc => ?_) (fun hc => ?_)
    · replace h := h.1 hc
      refine mr_iconst C md_Ref_hasEdge_43 mk_iconst_0 ?_
      exact mr_zret C R mb_0 h md_Ref_hasEdge_44
    replace h := h.2 hc
    refine mr_aload_n C 0 md_Ref_hasEdge_29 rfl rfl ?_
    refine mr_get C 11 6 mc_Ref_cls ml_1019 rfl (by decide) (by decide) (fun _ => rfl) rfl md_Ref_hasEdge_30 ?_
    refine mr_iload_n C 1 md_Ref_hasEdge_33 rfl rfl ?_
    refine mr_iald C 65 10 (by decide) (fun _ => rfl) h.1 md_Ref_hasEdge_34 ?_
    replace h := h.2
    refine mr_iload_n C 2 md_Ref_hasEdge_35 rfl rfl ?_
    refine mr_icmp_ne C md_Ref_hasEdge_36 rfl (fun hc => ?_) (fun hc => ?_)
    · replace h := h.1 hc
      refine mr_iconst C md_Ref_hasEdge_43 mk_iconst_0 ?_
      exact mr_zret C R mb_0 h md_Ref_hasEdge_44
    replace h := h.2 hc
    refine mr_sub [] rfl ?_
    exact h
  refine mr_if_le C md_Ref_hasEdge_6 rfl (fun hc => ?_) (fun hc => ?_)
  · replace h := h.1 hc
    exact h
  replace h := h.2 hc
  refine mr_aload_n C 0 md_Ref_hasEdge_9 rfl rfl ?_
  refine mr_get C 11 5 mc_Ref_cls ml_1018 rfl (by decide) (by decide) (fun _ => rfl) rfl md_Ref_hasEdge_10 ?_
  refine mr_iload_n C 1 md_Ref_hasEdge_13 rfl rfl ?_
  refine mr_iald C 64 10 (by decide) (fun _ => rfl) h.1 md_Ref_hasEdge_14 ?_
  replace h := h.2
  refine mr_iload_n C 2 md_Ref_hasEdge_15 rfl rfl ?_
  refine mr_icmp_eq C md_Ref_hasEdge_16 rfl (fun hc => ?_) (fun hc => ?_)
  · replace h := h.1 hc
    refine mr_sub [] rfl ?_
    exact h
  replace h := h.2 hc
  exact h
def mw_Ref_reach_94 (P29 : Int32 → Int32 → mz_St → Prop) (x5_29 : Int32) (x3_41 : Int32) (s94 : mz_St) : Prop :=
  P29 x3_41 (x5_29 + 1) s94
def mw_Ref_reach_86 (P41 : Int32 → Int32 → mz_St → Prop) (x6_41 : Int32) (y0_86 : Int32) (y1_86 : Int32) (s86 : mz_St) : Prop :=
  P41 (y1_86 ||| y0_86) (x6_41 + 1) s86
def mw_Ref_reach_85 (P86 : Int32 → Int32 → mz_St → Prop) (y0_85 : Int32) (s85 : mz_St) : Prop :=
  P86 0 y0_85 s85
def mw_Ref_reach_41 (a1 : Int32) (P29 : Int32 → Int32 → mz_St → Prop) (x5_29 : Int32) (P41 : Int32 → Int32 → mz_St → Prop) (x3_41 : Int32) (x6_41 : Int32) (s41 : mz_St) : Prop :=
  (∀ P94 : mz_St → Prop, (∀ (s94 : mz_St), mw_Ref_reach_94 P29 x5_29 x3_41 s94 → P94 s94) →
  (((s41 1016 0) ≤ x6_41 →
   P94 s41) ∧
  (¬ (s41 1016 0) ≤ x6_41 →
   ((¬ ((x3_41 >>> (x5_29 &&& 31)) &&& 1) = 1 →
    P94 s41) ∧
   (((x3_41 >>> (x5_29 &&& 31)) &&& 1) = 1 →
    mw_Ref_hasEdge (fun r1 u1 =>
     (∀ P86 : Int32 → Int32 → mz_St → Prop, (∀ (y0_86 : Int32) (y1_86 : Int32) (s86 : mz_St), mw_Ref_reach_86 P41 x6_41 y0_86 y1_86 s86 → P86 y0_86 y1_86 s86) →
     (∀ P85 : Int32 → mz_St → Prop, (∀ (y0_85 : Int32) (s85 : mz_St), mw_Ref_reach_85 P86 y0_85 s85 → P85 y0_85 s85) →
     ((r1 = 0 →
      P85 x3_41 u1) ∧
     (¬ r1 = 0 →
      ((x6_41 = a1 →
       P85 x3_41 u1) ∧
      (¬ x6_41 = a1 →
       P86 ((1 : Int32) <<< (x6_41 &&& 31)) x3_41 u1))))))) x5_29 x6_41 s41)))))
def mw_Ref_reach_29 (a1 : Int32) (P19 : Int32 → Int32 → mz_St → Prop) (x4_19 : Int32) (P29 : Int32 → Int32 → mz_St → Prop) (x3_29 : Int32) (x5_29 : Int32) (s29 : mz_St) : Prop :=
  (((s29 1016 0) ≤ x5_29 →
   P19 x3_29 (x4_19 + 1) s29) ∧
  (¬ (s29 1016 0) ≤ x5_29 →
   (∀ P41 : Int32 → Int32 → mz_St → Prop, (∀ (x3_41 : Int32) (x6_41 : Int32) (s41 : mz_St), mw_Ref_reach_41 a1 P29 x5_29 P41 x3_41 x6_41 s41 → P41 x3_41 x6_41 s41) →
   P41 x3_29 0 s29)))
def mw_Ref_reach_19 (K : Int32 → mz_St → Prop) (a1 : Int32) (P19 : Int32 → Int32 → mz_St → Prop) (x3_19 : Int32) (x4_19 : Int32) (s19 : mz_St) : Prop :=
  ((10 ≤ x4_19 →
   K x3_19 s19) ∧
  (¬ 10 ≤ x4_19 →
   (∀ P29 : Int32 → Int32 → mz_St → Prop, (∀ (x3_29 : Int32) (x5_29 : Int32) (s29 : mz_St), mw_Ref_reach_29 a1 P19 x4_19 P29 x3_29 x5_29 s29 → P29 x3_29 x5_29 s29) →
   P29 x3_19 0 s19)))
def mw_Ref_reach_15 (K : Int32 → mz_St → Prop) (a1 : Int32) (y0_15 : Int32) (s15 : mz_St) : Prop :=
  (∀ P19 : Int32 → Int32 → mz_St → Prop, (∀ (x3_19 : Int32) (x4_19 : Int32) (s19 : mz_St), mw_Ref_reach_19 K a1 P19 x3_19 x4_19 s19 → P19 x3_19 x4_19 s19) →
  P19 y0_15 0 s15)
/-- ValueMillModel.reach(II)I: what it does, as a transformer of what must hold behind it -/
def mw_Ref_reach (K : Int32 → mz_St → Prop) (a0 : Int32) (a1 : Int32) (s0 : mz_St) : Prop :=
  (∀ P15 : Int32 → mz_St → Prop, (∀ (y0_15 : Int32) (s15 : mz_St), mw_Ref_reach_15 K a1 y0_15 s15 → P15 y0_15 s15) →
  ((0 ≤ a1 →
   P15 (a0 &&& (((1 : Int32) <<< (a1 &&& 31)) ^^^ (-1))) s0) ∧
  (¬ 0 ≤ a1 →
   P15 a0 s0)))
set_option maxRecDepth 100000 in
set_option maxHeartbeats 4000000 in
theorem ms_Ref_reach (l : Launch) (E : mz_En) (hI : mz_Inj E) (K : Int32 → mz_St → Prop) (a0 : Int32) (a1 : Int32) (s0 : mz_St) (h : mw_Ref_reach K a0 a1 s0) : mz_Ci l E my_Ref_reach mb_Ref_reach 7 (some .int) (1) (22) [.ref (E.2.1 11), .int a0, .int a1] s0 K := by
  refine mz_cti hI (by decide +kernel) (Nat.le_of_ble_eq_true rfl) (fun X C R => ?_)
  show mz_G E X 7 0 [(0, .ref (E.2.1 11)), (1, .int a0), (2, .int a1)] [] s0
  unfold mw_Ref_reach at h
  refine mr_iload_n C 2 md_Ref_reach_0 rfl rfl ?_
  refine mj (h (fun (y0_15 : Int32) (s15 : mz_St) => mz_G E X 7 15 [(0, .ref (E.2.1 11)), (2, .int a1)] [.int y0_15] s15) (fun y0_15 s15 h => ?_)) (fun h => ?_)
  · unfold mw_Ref_reach_15 at h
    refine mr_istore_n C (L' := [(3, .int y0_15), (0, .ref (E.2.1 11)), (2, .int a1)]) md_Ref_reach_15 rfl (Nat.le_of_ble_eq_true rfl) rfl ?_
    refine mr_iconst C md_Ref_reach_16 mk_iconst_0 ?_
    refine mr_istore C (L' := [(4, .int 0), (3, .int y0_15), (0, .ref (E.2.1 11)), (2, .int a1)]) md_Ref_reach_17 (Nat.le_of_ble_eq_true rfl) rfl ?_
    refine mr_sub [2, 3, 1, 0] rfl ?_
    refine h (fun (x3_19 : Int32) (x4_19 : Int32) (s19 : mz_St) => mz_G E X 7 19 [(0, .ref (E.2.1 11)), (2, .int a1), (3, .int x3_19), (4, .int x4_19)] [] s19) (fun x3_19 x4_19 s19 h => ?_)
    unfold mw_Ref_reach_19 at h
    refine mr_iload C 3 md_Ref_reach_19 rfl ?_
    refine mr_bipush C md_Ref_reach_21 mk_bipush_10 ?_
    refine mr_icmp_ge C md_Ref_reach_23 rfl (fun hc => ?_) (fun hc => ?_)
    · replace h := h.1 hc
      refine mr_iload_n C 2 md_Ref_reach_106 rfl rfl ?_
      exact mr_iret C R h md_Ref_reach_107
    replace h := h.2 hc
    refine mr_iconst C md_Ref_reach_26 mk_iconst_0 ?_
    refine mr_istore C (L' := [(5, .int 0), (0, .ref (E.2.1 11)), (2, .int a1), (3, .int x3_19), (4, .int x4_19)]) md_Ref_reach_27 (Nat.le_of_ble_eq_true rfl) rfl ?_
    refine mr_sub [1, 2, 3, 4, 0] rfl ?_
    refine h (fun (x3_29 : Int32) (x5_29 : Int32) (s29 : mz_St) => mz_G E X 7 29 [(0, .ref (E.2.1 11)), (2, .int a1), (3, .int x3_29), (4, .int x4_19), (5, .int x5_29)] [] s29) (fun x3_29 x5_29 s29 h => ?_)
    unfold mw_Ref_reach_29 at h
    refine mr_iload C 4 md_Ref_reach_29 rfl ?_
    refine mr_aload_n C 0 md_Ref_reach_31 rfl rfl ?_
    refine mr_get C 11 0 mc_Ref_cls ml_1013 rfl (by decide) (by decide) (fun _ => rfl) rfl md_Ref_reach_32 ?_
    refine mr_icmp_ge C md_Ref_reach_35 rfl (fun hc => ?_) (fun hc => ?_)
    · replace h := h.1 hc
      refine mr_iinc C (L' := [(4, .int (x4_19 + 1)), (0, .ref (E.2.1 11)), (2, .int a1), (3, .int x3_29), (5, .int x5_29)]) 3 md_Ref_reach_100 rfl (mk_inc mk_iconst_1) (Nat.le_of_ble_eq_true rfl) rfl ?_
      refine mr_goto C md_Ref_reach_103 rfl ?_
      refine mr_sub [1, 2, 3, 0] rfl ?_
      exact h
    replace h := h.2 hc
    refine mr_iconst C md_Ref_reach_38 mk_iconst_0 ?_
    refine mr_istore C (L' := [(6, .int 0), (0, .ref (E.2.1 11)), (2, .int a1), (3, .int x3_29), (4, .int x4_19), (5, .int x5_29)]) md_Ref_reach_39 (Nat.le_of_ble_eq_true rfl) rfl ?_
    refine mr_sub [1, 2, 3, 4, 5, 0] rfl ?_
    refine h (fun (x3_41 : Int32) (x6_41 : Int32) (s41 : mz_St) => mz_G E X 7 41 [(0, .ref (E.2.1 11)), (2, .int a1), (3, .int x3_41), (4, .int x4_19), (5, .int x5_29), (6, .int x6_41)] [] s41) (fun x3_41 x6_41 s41 h => ?_)
    unfold mw_Ref_reach_41 at h
    refine mr_iload C 5 md_Ref_reach_41 rfl ?_
    refine mr_aload_n C 0 md_Ref_reach_43 rfl rfl ?_
    refine mr_get C 11 0 mc_Ref_cls ml_1013 rfl (by decide) (by decide) (fun _ => rfl) rfl md_Ref_reach_44 ?_
    refine mj (h (fun (s94 : mz_St) => mz_G E X 7 94 [(0, .ref (E.2.1 11)), (2, .int a1), (3, .int x3_41), (4, .int x4_19), (5, .int x5_29)] [] s94) (fun s94 h => ?_)) (fun h => ?_)
    · unfold mw_Ref_reach_94 at h
      refine mr_iinc C (L' := [(5, .int (x5_29 + 1)), (0, .ref (E.2.1 11)), (2, .int a1), (3, .int x3_41), (4, .int x4_19)]) 4 md_Ref_reach_94 rfl (mk_inc mk_iconst_1) (Nat.le_of_ble_eq_true rfl) rfl ?_
      refine mr_goto C md_Ref_reach_97 rfl ?_
      refine mr_sub [1, 2, 3, 4, 0] rfl ?_
      exact h
    refine mr_icmp_ge C md_Ref_reach_47 rfl (fun hc => ?_) (fun hc => ?_)
    · replace h := h.1 hc
      refine mr_sub [0, 1, 2, 3, 4] rfl ?_
      exact h
    replace h := h.2 hc
    refine mr_iload_n C 2 md_Ref_reach_50 rfl rfl ?_
    refine mr_iload C 4 md_Ref_reach_51 rfl ?_
    refine mr_ishr C md_Ref_reach_53 ?_
    refine mr_iconst C md_Ref_reach_54 mk_iconst_1 ?_
    refine mr_iand C md_Ref_reach_55 ?_
    refine mr_iconst C md_Ref_reach_56 mk_iconst_1 ?_
    refine mr_icmp_ne C md_Ref_reach_57 rfl (fun hc => ?_) (fun hc => ?_)
    · replace h := h.1 hc
      refine mr_sub [0, 1, 2, 3, 4] rfl ?_
      exact h
    replace h := h.2 hc
    refine mr_iload_n C 2 md_Ref_reach_60 rfl rfl ?_
    refine mr_aload_n C 0 md_Ref_reach_61 rfl rfl ?_
    refine mr_iload C 4 md_Ref_reach_62 rfl ?_
    refine mr_iload C 5 md_Ref_reach_64 rfl ?_
    refine mr_cVi C (As := [.int x5_29, .int x6_41]) (rest := [.int x3_41]) 11 (ms_Ref_hasEdge _ E hI _ x5_29 x6_41 _ h) mo_Ref_hasEdge mi_Ref_hasEdge mc_Ref_cls ml_1169 (by decide) (fun _ => rfl) rfl rfl (Nat.le_of_ble_eq_true rfl) (Nat.le_of_ble_eq_true rfl) (Nat.le_of_ble_eq_true rfl) md_Ref_reach_66 (fun r1 u1 h => ?_)
    refine mj (h (fun (y0_86 : Int32) (y1_86 : Int32) (s86 : mz_St) => mz_G E X 7 86 [(0, .ref (E.2.1 11)), (2, .int a1), (4, .int x4_19), (5, .int x5_29), (6, .int x6_41)] [.int y0_86, .int y1_86] s86) (fun y0_86 y1_86 s86 h => ?_)) (fun h => ?_)
    · unfold mw_Ref_reach_86 at h
      refine mr_ior C md_Ref_reach_86 ?_
      refine mr_istore_n C (L' := [(3, .int (y1_86 ||| y0_86)), (0, .ref (E.2.1 11)), (2, .int a1), (4, .int x4_19), (5, .int x5_29), (6, .int x6_41)]) md_Ref_reach_87 rfl (Nat.le_of_ble_eq_true rfl) rfl ?_
      refine mr_iinc C (L' := [(6, .int (x6_41 + 1)), (3, .int (y1_86 ||| y0_86)), (0, .ref (E.2.1 11)), (2, .int a1), (4, .int x4_19), (5, .int x5_29)]) 5 md_Ref_reach_88 rfl (mk_inc mk_iconst_1) (Nat.le_of_ble_eq_true rfl) rfl ?_
      refine mr_goto C md_Ref_reach_91 rfl ?_
      refine mr_sub [2, 3, 1, 4, 5, 0] rfl ?_
      exact h
    refine mj (h (fun (y0_85 : Int32) (s85 : mz_St) => mz_G E X 7 85 [(0, .ref (E.2.1 11)), (2, .int a1), (4, .int x4_19), (5, .int x5_29), (6, .int x6_41)] [.int y0_85] s85) (fun y0_85 s85 h => ?_)) (fun h => ?_)
    · unfold mw_Ref_reach_85 at h
      refine mr_iconst C md_Ref_reach_85 mk_iconst_0 ?_
      exact h
    refine mr_if_eq C md_Ref_reach_69 rfl (fun hc => ?_) (fun hc => ?_)
    · replace h := h.1 hc
      refine mr_sub [0, 1, 3, 4, 5] rfl ?_
      exact h
    replace h := h.2 hc
    refine mr_iload C 5 md_Ref_reach_72 rfl ?_
    refine mr_iload_n C 1 md_Ref_reach_74 rfl rfl ?_
    refine mr_icmp_eq C md_Ref_reach_75 rfl (fun hc => ?_) (fun hc => ?_)
    · replace h := h.1 hc
      refine mr_sub [0, 1, 3, 4, 5] rfl ?_
      exact h
    replace h := h.2 hc
    refine mr_iconst C md_Ref_reach_78 mk_iconst_1 ?_
    refine mr_iload C 5 md_Ref_reach_79 rfl ?_
    refine mr_ishl C md_Ref_reach_81 ?_
    refine mr_goto C md_Ref_reach_82 rfl ?_
    refine mr_sub [0, 1, 3, 4, 5] rfl ?_
    exact h
  refine mr_if_ge C md_Ref_reach_1 rfl (fun hc => ?_) (fun hc => ?_)
  · replace h := h.1 hc
    refine mr_iload_n C 1 md_Ref_reach_8 rfl rfl ?_
    refine mr_iconst C md_Ref_reach_9 mk_iconst_1 ?_
    refine mr_iload_n C 2 md_Ref_reach_10 rfl rfl ?_
    refine mr_ishl C md_Ref_reach_11 ?_
    refine mr_iconst C md_Ref_reach_12 mk_iconst_m1 ?_
    refine mr_ixor C md_Ref_reach_13 ?_
    refine mr_iand C md_Ref_reach_14 ?_
    refine mr_sub [0, 2] rfl ?_
    exact h
  replace h := h.2 hc
  refine mr_iload_n C 1 md_Ref_reach_4 rfl rfl ?_
  refine mr_goto C md_Ref_reach_5 rfl ?_
  refine mr_sub [0, 2] rfl ?_
  exact h
/-- ValueMillModel.isAlive(I)Z: what it does, as a transformer of what must hold behind it -/
def mw_Ref_isAlive (K : Int32 → mz_St → Prop) (a0 : Int32) (s0 : mz_St) : Prop :=
  mw_Ref_isBlock (fun r1 u1 =>
   ((r1 = 0 →
    K 0 u1) ∧
   (¬ r1 = 0 →
    mw_Ref_reach (fun r2 u2 =>
     ((¬ ((r2 >>> (a0 &&& 31)) &&& 1) = 1 →
      K 0 u2) ∧
     (((r2 >>> (a0 &&& 31)) &&& 1) = 1 →
      K 1 u2))) 1 (-1) u1))) a0 s0
set_option maxRecDepth 100000 in
set_option maxHeartbeats 4000000 in
theorem ms_Ref_isAlive (l : Launch) (E : mz_En) (hI : mz_Inj E) (K : Int32 → mz_St → Prop) (a0 : Int32) (s0 : mz_St) (h : mw_Ref_isAlive K a0 s0) : mz_Ci l E my_Ref_isAlive mb_Ref_isAlive 2 (some .boolean) (2) (48) [.ref (E.2.1 11), .int a0] s0 K := by
  refine mz_cti hI (by decide +kernel) (Nat.le_of_ble_eq_true rfl) (fun X C R => ?_)
  show mz_G E X 2 0 [(0, .ref (E.2.1 11)), (1, .int a0)] [] s0
  unfold mw_Ref_isAlive at h
  refine mr_aload_n C 0 md_Ref_isAlive_0 rfl rfl ?_
  refine mr_iload_n C 1 md_Ref_isAlive_1 rfl rfl ?_
  refine mr_cVi C (As := [.int a0]) (rest := []) 11 (ms_Ref_isBlock _ E hI _ a0 _ h) mo_Ref_isBlock mi_Ref_isBlock mc_Ref_cls ml_1076 (by decide) (fun _ => rfl) rfl rfl (Nat.le_of_ble_eq_true rfl) (Nat.le_of_ble_eq_true rfl) (Nat.le_of_ble_eq_true rfl) md_Ref_isAlive_2 (fun r1 u1 h => ?_)
  refine mr_if_eq C md_Ref_isAlive_5 rfl (fun hc => ?_) (fun hc => ?_)
  · replace h := h.1 hc
    refine mr_iconst C md_Ref_isAlive_26 mk_iconst_0 ?_
    exact mr_zret C R mb_0 h md_Ref_isAlive_27
  replace h := h.2 hc
  refine mr_aload_n C 0 md_Ref_isAlive_8 rfl rfl ?_
  refine mr_iconst C md_Ref_isAlive_9 mk_iconst_1 ?_
  refine mr_iconst C md_Ref_isAlive_10 mk_iconst_m1 ?_
  refine mr_cVi C (As := [.int 1, .int (-1)]) (rest := []) 11 (ms_Ref_reach _ E hI _ 1 (-1) _ h) mo_Ref_reach mi_Ref_reach mc_Ref_cls ml_1165 (by decide) (fun _ => rfl) rfl rfl (Nat.le_of_ble_eq_true rfl) (Nat.le_of_ble_eq_true rfl) (Nat.le_of_ble_eq_true rfl) md_Ref_isAlive_11 (fun r2 u2 h => ?_)
  refine mr_iload_n C 1 md_Ref_isAlive_14 rfl rfl ?_
  refine mr_ishr C md_Ref_isAlive_15 ?_
  refine mr_iconst C md_Ref_isAlive_16 mk_iconst_1 ?_
  refine mr_iand C md_Ref_isAlive_17 ?_
  refine mr_iconst C md_Ref_isAlive_18 mk_iconst_1 ?_
  refine mr_icmp_ne C md_Ref_isAlive_19 rfl (fun hc => ?_) (fun hc => ?_)
  · replace h := h.1 hc
    refine mr_iconst C md_Ref_isAlive_26 mk_iconst_0 ?_
    exact mr_zret C R mb_0 h md_Ref_isAlive_27
  replace h := h.2 hc
  refine mr_iconst C md_Ref_isAlive_22 mk_iconst_1 ?_
  refine mr_goto C md_Ref_isAlive_23 rfl ?_
  exact mr_zret C R mb_1 h md_Ref_isAlive_27
def mw_Ref_note_154 (P31 : Int32 → Int32 → Int32 → mz_St → Prop) (x1_154 : Int32) (x2_154 : Int32) (x3_154 : Int32) (s154 : mz_St) : Prop :=
  P31 x1_154 x2_154 x3_154 s154
def mw_Ref_note_137 (x1_31 : Int32) (P154 : Int32 → Int32 → Int32 → mz_St → Prop) (x2_137 : Int32) (x3_137 : Int32) (s137 : mz_St) : Prop :=
  P154 x1_31 x2_137 x3_137 s137
def mw_Ref_note_101 (x1_31 : Int32) (x2_31 : Int32) (x3_31 : Int32) (P154 : Int32 → Int32 → Int32 → mz_St → Prop) (y0_101 : Int32) (s101 : mz_St) : Prop :=
  (∀ P137 : Int32 → Int32 → mz_St → Prop, (∀ (x2_137 : Int32) (x3_137 : Int32) (s137 : mz_St), mw_Ref_note_137 x1_31 P154 x2_137 x3_137 s137 → P137 x2_137 x3_137 s137) →
  ((¬ ((x3_31 >>> (y0_101 &&& 31)) &&& 1) = 0 →
   P137 x2_31 x3_31 s101) ∧
  (((x3_31 >>> (y0_101 &&& 31)) &&& 1) = 0 →
   vp_in x2_31 10 ∧
   vp_in x2_31 10 ∧
   P137 (x2_31 + 1) (x3_31 ||| ((1 : Int32) <<< (y0_101 &&& 31))) (mz_wr (mz_wr s101 71 x2_31 y0_101) 72 x2_31 0))))
def mw_Ref_note_31 (K : Int32 → mz_St → Prop) (P31 : Int32 → Int32 → Int32 → mz_St → Prop) (x1_31 : Int32) (x2_31 : Int32) (x3_31 : Int32) (s31 : mz_St) : Prop :=
  ((x2_31 ≤ 0 →
   K x1_31 s31) ∧
  (¬ x2_31 ≤ 0 →
   vp_in (x2_31 - 1) 10 ∧
   vp_in (x2_31 - 1) 10 ∧
   vp_in (x2_31 - 1) 10 ∧
   vp_in (x2_31 - 1) 10 ∧
   vp_in (mz_rd s31 71 (x2_31 - 1)) 10 ∧
   (∀ P154 : Int32 → Int32 → Int32 → mz_St → Prop, (∀ (x1_154 : Int32) (x2_154 : Int32) (x3_154 : Int32) (s154 : mz_St), mw_Ref_note_154 P31 x1_154 x2_154 x3_154 s154 → P154 x1_154 x2_154 x3_154 s154) →
   (((mz_rd (mz_wr s31 72 (x2_31 - 1) ((mz_rd s31 72 (x2_31 - 1)) + 1)) 62 (mz_rd s31 71 (x2_31 - 1))) ≤ (mz_rd s31 72 (x2_31 - 1)) →
    vp_in x1_31 10 ∧
    P154 (x1_31 + 1) (x2_31 + (-1)) x3_31 (mz_wr (mz_wr s31 72 (x2_31 - 1) ((mz_rd s31 72 (x2_31 - 1)) + 1)) 70 x1_31 (mz_rd s31 71 (x2_31 - 1)))) ∧
   (¬ (mz_rd (mz_wr s31 72 (x2_31 - 1) ((mz_rd s31 72 (x2_31 - 1)) + 1)) 62 (mz_rd s31 71 (x2_31 - 1))) ≤ (mz_rd s31 72 (x2_31 - 1)) →
    (∀ P101 : Int32 → mz_St → Prop, (∀ (y0_101 : Int32) (s101 : mz_St), mw_Ref_note_101 x1_31 x2_31 x3_31 P154 y0_101 s101 → P101 y0_101 s101) →
    ((¬ (mz_rd s31 72 (x2_31 - 1)) = 0 →
     vp_in (mz_rd s31 71 (x2_31 - 1)) 10 ∧
     P101 (mz_rd (mz_wr s31 72 (x2_31 - 1) ((mz_rd s31 72 (x2_31 - 1)) + 1)) 65 (mz_rd s31 71 (x2_31 - 1))) (mz_wr s31 72 (x2_31 - 1) ((mz_rd s31 72 (x2_31 - 1)) + 1))) ∧
    ((mz_rd s31 72 (x2_31 - 1)) = 0 →
     vp_in (mz_rd s31 71 (x2_31 - 1)) 10 ∧
     P101 (mz_rd (mz_wr s31 72 (x2_31 - 1) ((mz_rd s31 72 (x2_31 - 1)) + 1)) 64 (mz_rd s31 71 (x2_31 - 1))) (mz_wr s31 72 (x2_31 - 1) ((mz_rd s31 72 (x2_31 - 1)) + 1))))))))))
/-- ValueMillModel.note()I: what it does, as a transformer of what must hold behind it -/
def mw_Ref_note (K : Int32 → mz_St → Prop) (s0 : mz_St) : Prop :=
  (∀ P31 : Int32 → Int32 → Int32 → mz_St → Prop, (∀ (x1_31 : Int32) (x2_31 : Int32) (x3_31 : Int32) (s31 : mz_St), mw_Ref_note_31 K P31 x1_31 x2_31 x3_31 s31 → P31 x1_31 x2_31 x3_31 s31) →
  (((s0 1016 0) ≤ 0 →
   P31 0 0 0 s0) ∧
  (¬ (s0 1016 0) ≤ 0 →
   vp_in 0 10 ∧
   vp_in 0 10 ∧
   P31 0 1 1 (mz_wr (mz_wr s0 71 0 0) 72 0 0))))
set_option maxRecDepth 100000 in
set_option maxHeartbeats 4000000 in
theorem ms_Ref_note (l : Launch) (E : mz_En) (hI : mz_Inj E) (K : Int32 → mz_St → Prop) (s0 : mz_St) (h : mw_Ref_note K s0) : mz_Ci l E my_Ref_note mb_Ref_note 7 (some .int) (0) (0) [.ref (E.2.1 11)] s0 K := by
  refine mz_cti hI (by decide +kernel) (Nat.le_of_ble_eq_true rfl) (fun X C R => ?_)
  show mz_G E X 7 0 [(0, .ref (E.2.1 11))] [] s0
  unfold mw_Ref_note at h
  refine mr_iconst C md_Ref_note_0 mk_iconst_0 ?_
  refine mr_istore_n C (L' := [(1, .int 0), (0, .ref (E.2.1 11))]) md_Ref_note_1 rfl (Nat.le_of_ble_eq_true rfl) rfl ?_
  refine mr_iconst C md_Ref_note_2 mk_iconst_0 ?_
  refine mr_istore_n C (L' := [(2, .int 0), (1, .int 0), (0, .ref (E.2.1 11))]) md_Ref_note_3 rfl (Nat.le_of_ble_eq_true rfl) rfl ?_
  refine mr_iconst C md_Ref_note_4 mk_iconst_0 ?_
  refine mr_istore_n C (L' := [(3, .int 0), (2, .int 0), (1, .int 0), (0, .ref (E.2.1 11))]) md_Ref_note_5 rfl (Nat.le_of_ble_eq_true rfl) rfl ?_
  refine mr_aload_n C 3 md_Ref_note_6 rfl rfl ?_
  refine mr_get C 11 0 mc_Ref_cls ml_1013 rfl (by decide) (by decide) (fun _ => rfl) rfl md_Ref_note_7 ?_
  refine mj (h (fun (x1_31 : Int32) (x2_31 : Int32) (x3_31 : Int32) (s31 : mz_St) => mz_G E X 7 31 [(0, .ref (E.2.1 11)), (1, .int x1_31), (2, .int x2_31), (3, .int x3_31)] [] s31) (fun x1_31 x2_31 x3_31 s31 h => ?_)) (fun h => ?_)
  · unfold mw_Ref_note_31 at h
    refine mr_iload_n C 2 md_Ref_note_31 rfl rfl ?_
    refine mr_if_le C md_Ref_note_32 rfl (fun hc => ?_) (fun hc => ?_)
    · replace h := h.1 hc
      refine mr_iload_n C 1 md_Ref_note_157 rfl rfl ?_
      exact mr_iret C R h md_Ref_note_158
    replace h := h.2 hc
    refine mr_aload_n C 0 md_Ref_note_35 rfl rfl ?_
    refine mr_get C 11 16 mc_Ref_cls ml_1029 rfl (by decide) (by decide) (fun _ => rfl) rfl md_Ref_note_36 ?_
    refine mr_iload_n C 2 md_Ref_note_39 rfl rfl ?_
    refine mr_iconst C md_Ref_note_40 mk_iconst_1 ?_
    refine mr_isub C md_Ref_note_41 ?_
    refine mr_iald C 71 10 (by decide) (fun _ => rfl) h.1 md_Ref_note_42 ?_
    replace h := h.2
    refine mr_istore C (L' := [(4, .int (mz_rd s31 71 (x2_31 - 1))), (0, .ref (E.2.1 11)), (1, .int x1_31), (2, .int x2_31), (3, .int x3_31)]) md_Ref_note_43 (Nat.le_of_ble_eq_true rfl) rfl ?_
    refine mr_aload_n C 1 md_Ref_note_45 rfl rfl ?_
    refine mr_get C 11 17 mc_Ref_cls ml_1030 rfl (by decide) (by decide) (fun _ => rfl) rfl md_Ref_note_46 ?_
    refine mr_iload_n C 3 md_Ref_note_49 rfl rfl ?_
    refine mr_iconst C md_Ref_note_50 mk_iconst_1 ?_
    refine mr_isub C md_Ref_note_51 ?_
    refine mr_iald C 72 10 (by decide) (fun _ => rfl) h.1 md_Ref_note_52 ?_
    replace h := h.2
    refine mr_istore C (L' := [(5, .int (mz_rd s31 72 (x2_31 - 1))), (4, .int (mz_rd s31 71 (x2_31 - 1))), (0, .ref (E.2.1 11)), (1, .int x1_31), (2, .int x2_31), (3, .int x3_31)]) md_Ref_note_53 (Nat.le_of_ble_eq_true rfl) rfl ?_
    refine mr_aload_n C 2 md_Ref_note_55 rfl rfl ?_
    refine mr_get C 11 17 mc_Ref_cls ml_1030 rfl (by decide) (by decide) (fun _ => rfl) rfl md_Ref_note_56 ?_
    refine mr_iload_n C 4 md_Ref_note_59 rfl rfl ?_
    refine mr_iconst C md_Ref_note_60 mk_iconst_1 ?_
    refine mr_isub C md_Ref_note_61 ?_
    refine mr_dup2 C md_Ref_note_62 rfl rfl ?_
    refine mr_iald C 72 10 (by decide) (fun _ => rfl) h.1 md_Ref_note_63 ?_
    replace h := h.2
    refine mr_iconst C md_Ref_note_64 mk_iconst_1 ?_
    refine mr_iadd C md_Ref_note_65 ?_
    refine mr_iast C 72 10 (by decide) (by decide) (fun _ _ => rfl) h.1 md_Ref_note_66 ?_
    replace h := h.2
    refine mr_iload C 0 md_Ref_note_67 rfl ?_
    refine mr_aload_n C 2 md_Ref_note_69 rfl rfl ?_
    refine mr_get C 11 3 mc_Ref_cls ml_1016 rfl (by decide) (by decide) (fun _ => rfl) rfl md_Ref_note_70 ?_
    refine mr_iload C 1 md_Ref_note_73 rfl ?_
    refine mr_iald C 62 10 (by decide) (fun _ => rfl) h.1 md_Ref_note_75 ?_
    replace h := h.2
    refine mj (h (fun (x1_154 : Int32) (x2_154 : Int32) (x3_154 : Int32) (s154 : mz_St) => mz_G E X 7 154 [(0, .ref (E.2.1 11)), (1, .int x1_154), (2, .int x2_154), (3, .int x3_154)] [] s154) (fun x1_154 x2_154 x3_154 s154 h => ?_)) (fun h => ?_)
    · unfold mw_Ref_note_154 at h
      refine mr_goto C md_Ref_note_154 rfl ?_
      exact h
    refine mr_icmp_ge C md_Ref_note_76 rfl (fun hc => ?_) (fun hc => ?_)
    · replace h := h.1 hc
      refine mr_aload_n C 2 md_Ref_note_140 rfl rfl ?_
      refine mr_get C 11 15 mc_Ref_cls ml_1028 rfl (by decide) (by decide) (fun _ => rfl) rfl md_Ref_note_141 ?_
      refine mr_iload_n C 3 md_Ref_note_144 rfl rfl ?_
      refine mr_iload C 1 md_Ref_note_145 rfl ?_
      refine mr_iast C 70 10 (by decide) (by decide) (fun _ _ => rfl) h.1 md_Ref_note_147 ?_
      replace h := h.2
      refine mr_iinc C (L' := [(1, .int (x1_31 + 1)), (5, .int (mz_rd s31 72 (x2_31 - 1))), (4, .int (mz_rd s31 71 (x2_31 - 1))), (0, .ref (E.2.1 11)), (2, .int x2_31), (3, .int x3_31)]) 3 md_Ref_note_148 rfl (mk_inc mk_iconst_1) (Nat.le_of_ble_eq_true rfl) rfl ?_
      refine mr_iinc C (L' := [(2, .int (x2_31 + (-1))), (1, .int (x1_31 + 1)), (5, .int (mz_rd s31 72 (x2_31 - 1))), (4, .int (mz_rd s31 71 (x2_31 - 1))), (0, .ref (E.2.1 11)), (3, .int x3_31)]) 4 md_Ref_note_151 rfl (mk_inc mk_iconst_m1) (Nat.le_of_ble_eq_true rfl) rfl ?_
      refine mr_sub [4, 1, 0, 5] rfl ?_
      exact h
    replace h := h.2 hc
    refine mr_iload C 0 md_Ref_note_79 rfl ?_
    refine mj (h (fun (y0_101 : Int32) (s101 : mz_St) => mz_G E X 7 101 [(0, .ref (E.2.1 11)), (1, .int x1_31), (2, .int x2_31), (3, .int x3_31)] [.int y0_101] s101) (fun y0_101 s101 h => ?_)) (fun h => ?_)
    · unfold mw_Ref_note_101 at h
      refine mr_istore C (L' := [(6, .int y0_101), (0, .ref (E.2.1 11)), (1, .int x1_31), (2, .int x2_31), (3, .int x3_31)]) md_Ref_note_101 (Nat.le_of_ble_eq_true rfl) rfl ?_
      refine mr_iload_n C 4 md_Ref_note_103 rfl rfl ?_
      refine mr_iload C 0 md_Ref_note_104 rfl ?_
      refine mr_ishr C md_Ref_note_106 ?_
      refine mr_iconst C md_Ref_note_107 mk_iconst_1 ?_
      refine mr_iand C md_Ref_note_108 ?_
      refine mj (h (fun (x2_137 : Int32) (x3_137 : Int32) (s137 : mz_St) => mz_G E X 7 137 [(0, .ref (E.2.1 11)), (1, .int x1_31), (2, .int x2_137), (3, .int x3_137)] [] s137) (fun x2_137 x3_137 s137 h => ?_)) (fun h => ?_)
      · unfold mw_Ref_note_137 at h
        refine mr_goto C md_Ref_note_137 rfl ?_
        exact h
      refine mr_if_ne C md_Ref_note_109 rfl (fun hc => ?_) (fun hc => ?_)
      · replace h := h.1 hc
        refine mr_sub [1, 2, 3, 4] rfl ?_
        exact h
      replace h := h.2 hc
      refine mr_iload_n C 4 md_Ref_note_112 rfl rfl ?_
      refine mr_iconst C md_Ref_note_113 mk_iconst_1 ?_
      refine mr_iload C 0 md_Ref_note_114 rfl ?_
      refine mr_ishl C md_Ref_note_116 ?_
      refine mr_ior C md_Ref_note_117 ?_
      refine mr_istore_n C (L' := [(3, .int (x3_31 ||| ((1 : Int32) <<< (y0_101 &&& 31)))), (6, .int y0_101), (0, .ref (E.2.1 11)), (1, .int x1_31), (2, .int x2_31)]) md_Ref_note_118 rfl (Nat.le_of_ble_eq_true rfl) rfl ?_
      refine mr_aload_n C 2 md_Ref_note_119 rfl rfl ?_
      refine mr_get C 11 16 mc_Ref_cls ml_1029 rfl (by decide) (by decide) (fun _ => rfl) rfl md_Ref_note_120 ?_
      refine mr_iload_n C 4 md_Ref_note_123 rfl rfl ?_
      refine mr_iload C 1 md_Ref_note_124 rfl ?_
      refine mr_iast C 71 10 (by decide) (by decide) (fun _ _ => rfl) h.1 md_Ref_note_126 ?_
      replace h := h.2
      refine mr_aload_n C 2 md_Ref_note_127 rfl rfl ?_
      refine mr_get C 11 17 mc_Ref_cls ml_1030 rfl (by decide) (by decide) (fun _ => rfl) rfl md_Ref_note_128 ?_
      refine mr_iload_n C 4 md_Ref_note_131 rfl rfl ?_
      refine mr_iconst C md_Ref_note_132 mk_iconst_0 ?_
      refine mr_iast C 72 10 (by decide) (by decide) (fun _ _ => rfl) h.1 md_Ref_note_133 ?_
      replace h := h.2
      refine mr_iinc C (L' := [(2, .int (x2_31 + 1)), (3, .int (x3_31 ||| ((1 : Int32) <<< (y0_101 &&& 31)))), (6, .int y0_101), (0, .ref (E.2.1 11)), (1, .int x1_31)]) 4 md_Ref_note_134 rfl (mk_inc mk_iconst_1) (Nat.le_of_ble_eq_true rfl) rfl ?_
      refine mr_sub [3, 4, 0, 1] rfl ?_
      exact h
    refine mr_if_ne C md_Ref_note_81 rfl (fun hc => ?_) (fun hc => ?_)
    · replace h := h.1 hc
      refine mr_aload_n C 2 md_Ref_note_94 rfl rfl ?_
      refine mr_get C 11 6 mc_Ref_cls ml_1019 rfl (by decide) (by decide) (fun _ => rfl) rfl md_Ref_note_95 ?_
      refine mr_iload C 1 md_Ref_note_98 rfl ?_
      refine mr_iald C 65 10 (by decide) (fun _ => rfl) h.1 md_Ref_note_100 ?_
      replace h := h.2
      refine mr_sub [2, 3, 4, 5] rfl ?_
      exact h
    replace h := h.2 hc
    refine mr_aload_n C 2 md_Ref_note_84 rfl rfl ?_
    refine mr_get C 11 5 mc_Ref_cls ml_1018 rfl (by decide) (by decide) (fun _ => rfl) rfl md_Ref_note_85 ?_
    refine mr_iload C 1 md_Ref_note_88 rfl ?_
    refine mr_iald C 64 10 (by decide) (fun _ => rfl) h.1 md_Ref_note_90 ?_
    replace h := h.2
    refine mr_goto C md_Ref_note_91 rfl ?_
    refine mr_sub [2, 3, 4, 5] rfl ?_
    exact h
  refine mr_if_le C md_Ref_note_10 rfl (fun hc => ?_) (fun hc => ?_)
  · replace h := h.1 hc
    refine mr_sub [3, 2, 1, 0] rfl ?_
    exact h
  replace h := h.2 hc
  refine mr_aload_n C 3 md_Ref_note_13 rfl rfl ?_
  refine mr_get C 11 16 mc_Ref_cls ml_1029 rfl (by decide) (by decide) (fun _ => rfl) rfl md_Ref_note_14 ?_
  refine mr_iconst C md_Ref_note_17 mk_iconst_0 ?_
  refine mr_iconst C md_Ref_note_18 mk_iconst_0 ?_
  refine mr_iast C 71 10 (by decide) (by decide) (fun _ _ => rfl) h.1 md_Ref_note_19 ?_
  replace h := h.2
  refine mr_aload_n C 3 md_Ref_note_20 rfl rfl ?_
  refine mr_get C 11 17 mc_Ref_cls ml_1030 rfl (by decide) (by decide) (fun _ => rfl) rfl md_Ref_note_21 ?_
  refine mr_iconst C md_Ref_note_24 mk_iconst_0 ?_
  refine mr_iconst C md_Ref_note_25 mk_iconst_0 ?_
  refine mr_iast C 72 10 (by decide) (by decide) (fun _ _ => rfl) h.1 md_Ref_note_26 ?_
  replace h := h.2
  refine mr_iconst C md_Ref_note_27 mk_iconst_1 ?_
  refine mr_istore_n C (L' := [(3, .int 1), (2, .int 0), (1, .int 0), (0, .ref (E.2.1 11))]) md_Ref_note_28 rfl (Nat.le_of_ble_eq_true rfl) rfl ?_
  refine mr_iconst C md_Ref_note_29 mk_iconst_1 ?_
  refine mr_istore_n C (L' := [(2, .int 1), (3, .int 1), (1, .int 0), (0, .ref (E.2.1 11))]) md_Ref_note_30 rfl (Nat.le_of_ble_eq_true rfl) rfl ?_
  refine mr_sub [3, 2, 0, 1] rfl ?_
  exact h
/-- ValueMillModel.order(I)I: what it does, as a transformer of what must hold behind it -/
def mw_Ref_order (K : Int32 → mz_St → Prop) (a0 : Int32) (s0 : mz_St) : Prop :=
  mw_Ref_note (fun r1 u1 =>
   ((a0 < 0 →
    K (-1) u1) ∧
   (¬ a0 < 0 →
    ((r1 ≤ a0 →
     K (-1) u1) ∧
    (¬ r1 ≤ a0 →
     vp_in ((r1 - 1) - a0) 10 ∧
     K (mz_rd u1 70 ((r1 - 1) - a0)) u1))))) s0
set_option maxRecDepth 100000 in
set_option maxHeartbeats 4000000 in
theorem ms_Ref_order (l : Launch) (E : mz_En) (hI : mz_Inj E) (K : Int32 → mz_St → Prop) (a0 : Int32) (s0 : mz_St) (h : mw_Ref_order K a0 s0) : mz_Ci l E my_Ref_order mb_Ref_order 3 (some .int) (1) (26) [.ref (E.2.1 11), .int a0] s0 K := by
  refine mz_cti hI (by decide +kernel) (Nat.le_of_ble_eq_true rfl) (fun X C R => ?_)
  show mz_G E X 3 0 [(0, .ref (E.2.1 11)), (1, .int a0)] [] s0
  unfold mw_Ref_order at h
  refine mr_aload_n C 0 md_Ref_order_0 rfl rfl ?_
  refine mr_cVi C (As := []) (rest := []) 11 (ms_Ref_note _ E hI _  _ h) mo_Ref_note mi_Ref_note mc_Ref_cls ml_1149 (by decide) (fun _ => rfl) rfl rfl (Nat.le_of_ble_eq_true rfl) (Nat.le_of_ble_eq_true rfl) (Nat.le_of_ble_eq_true rfl) md_Ref_order_1 (fun r1 u1 h => ?_)
  refine mr_istore_n C (L' := [(2, .int r1), (0, .ref (E.2.1 11)), (1, .int a0)]) md_Ref_order_4 rfl (Nat.le_of_ble_eq_true rfl) rfl ?_
  refine mr_iload_n C 2 md_Ref_order_5 rfl rfl ?_
  refine mr_if_lt C md_Ref_order_6 rfl (fun hc => ?_) (fun hc => ?_)
  · replace h := h.1 hc
    refine mr_iconst C md_Ref_order_27 mk_iconst_m1 ?_
    exact mr_iret C R h md_Ref_order_28
  replace h := h.2 hc
  refine mr_iload_n C 2 md_Ref_order_9 rfl rfl ?_
  refine mr_iload_n C 0 md_Ref_order_10 rfl rfl ?_
  refine mr_icmp_ge C md_Ref_order_11 rfl (fun hc => ?_) (fun hc => ?_)
  · replace h := h.1 hc
    refine mr_iconst C md_Ref_order_27 mk_iconst_m1 ?_
    exact mr_iret C R h md_Ref_order_28
  replace h := h.2 hc
  refine mr_aload_n C 1 md_Ref_order_14 rfl rfl ?_
  refine mr_get C 11 15 mc_Ref_cls ml_1028 rfl (by decide) (by decide) (fun _ => rfl) rfl md_Ref_order_15 ?_
  refine mr_iload_n C 0 md_Ref_order_18 rfl rfl ?_
  refine mr_iconst C md_Ref_order_19 mk_iconst_1 ?_
  refine mr_isub C md_Ref_order_20 ?_
  refine mr_iload_n C 2 md_Ref_order_21 rfl rfl ?_
  refine mr_isub C md_Ref_order_22 ?_
  refine mr_iald C 70 10 (by decide) (fun _ => rfl) h.1 md_Ref_order_23 ?_
  replace h := h.2
  refine mr_goto C md_Ref_order_24 rfl ?_
  exact mr_iret C R h md_Ref_order_28
def mw_Ref_dominates_34 (K : Int32 → mz_St → Prop) (s34 : mz_St) : Prop :=
  K 1 s34
/-- ValueMillModel.dominates(II)Z: what it does, as a transformer of what must hold behind it -/
def mw_Ref_dominates (K : Int32 → mz_St → Prop) (a0 : Int32) (a1 : Int32) (s0 : mz_St) : Prop :=
  mw_Ref_isAlive (fun r1 u1 =>
   ((r1 = 0 →
    K 0 u1) ∧
   (¬ r1 = 0 →
    mw_Ref_isAlive (fun r2 u2 =>
     ((r2 = 0 →
      K 0 u2) ∧
     (¬ r2 = 0 →
      (∀ P34 : mz_St → Prop, (∀ (s34 : mz_St), mw_Ref_dominates_34 K s34 → P34 s34) →
      ((a0 = a1 →
       P34 u2) ∧
      (¬ a0 = a1 →
       mw_Ref_reach (fun r3 u3 =>
        ((¬ ((r3 >>> (a1 &&& 31)) &&& 1) = 0 →
         K 0 u3) ∧
        (((r3 >>> (a1 &&& 31)) &&& 1) = 0 →
         P34 u3))) 1 a0 u2)))))) a1 u1))) a0 s0
set_option maxRecDepth 100000 in
set_option maxHeartbeats 4000000 in
theorem ms_Ref_dominates (l : Launch) (E : mz_En) (hI : mz_Inj E) (K : Int32 → mz_St → Prop) (a0 : Int32) (a1 : Int32) (s0 : mz_St) (h : mw_Ref_dominates K a0 a1 s0) : mz_Ci l E my_Ref_dominates mb_Ref_dominates 3 (some .boolean) (3) (69) [.ref (E.2.1 11), .int a0, .int a1] s0 K := by
  refine mz_cti hI (by decide +kernel) (Nat.le_of_ble_eq_true rfl) (fun X C R => ?_)
  show mz_G E X 3 0 [(0, .ref (E.2.1 11)), (1, .int a0), (2, .int a1)] [] s0
  unfold mw_Ref_dominates at h
  refine mr_aload_n C 0 md_Ref_dominates_0 rfl rfl ?_
  refine mr_iload_n C 1 md_Ref_dominates_1 rfl rfl ?_
  refine mr_cVi C (As := [.int a0]) (rest := []) 11 (ms_Ref_isAlive _ E hI _ a0 _ h) mo_Ref_isAlive mi_Ref_isAlive mc_Ref_cls ml_1161 (by decide) (fun _ => rfl) rfl rfl (Nat.le_of_ble_eq_true rfl) (Nat.le_of_ble_eq_true rfl) (Nat.le_of_ble_eq_true rfl) md_Ref_dominates_2 (fun r1 u1 h => ?_)
  refine mr_if_eq C md_Ref_dominates_5 rfl (fun hc => ?_) (fun hc => ?_)
  · replace h := h.1 hc
    refine mr_iconst C md_Ref_dominates_38 mk_iconst_0 ?_
    exact mr_zret C R mb_0 h md_Ref_dominates_39
  replace h := h.2 hc
  refine mr_aload_n C 0 md_Ref_dominates_8 rfl rfl ?_
  refine mr_iload_n C 2 md_Ref_dominates_9 rfl rfl ?_
  refine mr_cVi C (As := [.int a1]) (rest := []) 11 (ms_Ref_isAlive _ E hI _ a1 _ h) mo_Ref_isAlive mi_Ref_isAlive mc_Ref_cls ml_1161 (by decide) (fun _ => rfl) rfl rfl (Nat.le_of_ble_eq_true rfl) (Nat.le_of_ble_eq_true rfl) (Nat.le_of_ble_eq_true rfl) md_Ref_dominates_10 (fun r2 u2 h => ?_)
  refine mr_if_eq C md_Ref_dominates_13 rfl (fun hc => ?_) (fun hc => ?_)
  · replace h := h.1 hc
    refine mr_iconst C md_Ref_dominates_38 mk_iconst_0 ?_
    exact mr_zret C R mb_0 h md_Ref_dominates_39
  replace h := h.2 hc
  refine mr_iload_n C 1 md_Ref_dominates_16 rfl rfl ?_
  refine mr_iload_n C 2 md_Ref_dominates_17 rfl rfl ?_
  refine mj (h (fun (s34 : mz_St) => mz_G E X 3 34 [] [] s34) (fun s34 h => ?_)) (fun h => ?_)
  · unfold mw_Ref_dominates_34 at h
    refine mr_iconst C md_Ref_dominates_34 mk_iconst_1 ?_
    refine mr_goto C md_Ref_dominates_35 rfl ?_
    exact mr_zret C R mb_1 h md_Ref_dominates_39
  refine mr_icmp_eq C md_Ref_dominates_18 rfl (fun hc => ?_) (fun hc => ?_)
  · replace h := h.1 hc
    refine mr_sub [] rfl ?_
    exact h
  replace h := h.2 hc
  refine mr_aload_n C 0 md_Ref_dominates_21 rfl rfl ?_
  refine mr_iconst C md_Ref_dominates_22 mk_iconst_1 ?_
  refine mr_iload_n C 1 md_Ref_dominates_23 rfl rfl ?_
  refine mr_cVi C (As := [.int 1, .int a0]) (rest := []) 11 (ms_Ref_reach _ E hI _ 1 a0 _ h) mo_Ref_reach mi_Ref_reach mc_Ref_cls ml_1165 (by decide) (fun _ => rfl) rfl rfl (Nat.le_of_ble_eq_true rfl) (Nat.le_of_ble_eq_true rfl) (Nat.le_of_ble_eq_true rfl) md_Ref_dominates_24 (fun r3 u3 h => ?_)
  refine mr_iload_n C 2 md_Ref_dominates_27 rfl rfl ?_
  refine mr_ishr C md_Ref_dominates_28 ?_
  refine mr_iconst C md_Ref_dominates_29 mk_iconst_1 ?_
  refine mr_iand C md_Ref_dominates_30 ?_
  refine mr_if_ne C md_Ref_dominates_31 rfl (fun hc => ?_) (fun hc => ?_)
  · replace h := h.1 hc
    refine mr_iconst C md_Ref_dominates_38 mk_iconst_0 ?_
    exact mr_zret C R mb_0 h md_Ref_dominates_39
  replace h := h.2 hc
  refine mr_sub [] rfl ?_
  exact h
def mw_Ref_nearest_86 (P2 : Int32 → mz_St → Prop) (x2_2 : Int32) (s86 : mz_St) : Prop :=
  P2 (x2_2 + 1) s86
def mw_Ref_nearest_73 (P29 : Int32 → Int32 → mz_St → Prop) (x4_29 : Int32) (y0_73 : Int32) (s73 : mz_St) : Prop :=
  P29 y0_73 (x4_29 + 1) s73
def mw_Ref_nearest_72 (P73 : Int32 → mz_St → Prop) (s72 : mz_St) : Prop :=
  P73 0 s72
def mw_Ref_nearest_68 (P73 : Int32 → mz_St → Prop) (s68 : mz_St) : Prop :=
  P73 1 s68
def mw_Ref_nearest_29 (K : Int32 → mz_St → Prop) (a0 : Int32) (x2_2 : Int32) (P86 : mz_St → Prop) (P29 : Int32 → Int32 → mz_St → Prop) (x3_29 : Int32) (x4_29 : Int32) (s29 : mz_St) : Prop :=
  (((s29 1016 0) ≤ x4_29 →
   ((x3_29 = 0 →
    P86 s29) ∧
   (¬ x3_29 = 0 →
    K x2_2 s29))) ∧
  (¬ (s29 1016 0) ≤ x4_29 →
   (∀ P73 : Int32 → mz_St → Prop, (∀ (y0_73 : Int32) (s73 : mz_St), mw_Ref_nearest_73 P29 x4_29 y0_73 s73 → P73 y0_73 s73) →
   (∀ P72 : mz_St → Prop, (∀ (s72 : mz_St), mw_Ref_nearest_72 P73 s72 → P72 s72) →
   ((x3_29 = 0 →
    P72 s29) ∧
   (¬ x3_29 = 0 →
    (∀ P68 : mz_St → Prop, (∀ (s68 : mz_St), mw_Ref_nearest_68 P73 s68 → P68 s68) →
    ((x4_29 = a0 →
     P68 s29) ∧
    (¬ x4_29 = a0 →
     mw_Ref_dominates (fun r2 u2 =>
      ((r2 = 0 →
       P68 u2) ∧
      (¬ r2 = 0 →
       mw_Ref_dominates (fun r3 u3 =>
        ((r3 = 0 →
         P72 u3) ∧
        (¬ r3 = 0 →
         P68 u3))) x4_29 x2_2 u2))) x4_29 a0 s29)))))))))
def mw_Ref_nearest_2 (K : Int32 → mz_St → Prop) (a0 : Int32) (P2 : Int32 → mz_St → Prop) (x2_2 : Int32) (s2 : mz_St) : Prop :=
  (((s2 1016 0) ≤ x2_2 →
   K (-1) s2) ∧
  (¬ (s2 1016 0) ≤ x2_2 →
   (∀ P86 : mz_St → Prop, (∀ (s86 : mz_St), mw_Ref_nearest_86 P2 x2_2 s86 → P86 s86) →
   ((x2_2 = a0 →
    P86 s2) ∧
   (¬ x2_2 = a0 →
    mw_Ref_dominates (fun r1 u1 =>
     ((r1 = 0 →
      P86 u1) ∧
     (¬ r1 = 0 →
      (∀ P29 : Int32 → Int32 → mz_St → Prop, (∀ (x3_29 : Int32) (x4_29 : Int32) (s29 : mz_St), mw_Ref_nearest_29 K a0 x2_2 P86 P29 x3_29 x4_29 s29 → P29 x3_29 x4_29 s29) →
      P29 1 0 u1)))) x2_2 a0 s2)))))
/-- ValueMillModel.nearest(I)I: what it does, as a transformer of what must hold behind it -/
def mw_Ref_nearest (K : Int32 → mz_St → Prop) (a0 : Int32) (s0 : mz_St) : Prop :=
  (∀ P2 : Int32 → mz_St → Prop, (∀ (x2_2 : Int32) (s2 : mz_St), mw_Ref_nearest_2 K a0 P2 x2_2 s2 → P2 x2_2 s2) →
  P2 0 s0)
set_option maxRecDepth 100000 in
set_option maxHeartbeats 4000000 in
theorem ms_Ref_nearest (l : Launch) (E : mz_En) (hI : mz_Inj E) (K : Int32 → mz_St → Prop) (a0 : Int32) (s0 : mz_St) (h : mw_Ref_nearest K a0 s0) : mz_Ci l E my_Ref_nearest mb_Ref_nearest 5 (some .int) (4) (91) [.ref (E.2.1 11), .int a0] s0 K := by
  refine mz_cti hI (by decide +kernel) (Nat.le_of_ble_eq_true rfl) (fun X C R => ?_)
  show mz_G E X 5 0 [(0, .ref (E.2.1 11)), (1, .int a0)] [] s0
  unfold mw_Ref_nearest at h
  refine mr_iconst C md_Ref_nearest_0 mk_iconst_0 ?_
  refine mr_istore_n C (L' := [(2, .int 0), (0, .ref (E.2.1 11)), (1, .int a0)]) md_Ref_nearest_1 rfl (Nat.le_of_ble_eq_true rfl) rfl ?_
  refine mr_sub [1, 2, 0] rfl ?_
  refine h (fun (x2_2 : Int32) (s2 : mz_St) => mz_G E X 5 2 [(0, .ref (E.2.1 11)), (1, .int a0), (2, .int x2_2)] [] s2) (fun x2_2 s2 h => ?_)
  unfold mw_Ref_nearest_2 at h
  refine mr_iload_n C 2 md_Ref_nearest_2 rfl rfl ?_
  refine mr_aload_n C 0 md_Ref_nearest_3 rfl rfl ?_
  refine mr_get C 11 0 mc_Ref_cls ml_1013 rfl (by decide) (by decide) (fun _ => rfl) rfl md_Ref_nearest_4 ?_
  refine mr_icmp_ge C md_Ref_nearest_7 rfl (fun hc => ?_) (fun hc => ?_)
  · replace h := h.1 hc
    refine mr_iconst C md_Ref_nearest_92 mk_iconst_m1 ?_
    exact mr_iret C R h md_Ref_nearest_93
  replace h := h.2 hc
  refine mr_iload_n C 2 md_Ref_nearest_10 rfl rfl ?_
  refine mr_iload_n C 1 md_Ref_nearest_11 rfl rfl ?_
  refine mj (h (fun (s86 : mz_St) => mz_G E X 5 86 [(0, .ref (E.2.1 11)), (1, .int a0), (2, .int x2_2)] [] s86) (fun s86 h => ?_)) (fun h => ?_)
  · unfold mw_Ref_nearest_86 at h
    refine mr_iinc C (L' := [(2, .int (x2_2 + 1)), (0, .ref (E.2.1 11)), (1, .int a0)]) 2 md_Ref_nearest_86 rfl (mk_inc mk_iconst_1) (Nat.le_of_ble_eq_true rfl) rfl ?_
    refine mr_goto C md_Ref_nearest_89 rfl ?_
    refine mr_sub [1, 2, 0] rfl ?_
    exact h
  refine mr_icmp_eq C md_Ref_nearest_12 rfl (fun hc => ?_) (fun hc => ?_)
  · replace h := h.1 hc
    exact h
  replace h := h.2 hc
  refine mr_aload_n C 0 md_Ref_nearest_15 rfl rfl ?_
  refine mr_iload_n C 2 md_Ref_nearest_16 rfl rfl ?_
  refine mr_iload_n C 1 md_Ref_nearest_17 rfl rfl ?_
  refine mr_cVi C (As := [.int x2_2, .int a0]) (rest := []) 11 (ms_Ref_dominates _ E hI _ x2_2 a0 _ h) mo_Ref_dominates mi_Ref_dominates mc_Ref_cls ml_1157 (by decide) (fun _ => rfl) rfl rfl (Nat.le_of_ble_eq_true rfl) (Nat.le_of_ble_eq_true rfl) (Nat.le_of_ble_eq_true rfl) md_Ref_nearest_18 (fun r1 u1 h => ?_)
  refine mr_if_eq C md_Ref_nearest_21 rfl (fun hc => ?_) (fun hc => ?_)
  · replace h := h.1 hc
    exact h
  replace h := h.2 hc
  refine mr_iconst C md_Ref_nearest_24 mk_iconst_1 ?_
  refine mr_istore_n C (L' := [(3, .int 1), (0, .ref (E.2.1 11)), (1, .int a0), (2, .int x2_2)]) md_Ref_nearest_25 rfl (Nat.le_of_ble_eq_true rfl) rfl ?_
  refine mr_iconst C md_Ref_nearest_26 mk_iconst_0 ?_
  refine mr_istore C (L' := [(4, .int 0), (3, .int 1), (0, .ref (E.2.1 11)), (1, .int a0), (2, .int x2_2)]) md_Ref_nearest_27 (Nat.le_of_ble_eq_true rfl) rfl ?_
  refine mr_sub [2, 3, 4, 1, 0] rfl ?_
  refine h (fun (x3_29 : Int32) (x4_29 : Int32) (s29 : mz_St) => mz_G E X 5 29 [(0, .ref (E.2.1 11)), (1, .int a0), (2, .int x2_2), (3, .int x3_29), (4, .int x4_29)] [] s29) (fun x3_29 x4_29 s29 h => ?_)
  unfold mw_Ref_nearest_29 at h
  refine mr_iload C 4 md_Ref_nearest_29 rfl ?_
  refine mr_aload_n C 0 md_Ref_nearest_31 rfl rfl ?_
  refine mr_get C 11 0 mc_Ref_cls ml_1013 rfl (by decide) (by decide) (fun _ => rfl) rfl md_Ref_nearest_32 ?_
  refine mr_icmp_ge C md_Ref_nearest_35 rfl (fun hc => ?_) (fun hc => ?_)
  · replace h := h.1 hc
    refine mr_iload_n C 3 md_Ref_nearest_80 rfl rfl ?_
    refine mr_if_eq C md_Ref_nearest_81 rfl (fun hc => ?_) (fun hc => ?_)
    · replace h := h.1 hc
      refine mr_sub [0, 1, 2] rfl ?_
      exact h
    replace h := h.2 hc
    refine mr_iload_n C 2 md_Ref_nearest_84 rfl rfl ?_
    exact mr_iret C R h md_Ref_nearest_85
  replace h := h.2 hc
  refine mr_iload_n C 3 md_Ref_nearest_38 rfl rfl ?_
  refine mj (h (fun (y0_73 : Int32) (s73 : mz_St) => mz_G E X 5 73 [(0, .ref (E.2.1 11)), (1, .int a0), (2, .int x2_2), (4, .int x4_29)] [.int y0_73] s73) (fun y0_73 s73 h => ?_)) (fun h => ?_)
  · unfold mw_Ref_nearest_73 at h
    refine mr_istore_n C (L' := [(3, .int y0_73), (0, .ref (E.2.1 11)), (1, .int a0), (2, .int x2_2), (4, .int x4_29)]) md_Ref_nearest_73 rfl (Nat.le_of_ble_eq_true rfl) rfl ?_
    refine mr_iinc C (L' := [(4, .int (x4_29 + 1)), (3, .int y0_73), (0, .ref (E.2.1 11)), (1, .int a0), (2, .int x2_2)]) 4 md_Ref_nearest_74 rfl (mk_inc mk_iconst_1) (Nat.le_of_ble_eq_true rfl) rfl ?_
    refine mr_goto C md_Ref_nearest_77 rfl ?_
    refine mr_sub [2, 3, 4, 1, 0] rfl ?_
    exact h
  refine mj (h (fun (s72 : mz_St) => mz_G E X 5 72 [(0, .ref (E.2.1 11)), (1, .int a0), (2, .int x2_2), (4, .int x4_29)] [] s72) (fun s72 h => ?_)) (fun h => ?_)
  · unfold mw_Ref_nearest_72 at h
    refine mr_iconst C md_Ref_nearest_72 mk_iconst_0 ?_
    exact h
  refine mr_if_eq C md_Ref_nearest_39 rfl (fun hc => ?_) (fun hc => ?_)
  · replace h := h.1 hc
    refine mr_sub [0, 1, 2, 4] rfl ?_
    exact h
  replace h := h.2 hc
  refine mr_iload C 4 md_Ref_nearest_42 rfl ?_
  refine mr_iload_n C 1 md_Ref_nearest_44 rfl rfl ?_
  refine mj (h (fun (s68 : mz_St) => mz_G E X 5 68 [(0, .ref (E.2.1 11)), (1, .int a0), (2, .int x2_2), (4, .int x4_29)] [] s68) (fun s68 h => ?_)) (fun h => ?_)
  · unfold mw_Ref_nearest_68 at h
    refine mr_iconst C md_Ref_nearest_68 mk_iconst_1 ?_
    refine mr_goto C md_Ref_nearest_69 rfl ?_
    exact h
  refine mr_icmp_eq C md_Ref_nearest_45 rfl (fun hc => ?_) (fun hc => ?_)
  · replace h := h.1 hc
    refine mr_sub [0, 1, 2, 4] rfl ?_
    exact h
  replace h := h.2 hc
  refine mr_aload_n C 0 md_Ref_nearest_48 rfl rfl ?_
  refine mr_iload C 4 md_Ref_nearest_49 rfl ?_
  refine mr_iload_n C 1 md_Ref_nearest_51 rfl rfl ?_
  refine mr_cVi C (As := [.int x4_29, .int a0]) (rest := []) 11 (ms_Ref_dominates _ E hI _ x4_29 a0 _ h) mo_Ref_dominates mi_Ref_dominates mc_Ref_cls ml_1157 (by decide) (fun _ => rfl) rfl rfl (Nat.le_of_ble_eq_true rfl) (Nat.le_of_ble_eq_true rfl) (Nat.le_of_ble_eq_true rfl) md_Ref_nearest_52 (fun r2 u2 h => ?_)
  refine mr_if_eq C md_Ref_nearest_55 rfl (fun hc => ?_) (fun hc => ?_)
  · replace h := h.1 hc
    refine mr_sub [0, 1, 2, 4] rfl ?_
    exact h
  replace h := h.2 hc
  refine mr_aload_n C 0 md_Ref_nearest_58 rfl rfl ?_
  refine mr_iload C 4 md_Ref_nearest_59 rfl ?_
  refine mr_iload_n C 2 md_Ref_nearest_61 rfl rfl ?_
  refine mr_cVi C (As := [.int x4_29, .int x2_2]) (rest := []) 11 (ms_Ref_dominates _ E hI _ x4_29 x2_2 _ h) mo_Ref_dominates mi_Ref_dominates mc_Ref_cls ml_1157 (by decide) (fun _ => rfl) rfl rfl (Nat.le_of_ble_eq_true rfl) (Nat.le_of_ble_eq_true rfl) (Nat.le_of_ble_eq_true rfl) md_Ref_nearest_62 (fun r3 u3 h => ?_)
  refine mr_if_eq C md_Ref_nearest_65 rfl (fun hc => ?_) (fun hc => ?_)
  · replace h := h.1 hc
    refine mr_sub [0, 1, 2, 4] rfl ?_
    exact h
  replace h := h.2 hc
  refine mr_sub [0, 1, 2, 4] rfl ?_
  exact h
def mw_Ref_frontier_76 (K : Int32 → mz_St → Prop) (s76 : mz_St) : Prop :=
  K 1 s76
def mw_Ref_frontier_58 (K : Int32 → mz_St → Prop) (a0 : Int32) (a1 : Int32) (x3_5 : Int32) (s58 : mz_St) : Prop :=
  ((x3_5 = 0 →
   K 0 s58) ∧
  (¬ x3_5 = 0 →
   (∀ P76 : mz_St → Prop, (∀ (s76 : mz_St), mw_Ref_frontier_76 K s76 → P76 s76) →
   ((a0 = a1 →
    P76 s58) ∧
   (¬ a0 = a1 →
    mw_Ref_dominates (fun r1 u1 =>
     ((¬ r1 = 0 →
      K 0 u1) ∧
     (r1 = 0 →
      P76 u1))) a0 a1 s58)))))
def mw_Ref_frontier_51 (P5 : Int32 → Int32 → mz_St → Prop) (x4_5 : Int32) (y0_51 : Int32) (s51 : mz_St) : Prop :=
  P5 y0_51 (x4_5 + 1) s51
def mw_Ref_frontier_46 (P51 : Int32 → mz_St → Prop) (s46 : mz_St) : Prop :=
  P51 1 s46
def mw_Ref_frontier_50 (P51 : Int32 → mz_St → Prop) (s50 : mz_St) : Prop :=
  P51 0 s50
def mw_Ref_frontier_5 (K : Int32 → mz_St → Prop) (a0 : Int32) (a1 : Int32) (P5 : Int32 → Int32 → mz_St → Prop) (x3_5 : Int32) (x4_5 : Int32) (s5 : mz_St) : Prop :=
  (∀ P58 : mz_St → Prop, (∀ (s58 : mz_St), mw_Ref_frontier_58 K a0 a1 x3_5 s58 → P58 s58) →
  (((s5 1016 0) ≤ x4_5 →
   P58 s5) ∧
  (¬ (s5 1016 0) ≤ x4_5 →
   mw_Ref_isAlive (fun r2 u2 =>
    ((r2 = 0 →
     P58 u2) ∧
    (¬ r2 = 0 →
     (∀ P51 : Int32 → mz_St → Prop, (∀ (y0_51 : Int32) (s51 : mz_St), mw_Ref_frontier_51 P5 x4_5 y0_51 s51 → P51 y0_51 s51) →
     (∀ P46 : mz_St → Prop, (∀ (s46 : mz_St), mw_Ref_frontier_46 P51 s46 → P46 s46) →
     ((¬ x3_5 = 0 →
      P46 u2) ∧
     (x3_5 = 0 →
      mw_Ref_hasEdge (fun r3 u3 =>
       (∀ P50 : mz_St → Prop, (∀ (s50 : mz_St), mw_Ref_frontier_50 P51 s50 → P50 s50) →
       ((r3 = 0 →
        P50 u3) ∧
       (¬ r3 = 0 →
        mw_Ref_dominates (fun r4 u4 =>
         ((r4 = 0 →
          P50 u4) ∧
         (¬ r4 = 0 →
          P46 u4))) a0 x4_5 u3)))) x4_5 a1 u2))))))) a1 s5)))
/-- ValueMillModel.frontier(II)Z: what it does, as a transformer of what must hold behind it -/
def mw_Ref_frontier (K : Int32 → mz_St → Prop) (a0 : Int32) (a1 : Int32) (s0 : mz_St) : Prop :=
  (∀ P5 : Int32 → Int32 → mz_St → Prop, (∀ (x3_5 : Int32) (x4_5 : Int32) (s5 : mz_St), mw_Ref_frontier_5 K a0 a1 P5 x3_5 x4_5 s5 → P5 x3_5 x4_5 s5) →
  P5 0 0 s0)
set_option maxRecDepth 100000 in
set_option maxHeartbeats 4000000 in
theorem ms_Ref_frontier (l : Launch) (E : mz_En) (hI : mz_Inj E) (K : Int32 → mz_St → Prop) (a0 : Int32) (a1 : Int32) (s0 : mz_St) (h : mw_Ref_frontier K a0 a1 s0) : mz_Ci l E my_Ref_frontier mb_Ref_frontier 5 (some .boolean) (4) (91) [.ref (E.2.1 11), .int a0, .int a1] s0 K := by
  refine mz_cti hI (by decide +kernel) (Nat.le_of_ble_eq_true rfl) (fun X C R => ?_)
  show mz_G E X 5 0 [(0, .ref (E.2.1 11)), (1, .int a0), (2, .int a1)] [] s0
  unfold mw_Ref_frontier at h
  refine mr_iconst C md_Ref_frontier_0 mk_iconst_0 ?_
  refine mr_istore_n C (L' := [(3, .int 0), (0, .ref (E.2.1 11)), (1, .int a0), (2, .int a1)]) md_Ref_frontier_1 rfl (Nat.le_of_ble_eq_true rfl) rfl ?_
  refine mr_iconst C md_Ref_frontier_2 mk_iconst_0 ?_
  refine mr_istore C (L' := [(4, .int 0), (3, .int 0), (0, .ref (E.2.1 11)), (1, .int a0), (2, .int a1)]) md_Ref_frontier_3 (Nat.le_of_ble_eq_true rfl) rfl ?_
  refine mr_sub [2, 3, 4, 1, 0] rfl ?_
  refine h (fun (x3_5 : Int32) (x4_5 : Int32) (s5 : mz_St) => mz_G E X 5 5 [(0, .ref (E.2.1 11)), (1, .int a0), (2, .int a1), (3, .int x3_5), (4, .int x4_5)] [] s5) (fun x3_5 x4_5 s5 h => ?_)
  unfold mw_Ref_frontier_5 at h
  refine mr_iload C 4 md_Ref_frontier_5 rfl ?_
  refine mr_aload_n C 0 md_Ref_frontier_7 rfl rfl ?_
  refine mr_get C 11 0 mc_Ref_cls ml_1013 rfl (by decide) (by decide) (fun _ => rfl) rfl md_Ref_frontier_8 ?_
  refine mj (h (fun (s58 : mz_St) => mz_G E X 5 58 [(0, .ref (E.2.1 11)), (1, .int a0), (2, .int a1), (3, .int x3_5)] [] s58) (fun s58 h => ?_)) (fun h => ?_)
  · unfold mw_Ref_frontier_58 at h
    refine mr_iload_n C 3 md_Ref_frontier_58 rfl rfl ?_
    refine mr_if_eq C md_Ref_frontier_59 rfl (fun hc => ?_) (fun hc => ?_)
    · replace h := h.1 hc
      refine mr_iconst C md_Ref_frontier_80 mk_iconst_0 ?_
      exact mr_zret C R mb_0 h md_Ref_frontier_81
    replace h := h.2 hc
    refine mr_iload_n C 1 md_Ref_frontier_62 rfl rfl ?_
    refine mr_iload_n C 2 md_Ref_frontier_63 rfl rfl ?_
    refine mj (h (fun (s76 : mz_St) => mz_G E X 5 76 [] [] s76) (fun s76 h => ?_)) (fun h => ?_)
    · unfold mw_Ref_frontier_76 at h
      refine mr_iconst C md_Ref_frontier_76 mk_iconst_1 ?_
      refine mr_goto C md_Ref_frontier_77 rfl ?_
      exact mr_zret C R mb_1 h md_Ref_frontier_81
    refine mr_icmp_eq C md_Ref_frontier_64 rfl (fun hc => ?_) (fun hc => ?_)
    · replace h := h.1 hc
      refine mr_sub [] rfl ?_
      exact h
    replace h := h.2 hc
    refine mr_aload_n C 0 md_Ref_frontier_67 rfl rfl ?_
    refine mr_iload_n C 1 md_Ref_frontier_68 rfl rfl ?_
    refine mr_iload_n C 2 md_Ref_frontier_69 rfl rfl ?_
    refine mr_cVi C (As := [.int a0, .int a1]) (rest := []) 11 (ms_Ref_dominates _ E hI _ a0 a1 _ h) mo_Ref_dominates mi_Ref_dominates mc_Ref_cls ml_1157 (by decide) (fun _ => rfl) rfl rfl (Nat.le_of_ble_eq_true rfl) (Nat.le_of_ble_eq_true rfl) (Nat.le_of_ble_eq_true rfl) md_Ref_frontier_70 (fun r1 u1 h => ?_)
    refine mr_if_ne C md_Ref_frontier_73 rfl (fun hc => ?_) (fun hc => ?_)
    · replace h := h.1 hc
      refine mr_iconst C md_Ref_frontier_80 mk_iconst_0 ?_
      exact mr_zret C R mb_0 h md_Ref_frontier_81
    replace h := h.2 hc
    refine mr_sub [] rfl ?_
    exact h
  refine mr_icmp_ge C md_Ref_frontier_11 rfl (fun hc => ?_) (fun hc => ?_)
  · replace h := h.1 hc
    refine mr_sub [0, 1, 2, 3] rfl ?_
    exact h
  replace h := h.2 hc
  refine mr_aload_n C 0 md_Ref_frontier_14 rfl rfl ?_
  refine mr_iload_n C 2 md_Ref_frontier_15 rfl rfl ?_
  refine mr_cVi C (As := [.int a1]) (rest := []) 11 (ms_Ref_isAlive _ E hI _ a1 _ h) mo_Ref_isAlive mi_Ref_isAlive mc_Ref_cls ml_1161 (by decide) (fun _ => rfl) rfl rfl (Nat.le_of_ble_eq_true rfl) (Nat.le_of_ble_eq_true rfl) (Nat.le_of_ble_eq_true rfl) md_Ref_frontier_16 (fun r2 u2 h => ?_)
  refine mr_if_eq C md_Ref_frontier_19 rfl (fun hc => ?_) (fun hc => ?_)
  · replace h := h.1 hc
    refine mr_sub [0, 1, 2, 3] rfl ?_
    exact h
  replace h := h.2 hc
  refine mr_iload_n C 3 md_Ref_frontier_22 rfl rfl ?_
  refine mj (h (fun (y0_51 : Int32) (s51 : mz_St) => mz_G E X 5 51 [(0, .ref (E.2.1 11)), (1, .int a0), (2, .int a1), (4, .int x4_5)] [.int y0_51] s51) (fun y0_51 s51 h => ?_)) (fun h => ?_)
  · unfold mw_Ref_frontier_51 at h
    refine mr_istore_n C (L' := [(3, .int y0_51), (0, .ref (E.2.1 11)), (1, .int a0), (2, .int a1), (4, .int x4_5)]) md_Ref_frontier_51 rfl (Nat.le_of_ble_eq_true rfl) rfl ?_
    refine mr_iinc C (L' := [(4, .int (x4_5 + 1)), (3, .int y0_51), (0, .ref (E.2.1 11)), (1, .int a0), (2, .int a1)]) 4 md_Ref_frontier_52 rfl (mk_inc mk_iconst_1) (Nat.le_of_ble_eq_true rfl) rfl ?_
    refine mr_goto C md_Ref_frontier_55 rfl ?_
    refine mr_sub [2, 3, 4, 1, 0] rfl ?_
    exact h
  refine mj (h (fun (s46 : mz_St) => mz_G E X 5 46 [(0, .ref (E.2.1 11)), (1, .int a0), (2, .int a1), (4, .int x4_5)] [] s46) (fun s46 h => ?_)) (fun h => ?_)
  · unfold mw_Ref_frontier_46 at h
    refine mr_iconst C md_Ref_frontier_46 mk_iconst_1 ?_
    refine mr_goto C md_Ref_frontier_47 rfl ?_
    exact h
  refine mr_if_ne C md_Ref_frontier_23 rfl (fun hc => ?_) (fun hc => ?_)
  · replace h := h.1 hc
    refine mr_sub [0, 1, 2, 4] rfl ?_
    exact h
  replace h := h.2 hc
  refine mr_aload_n C 0 md_Ref_frontier_26 rfl rfl ?_
  refine mr_iload C 4 md_Ref_frontier_27 rfl ?_
  refine mr_iload_n C 2 md_Ref_frontier_29 rfl rfl ?_
  refine mr_cVi C (As := [.int x4_5, .int a1]) (rest := []) 11 (ms_Ref_hasEdge _ E hI _ x4_5 a1 _ h) mo_Ref_hasEdge mi_Ref_hasEdge mc_Ref_cls ml_1169 (by decide) (fun _ => rfl) rfl rfl (Nat.le_of_ble_eq_true rfl) (Nat.le_of_ble_eq_true rfl) (Nat.le_of_ble_eq_true rfl) md_Ref_frontier_30 (fun r3 u3 h => ?_)
  refine mj (h (fun (s50 : mz_St) => mz_G E X 5 50 [(0, .ref (E.2.1 11)), (1, .int a0), (2, .int a1), (4, .int x4_5)] [] s50) (fun s50 h => ?_)) (fun h => ?_)
  · unfold mw_Ref_frontier_50 at h
    refine mr_iconst C md_Ref_frontier_50 mk_iconst_0 ?_
    exact h
  refine mr_if_eq C md_Ref_frontier_33 rfl (fun hc => ?_) (fun hc => ?_)
  · replace h := h.1 hc
    refine mr_sub [0, 1, 2, 4] rfl ?_
    exact h
  replace h := h.2 hc
  refine mr_aload_n C 0 md_Ref_frontier_36 rfl rfl ?_
  refine mr_iload_n C 1 md_Ref_frontier_37 rfl rfl ?_
  refine mr_iload C 4 md_Ref_frontier_38 rfl ?_
  refine mr_cVi C (As := [.int a0, .int x4_5]) (rest := []) 11 (ms_Ref_dominates _ E hI _ a0 x4_5 _ h) mo_Ref_dominates mi_Ref_dominates mc_Ref_cls ml_1157 (by decide) (fun _ => rfl) rfl rfl (Nat.le_of_ble_eq_true rfl) (Nat.le_of_ble_eq_true rfl) (Nat.le_of_ble_eq_true rfl) md_Ref_frontier_40 (fun r4 u4 h => ?_)
  refine mr_if_eq C md_Ref_frontier_43 rfl (fun hc => ?_) (fun hc => ?_)
  · replace h := h.1 hc
    refine mr_sub [0, 1, 2, 4] rfl ?_
    exact h
  replace h := h.2 hc
  refine mr_sub [0, 1, 2, 4] rfl ?_
  exact h
def mw_Ref_uses_55 (K : Int32 → mz_St → Prop) (s55 : mz_St) : Prop :=
  K 1 s55
def mw_Ref_uses_43 (K : Int32 → mz_St → Prop) (y0_14 : Int32) (y0_43 : Int32) (s43 : mz_St) : Prop :=
  (∀ P55 : mz_St → Prop, (∀ (s55 : mz_St), mw_Ref_uses_55 K s55 → P55 s55) →
  ((¬ y0_14 = 0 →
   P55 s43) ∧
  (y0_14 = 0 →
   ((y0_43 = 0 →
    K 0 s43) ∧
   (¬ y0_43 = 0 →
    P55 s43)))))
def mw_Ref_uses_42 (P43 : Int32 → mz_St → Prop) (s42 : mz_St) : Prop :=
  P43 0 s42
def mw_Ref_uses_33 (a2 : Int32) (a3 : Int32) (P43 : Int32 → mz_St → Prop) (P42 : mz_St → Prop) (s33 : mz_St) : Prop :=
  ((¬ a2 = a3 →
   P42 s33) ∧
  (a2 = a3 →
   P43 1 s33))
def mw_Ref_uses_27 (a0 : Int32) (P42 : mz_St → Prop) (P33 : mz_St → Prop) (s27 : mz_St) : Prop :=
  ((¬ a0 = 17 →
   P42 s27) ∧
  (a0 = 17 →
   P33 s27))
def mw_Ref_uses_14 (K : Int32 → mz_St → Prop) (a0 : Int32) (a2 : Int32) (a3 : Int32) (y0_14 : Int32) (s14 : mz_St) : Prop :=
  (∀ P43 : Int32 → mz_St → Prop, (∀ (y0_43 : Int32) (s43 : mz_St), mw_Ref_uses_43 K y0_14 y0_43 s43 → P43 y0_43 s43) →
  (∀ P42 : mz_St → Prop, (∀ (s42 : mz_St), mw_Ref_uses_42 P43 s42 → P42 s42) →
  (∀ P33 : mz_St → Prop, (∀ (s33 : mz_St), mw_Ref_uses_33 a2 a3 P43 P42 s33 → P33 s33) →
  (∀ P27 : mz_St → Prop, (∀ (s27 : mz_St), mw_Ref_uses_27 a0 P42 P33 s27 → P27 s27) →
  ((a0 ≤ 1 →
   P27 s14) ∧
  (¬ a0 ≤ 1 →
   ((a0 < 16 →
    P33 s14) ∧
   (¬ a0 < 16 →
    P27 s14))))))))
def mw_Ref_uses_13 (P14 : Int32 → mz_St → Prop) (s13 : mz_St) : Prop :=
  P14 0 s13
/-- ValueMillModel.uses(IIII)Z: what it does, as a transformer of what must hold behind it -/
def mw_Ref_uses (K : Int32 → mz_St → Prop) (a0 : Int32) (a1 : Int32) (a2 : Int32) (a3 : Int32) (s0 : mz_St) : Prop :=
  (∀ P14 : Int32 → mz_St → Prop, (∀ (y0_14 : Int32) (s14 : mz_St), mw_Ref_uses_14 K a0 a2 a3 y0_14 s14 → P14 y0_14 s14) →
  (∀ P13 : mz_St → Prop, (∀ (s13 : mz_St), mw_Ref_uses_13 P14 s13 → P13 s13) →
  ((a0 ≤ 0 →
   P13 s0) ∧
  (¬ a0 ≤ 0 →
   ((¬ a1 = a3 →
    P13 s0) ∧
   (a1 = a3 →
    P14 1 s0))))))
set_option maxRecDepth 100000 in
set_option maxHeartbeats 4000000 in
theorem ms_Ref_uses (l : Launch) (E : mz_En) (hI : mz_Inj E) (K : Int32 → mz_St → Prop) (a0 : Int32) (a1 : Int32) (a2 : Int32) (a3 : Int32) (s0 : mz_St) (h : mw_Ref_uses K a0 a1 a2 a3 s0) : mz_Ci l E my_Ref_uses mb_Ref_uses 6 (some .boolean) (0) (0) [.int a0, .int a1, .int a2, .int a3] s0 K := by
  refine mz_cti hI (by decide +kernel) (Nat.le_of_ble_eq_true rfl) (fun X C R => ?_)
  show mz_G E X 6 0 [(0, .int a0), (1, .int a1), (2, .int a2), (3, .int a3)] [] s0
  unfold mw_Ref_uses at h
  refine mr_iload_n C 0 md_Ref_uses_0 rfl rfl ?_
  refine mj (h (fun (y0_14 : Int32) (s14 : mz_St) => mz_G E X 6 14 [(0, .int a0), (2, .int a2), (3, .int a3)] [.int y0_14] s14) (fun y0_14 s14 h => ?_)) (fun h => ?_)
  · unfold mw_Ref_uses_14 at h
    refine mr_istore C (L' := [(4, .int y0_14), (0, .int a0), (2, .int a2), (3, .int a3)]) md_Ref_uses_14 (Nat.le_of_ble_eq_true rfl) rfl ?_
    refine mr_iload_n C 1 md_Ref_uses_16 rfl rfl ?_
    refine mr_iconst C md_Ref_uses_17 mk_iconst_1 ?_
    refine mj (h (fun (y0_43 : Int32) (s43 : mz_St) => mz_G E X 6 43 [(4, .int y0_14)] [.int y0_43] s43) (fun y0_43 s43 h => ?_)) (fun h => ?_)
    · unfold mw_Ref_uses_43 at h
      refine mr_istore C (L' := [(5, .int y0_43), (4, .int y0_14)]) md_Ref_uses_43 (Nat.le_of_ble_eq_true rfl) rfl ?_
      refine mr_iload C 1 md_Ref_uses_45 rfl ?_
      refine mj (h (fun (s55 : mz_St) => mz_G E X 6 55 [] [] s55) (fun s55 h => ?_)) (fun h => ?_)
      · unfold mw_Ref_uses_55 at h
        refine mr_iconst C md_Ref_uses_55 mk_iconst_1 ?_
        refine mr_goto C md_Ref_uses_56 rfl ?_
        exact mr_zret C R mb_1 h md_Ref_uses_60
      refine mr_if_ne C md_Ref_uses_47 rfl (fun hc => ?_) (fun hc => ?_)
      · replace h := h.1 hc
        refine mr_sub [] rfl ?_
        exact h
      replace h := h.2 hc
      refine mr_iload C 0 md_Ref_uses_50 rfl ?_
      refine mr_if_eq C md_Ref_uses_52 rfl (fun hc => ?_) (fun hc => ?_)
      · replace h := h.1 hc
        refine mr_iconst C md_Ref_uses_59 mk_iconst_0 ?_
        exact mr_zret C R mb_0 h md_Ref_uses_60
      replace h := h.2 hc
      refine mr_sub [] rfl ?_
      exact h
    refine mj (h (fun (s42 : mz_St) => mz_G E X 6 42 [(4, .int y0_14)] [] s42) (fun s42 h => ?_)) (fun h => ?_)
    · unfold mw_Ref_uses_42 at h
      refine mr_iconst C md_Ref_uses_42 mk_iconst_0 ?_
      exact h
    refine mj (h (fun (s33 : mz_St) => mz_G E X 6 33 [(2, .int a2), (3, .int a3), (4, .int y0_14)] [] s33) (fun s33 h => ?_)) (fun h => ?_)
    · unfold mw_Ref_uses_33 at h
      refine mr_iload_n C 0 md_Ref_uses_33 rfl rfl ?_
      refine mr_iload_n C 1 md_Ref_uses_34 rfl rfl ?_
      refine mr_icmp_ne C md_Ref_uses_35 rfl (fun hc => ?_) (fun hc => ?_)
      · replace h := h.1 hc
        refine mr_sub [2] rfl ?_
        exact h
      replace h := h.2 hc
      refine mr_iconst C md_Ref_uses_38 mk_iconst_1 ?_
      refine mr_goto C md_Ref_uses_39 rfl ?_
      refine mr_sub [2] rfl ?_
      exact h
    refine mj (h (fun (s27 : mz_St) => mz_G E X 6 27 [(0, .int a0), (2, .int a2), (3, .int a3), (4, .int y0_14)] [] s27) (fun s27 h => ?_)) (fun h => ?_)
    · unfold mw_Ref_uses_27 at h
      refine mr_iload_n C 0 md_Ref_uses_27 rfl rfl ?_
      refine mr_bipush C md_Ref_uses_28 mk_bipush_17 ?_
      refine mr_icmp_ne C md_Ref_uses_30 rfl (fun hc => ?_) (fun hc => ?_)
      · replace h := h.1 hc
        refine mr_sub [3] rfl ?_
        exact h
      replace h := h.2 hc
      refine mr_sub [1, 2, 3] rfl ?_
      exact h
    refine mr_icmp_le C md_Ref_uses_18 rfl (fun hc => ?_) (fun hc => ?_)
    · replace h := h.1 hc
      refine mr_sub [1, 2, 3, 0] rfl ?_
      exact h
    replace h := h.2 hc
    refine mr_iload_n C 1 md_Ref_uses_21 rfl rfl ?_
    refine mr_bipush C md_Ref_uses_22 mk_bipush_16 ?_
    refine mr_icmp_lt C md_Ref_uses_24 rfl (fun hc => ?_) (fun hc => ?_)
    · replace h := h.1 hc
      refine mr_sub [2, 3, 0] rfl ?_
      exact h
    replace h := h.2 hc
    refine mr_sub [1, 2, 3, 0] rfl ?_
    exact h
  refine mj (h (fun (s13 : mz_St) => mz_G E X 6 13 [(0, .int a0), (2, .int a2), (3, .int a3)] [] s13) (fun s13 h => ?_)) (fun h => ?_)
  · unfold mw_Ref_uses_13 at h
    refine mr_iconst C md_Ref_uses_13 mk_iconst_0 ?_
    exact h
  refine mr_if_le C md_Ref_uses_1 rfl (fun hc => ?_) (fun hc => ?_)
  · replace h := h.1 hc
    refine mr_sub [0, 2, 3] rfl ?_
    exact h
  replace h := h.2 hc
  refine mr_iload_n C 1 md_Ref_uses_4 rfl rfl ?_
  refine mr_iload_n C 3 md_Ref_uses_5 rfl rfl ?_
  refine mr_icmp_ne C md_Ref_uses_6 rfl (fun hc => ?_) (fun hc => ?_)
  · replace h := h.1 hc
    refine mr_sub [0, 2, 3] rfl ?_
    exact h
  replace h := h.2 hc
  refine mr_iconst C md_Ref_uses_9 mk_iconst_1 ?_
  refine mr_goto C md_Ref_uses_10 rfl ?_
  refine mr_sub [0, 2, 3] rfl ?_
  exact h
def mw_Ref_fate_83 (P2 : Int32 → mz_St → Prop) (x3_2 : Int32) (s83 : mz_St) : Prop :=
  P2 (x3_2 + 1) s83
def mw_Ref_fate_2 (K : Int32 → mz_St → Prop) (a0 : Int32) (a1 : Int32) (P2 : Int32 → mz_St → Prop) (x3_2 : Int32) (s2 : mz_St) : Prop :=
  vp_in a0 10 ∧
  (((mz_rd s2 60 a0) ≤ x3_2 →
   vp_in a0 10 ∧
   (((mz_rd s2 62 a0) = 1 →
    K 0 s2) ∧
   (¬ (mz_rd s2 62 a0) = 1 →
    vp_in a0 10 ∧
    ((¬ (mz_rd s2 63 a0) = a1 →
     K 0 s2) ∧
    ((mz_rd s2 63 a0) = a1 →
     K 1 s2))))) ∧
  (¬ (mz_rd s2 60 a0) ≤ x3_2 →
   vp_in (((48 : Int32) * a0) + ((4 : Int32) * x3_2)) 480 ∧
   vp_in ((((48 : Int32) * a0) + ((4 : Int32) * x3_2)) + 2) 480 ∧
   vp_in ((((48 : Int32) * a0) + ((4 : Int32) * x3_2)) + 3) 480 ∧
   mw_Ref_uses (fun r1 u1 =>
    ((r1 = 0 →
     vp_in (((48 : Int32) * a0) + ((4 : Int32) * x3_2)) 480 ∧
     (∀ P83 : mz_St → Prop, (∀ (s83 : mz_St), mw_Ref_fate_83 P2 x3_2 s83 → P83 s83) →
     (((mz_rd u1 61 (((48 : Int32) * a0) + ((4 : Int32) * x3_2))) = 17 →
      P83 u1) ∧
     (¬ (mz_rd u1 61 (((48 : Int32) * a0) + ((4 : Int32) * x3_2))) = 17 →
      vp_in ((((48 : Int32) * a0) + ((4 : Int32) * x3_2)) + 1) 480 ∧
      ((¬ (mz_rd u1 61 ((((48 : Int32) * a0) + ((4 : Int32) * x3_2)) + 1)) = a1 →
       P83 u1) ∧
      ((mz_rd u1 61 ((((48 : Int32) * a0) + ((4 : Int32) * x3_2)) + 1)) = a1 →
       K 2 u1)))))) ∧
    (¬ r1 = 0 →
     K 1 u1))) (mz_rd s2 61 (((48 : Int32) * a0) + ((4 : Int32) * x3_2))) (mz_rd s2 61 ((((48 : Int32) * a0) + ((4 : Int32) * x3_2)) + 2)) (mz_rd s2 61 ((((48 : Int32) * a0) + ((4 : Int32) * x3_2)) + 3)) a1 s2))
/-- ValueMillModel.fate(II)I: what it does, as a transformer of what must hold behind it -/
def mw_Ref_fate (K : Int32 → mz_St → Prop) (a0 : Int32) (a1 : Int32) (s0 : mz_St) : Prop :=
  (∀ P2 : Int32 → mz_St → Prop, (∀ (x3_2 : Int32) (s2 : mz_St), mw_Ref_fate_2 K a0 a1 P2 x3_2 s2 → P2 x3_2 s2) →
  P2 0 s0)
set_option maxRecDepth 100000 in
set_option maxHeartbeats 4000000 in
theorem ms_Ref_fate (l : Launch) (E : mz_En) (hI : mz_Inj E) (K : Int32 → mz_St → Prop) (a0 : Int32) (a1 : Int32) (s0 : mz_St) (h : mw_Ref_fate K a0 a1 s0) : mz_Ci l E my_Ref_fate mb_Ref_fate 5 (some .int) (1) (25) [.ref (E.2.1 11), .int a0, .int a1] s0 K := by
  refine mz_cti hI (by decide +kernel) (Nat.le_of_ble_eq_true rfl) (fun X C R => ?_)
  show mz_G E X 5 0 [(0, .ref (E.2.1 11)), (1, .int a0), (2, .int a1)] [] s0
  unfold mw_Ref_fate at h
  refine mr_iconst C md_Ref_fate_0 mk_iconst_0 ?_
  refine mr_istore_n C (L' := [(3, .int 0), (0, .ref (E.2.1 11)), (1, .int a0), (2, .int a1)]) md_Ref_fate_1 rfl (Nat.le_of_ble_eq_true rfl) rfl ?_
  refine mr_sub [1, 2, 3, 0] rfl ?_
  refine h (fun (x3_2 : Int32) (s2 : mz_St) => mz_G E X 5 2 [(0, .ref (E.2.1 11)), (1, .int a0), (2, .int a1), (3, .int x3_2)] [] s2) (fun x3_2 s2 h => ?_)
  unfold mw_Ref_fate_2 at h
  refine mr_iload_n C 3 md_Ref_fate_2 rfl rfl ?_
  refine mr_aload_n C 0 md_Ref_fate_3 rfl rfl ?_
  refine mr_get C 11 1 mc_Ref_cls ml_1014 rfl (by decide) (by decide) (fun _ => rfl) rfl md_Ref_fate_4 ?_
  refine mr_iload_n C 1 md_Ref_fate_7 rfl rfl ?_
  refine mr_iald C 60 10 (by decide) (fun _ => rfl) h.1 md_Ref_fate_8 ?_
  replace h := h.2
  refine mr_icmp_ge C md_Ref_fate_9 rfl (fun hc => ?_) (fun hc => ?_)
  · replace h := h.1 hc
    refine mr_aload_n C 0 md_Ref_fate_89 rfl rfl ?_
    refine mr_get C 11 3 mc_Ref_cls ml_1016 rfl (by decide) (by decide) (fun _ => rfl) rfl md_Ref_fate_90 ?_
    refine mr_iload_n C 1 md_Ref_fate_93 rfl rfl ?_
    refine mr_iald C 62 10 (by decide) (fun _ => rfl) h.1 md_Ref_fate_94 ?_
    replace h := h.2
    refine mr_iconst C md_Ref_fate_95 mk_iconst_1 ?_
    refine mr_icmp_eq C md_Ref_fate_96 rfl (fun hc => ?_) (fun hc => ?_)
    · replace h := h.1 hc
      refine mr_iconst C md_Ref_fate_113 mk_iconst_0 ?_
      exact mr_iret C R h md_Ref_fate_114
    replace h := h.2 hc
    refine mr_aload_n C 0 md_Ref_fate_99 rfl rfl ?_
    refine mr_get C 11 4 mc_Ref_cls ml_1017 rfl (by decide) (by decide) (fun _ => rfl) rfl md_Ref_fate_100 ?_
    refine mr_iload_n C 1 md_Ref_fate_103 rfl rfl ?_
    refine mr_iald C 63 10 (by decide) (fun _ => rfl) h.1 md_Ref_fate_104 ?_
    replace h := h.2
    refine mr_iload_n C 2 md_Ref_fate_105 rfl rfl ?_
    refine mr_icmp_ne C md_Ref_fate_106 rfl (fun hc => ?_) (fun hc => ?_)
    · replace h := h.1 hc
      refine mr_iconst C md_Ref_fate_113 mk_iconst_0 ?_
      exact mr_iret C R h md_Ref_fate_114
    replace h := h.2 hc
    refine mr_iconst C md_Ref_fate_109 mk_iconst_1 ?_
    refine mr_goto C md_Ref_fate_110 rfl ?_
    exact mr_iret C R h md_Ref_fate_114
  replace h := h.2 hc
  refine mr_bipush C md_Ref_fate_12 mk_bipush_48 ?_
  refine mr_iload_n C 1 md_Ref_fate_14 rfl rfl ?_
  refine mr_imul C md_Ref_fate_15 ?_
  refine mr_iconst C md_Ref_fate_16 mk_iconst_4 ?_
  refine mr_iload_n C 3 md_Ref_fate_17 rfl rfl ?_
  refine mr_imul C md_Ref_fate_18 ?_
  refine mr_iadd C md_Ref_fate_19 ?_
  refine mr_istore C (L' := [(4, .int (((48 : Int32) * a0) + ((4 : Int32) * x3_2))), (0, .ref (E.2.1 11)), (1, .int a0), (2, .int a1), (3, .int x3_2)]) md_Ref_fate_20 (Nat.le_of_ble_eq_true rfl) rfl ?_
  refine mr_aload_n C 1 md_Ref_fate_22 rfl rfl ?_
  refine mr_get C 11 2 mc_Ref_cls ml_1015 rfl (by decide) (by decide) (fun _ => rfl) rfl md_Ref_fate_23 ?_
  refine mr_iload C 0 md_Ref_fate_26 rfl ?_
  refine mr_iald C 61 480 (by decide) (fun _ => rfl) h.1 md_Ref_fate_28 ?_
  replace h := h.2
  refine mr_aload_n C 1 md_Ref_fate_29 rfl rfl ?_
  refine mr_get C 11 2 mc_Ref_cls ml_1015 rfl (by decide) (by decide) (fun _ => rfl) rfl md_Ref_fate_30 ?_
  refine mr_iload C 0 md_Ref_fate_33 rfl ?_
  refine mr_iconst C md_Ref_fate_35 mk_iconst_2 ?_
  refine mr_iadd C md_Ref_fate_36 ?_
  refine mr_iald C 61 480 (by decide) (fun _ => rfl) h.1 md_Ref_fate_37 ?_
  replace h := h.2
  refine mr_aload_n C 1 md_Ref_fate_38 rfl rfl ?_
  refine mr_get C 11 2 mc_Ref_cls ml_1015 rfl (by decide) (by decide) (fun _ => rfl) rfl md_Ref_fate_39 ?_
  refine mr_iload C 0 md_Ref_fate_42 rfl ?_
  refine mr_iconst C md_Ref_fate_44 mk_iconst_3 ?_
  refine mr_iadd C md_Ref_fate_45 ?_
  refine mr_iald C 61 480 (by decide) (fun _ => rfl) h.1 md_Ref_fate_46 ?_
  replace h := h.2
  refine mr_iload_n C 3 md_Ref_fate_47 rfl rfl ?_
  refine mr_cSi C (As := [.int (mz_rd s2 61 (((48 : Int32) * a0) + ((4 : Int32) * x3_2))), .int (mz_rd s2 61 ((((48 : Int32) * a0) + ((4 : Int32) * x3_2)) + 2)), .int (mz_rd s2 61 ((((48 : Int32) * a0) + ((4 : Int32) * x3_2)) + 3)), .int a1]) (rest := []) (ms_Ref_uses _ E hI _ (mz_rd s2 61 (((48 : Int32) * a0) + ((4 : Int32) * x3_2))) (mz_rd s2 61 ((((48 : Int32) * a0) + ((4 : Int32) * x3_2)) + 2)) (mz_rd s2 61 ((((48 : Int32) * a0) + ((4 : Int32) * x3_2)) + 3)) a1 _ h) mo_Ref_uses mt_Ref_uses ml_1185 rfl rfl (Nat.le_of_ble_eq_true rfl) (Nat.le_of_ble_eq_true rfl) (Nat.le_of_ble_eq_true rfl) md_Ref_fate_48 (fun r1 u1 h => ?_)
  refine mr_if_eq C md_Ref_fate_51 rfl (fun hc => ?_) (fun hc => ?_)
  · replace h := h.1 hc
    refine mr_aload_n C 1 md_Ref_fate_56 rfl rfl ?_
    refine mr_get C 11 2 mc_Ref_cls ml_1015 rfl (by decide) (by decide) (fun _ => rfl) rfl md_Ref_fate_57 ?_
    refine mr_iload C 0 md_Ref_fate_60 rfl ?_
    refine mr_iald C 61 480 (by decide) (fun _ => rfl) h.1 md_Ref_fate_62 ?_
    replace h := h.2
    refine mr_bipush C md_Ref_fate_63 mk_bipush_17 ?_
    refine mj (h (fun (s83 : mz_St) => mz_G E X 5 83 [(0, .ref (E.2.1 11)), (1, .int a0), (2, .int a1), (3, .int x3_2)] [] s83) (fun s83 h => ?_)) (fun h => ?_)
    · unfold mw_Ref_fate_83 at h
      refine mr_iinc C (L' := [(3, .int (x3_2 + 1)), (0, .ref (E.2.1 11)), (1, .int a0), (2, .int a1)]) 3 md_Ref_fate_83 rfl (mk_inc mk_iconst_1) (Nat.le_of_ble_eq_true rfl) rfl ?_
      refine mr_goto C md_Ref_fate_86 rfl ?_
      refine mr_sub [1, 2, 3, 0] rfl ?_
      exact h
    refine mr_icmp_eq C md_Ref_fate_65 rfl (fun hc => ?_) (fun hc => ?_)
    · replace h := h.1 hc
      refine mr_sub [1, 2, 3, 4] rfl ?_
      exact h
    replace h := h.2 hc
    refine mr_aload_n C 1 md_Ref_fate_68 rfl rfl ?_
    refine mr_get C 11 2 mc_Ref_cls ml_1015 rfl (by decide) (by decide) (fun _ => rfl) rfl md_Ref_fate_69 ?_
    refine mr_iload C 0 md_Ref_fate_72 rfl ?_
    refine mr_iconst C md_Ref_fate_74 mk_iconst_1 ?_
    refine mr_iadd C md_Ref_fate_75 ?_
    refine mr_iald C 61 480 (by decide) (fun _ => rfl) h.1 md_Ref_fate_76 ?_
    replace h := h.2
    refine mr_iload_n C 3 md_Ref_fate_77 rfl rfl ?_
    refine mr_icmp_ne C md_Ref_fate_78 rfl (fun hc => ?_) (fun hc => ?_)
    · replace h := h.1 hc
      refine mr_sub [1, 2, 3, 4] rfl ?_
      exact h
    replace h := h.2 hc
    refine mr_iconst C md_Ref_fate_81 mk_iconst_2 ?_
    exact mr_iret C R h md_Ref_fate_82
  replace h := h.2 hc
  refine mr_iconst C md_Ref_fate_54 mk_iconst_1 ?_
  exact mr_iret C R h md_Ref_fate_55
def mw_Ref_isSet_64 (P5 : Int32 → Int32 → mz_St → Prop) (x4_5 : Int32) (y0_64 : Int32) (s64 : mz_St) : Prop :=
  P5 y0_64 (x4_5 + 1) s64
def mw_Ref_isSet_59 (P64 : Int32 → mz_St → Prop) (s59 : mz_St) : Prop :=
  P64 1 s59
def mw_Ref_isSet_63 (P64 : Int32 → mz_St → Prop) (s63 : mz_St) : Prop :=
  P64 0 s63
def mw_Ref_isSet_5 (K : Int32 → mz_St → Prop) (a0 : Int32) (a1 : Int32) (P5 : Int32 → Int32 → mz_St → Prop) (x3_5 : Int32) (x4_5 : Int32) (s5 : mz_St) : Prop :=
  vp_in a0 10 ∧
  (((mz_rd s5 60 a0) ≤ x4_5 →
   (x3_5 = 0 ∨ x3_5 = 1) ∧ K x3_5 s5) ∧
  (¬ (mz_rd s5 60 a0) ≤ x4_5 →
   (∀ P64 : Int32 → mz_St → Prop, (∀ (y0_64 : Int32) (s64 : mz_St), mw_Ref_isSet_64 P5 x4_5 y0_64 s64 → P64 y0_64 s64) →
   (∀ P59 : mz_St → Prop, (∀ (s59 : mz_St), mw_Ref_isSet_59 P64 s59 → P59 s59) →
   ((¬ x3_5 = 0 →
    P59 s5) ∧
   (x3_5 = 0 →
    vp_in (((48 : Int32) * a0) + ((4 : Int32) * x4_5)) 480 ∧
    (∀ P63 : mz_St → Prop, (∀ (s63 : mz_St), mw_Ref_isSet_63 P64 s63 → P63 s63) →
    (((mz_rd s5 61 (((48 : Int32) * a0) + ((4 : Int32) * x4_5))) = 17 →
     P63 s5) ∧
    (¬ (mz_rd s5 61 (((48 : Int32) * a0) + ((4 : Int32) * x4_5))) = 17 →
     vp_in ((((48 : Int32) * a0) + ((4 : Int32) * x4_5)) + 1) 480 ∧
     ((¬ (mz_rd s5 61 ((((48 : Int32) * a0) + ((4 : Int32) * x4_5)) + 1)) = a1 →
      P63 s5) ∧
     ((mz_rd s5 61 ((((48 : Int32) * a0) + ((4 : Int32) * x4_5)) + 1)) = a1 →
      P59 s5)))))))))))
/-- ValueMillModel.isSet(II)Z: what it does, as a transformer of what must hold behind it -/
def mw_Ref_isSet (K : Int32 → mz_St → Prop) (a0 : Int32) (a1 : Int32) (s0 : mz_St) : Prop :=
  (∀ P5 : Int32 → Int32 → mz_St → Prop, (∀ (x3_5 : Int32) (x4_5 : Int32) (s5 : mz_St), mw_Ref_isSet_5 K a0 a1 P5 x3_5 x4_5 s5 → P5 x3_5 x4_5 s5) →
  P5 0 0 s0)
set_option maxRecDepth 100000 in
set_option maxHeartbeats 4000000 in
theorem ms_Ref_isSet (l : Launch) (E : mz_En) (hI : mz_Inj E) (K : Int32 → mz_St → Prop) (a0 : Int32) (a1 : Int32) (s0 : mz_St) (h : mw_Ref_isSet K a0 a1 s0) : mz_Ci l E my_Ref_isSet mb_Ref_isSet 5 (some .boolean) (0) (0) [.ref (E.2.1 11), .int a0, .int a1] s0 K := by
  refine mz_cti hI (by decide +kernel) (Nat.le_of_ble_eq_true rfl) (fun X C R => ?_)
  show mz_G E X 5 0 [(0, .ref (E.2.1 11)), (1, .int a0), (2, .int a1)] [] s0
  unfold mw_Ref_isSet at h
  refine mr_iconst C md_Ref_isSet_0 mk_iconst_0 ?_
  refine mr_istore_n C (L' := [(3, .int 0), (0, .ref (E.2.1 11)), (1, .int a0), (2, .int a1)]) md_Ref_isSet_1 rfl (Nat.le_of_ble_eq_true rfl) rfl ?_
  refine mr_iconst C md_Ref_isSet_2 mk_iconst_0 ?_
  refine mr_istore C (L' := [(4, .int 0), (3, .int 0), (0, .ref (E.2.1 11)), (1, .int a0), (2, .int a1)]) md_Ref_isSet_3 (Nat.le_of_ble_eq_true rfl) rfl ?_
  refine mr_sub [2, 3, 4, 1, 0] rfl ?_
  refine h (fun (x3_5 : Int32) (x4_5 : Int32) (s5 : mz_St) => mz_G E X 5 5 [(0, .ref (E.2.1 11)), (1, .int a0), (2, .int a1), (3, .int x3_5), (4, .int x4_5)] [] s5) (fun x3_5 x4_5 s5 h => ?_)
  unfold mw_Ref_isSet_5 at h
  refine mr_iload C 4 md_Ref_isSet_5 rfl ?_
  refine mr_aload_n C 0 md_Ref_isSet_7 rfl rfl ?_
  refine mr_get C 11 1 mc_Ref_cls ml_1014 rfl (by decide) (by decide) (fun _ => rfl) rfl md_Ref_isSet_8 ?_
  refine mr_iload_n C 1 md_Ref_isSet_11 rfl rfl ?_
  refine mr_iald C 60 10 (by decide) (fun _ => rfl) h.1 md_Ref_isSet_12 ?_
  replace h := h.2
  refine mr_icmp_ge C md_Ref_isSet_13 rfl (fun hc => ?_) (fun hc => ?_)
  · replace h := h.1 hc
    refine mr_iload_n C 3 md_Ref_isSet_71 rfl rfl ?_
    exact mr_zret C R h.1 h.2 md_Ref_isSet_72
  replace h := h.2 hc
  refine mr_iload_n C 3 md_Ref_isSet_16 rfl rfl ?_
  refine mj (h (fun (y0_64 : Int32) (s64 : mz_St) => mz_G E X 5 64 [(0, .ref (E.2.1 11)), (1, .int a0), (2, .int a1), (4, .int x4_5)] [.int y0_64] s64) (fun y0_64 s64 h => ?_)) (fun h => ?_)
  · unfold mw_Ref_isSet_64 at h
    refine mr_istore_n C (L' := [(3, .int y0_64), (0, .ref (E.2.1 11)), (1, .int a0), (2, .int a1), (4, .int x4_5)]) md_Ref_isSet_64 rfl (Nat.le_of_ble_eq_true rfl) rfl ?_
    refine mr_iinc C (L' := [(4, .int (x4_5 + 1)), (3, .int y0_64), (0, .ref (E.2.1 11)), (1, .int a0), (2, .int a1)]) 4 md_Ref_isSet_65 rfl (mk_inc mk_iconst_1) (Nat.le_of_ble_eq_true rfl) rfl ?_
    refine mr_goto C md_Ref_isSet_68 rfl ?_
    refine mr_sub [2, 3, 4, 1, 0] rfl ?_
    exact h
  refine mj (h (fun (s59 : mz_St) => mz_G E X 5 59 [(0, .ref (E.2.1 11)), (1, .int a0), (2, .int a1), (4, .int x4_5)] [] s59) (fun s59 h => ?_)) (fun h => ?_)
  · unfold mw_Ref_isSet_59 at h
    refine mr_iconst C md_Ref_isSet_59 mk_iconst_1 ?_
    refine mr_goto C md_Ref_isSet_60 rfl ?_
    exact h
  refine mr_if_ne C md_Ref_isSet_17 rfl (fun hc => ?_) (fun hc => ?_)
  · replace h := h.1 hc
    refine mr_sub [0, 1, 2, 4] rfl ?_
    exact h
  replace h := h.2 hc
  refine mr_aload_n C 0 md_Ref_isSet_20 rfl rfl ?_
  refine mr_get C 11 2 mc_Ref_cls ml_1015 rfl (by decide) (by decide) (fun _ => rfl) rfl md_Ref_isSet_21 ?_
  refine mr_bipush C md_Ref_isSet_24 mk_bipush_48 ?_
  refine mr_iload_n C 1 md_Ref_isSet_26 rfl rfl ?_
  refine mr_imul C md_Ref_isSet_27 ?_
  refine mr_iconst C md_Ref_isSet_28 mk_iconst_4 ?_
  refine mr_iload C 4 md_Ref_isSet_29 rfl ?_
  refine mr_imul C md_Ref_isSet_31 ?_
  refine mr_iadd C md_Ref_isSet_32 ?_
  refine mr_iald C 61 480 (by decide) (fun _ => rfl) h.1 md_Ref_isSet_33 ?_
  replace h := h.2
  refine mr_bipush C md_Ref_isSet_34 mk_bipush_17 ?_
  refine mj (h (fun (s63 : mz_St) => mz_G E X 5 63 [(0, .ref (E.2.1 11)), (1, .int a0), (2, .int a1), (4, .int x4_5)] [] s63) (fun s63 h => ?_)) (fun h => ?_)
  · unfold mw_Ref_isSet_63 at h
    refine mr_iconst C md_Ref_isSet_63 mk_iconst_0 ?_
    exact h
  refine mr_icmp_eq C md_Ref_isSet_36 rfl (fun hc => ?_) (fun hc => ?_)
  · replace h := h.1 hc
    refine mr_sub [0, 1, 2, 4] rfl ?_
    exact h
  replace h := h.2 hc
  refine mr_aload_n C 0 md_Ref_isSet_39 rfl rfl ?_
  refine mr_get C 11 2 mc_Ref_cls ml_1015 rfl (by decide) (by decide) (fun _ => rfl) rfl md_Ref_isSet_40 ?_
  refine mr_bipush C md_Ref_isSet_43 mk_bipush_48 ?_
  refine mr_iload_n C 1 md_Ref_isSet_45 rfl rfl ?_
  refine mr_imul C md_Ref_isSet_46 ?_
  refine mr_iconst C md_Ref_isSet_47 mk_iconst_4 ?_
  refine mr_iload C 4 md_Ref_isSet_48 rfl ?_
  refine mr_imul C md_Ref_isSet_50 ?_
  refine mr_iadd C md_Ref_isSet_51 ?_
  refine mr_iconst C md_Ref_isSet_52 mk_iconst_1 ?_
  refine mr_iadd C md_Ref_isSet_53 ?_
  refine mr_iald C 61 480 (by decide) (fun _ => rfl) h.1 md_Ref_isSet_54 ?_
  replace h := h.2
  refine mr_iload_n C 2 md_Ref_isSet_55 rfl rfl ?_
  refine mr_icmp_ne C md_Ref_isSet_56 rfl (fun hc => ?_) (fun hc => ?_)
  · replace h := h.1 hc
    refine mr_sub [0, 1, 2, 4] rfl ?_
    exact h
  replace h := h.2 hc
  refine mr_sub [0, 1, 2, 4] rfl ?_
  exact h
def mw_Ref_live_134 (P32 : Int32 → Int32 → mz_St → Prop) (x5_32 : Int32) (y0_134 : Int32) (y1_134 : Int32) (s134 : mz_St) : Prop :=
  P32 (y1_134 ||| y0_134) (x5_32 + 1) s134
def mw_Ref_live_112 (P62 : Int32 → Int32 → mz_St → Prop) (x7_62 : Int32) (y0_112 : Int32) (s112 : mz_St) : Prop :=
  P62 y0_112 (x7_62 + 1) s112
def mw_Ref_live_107 (P112 : Int32 → mz_St → Prop) (s107 : mz_St) : Prop :=
  P112 1 s107
def mw_Ref_live_111 (P112 : Int32 → mz_St → Prop) (s111 : mz_St) : Prop :=
  P112 0 s111
def mw_Ref_live_62 (a1 : Int32) (P32 : Int32 → Int32 → mz_St → Prop) (x3_32 : Int32) (x5_32 : Int32) (P62 : Int32 → Int32 → mz_St → Prop) (x6_62 : Int32) (x7_62 : Int32) (s62 : mz_St) : Prop :=
  (((s62 1016 0) ≤ x7_62 →
   (∀ P134 : Int32 → Int32 → mz_St → Prop, (∀ (y0_134 : Int32) (y1_134 : Int32) (s134 : mz_St), mw_Ref_live_134 P32 x5_32 y0_134 y1_134 s134 → P134 y0_134 y1_134 s134) →
   ((x6_62 = 0 →
    P134 0 x3_32 s62) ∧
   (¬ x6_62 = 0 →
    P134 ((1 : Int32) <<< (x5_32 &&& 31)) x3_32 s62)))) ∧
  (¬ (s62 1016 0) ≤ x7_62 →
   (∀ P112 : Int32 → mz_St → Prop, (∀ (y0_112 : Int32) (s112 : mz_St), mw_Ref_live_112 P62 x7_62 y0_112 s112 → P112 y0_112 s112) →
   (∀ P107 : mz_St → Prop, (∀ (s107 : mz_St), mw_Ref_live_107 P112 s107 → P107 s107) →
   ((¬ x6_62 = 0 →
    P107 s62) ∧
   (x6_62 = 0 →
    mw_Ref_fate (fun r4 u4 =>
     (∀ P111 : mz_St → Prop, (∀ (s111 : mz_St), mw_Ref_live_111 P112 s111 → P111 s111) →
     ((¬ r4 = 0 →
      P111 u4) ∧
     (r4 = 0 →
      mw_Ref_hasEdge (fun r5 u5 =>
       ((r5 = 0 →
        P111 u5) ∧
       (¬ r5 = 0 →
        ((¬ ((x3_32 >>> (x7_62 &&& 31)) &&& 1) = 1 →
         P111 u5) ∧
        (((x3_32 >>> (x7_62 &&& 31)) &&& 1) = 1 →
         P107 u5))))) x5_32 x7_62 u4)))) x5_32 a1 s62))))))
def mw_Ref_live_57 (a1 : Int32) (P32 : Int32 → Int32 → mz_St → Prop) (x3_32 : Int32) (x5_32 : Int32) (y0_57 : Int32) (s57 : mz_St) : Prop :=
  (∀ P62 : Int32 → Int32 → mz_St → Prop, (∀ (x6_62 : Int32) (x7_62 : Int32) (s62 : mz_St), mw_Ref_live_62 a1 P32 x3_32 x5_32 P62 x6_62 x7_62 s62 → P62 x6_62 x7_62 s62) →
  P62 y0_57 0 s57)
def mw_Ref_live_32 (a1 : Int32) (P22 : Int32 → Int32 → mz_St → Prop) (x4_22 : Int32) (P32 : Int32 → Int32 → mz_St → Prop) (x3_32 : Int32) (x5_32 : Int32) (s32 : mz_St) : Prop :=
  (((s32 1016 0) ≤ x5_32 →
   P22 x3_32 (x4_22 + 1) s32) ∧
  (¬ (s32 1016 0) ≤ x5_32 →
   mw_Ref_fate (fun r3 u3 =>
    (∀ P57 : Int32 → mz_St → Prop, (∀ (y0_57 : Int32) (s57 : mz_St), mw_Ref_live_57 a1 P32 x3_32 x5_32 y0_57 s57 → P57 y0_57 s57) →
    ((¬ r3 = 1 →
     P57 0 u3) ∧
    (r3 = 1 →
     P57 1 u3)))) x5_32 a1 s32))
def mw_Ref_live_22 (K : Int32 → mz_St → Prop) (a0 : Int32) (a1 : Int32) (P22 : Int32 → Int32 → mz_St → Prop) (x3_22 : Int32) (x4_22 : Int32) (s22 : mz_St) : Prop :=
  ((10 < x4_22 →
   ((¬ ((x3_22 >>> (a0 &&& 31)) &&& 1) = 1 →
    K 0 s22) ∧
   (((x3_22 >>> (a0 &&& 31)) &&& 1) = 1 →
    K 1 s22))) ∧
  (¬ 10 < x4_22 →
   (∀ P32 : Int32 → Int32 → mz_St → Prop, (∀ (x3_32 : Int32) (x5_32 : Int32) (s32 : mz_St), mw_Ref_live_32 a1 P22 x4_22 P32 x3_32 x5_32 s32 → P32 x3_32 x5_32 s32) →
   P32 x3_22 0 s22)))
/-- ValueMillModel.live(II)Z: what it does, as a transformer of what must hold behind it -/
def mw_Ref_live (K : Int32 → mz_St → Prop) (a0 : Int32) (a1 : Int32) (s0 : mz_St) : Prop :=
  mw_Ref_isBlock (fun r1 u1 =>
   ((r1 = 0 →
    K 0 u1) ∧
   (¬ r1 = 0 →
    mw_Ref_isTemp (fun r2 u2 =>
     ((¬ r2 = 0 →
      (∀ P22 : Int32 → Int32 → mz_St → Prop, (∀ (x3_22 : Int32) (x4_22 : Int32) (s22 : mz_St), mw_Ref_live_22 K a0 a1 P22 x3_22 x4_22 s22 → P22 x3_22 x4_22 s22) →
      P22 0 0 u2)) ∧
     (r2 = 0 →
      K 0 u2))) a1 u1))) a0 s0
set_option maxRecDepth 100000 in
set_option maxHeartbeats 4000000 in
theorem ms_Ref_live (l : Launch) (E : mz_En) (hI : mz_Inj E) (K : Int32 → mz_St → Prop) (a0 : Int32) (a1 : Int32) (s0 : mz_St) (h : mw_Ref_live K a0 a1 s0) : mz_Ci l E my_Ref_live mb_Ref_live 8 (some .boolean) (2) (49) [.ref (E.2.1 11), .int a0, .int a1] s0 K := by
  refine mz_cti hI (by decide +kernel) (Nat.le_of_ble_eq_true rfl) (fun X C R => ?_)
  show mz_G E X 8 0 [(0, .ref (E.2.1 11)), (1, .int a0), (2, .int a1)] [] s0
  unfold mw_Ref_live at h
  refine mr_aload_n C 0 md_Ref_live_0 rfl rfl ?_
  refine mr_iload_n C 1 md_Ref_live_1 rfl rfl ?_
  refine mr_cVi C (As := [.int a0]) (rest := []) 11 (ms_Ref_isBlock _ E hI _ a0 _ h) mo_Ref_isBlock mi_Ref_isBlock mc_Ref_cls ml_1076 (by decide) (fun _ => rfl) rfl rfl (Nat.le_of_ble_eq_true rfl) (Nat.le_of_ble_eq_true rfl) (Nat.le_of_ble_eq_true rfl) md_Ref_live_2 (fun r1 u1 h => ?_)
  refine mr_if_eq C md_Ref_live_5 rfl (fun hc => ?_) (fun hc => ?_)
  · replace h := h.1 hc
    refine mr_iconst C md_Ref_live_15 mk_iconst_0 ?_
    exact mr_zret C R mb_0 h md_Ref_live_16
  replace h := h.2 hc
  refine mr_iload_n C 2 md_Ref_live_8 rfl rfl ?_
  refine mr_cSi C (As := [.int a1]) (rest := []) (ms_Ref_isTemp _ E hI _ a1 _ h) mo_Ref_isTemp mt_Ref_isTemp ml_1083 rfl rfl (Nat.le_of_ble_eq_true rfl) (Nat.le_of_ble_eq_true rfl) (Nat.le_of_ble_eq_true rfl) md_Ref_live_9 (fun r2 u2 h => ?_)
  refine mr_if_ne C md_Ref_live_12 rfl (fun hc => ?_) (fun hc => ?_)
  · replace h := h.1 hc
    refine mr_iconst C md_Ref_live_17 mk_iconst_0 ?_
    refine mr_istore_n C (L' := [(3, .int 0), (0, .ref (E.2.1 11)), (1, .int a0), (2, .int a1)]) md_Ref_live_18 rfl (Nat.le_of_ble_eq_true rfl) rfl ?_
    refine mr_iconst C md_Ref_live_19 mk_iconst_0 ?_
    refine mr_istore C (L' := [(4, .int 0), (3, .int 0), (0, .ref (E.2.1 11)), (1, .int a0), (2, .int a1)]) md_Ref_live_20 (Nat.le_of_ble_eq_true rfl) rfl ?_
    refine mr_sub [2, 3, 4, 1, 0] rfl ?_
    refine h (fun (x3_22 : Int32) (x4_22 : Int32) (s22 : mz_St) => mz_G E X 8 22 [(0, .ref (E.2.1 11)), (1, .int a0), (2, .int a1), (3, .int x3_22), (4, .int x4_22)] [] s22) (fun x3_22 x4_22 s22 h => ?_)
    unfold mw_Ref_live_22 at h
    refine mr_iload C 4 md_Ref_live_22 rfl ?_
    refine mr_bipush C md_Ref_live_24 mk_bipush_10 ?_
    refine mr_icmp_gt C md_Ref_live_26 rfl (fun hc => ?_) (fun hc => ?_)
    · replace h := h.1 hc
      refine mr_iload_n C 3 md_Ref_live_148 rfl rfl ?_
      refine mr_iload_n C 1 md_Ref_live_149 rfl rfl ?_
      refine mr_ishr C md_Ref_live_150 ?_
      refine mr_iconst C md_Ref_live_151 mk_iconst_1 ?_
      refine mr_iand C md_Ref_live_152 ?_
      refine mr_iconst C md_Ref_live_153 mk_iconst_1 ?_
      refine mr_icmp_ne C md_Ref_live_154 rfl (fun hc => ?_) (fun hc => ?_)
      · replace h := h.1 hc
        refine mr_iconst C md_Ref_live_161 mk_iconst_0 ?_
        exact mr_zret C R mb_0 h md_Ref_live_162
      replace h := h.2 hc
      refine mr_iconst C md_Ref_live_157 mk_iconst_1 ?_
      refine mr_goto C md_Ref_live_158 rfl ?_
      exact mr_zret C R mb_1 h md_Ref_live_162
    replace h := h.2 hc
    refine mr_iconst C md_Ref_live_29 mk_iconst_0 ?_
    refine mr_istore C (L' := [(5, .int 0), (0, .ref (E.2.1 11)), (1, .int a0), (2, .int a1), (3, .int x3_22), (4, .int x4_22)]) md_Ref_live_30 (Nat.le_of_ble_eq_true rfl) rfl ?_
    refine mr_sub [1, 2, 3, 4, 5, 0] rfl ?_
    refine h (fun (x3_32 : Int32) (x5_32 : Int32) (s32 : mz_St) => mz_G E X 8 32 [(0, .ref (E.2.1 11)), (1, .int a0), (2, .int a1), (3, .int x3_32), (4, .int x4_22), (5, .int x5_32)] [] s32) (fun x3_32 x5_32 s32 h => ?_)
    unfold mw_Ref_live_32 at h
    refine mr_iload C 5 md_Ref_live_32 rfl ?_
    refine mr_aload_n C 0 md_Ref_live_34 rfl rfl ?_
    refine mr_get C 11 0 mc_Ref_cls ml_1013 rfl (by decide) (by decide) (fun _ => rfl) rfl md_Ref_live_35 ?_
    refine mr_icmp_ge C md_Ref_live_38 rfl (fun hc => ?_) (fun hc => ?_)
    · replace h := h.1 hc
      refine mr_iinc C (L' := [(4, .int (x4_22 + 1)), (0, .ref (E.2.1 11)), (1, .int a0), (2, .int a1), (3, .int x3_32), (5, .int x5_32)]) 4 md_Ref_live_142 rfl (mk_inc mk_iconst_1) (Nat.le_of_ble_eq_true rfl) rfl ?_
      refine mr_goto C md_Ref_live_145 rfl ?_
      refine mr_sub [1, 2, 3, 4, 0] rfl ?_
      exact h
    replace h := h.2 hc
    refine mr_aload_n C 0 md_Ref_live_41 rfl rfl ?_
    refine mr_iload C 5 md_Ref_live_42 rfl ?_
    refine mr_iload_n C 2 md_Ref_live_44 rfl rfl ?_
    refine mr_cVi C (As := [.int x5_32, .int a1]) (rest := []) 11 (ms_Ref_fate _ E hI _ x5_32 a1 _ h) mo_Ref_fate mi_Ref_fate mc_Ref_cls ml_1181 (by decide) (fun _ => rfl) rfl rfl (Nat.le_of_ble_eq_true rfl) (Nat.le_of_ble_eq_true rfl) (Nat.le_of_ble_eq_true rfl) md_Ref_live_45 (fun r3 u3 h => ?_)
    refine mr_iconst C md_Ref_live_48 mk_iconst_1 ?_
    refine mj (h (fun (y0_57 : Int32) (s57 : mz_St) => mz_G E X 8 57 [(0, .ref (E.2.1 11)), (1, .int a0), (2, .int a1), (3, .int x3_32), (4, .int x4_22), (5, .int x5_32)] [.int y0_57] s57) (fun y0_57 s57 h => ?_)) (fun h => ?_)
    · unfold mw_Ref_live_57 at h
      refine mr_istore C (L' := [(6, .int y0_57), (0, .ref (E.2.1 11)), (1, .int a0), (2, .int a1), (3, .int x3_32), (4, .int x4_22), (5, .int x5_32)]) md_Ref_live_57 (Nat.le_of_ble_eq_true rfl) rfl ?_
      refine mr_iconst C md_Ref_live_59 mk_iconst_0 ?_
      refine mr_istore C (L' := [(7, .int 0), (6, .int y0_57), (0, .ref (E.2.1 11)), (1, .int a0), (2, .int a1), (3, .int x3_32), (4, .int x4_22), (5, .int x5_32)]) md_Ref_live_60 (Nat.le_of_ble_eq_true rfl) rfl ?_
      refine mr_sub [2, 3, 4, 5, 6, 7, 1, 0] rfl ?_
      refine h (fun (x6_62 : Int32) (x7_62 : Int32) (s62 : mz_St) => mz_G E X 8 62 [(0, .ref (E.2.1 11)), (1, .int a0), (2, .int a1), (3, .int x3_32), (4, .int x4_22), (5, .int x5_32), (6, .int x6_62), (7, .int x7_62)] [] s62) (fun x6_62 x7_62 s62 h => ?_)
      unfold mw_Ref_live_62 at h
      refine mr_iload C 7 md_Ref_live_62 rfl ?_
      refine mr_aload_n C 0 md_Ref_live_64 rfl rfl ?_
      refine mr_get C 11 0 mc_Ref_cls ml_1013 rfl (by decide) (by decide) (fun _ => rfl) rfl md_Ref_live_65 ?_
      refine mr_icmp_ge C md_Ref_live_68 rfl (fun hc => ?_) (fun hc => ?_)
      · replace h := h.1 hc
        refine mr_iload_n C 3 md_Ref_live_120 rfl rfl ?_
        refine mr_iload C 6 md_Ref_live_121 rfl ?_
        refine mj (h (fun (y0_134 : Int32) (y1_134 : Int32) (s134 : mz_St) => mz_G E X 8 134 [(0, .ref (E.2.1 11)), (1, .int a0), (2, .int a1), (4, .int x4_22), (5, .int x5_32)] [.int y0_134, .int y1_134] s134) (fun y0_134 y1_134 s134 h => ?_)) (fun h => ?_)
        · unfold mw_Ref_live_134 at h
          refine mr_ior C md_Ref_live_134 ?_
          refine mr_istore_n C (L' := [(3, .int (y1_134 ||| y0_134)), (0, .ref (E.2.1 11)), (1, .int a0), (2, .int a1), (4, .int x4_22), (5, .int x5_32)]) md_Ref_live_135 rfl (Nat.le_of_ble_eq_true rfl) rfl ?_
          refine mr_iinc C (L' := [(5, .int (x5_32 + 1)), (3, .int (y1_134 ||| y0_134)), (0, .ref (E.2.1 11)), (1, .int a0), (2, .int a1), (4, .int x4_22)]) 5 md_Ref_live_136 rfl (mk_inc mk_iconst_1) (Nat.le_of_ble_eq_true rfl) rfl ?_
          refine mr_goto C md_Ref_live_139 rfl ?_
          refine mr_sub [2, 3, 4, 1, 5, 0] rfl ?_
          exact h
        refine mr_if_eq C md_Ref_live_123 rfl (fun hc => ?_) (fun hc => ?_)
        · replace h := h.1 hc
          refine mr_iconst C md_Ref_live_133 mk_iconst_0 ?_
          refine mr_sub [0, 1, 2, 4, 5] rfl ?_
          exact h
        replace h := h.2 hc
        refine mr_iconst C md_Ref_live_126 mk_iconst_1 ?_
        refine mr_iload C 5 md_Ref_live_127 rfl ?_
        refine mr_ishl C md_Ref_live_129 ?_
        refine mr_goto C md_Ref_live_130 rfl ?_
        refine mr_sub [0, 1, 2, 4, 5] rfl ?_
        exact h
      replace h := h.2 hc
      refine mr_iload C 6 md_Ref_live_71 rfl ?_
      refine mj (h (fun (y0_112 : Int32) (s112 : mz_St) => mz_G E X 8 112 [(0, .ref (E.2.1 11)), (1, .int a0), (2, .int a1), (3, .int x3_32), (4, .int x4_22), (5, .int x5_32), (7, .int x7_62)] [.int y0_112] s112) (fun y0_112 s112 h => ?_)) (fun h => ?_)
      · unfold mw_Ref_live_112 at h
        refine mr_istore C (L' := [(6, .int y0_112), (0, .ref (E.2.1 11)), (1, .int a0), (2, .int a1), (3, .int x3_32), (4, .int x4_22), (5, .int x5_32), (7, .int x7_62)]) md_Ref_live_112 (Nat.le_of_ble_eq_true rfl) rfl ?_
        refine mr_iinc C (L' := [(7, .int (x7_62 + 1)), (6, .int y0_112), (0, .ref (E.2.1 11)), (1, .int a0), (2, .int a1), (3, .int x3_32), (4, .int x4_22), (5, .int x5_32)]) 7 md_Ref_live_114 rfl (mk_inc mk_iconst_1) (Nat.le_of_ble_eq_true rfl) rfl ?_
        refine mr_goto C md_Ref_live_117 rfl ?_
        refine mr_sub [2, 3, 4, 5, 6, 7, 1, 0] rfl ?_
        exact h
      refine mj (h (fun (s107 : mz_St) => mz_G E X 8 107 [(0, .ref (E.2.1 11)), (1, .int a0), (2, .int a1), (3, .int x3_32), (4, .int x4_22), (5, .int x5_32), (7, .int x7_62)] [] s107) (fun s107 h => ?_)) (fun h => ?_)
      · unfold mw_Ref_live_107 at h
        refine mr_iconst C md_Ref_live_107 mk_iconst_1 ?_
        refine mr_goto C md_Ref_live_108 rfl ?_
        exact h
      refine mr_if_ne C md_Ref_live_73 rfl (fun hc => ?_) (fun hc => ?_)
      · replace h := h.1 hc
        refine mr_sub [0, 1, 2, 3, 4, 5, 7] rfl ?_
        exact h
      replace h := h.2 hc
      refine mr_aload_n C 0 md_Ref_live_76 rfl rfl ?_
      refine mr_iload C 5 md_Ref_live_77 rfl ?_
      refine mr_iload_n C 2 md_Ref_live_79 rfl rfl ?_
      refine mr_cVi C (As := [.int x5_32, .int a1]) (rest := []) 11 (ms_Ref_fate _ E hI _ x5_32 a1 _ h) mo_Ref_fate mi_Ref_fate mc_Ref_cls ml_1181 (by decide) (fun _ => rfl) rfl rfl (Nat.le_of_ble_eq_true rfl) (Nat.le_of_ble_eq_true rfl) (Nat.le_of_ble_eq_true rfl) md_Ref_live_80 (fun r4 u4 h => ?_)
      refine mj (h (fun (s111 : mz_St) => mz_G E X 8 111 [(0, .ref (E.2.1 11)), (1, .int a0), (2, .int a1), (3, .int x3_32), (4, .int x4_22), (5, .int x5_32), (7, .int x7_62)] [] s111) (fun s111 h => ?_)) (fun h => ?_)
      · unfold mw_Ref_live_111 at h
        refine mr_iconst C md_Ref_live_111 mk_iconst_0 ?_
        exact h
      refine mr_if_ne C md_Ref_live_83 rfl (fun hc => ?_) (fun hc => ?_)
      · replace h := h.1 hc
        refine mr_sub [0, 1, 2, 3, 4, 5, 7] rfl ?_
        exact h
      replace h := h.2 hc
      refine mr_aload_n C 0 md_Ref_live_86 rfl rfl ?_
      refine mr_iload C 5 md_Ref_live_87 rfl ?_
      refine mr_iload C 7 md_Ref_live_89 rfl ?_
      refine mr_cVi C (As := [.int x5_32, .int x7_62]) (rest := []) 11 (ms_Ref_hasEdge _ E hI _ x5_32 x7_62 _ h) mo_Ref_hasEdge mi_Ref_hasEdge mc_Ref_cls ml_1169 (by decide) (fun _ => rfl) rfl rfl (Nat.le_of_ble_eq_true rfl) (Nat.le_of_ble_eq_true rfl) (Nat.le_of_ble_eq_true rfl) md_Ref_live_91 (fun r5 u5 h => ?_)
      refine mr_if_eq C md_Ref_live_94 rfl (fun hc => ?_) (fun hc => ?_)
      · replace h := h.1 hc
        refine mr_sub [0, 1, 2, 3, 4, 5, 7] rfl ?_
        exact h
      replace h := h.2 hc
      refine mr_iload_n C 3 md_Ref_live_97 rfl rfl ?_
      refine mr_iload C 7 md_Ref_live_98 rfl ?_
      refine mr_ishr C md_Ref_live_100 ?_
      refine mr_iconst C md_Ref_live_101 mk_iconst_1 ?_
      refine mr_iand C md_Ref_live_102 ?_
      refine mr_iconst C md_Ref_live_103 mk_iconst_1 ?_
      refine mr_icmp_ne C md_Ref_live_104 rfl (fun hc => ?_) (fun hc => ?_)
      · replace h := h.1 hc
        refine mr_sub [0, 1, 2, 3, 4, 5, 7] rfl ?_
        exact h
      replace h := h.2 hc
      refine mr_sub [0, 1, 2, 3, 4, 5, 7] rfl ?_
      exact h
    refine mr_icmp_ne C md_Ref_live_49 rfl (fun hc => ?_) (fun hc => ?_)
    · replace h := h.1 hc
      refine mr_iconst C md_Ref_live_56 mk_iconst_0 ?_
      exact h
    replace h := h.2 hc
    refine mr_iconst C md_Ref_live_52 mk_iconst_1 ?_
    refine mr_goto C md_Ref_live_53 rfl ?_
    exact h
  replace h := h.2 hc
  refine mr_iconst C md_Ref_live_15 mk_iconst_0 ?_
  exact mr_zret C R mb_0 h md_Ref_live_16
def mw_Ref_phi_156 (P92 : Int32 → Int32 → mz_St → Prop) (x6_92 : Int32) (x4_104 : Int32) (s156 : mz_St) : Prop :=
  P92 x4_104 (x6_92 + 1) s156
def mw_Ref_phi_147 (P104 : Int32 → Int32 → mz_St → Prop) (x7_104 : Int32) (y0_147 : Int32) (y1_147 : Int32) (s147 : mz_St) : Prop :=
  P104 (y1_147 ||| y0_147) (x7_104 + 1) s147
def mw_Ref_phi_104 (x3_31 : Int32) (P92 : Int32 → Int32 → mz_St → Prop) (x6_92 : Int32) (P104 : Int32 → Int32 → mz_St → Prop) (x4_104 : Int32) (x7_104 : Int32) (s104 : mz_St) : Prop :=
  (∀ P156 : mz_St → Prop, (∀ (s156 : mz_St), mw_Ref_phi_156 P92 x6_92 x4_104 s156 → P156 s156) →
  (((s104 1016 0) ≤ x7_104 →
   P156 s104) ∧
  (¬ (s104 1016 0) ≤ x7_104 →
   ((¬ (((x3_31 ||| x4_104) >>> (x6_92 &&& 31)) &&& 1) = 1 →
    P156 s104) ∧
   ((((x3_31 ||| x4_104) >>> (x6_92 &&& 31)) &&& 1) = 1 →
    mw_Ref_frontier (fun r4 u4 =>
     (∀ P147 : Int32 → Int32 → mz_St → Prop, (∀ (y0_147 : Int32) (y1_147 : Int32) (s147 : mz_St), mw_Ref_phi_147 P104 x7_104 y0_147 y1_147 s147 → P147 y0_147 y1_147 s147) →
     ((r4 = 0 →
      P147 0 x4_104 u4) ∧
     (¬ r4 = 0 →
      P147 ((1 : Int32) <<< (x7_104 &&& 31)) x4_104 u4)))) x6_92 x7_104 s104)))))
def mw_Ref_phi_92 (x3_31 : Int32) (P82 : Int32 → Int32 → mz_St → Prop) (x5_82 : Int32) (P92 : Int32 → Int32 → mz_St → Prop) (x4_92 : Int32) (x6_92 : Int32) (s92 : mz_St) : Prop :=
  (((s92 1016 0) ≤ x6_92 →
   P82 x4_92 (x5_82 + 1) s92) ∧
  (¬ (s92 1016 0) ≤ x6_92 →
   (∀ P104 : Int32 → Int32 → mz_St → Prop, (∀ (x4_104 : Int32) (x7_104 : Int32) (s104 : mz_St), mw_Ref_phi_104 x3_31 P92 x6_92 P104 x4_104 x7_104 s104 → P104 x4_104 x7_104 s104) →
   P104 x4_92 0 s92)))
def mw_Ref_phi_82 (K : Int32 → mz_St → Prop) (a0 : Int32) (x3_31 : Int32) (P82 : Int32 → Int32 → mz_St → Prop) (x4_82 : Int32) (x5_82 : Int32) (s82 : mz_St) : Prop :=
  ((10 ≤ x5_82 →
   ((¬ ((x4_82 >>> (a0 &&& 31)) &&& 1) = 1 →
    K 0 s82) ∧
   (((x4_82 >>> (a0 &&& 31)) &&& 1) = 1 →
    K 1 s82))) ∧
  (¬ 10 ≤ x5_82 →
   (∀ P92 : Int32 → Int32 → mz_St → Prop, (∀ (x4_92 : Int32) (x6_92 : Int32) (s92 : mz_St), mw_Ref_phi_92 x3_31 P82 x5_82 P92 x4_92 x6_92 s92 → P92 x4_92 x6_92 s92) →
   P92 x4_82 0 s82)))
def mw_Ref_phi_68 (P31 : Int32 → Int32 → mz_St → Prop) (x4_31 : Int32) (y0_68 : Int32) (y1_68 : Int32) (s68 : mz_St) : Prop :=
  P31 (y1_68 ||| y0_68) (x4_31 + 1) s68
def mw_Ref_phi_67 (P68 : Int32 → Int32 → mz_St → Prop) (y0_67 : Int32) (s67 : mz_St) : Prop :=
  P68 0 y0_67 s67
def mw_Ref_phi_31 (K : Int32 → mz_St → Prop) (a0 : Int32) (a1 : Int32) (P31 : Int32 → Int32 → mz_St → Prop) (x3_31 : Int32) (x4_31 : Int32) (s31 : mz_St) : Prop :=
  (((s31 1016 0) ≤ x4_31 →
   (∀ P82 : Int32 → Int32 → mz_St → Prop, (∀ (x4_82 : Int32) (x5_82 : Int32) (s82 : mz_St), mw_Ref_phi_82 K a0 x3_31 P82 x4_82 x5_82 s82 → P82 x4_82 x5_82 s82) →
   P82 0 0 s31)) ∧
  (¬ (s31 1016 0) ≤ x4_31 →
   mw_Ref_isAlive (fun r5 u5 =>
    (∀ P68 : Int32 → Int32 → mz_St → Prop, (∀ (y0_68 : Int32) (y1_68 : Int32) (s68 : mz_St), mw_Ref_phi_68 P31 x4_31 y0_68 y1_68 s68 → P68 y0_68 y1_68 s68) →
    (∀ P67 : Int32 → mz_St → Prop, (∀ (y0_67 : Int32) (s67 : mz_St), mw_Ref_phi_67 P68 y0_67 s67 → P67 y0_67 s67) →
    ((r5 = 0 →
     P67 x3_31 u5) ∧
    (¬ r5 = 0 →
     mw_Ref_isSet (fun r6 u6 =>
      ((r6 = 0 →
       P67 x3_31 u6) ∧
      (¬ r6 = 0 →
       P68 ((1 : Int32) <<< (x4_31 &&& 31)) x3_31 u6))) x4_31 a1 u5))))) x4_31 s31))
/-- ValueMillModel.phi(II)Z: what it does, as a transformer of what must hold behind it -/
def mw_Ref_phi (K : Int32 → mz_St → Prop) (a0 : Int32) (a1 : Int32) (s0 : mz_St) : Prop :=
  mw_Ref_isAlive (fun r1 u1 =>
   ((r1 = 0 →
    K 0 u1) ∧
   (¬ r1 = 0 →
    mw_Ref_isTemp (fun r2 u2 =>
     ((r2 = 0 →
      K 0 u2) ∧
     (¬ r2 = 0 →
      mw_Ref_live (fun r3 u3 =>
       ((¬ r3 = 0 →
        (∀ P31 : Int32 → Int32 → mz_St → Prop, (∀ (x3_31 : Int32) (x4_31 : Int32) (s31 : mz_St), mw_Ref_phi_31 K a0 a1 P31 x3_31 x4_31 s31 → P31 x3_31 x4_31 s31) →
        P31 1 0 u3)) ∧
       (r3 = 0 →
        K 0 u3))) a0 a1 u2))) a1 u1))) a0 s0
set_option maxRecDepth 100000 in
set_option maxHeartbeats 4000000 in
theorem ms_Ref_phi (l : Launch) (E : mz_En) (hI : mz_Inj E) (K : Int32 → mz_St → Prop) (a0 : Int32) (a1 : Int32) (s0 : mz_St) (h : mw_Ref_phi K a0 a1 s0) : mz_Ci l E my_Ref_phi mb_Ref_phi 8 (some .boolean) (5) (115) [.ref (E.2.1 11), .int a0, .int a1] s0 K := by
  refine mz_cti hI (by decide +kernel) (Nat.le_of_ble_eq_true rfl) (fun X C R => ?_)
  show mz_G E X 8 0 [(0, .ref (E.2.1 11)), (1, .int a0), (2, .int a1)] [] s0
  unfold mw_Ref_phi at h
  refine mr_aload_n C 0 md_Ref_phi_0 rfl rfl ?_
  refine mr_iload_n C 1 md_Ref_phi_1 rfl rfl ?_
  refine mr_cVi C (As := [.int a0]) (rest := []) 11 (ms_Ref_isAlive _ E hI _ a0 _ h) mo_Ref_isAlive mi_Ref_isAlive mc_Ref_cls ml_1161 (by decide) (fun _ => rfl) rfl rfl (Nat.le_of_ble_eq_true rfl) (Nat.le_of_ble_eq_true rfl) (Nat.le_of_ble_eq_true rfl) md_Ref_phi_2 (fun r1 u1 h => ?_)
  refine mr_if_eq C md_Ref_phi_5 rfl (fun hc => ?_) (fun hc => ?_)
  · replace h := h.1 hc
    refine mr_iconst C md_Ref_phi_24 mk_iconst_0 ?_
    exact mr_zret C R mb_0 h md_Ref_phi_25
  replace h := h.2 hc
  refine mr_iload_n C 2 md_Ref_phi_8 rfl rfl ?_
  refine mr_cSi C (As := [.int a1]) (rest := []) (ms_Ref_isTemp _ E hI _ a1 _ h) mo_Ref_isTemp mt_Ref_isTemp ml_1083 rfl rfl (Nat.le_of_ble_eq_true rfl) (Nat.le_of_ble_eq_true rfl) (Nat.le_of_ble_eq_true rfl) md_Ref_phi_9 (fun r2 u2 h => ?_)
  refine mr_if_eq C md_Ref_phi_12 rfl (fun hc => ?_) (fun hc => ?_)
  · replace h := h.1 hc
    refine mr_iconst C md_Ref_phi_24 mk_iconst_0 ?_
    exact mr_zret C R mb_0 h md_Ref_phi_25
  replace h := h.2 hc
  refine mr_aload_n C 0 md_Ref_phi_15 rfl rfl ?_
  refine mr_iload_n C 1 md_Ref_phi_16 rfl rfl ?_
  refine mr_iload_n C 2 md_Ref_phi_17 rfl rfl ?_
  refine mr_cVi C (As := [.int a0, .int a1]) (rest := []) 11 (ms_Ref_live _ E hI _ a0 a1 _ h) mo_Ref_live mi_Ref_live mc_Ref_cls ml_1192 (by decide) (fun _ => rfl) rfl rfl (Nat.le_of_ble_eq_true rfl) (Nat.le_of_ble_eq_true rfl) (Nat.le_of_ble_eq_true rfl) md_Ref_phi_18 (fun r3 u3 h => ?_)
  refine mr_if_ne C md_Ref_phi_21 rfl (fun hc => ?_) (fun hc => ?_)
  · replace h := h.1 hc
    refine mr_iconst C md_Ref_phi_26 mk_iconst_1 ?_
    refine mr_istore_n C (L' := [(3, .int 1), (0, .ref (E.2.1 11)), (1, .int a0), (2, .int a1)]) md_Ref_phi_27 rfl (Nat.le_of_ble_eq_true rfl) rfl ?_
    refine mr_iconst C md_Ref_phi_28 mk_iconst_0 ?_
    refine mr_istore C (L' := [(4, .int 0), (3, .int 1), (0, .ref (E.2.1 11)), (1, .int a0), (2, .int a1)]) md_Ref_phi_29 (Nat.le_of_ble_eq_true rfl) rfl ?_
    refine mr_sub [2, 3, 4, 1, 0] rfl ?_
    refine h (fun (x3_31 : Int32) (x4_31 : Int32) (s31 : mz_St) => mz_G E X 8 31 [(0, .ref (E.2.1 11)), (1, .int a0), (2, .int a1), (3, .int x3_31), (4, .int x4_31)] [] s31) (fun x3_31 x4_31 s31 h => ?_)
    unfold mw_Ref_phi_31 at h
    refine mr_iload C 4 md_Ref_phi_31 rfl ?_
    refine mr_aload_n C 0 md_Ref_phi_33 rfl rfl ?_
    refine mr_get C 11 0 mc_Ref_cls ml_1013 rfl (by decide) (by decide) (fun _ => rfl) rfl md_Ref_phi_34 ?_
    refine mr_icmp_ge C md_Ref_phi_37 rfl (fun hc => ?_) (fun hc => ?_)
    · replace h := h.1 hc
      refine mr_iconst C md_Ref_phi_76 mk_iconst_0 ?_
      refine mr_istore C (L' := [(4, .int 0), (0, .ref (E.2.1 11)), (1, .int a0), (2, .int a1), (3, .int x3_31)]) md_Ref_phi_77 (Nat.le_of_ble_eq_true rfl) rfl ?_
      refine mr_iconst C md_Ref_phi_79 mk_iconst_0 ?_
      refine mr_istore C (L' := [(5, .int 0), (4, .int 0), (0, .ref (E.2.1 11)), (1, .int a0), (2, .int a1), (3, .int x3_31)]) md_Ref_phi_80 (Nat.le_of_ble_eq_true rfl) rfl ?_
      refine mr_sub [2, 3, 5, 1, 0] rfl ?_
      refine h (fun (x4_82 : Int32) (x5_82 : Int32) (s82 : mz_St) => mz_G E X 8 82 [(0, .ref (E.2.1 11)), (1, .int a0), (3, .int x3_31), (4, .int x4_82), (5, .int x5_82)] [] s82) (fun x4_82 x5_82 s82 h => ?_)
      unfold mw_Ref_phi_82 at h
      refine mr_iload C 4 md_Ref_phi_82 rfl ?_
      refine mr_bipush C md_Ref_phi_84 mk_bipush_10 ?_
      refine mr_icmp_ge C md_Ref_phi_86 rfl (fun hc => ?_) (fun hc => ?_)
      · replace h := h.1 hc
        refine mr_iload C 3 md_Ref_phi_168 rfl ?_
        refine mr_iload_n C 1 md_Ref_phi_170 rfl rfl ?_
        refine mr_ishr C md_Ref_phi_171 ?_
        refine mr_iconst C md_Ref_phi_172 mk_iconst_1 ?_
        refine mr_iand C md_Ref_phi_173 ?_
        refine mr_iconst C md_Ref_phi_174 mk_iconst_1 ?_
        refine mr_icmp_ne C md_Ref_phi_175 rfl (fun hc => ?_) (fun hc => ?_)
        · replace h := h.1 hc
          refine mr_iconst C md_Ref_phi_182 mk_iconst_0 ?_
          exact mr_zret C R mb_0 h md_Ref_phi_183
        replace h := h.2 hc
        refine mr_iconst C md_Ref_phi_178 mk_iconst_1 ?_
        refine mr_goto C md_Ref_phi_179 rfl ?_
        exact mr_zret C R mb_1 h md_Ref_phi_183
      replace h := h.2 hc
      refine mr_iconst C md_Ref_phi_89 mk_iconst_0 ?_
      refine mr_istore C (L' := [(6, .int 0), (0, .ref (E.2.1 11)), (1, .int a0), (3, .int x3_31), (4, .int x4_82), (5, .int x5_82)]) md_Ref_phi_90 (Nat.le_of_ble_eq_true rfl) rfl ?_
      refine mr_sub [1, 2, 3, 4, 5, 0] rfl ?_
      refine h (fun (x4_92 : Int32) (x6_92 : Int32) (s92 : mz_St) => mz_G E X 8 92 [(0, .ref (E.2.1 11)), (1, .int a0), (3, .int x3_31), (4, .int x4_92), (5, .int x5_82), (6, .int x6_92)] [] s92) (fun x4_92 x6_92 s92 h => ?_)
      unfold mw_Ref_phi_92 at h
      refine mr_iload C 5 md_Ref_phi_92 rfl ?_
      refine mr_aload_n C 0 md_Ref_phi_94 rfl rfl ?_
      refine mr_get C 11 0 mc_Ref_cls ml_1013 rfl (by decide) (by decide) (fun _ => rfl) rfl md_Ref_phi_95 ?_
      refine mr_icmp_ge C md_Ref_phi_98 rfl (fun hc => ?_) (fun hc => ?_)
      · replace h := h.1 hc
        refine mr_iinc C (L' := [(5, .int (x5_82 + 1)), (0, .ref (E.2.1 11)), (1, .int a0), (3, .int x3_31), (4, .int x4_92), (6, .int x6_92)]) 4 md_Ref_phi_162 rfl (mk_inc mk_iconst_1) (Nat.le_of_ble_eq_true rfl) rfl ?_
        refine mr_goto C md_Ref_phi_165 rfl ?_
        refine mr_sub [1, 2, 3, 4, 0] rfl ?_
        exact h
      replace h := h.2 hc
      refine mr_iconst C md_Ref_phi_101 mk_iconst_0 ?_
      refine mr_istore C (L' := [(7, .int 0), (0, .ref (E.2.1 11)), (1, .int a0), (3, .int x3_31), (4, .int x4_92), (5, .int x5_82), (6, .int x6_92)]) md_Ref_phi_102 (Nat.le_of_ble_eq_true rfl) rfl ?_
      refine mr_sub [1, 2, 3, 4, 5, 6, 0] rfl ?_
      refine h (fun (x4_104 : Int32) (x7_104 : Int32) (s104 : mz_St) => mz_G E X 8 104 [(0, .ref (E.2.1 11)), (1, .int a0), (3, .int x3_31), (4, .int x4_104), (5, .int x5_82), (6, .int x6_92), (7, .int x7_104)] [] s104) (fun x4_104 x7_104 s104 h => ?_)
      unfold mw_Ref_phi_104 at h
      refine mr_iload C 6 md_Ref_phi_104 rfl ?_
      refine mr_aload_n C 0 md_Ref_phi_106 rfl rfl ?_
      refine mr_get C 11 0 mc_Ref_cls ml_1013 rfl (by decide) (by decide) (fun _ => rfl) rfl md_Ref_phi_107 ?_
      refine mj (h (fun (s156 : mz_St) => mz_G E X 8 156 [(0, .ref (E.2.1 11)), (1, .int a0), (3, .int x3_31), (4, .int x4_104), (5, .int x5_82), (6, .int x6_92)] [] s156) (fun s156 h => ?_)) (fun h => ?_)
      · unfold mw_Ref_phi_156 at h
        refine mr_iinc C (L' := [(6, .int (x6_92 + 1)), (0, .ref (E.2.1 11)), (1, .int a0), (3, .int x3_31), (4, .int x4_104), (5, .int x5_82)]) 5 md_Ref_phi_156 rfl (mk_inc mk_iconst_1) (Nat.le_of_ble_eq_true rfl) rfl ?_
        refine mr_goto C md_Ref_phi_159 rfl ?_
        refine mr_sub [1, 2, 3, 4, 5, 0] rfl ?_
        exact h
      refine mr_icmp_ge C md_Ref_phi_110 rfl (fun hc => ?_) (fun hc => ?_)
      · replace h := h.1 hc
        refine mr_sub [0, 1, 2, 3, 4, 5] rfl ?_
        exact h
      replace h := h.2 hc
      refine mr_iload_n C 2 md_Ref_phi_113 rfl rfl ?_
      refine mr_iload C 3 md_Ref_phi_114 rfl ?_
      refine mr_ior C md_Ref_phi_116 ?_
      refine mr_iload C 5 md_Ref_phi_117 rfl ?_
      refine mr_ishr C md_Ref_phi_119 ?_
      refine mr_iconst C md_Ref_phi_120 mk_iconst_1 ?_
      refine mr_iand C md_Ref_phi_121 ?_
      refine mr_iconst C md_Ref_phi_122 mk_iconst_1 ?_
      refine mr_icmp_ne C md_Ref_phi_123 rfl (fun hc => ?_) (fun hc => ?_)
      · replace h := h.1 hc
        refine mr_sub [0, 1, 2, 3, 4, 5] rfl ?_
        exact h
      replace h := h.2 hc
      refine mr_iload C 3 md_Ref_phi_126 rfl ?_
      refine mr_aload_n C 0 md_Ref_phi_128 rfl rfl ?_
      refine mr_iload C 5 md_Ref_phi_129 rfl ?_
      refine mr_iload C 6 md_Ref_phi_131 rfl ?_
      refine mr_cVi C (As := [.int x6_92, .int x7_104]) (rest := [.int x4_104]) 11 (ms_Ref_frontier _ E hI _ x6_92 x7_104 _ h) mo_Ref_frontier mi_Ref_frontier mc_Ref_cls ml_1197 (by decide) (fun _ => rfl) rfl rfl (Nat.le_of_ble_eq_true rfl) (Nat.le_of_ble_eq_true rfl) (Nat.le_of_ble_eq_true rfl) md_Ref_phi_133 (fun r4 u4 h => ?_)
      refine mj (h (fun (y0_147 : Int32) (y1_147 : Int32) (s147 : mz_St) => mz_G E X 8 147 [(0, .ref (E.2.1 11)), (1, .int a0), (3, .int x3_31), (5, .int x5_82), (6, .int x6_92), (7, .int x7_104)] [.int y0_147, .int y1_147] s147) (fun y0_147 y1_147 s147 h => ?_)) (fun h => ?_)
      · unfold mw_Ref_phi_147 at h
        refine mr_ior C md_Ref_phi_147 ?_
        refine mr_istore C (L' := [(4, .int (y1_147 ||| y0_147)), (0, .ref (E.2.1 11)), (1, .int a0), (3, .int x3_31), (5, .int x5_82), (6, .int x6_92), (7, .int x7_104)]) md_Ref_phi_148 (Nat.le_of_ble_eq_true rfl) rfl ?_
        refine mr_iinc C (L' := [(7, .int (x7_104 + 1)), (4, .int (y1_147 ||| y0_147)), (0, .ref (E.2.1 11)), (1, .int a0), (3, .int x3_31), (5, .int x5_82), (6, .int x6_92)]) 6 md_Ref_phi_150 rfl (mk_inc mk_iconst_1) (Nat.le_of_ble_eq_true rfl) rfl ?_
        refine mr_goto C md_Ref_phi_153 rfl ?_
        refine mr_sub [2, 3, 4, 1, 5, 6, 0] rfl ?_
        exact h
      refine mr_if_eq C md_Ref_phi_136 rfl (fun hc => ?_) (fun hc => ?_)
      · replace h := h.1 hc
        refine mr_iconst C md_Ref_phi_146 mk_iconst_0 ?_
        refine mr_sub [0, 1, 2, 4, 5, 6] rfl ?_
        exact h
      replace h := h.2 hc
      refine mr_iconst C md_Ref_phi_139 mk_iconst_1 ?_
      refine mr_iload C 6 md_Ref_phi_140 rfl ?_
      refine mr_ishl C md_Ref_phi_142 ?_
      refine mr_goto C md_Ref_phi_143 rfl ?_
      refine mr_sub [0, 1, 2, 4, 5, 6] rfl ?_
      exact h
    replace h := h.2 hc
    refine mr_iload_n C 3 md_Ref_phi_40 rfl rfl ?_
    refine mr_aload_n C 0 md_Ref_phi_41 rfl rfl ?_
    refine mr_iload C 4 md_Ref_phi_42 rfl ?_
    refine mr_cVi C (As := [.int x4_31]) (rest := [.int x3_31]) 11 (ms_Ref_isAlive _ E hI _ x4_31 _ h) mo_Ref_isAlive mi_Ref_isAlive mc_Ref_cls ml_1161 (by decide) (fun _ => rfl) rfl rfl (Nat.le_of_ble_eq_true rfl) (Nat.le_of_ble_eq_true rfl) (Nat.le_of_ble_eq_true rfl) md_Ref_phi_44 (fun r5 u5 h => ?_)
    refine mj (h (fun (y0_68 : Int32) (y1_68 : Int32) (s68 : mz_St) => mz_G E X 8 68 [(0, .ref (E.2.1 11)), (1, .int a0), (2, .int a1), (4, .int x4_31)] [.int y0_68, .int y1_68] s68) (fun y0_68 y1_68 s68 h => ?_)) (fun h => ?_)
    · unfold mw_Ref_phi_68 at h
      refine mr_ior C md_Ref_phi_68 ?_
      refine mr_istore_n C (L' := [(3, .int (y1_68 ||| y0_68)), (0, .ref (E.2.1 11)), (1, .int a0), (2, .int a1), (4, .int x4_31)]) md_Ref_phi_69 rfl (Nat.le_of_ble_eq_true rfl) rfl ?_
      refine mr_iinc C (L' := [(4, .int (x4_31 + 1)), (3, .int (y1_68 ||| y0_68)), (0, .ref (E.2.1 11)), (1, .int a0), (2, .int a1)]) 4 md_Ref_phi_70 rfl (mk_inc mk_iconst_1) (Nat.le_of_ble_eq_true rfl) rfl ?_
      refine mr_goto C md_Ref_phi_73 rfl ?_
      refine mr_sub [2, 3, 4, 1, 0] rfl ?_
      exact h
    refine mj (h (fun (y0_67 : Int32) (s67 : mz_St) => mz_G E X 8 67 [(0, .ref (E.2.1 11)), (1, .int a0), (2, .int a1), (4, .int x4_31)] [.int y0_67] s67) (fun y0_67 s67 h => ?_)) (fun h => ?_)
    · unfold mw_Ref_phi_67 at h
      refine mr_iconst C md_Ref_phi_67 mk_iconst_0 ?_
      exact h
    refine mr_if_eq C md_Ref_phi_47 rfl (fun hc => ?_) (fun hc => ?_)
    · replace h := h.1 hc
      refine mr_sub [0, 1, 2, 4] rfl ?_
      exact h
    replace h := h.2 hc
    refine mr_aload_n C 0 md_Ref_phi_50 rfl rfl ?_
    refine mr_iload C 4 md_Ref_phi_51 rfl ?_
    refine mr_iload_n C 2 md_Ref_phi_53 rfl rfl ?_
    refine mr_cVi C (As := [.int x4_31, .int a1]) (rest := [.int x3_31]) 11 (ms_Ref_isSet _ E hI _ x4_31 a1 _ h) mo_Ref_isSet mi_Ref_isSet mc_Ref_cls ml_1193 (by decide) (fun _ => rfl) rfl rfl (Nat.le_of_ble_eq_true rfl) (Nat.le_of_ble_eq_true rfl) (Nat.le_of_ble_eq_true rfl) md_Ref_phi_54 (fun r6 u6 h => ?_)
    refine mr_if_eq C md_Ref_phi_57 rfl (fun hc => ?_) (fun hc => ?_)
    · replace h := h.1 hc
      refine mr_sub [0, 1, 2, 4] rfl ?_
      exact h
    replace h := h.2 hc
    refine mr_iconst C md_Ref_phi_60 mk_iconst_1 ?_
    refine mr_iload C 4 md_Ref_phi_61 rfl ?_
    refine mr_ishl C md_Ref_phi_63 ?_
    refine mr_goto C md_Ref_phi_64 rfl ?_
    refine mr_sub [0, 1, 2, 4] rfl ?_
    exact h
  replace h := h.2 hc
  refine mr_iconst C md_Ref_phi_24 mk_iconst_0 ?_
  exact mr_zret C R mb_0 h md_Ref_phi_25
def mw_Ref_isInLoop_73 (K : Int32 → mz_St → Prop) (s73 : mz_St) : Prop :=
  K 1 s73
def mw_Ref_isInLoop_43 (P5 : Int32 → Int32 → mz_St → Prop) (x4_5 : Int32) (y0_43 : Int32) (y1_43 : Int32) (s43 : mz_St) : Prop :=
  P5 (y1_43 ||| y0_43) (x4_5 + 1) s43
def mw_Ref_isInLoop_42 (P43 : Int32 → Int32 → mz_St → Prop) (y0_42 : Int32) (s42 : mz_St) : Prop :=
  P43 0 y0_42 s42
def mw_Ref_isInLoop_5 (K : Int32 → mz_St → Prop) (a0 : Int32) (a1 : Int32) (P5 : Int32 → Int32 → mz_St → Prop) (x3_5 : Int32) (x4_5 : Int32) (s5 : mz_St) : Prop :=
  (((s5 1016 0) ≤ x4_5 →
   ((x3_5 = 0 →
    K 0 s5) ∧
   (¬ x3_5 = 0 →
    (∀ P73 : mz_St → Prop, (∀ (s73 : mz_St), mw_Ref_isInLoop_73 K s73 → P73 s73) →
    ((a0 = a1 →
     P73 s5) ∧
    (¬ a0 = a1 →
     mw_Ref_reach (fun r1 u1 =>
      (((r1 &&& x3_5) = 0 →
       K 0 u1) ∧
      (¬ (r1 &&& x3_5) = 0 →
       P73 u1))) ((1 : Int32) <<< (a0 &&& 31)) a1 s5)))))) ∧
  (¬ (s5 1016 0) ≤ x4_5 →
   mw_Ref_hasEdge (fun r2 u2 =>
    (∀ P43 : Int32 → Int32 → mz_St → Prop, (∀ (y0_43 : Int32) (y1_43 : Int32) (s43 : mz_St), mw_Ref_isInLoop_43 P5 x4_5 y0_43 y1_43 s43 → P43 y0_43 y1_43 s43) →
    (∀ P42 : Int32 → mz_St → Prop, (∀ (y0_42 : Int32) (s42 : mz_St), mw_Ref_isInLoop_42 P43 y0_42 s42 → P42 y0_42 s42) →
    ((r2 = 0 →
     P42 x3_5 u2) ∧
    (¬ r2 = 0 →
     mw_Ref_dominates (fun r3 u3 =>
      ((r3 = 0 →
       P42 x3_5 u3) ∧
      (¬ r3 = 0 →
       P43 ((1 : Int32) <<< (x4_5 &&& 31)) x3_5 u3))) a1 x4_5 u2))))) x4_5 a1 s5))
/-- ValueMillModel.isInLoop(II)Z: what it does, as a transformer of what must hold behind it -/
def mw_Ref_isInLoop (K : Int32 → mz_St → Prop) (a0 : Int32) (a1 : Int32) (s0 : mz_St) : Prop :=
  (∀ P5 : Int32 → Int32 → mz_St → Prop, (∀ (x3_5 : Int32) (x4_5 : Int32) (s5 : mz_St), mw_Ref_isInLoop_5 K a0 a1 P5 x3_5 x4_5 s5 → P5 x3_5 x4_5 s5) →
  P5 0 0 s0)
set_option maxRecDepth 100000 in
set_option maxHeartbeats 4000000 in
theorem ms_Ref_isInLoop (l : Launch) (E : mz_En) (hI : mz_Inj E) (K : Int32 → mz_St → Prop) (a0 : Int32) (a1 : Int32) (s0 : mz_St) (h : mw_Ref_isInLoop K a0 a1 s0) : mz_Ci l E my_Ref_isInLoop mb_Ref_isInLoop 5 (some .boolean) (4) (91) [.ref (E.2.1 11), .int a0, .int a1] s0 K := by
  refine mz_cti hI (by decide +kernel) (Nat.le_of_ble_eq_true rfl) (fun X C R => ?_)
  show mz_G E X 5 0 [(0, .ref (E.2.1 11)), (1, .int a0), (2, .int a1)] [] s0
  unfold mw_Ref_isInLoop at h
  refine mr_iconst C md_Ref_isInLoop_0 mk_iconst_0 ?_
  refine mr_istore_n C (L' := [(3, .int 0), (0, .ref (E.2.1 11)), (1, .int a0), (2, .int a1)]) md_Ref_isInLoop_1 rfl (Nat.le_of_ble_eq_true rfl) rfl ?_
  refine mr_iconst C md_Ref_isInLoop_2 mk_iconst_0 ?_
  refine mr_istore C (L' := [(4, .int 0), (3, .int 0), (0, .ref (E.2.1 11)), (1, .int a0), (2, .int a1)]) md_Ref_isInLoop_3 (Nat.le_of_ble_eq_true rfl) rfl ?_
  refine mr_sub [2, 3, 4, 1, 0] rfl ?_
  refine h (fun (x3_5 : Int32) (x4_5 : Int32) (s5 : mz_St) => mz_G E X 5 5 [(0, .ref (E.2.1 11)), (1, .int a0), (2, .int a1), (3, .int x3_5), (4, .int x4_5)] [] s5) (fun x3_5 x4_5 s5 h => ?_)
  unfold mw_Ref_isInLoop_5 at h
  refine mr_iload C 4 md_Ref_isInLoop_5 rfl ?_
  refine mr_aload_n C 0 md_Ref_isInLoop_7 rfl rfl ?_
  refine mr_get C 11 0 mc_Ref_cls ml_1013 rfl (by decide) (by decide) (fun _ => rfl) rfl md_Ref_isInLoop_8 ?_
  refine mr_icmp_ge C md_Ref_isInLoop_11 rfl (fun hc => ?_) (fun hc => ?_)
  · replace h := h.1 hc
    refine mr_iload_n C 3 md_Ref_isInLoop_51 rfl rfl ?_
    refine mr_if_eq C md_Ref_isInLoop_52 rfl (fun hc => ?_) (fun hc => ?_)
    · replace h := h.1 hc
      refine mr_iconst C md_Ref_isInLoop_77 mk_iconst_0 ?_
      exact mr_zret C R mb_0 h md_Ref_isInLoop_78
    replace h := h.2 hc
    refine mr_iload_n C 1 md_Ref_isInLoop_55 rfl rfl ?_
    refine mr_iload_n C 2 md_Ref_isInLoop_56 rfl rfl ?_
    refine mj (h (fun (s73 : mz_St) => mz_G E X 5 73 [] [] s73) (fun s73 h => ?_)) (fun h => ?_)
    · unfold mw_Ref_isInLoop_73 at h
      refine mr_iconst C md_Ref_isInLoop_73 mk_iconst_1 ?_
      refine mr_goto C md_Ref_isInLoop_74 rfl ?_
      exact mr_zret C R mb_1 h md_Ref_isInLoop_78
    refine mr_icmp_eq C md_Ref_isInLoop_57 rfl (fun hc => ?_) (fun hc => ?_)
    · replace h := h.1 hc
      refine mr_sub [] rfl ?_
      exact h
    replace h := h.2 hc
    refine mr_aload_n C 0 md_Ref_isInLoop_60 rfl rfl ?_
    refine mr_iconst C md_Ref_isInLoop_61 mk_iconst_1 ?_
    refine mr_iload_n C 1 md_Ref_isInLoop_62 rfl rfl ?_
    refine mr_ishl C md_Ref_isInLoop_63 ?_
    refine mr_iload_n C 2 md_Ref_isInLoop_64 rfl rfl ?_
    refine mr_cVi C (As := [.int ((1 : Int32) <<< (a0 &&& 31)), .int a1]) (rest := []) 11 (ms_Ref_reach _ E hI _ ((1 : Int32) <<< (a0 &&& 31)) a1 _ h) mo_Ref_reach mi_Ref_reach mc_Ref_cls ml_1165 (by decide) (fun _ => rfl) rfl rfl (Nat.le_of_ble_eq_true rfl) (Nat.le_of_ble_eq_true rfl) (Nat.le_of_ble_eq_true rfl) md_Ref_isInLoop_65 (fun r1 u1 h => ?_)
    refine mr_iload_n C 3 md_Ref_isInLoop_68 rfl rfl ?_
    refine mr_iand C md_Ref_isInLoop_69 ?_
    refine mr_if_eq C md_Ref_isInLoop_70 rfl (fun hc => ?_) (fun hc => ?_)
    · replace h := h.1 hc
      refine mr_iconst C md_Ref_isInLoop_77 mk_iconst_0 ?_
      exact mr_zret C R mb_0 h md_Ref_isInLoop_78
    replace h := h.2 hc
    refine mr_sub [] rfl ?_
    exact h
  replace h := h.2 hc
  refine mr_iload_n C 3 md_Ref_isInLoop_14 rfl rfl ?_
  refine mr_aload_n C 0 md_Ref_isInLoop_15 rfl rfl ?_
  refine mr_iload C 4 md_Ref_isInLoop_16 rfl ?_
  refine mr_iload_n C 2 md_Ref_isInLoop_18 rfl rfl ?_
  refine mr_cVi C (As := [.int x4_5, .int a1]) (rest := [.int x3_5]) 11 (ms_Ref_hasEdge _ E hI _ x4_5 a1 _ h) mo_Ref_hasEdge mi_Ref_hasEdge mc_Ref_cls ml_1169 (by decide) (fun _ => rfl) rfl rfl (Nat.le_of_ble_eq_true rfl) (Nat.le_of_ble_eq_true rfl) (Nat.le_of_ble_eq_true rfl) md_Ref_isInLoop_19 (fun r2 u2 h => ?_)
  refine mj (h (fun (y0_43 : Int32) (y1_43 : Int32) (s43 : mz_St) => mz_G E X 5 43 [(0, .ref (E.2.1 11)), (1, .int a0), (2, .int a1), (4, .int x4_5)] [.int y0_43, .int y1_43] s43) (fun y0_43 y1_43 s43 h => ?_)) (fun h => ?_)
  · unfold mw_Ref_isInLoop_43 at h
    refine mr_ior C md_Ref_isInLoop_43 ?_
    refine mr_istore_n C (L' := [(3, .int (y1_43 ||| y0_43)), (0, .ref (E.2.1 11)), (1, .int a0), (2, .int a1), (4, .int x4_5)]) md_Ref_isInLoop_44 rfl (Nat.le_of_ble_eq_true rfl) rfl ?_
    refine mr_iinc C (L' := [(4, .int (x4_5 + 1)), (3, .int (y1_43 ||| y0_43)), (0, .ref (E.2.1 11)), (1, .int a0), (2, .int a1)]) 4 md_Ref_isInLoop_45 rfl (mk_inc mk_iconst_1) (Nat.le_of_ble_eq_true rfl) rfl ?_
    refine mr_goto C md_Ref_isInLoop_48 rfl ?_
    refine mr_sub [2, 3, 4, 1, 0] rfl ?_
    exact h
  refine mj (h (fun (y0_42 : Int32) (s42 : mz_St) => mz_G E X 5 42 [(0, .ref (E.2.1 11)), (1, .int a0), (2, .int a1), (4, .int x4_5)] [.int y0_42] s42) (fun y0_42 s42 h => ?_)) (fun h => ?_)
  · unfold mw_Ref_isInLoop_42 at h
    refine mr_iconst C md_Ref_isInLoop_42 mk_iconst_0 ?_
    exact h
  refine mr_if_eq C md_Ref_isInLoop_22 rfl (fun hc => ?_) (fun hc => ?_)
  · replace h := h.1 hc
    refine mr_sub [0, 1, 2, 4] rfl ?_
    exact h
  replace h := h.2 hc
  refine mr_aload_n C 0 md_Ref_isInLoop_25 rfl rfl ?_
  refine mr_iload_n C 2 md_Ref_isInLoop_26 rfl rfl ?_
  refine mr_iload C 4 md_Ref_isInLoop_27 rfl ?_
  refine mr_cVi C (As := [.int a1, .int x4_5]) (rest := [.int x3_5]) 11 (ms_Ref_dominates _ E hI _ a1 x4_5 _ h) mo_Ref_dominates mi_Ref_dominates mc_Ref_cls ml_1157 (by decide) (fun _ => rfl) rfl rfl (Nat.le_of_ble_eq_true rfl) (Nat.le_of_ble_eq_true rfl) (Nat.le_of_ble_eq_true rfl) md_Ref_isInLoop_29 (fun r3 u3 h => ?_)
  refine mr_if_eq C md_Ref_isInLoop_32 rfl (fun hc => ?_) (fun hc => ?_)
  · replace h := h.1 hc
    refine mr_sub [0, 1, 2, 4] rfl ?_
    exact h
  replace h := h.2 hc
  refine mr_iconst C md_Ref_isInLoop_35 mk_iconst_1 ?_
  refine mr_iload C 4 md_Ref_isInLoop_36 rfl ?_
  refine mr_ishl C md_Ref_isInLoop_38 ?_
  refine mr_goto C md_Ref_isInLoop_39 rfl ?_
  refine mr_sub [0, 1, 2, 4] rfl ?_
  exact h
def mw_Ref_depth_37 (P14 : Int32 → Int32 → mz_St → Prop) (x3_14 : Int32) (y0_37 : Int32) (y1_37 : Int32) (s37 : mz_St) : Prop :=
  P14 (y1_37 + y0_37) (x3_14 + 1) s37
def mw_Ref_depth_14 (K : Int32 → mz_St → Prop) (a0 : Int32) (P14 : Int32 → Int32 → mz_St → Prop) (x2_14 : Int32) (x3_14 : Int32) (s14 : mz_St) : Prop :=
  (((s14 1016 0) ≤ x3_14 →
   K x2_14 s14) ∧
  (¬ (s14 1016 0) ≤ x3_14 →
   mw_Ref_isInLoop (fun r2 u2 =>
    (∀ P37 : Int32 → Int32 → mz_St → Prop, (∀ (y0_37 : Int32) (y1_37 : Int32) (s37 : mz_St), mw_Ref_depth_37 P14 x3_14 y0_37 y1_37 s37 → P37 y0_37 y1_37 s37) →
    ((r2 = 0 →
     P37 0 x2_14 u2) ∧
    (¬ r2 = 0 →
     P37 1 x2_14 u2)))) a0 x3_14 s14))
/-- ValueMillModel.depth(I)I: what it does, as a transformer of what must hold behind it -/
def mw_Ref_depth (K : Int32 → mz_St → Prop) (a0 : Int32) (s0 : mz_St) : Prop :=
  mw_Ref_isAlive (fun r1 u1 =>
   ((¬ r1 = 0 →
    (∀ P14 : Int32 → Int32 → mz_St → Prop, (∀ (x2_14 : Int32) (x3_14 : Int32) (s14 : mz_St), mw_Ref_depth_14 K a0 P14 x2_14 x3_14 s14 → P14 x2_14 x3_14 s14) →
    P14 0 0 u1)) ∧
   (r1 = 0 →
    K (-1) u1))) a0 s0
set_option maxRecDepth 100000 in
set_option maxHeartbeats 4000000 in
theorem ms_Ref_depth (l : Launch) (E : mz_En) (hI : mz_Inj E) (K : Int32 → mz_St → Prop) (a0 : Int32) (s0 : mz_St) (h : mw_Ref_depth K a0 s0) : mz_Ci l E my_Ref_depth mb_Ref_depth 4 (some .int) (5) (115) [.ref (E.2.1 11), .int a0] s0 K := by
  refine mz_cti hI (by decide +kernel) (Nat.le_of_ble_eq_true rfl) (fun X C R => ?_)
  show mz_G E X 4 0 [(0, .ref (E.2.1 11)), (1, .int a0)] [] s0
  unfold mw_Ref_depth at h
  refine mr_aload_n C 0 md_Ref_depth_0 rfl rfl ?_
  refine mr_iload_n C 1 md_Ref_depth_1 rfl rfl ?_
  refine mr_cVi C (As := [.int a0]) (rest := []) 11 (ms_Ref_isAlive _ E hI _ a0 _ h) mo_Ref_isAlive mi_Ref_isAlive mc_Ref_cls ml_1161 (by decide) (fun _ => rfl) rfl rfl (Nat.le_of_ble_eq_true rfl) (Nat.le_of_ble_eq_true rfl) (Nat.le_of_ble_eq_true rfl) md_Ref_depth_2 (fun r1 u1 h => ?_)
  refine mr_if_ne C md_Ref_depth_5 rfl (fun hc => ?_) (fun hc => ?_)
  · replace h := h.1 hc
    refine mr_iconst C md_Ref_depth_10 mk_iconst_0 ?_
    refine mr_istore_n C (L' := [(2, .int 0), (0, .ref (E.2.1 11)), (1, .int a0)]) md_Ref_depth_11 rfl (Nat.le_of_ble_eq_true rfl) rfl ?_
    refine mr_iconst C md_Ref_depth_12 mk_iconst_0 ?_
    refine mr_istore_n C (L' := [(3, .int 0), (2, .int 0), (0, .ref (E.2.1 11)), (1, .int a0)]) md_Ref_depth_13 rfl (Nat.le_of_ble_eq_true rfl) rfl ?_
    refine mr_sub [2, 3, 1, 0] rfl ?_
    refine h (fun (x2_14 : Int32) (x3_14 : Int32) (s14 : mz_St) => mz_G E X 4 14 [(0, .ref (E.2.1 11)), (1, .int a0), (2, .int x2_14), (3, .int x3_14)] [] s14) (fun x2_14 x3_14 s14 h => ?_)
    unfold mw_Ref_depth_14 at h
    refine mr_iload_n C 3 md_Ref_depth_14 rfl rfl ?_
    refine mr_aload_n C 0 md_Ref_depth_15 rfl rfl ?_
    refine mr_get C 11 0 mc_Ref_cls ml_1013 rfl (by decide) (by decide) (fun _ => rfl) rfl md_Ref_depth_16 ?_
    refine mr_icmp_ge C md_Ref_depth_19 rfl (fun hc => ?_) (fun hc => ?_)
    · replace h := h.1 hc
      refine mr_iload_n C 2 md_Ref_depth_45 rfl rfl ?_
      exact mr_iret C R h md_Ref_depth_46
    replace h := h.2 hc
    refine mr_iload_n C 2 md_Ref_depth_22 rfl rfl ?_
    refine mr_aload_n C 0 md_Ref_depth_23 rfl rfl ?_
    refine mr_iload_n C 1 md_Ref_depth_24 rfl rfl ?_
    refine mr_iload_n C 3 md_Ref_depth_25 rfl rfl ?_
    refine mr_cVi C (As := [.int a0, .int x3_14]) (rest := [.int x2_14]) 11 (ms_Ref_isInLoop _ E hI _ a0 x3_14 _ h) mo_Ref_isInLoop mi_Ref_isInLoop mc_Ref_cls ml_1202 (by decide) (fun _ => rfl) rfl rfl (Nat.le_of_ble_eq_true rfl) (Nat.le_of_ble_eq_true rfl) (Nat.le_of_ble_eq_true rfl) md_Ref_depth_26 (fun r2 u2 h => ?_)
    refine mj (h (fun (y0_37 : Int32) (y1_37 : Int32) (s37 : mz_St) => mz_G E X 4 37 [(0, .ref (E.2.1 11)), (1, .int a0), (3, .int x3_14)] [.int y0_37, .int y1_37] s37) (fun y0_37 y1_37 s37 h => ?_)) (fun h => ?_)
    · unfold mw_Ref_depth_37 at h
      refine mr_iadd C md_Ref_depth_37 ?_
      refine mr_istore_n C (L' := [(2, .int (y1_37 + y0_37)), (0, .ref (E.2.1 11)), (1, .int a0), (3, .int x3_14)]) md_Ref_depth_38 rfl (Nat.le_of_ble_eq_true rfl) rfl ?_
      refine mr_iinc C (L' := [(3, .int (x3_14 + 1)), (2, .int (y1_37 + y0_37)), (0, .ref (E.2.1 11)), (1, .int a0)]) 3 md_Ref_depth_39 rfl (mk_inc mk_iconst_1) (Nat.le_of_ble_eq_true rfl) rfl ?_
      refine mr_goto C md_Ref_depth_42 rfl ?_
      refine mr_sub [2, 3, 1, 0] rfl ?_
      exact h
    refine mr_if_eq C md_Ref_depth_29 rfl (fun hc => ?_) (fun hc => ?_)
    · replace h := h.1 hc
      refine mr_iconst C md_Ref_depth_36 mk_iconst_0 ?_
      refine mr_sub [0, 1, 3] rfl ?_
      exact h
    replace h := h.2 hc
    refine mr_iconst C md_Ref_depth_32 mk_iconst_1 ?_
    refine mr_goto C md_Ref_depth_33 rfl ?_
    refine mr_sub [0, 1, 3] rfl ?_
    exact h
  replace h := h.2 hc
  refine mr_iconst C md_Ref_depth_8 mk_iconst_m1 ?_
  exact mr_iret C R h md_Ref_depth_9

/-! BEGIN Mill0: its instructions, what each method does (mw_), that its bytecode does it (ms_): printed -/
theorem md_Mill_isTemp_0 : mz_d mb_Mill_isTemp 0 (.iload_n 0) 1 1 := ⟨by decide +kernel, rfl⟩
theorem md_Mill_isTemp_1 : mz_d mb_Mill_isTemp 1 (.ifCond .lt 13) 3 4 := ⟨by decide +kernel, rfl⟩
theorem md_Mill_isTemp_4 : mz_d mb_Mill_isTemp 4 (.iload_n 0) 1 5 := ⟨by decide +kernel, rfl⟩
theorem md_Mill_isTemp_5 : mz_d mb_Mill_isTemp 5 (.bipush 10) 2 7 := ⟨by decide +kernel, rfl⟩
theorem md_Mill_isTemp_7 : mz_d mb_Mill_isTemp 7 (.if_icmp .ge 7) 3 10 := ⟨by decide +kernel, rfl⟩
theorem md_Mill_isTemp_10 : mz_d mb_Mill_isTemp 10 (.iconst 1) 1 11 := ⟨by decide +kernel, rfl⟩
theorem md_Mill_isTemp_11 : mz_d mb_Mill_isTemp 11 (.goto 4) 3 14 := ⟨by decide +kernel, rfl⟩
theorem md_Mill_isTemp_14 : mz_d mb_Mill_isTemp 14 (.iconst 0) 1 15 := ⟨by decide +kernel, rfl⟩
theorem md_Mill_isTemp_15 : mz_d mb_Mill_isTemp 15 (.ireturn) 1 16 := ⟨by decide +kernel, rfl⟩
theorem md_Mill_isWord_0 : mz_d mb_Mill_isWord 0 (.iload_n 0) 1 1 := ⟨by decide +kernel, rfl⟩
theorem md_Mill_isWord_1 : mz_d mb_Mill_isWord 1 (.ifCond .lt 13) 3 4 := ⟨by decide +kernel, rfl⟩
theorem md_Mill_isWord_4 : mz_d mb_Mill_isWord 4 (.iload_n 0) 1 5 := ⟨by decide +kernel, rfl⟩
theorem md_Mill_isWord_5 : mz_d mb_Mill_isWord 5 (.bipush 32) 2 7 := ⟨by decide +kernel, rfl⟩
theorem md_Mill_isWord_7 : mz_d mb_Mill_isWord 7 (.if_icmp .ge 7) 3 10 := ⟨by decide +kernel, rfl⟩
theorem md_Mill_isWord_10 : mz_d mb_Mill_isWord 10 (.iconst 1) 1 11 := ⟨by decide +kernel, rfl⟩
theorem md_Mill_isWord_11 : mz_d mb_Mill_isWord 11 (.goto 4) 3 14 := ⟨by decide +kernel, rfl⟩
theorem md_Mill_isWord_14 : mz_d mb_Mill_isWord 14 (.iconst 0) 1 15 := ⟨by decide +kernel, rfl⟩
theorem md_Mill_isWord_15 : mz_d mb_Mill_isWord 15 (.ireturn) 1 16 := ⟨by decide +kernel, rfl⟩
theorem md_Mill_isSuch_0 : mz_d mb_Mill_isSuch 0 (.iload_n 0) 1 1 := ⟨by decide +kernel, rfl⟩
theorem md_Mill_isSuch_1 : mz_d mb_Mill_isSuch 1 (.lookupswitch 146 #[(0, 51), (1, 68), (16, 68), (17, 92), (18, 116)]) 51 52 := ⟨by decide +kernel, rfl⟩
theorem md_Mill_isSuch_52 : mz_d mb_Mill_isSuch 52 (.iload_n 1) 1 53 := ⟨by decide +kernel, rfl⟩
theorem md_Mill_isSuch_53 : mz_d mb_Mill_isSuch 53 (.invokestatic 120) 3 56 := ⟨by decide +kernel, rfl⟩
theorem md_Mill_isSuch_56 : mz_d mb_Mill_isSuch 56 (.ifCond .eq 11) 3 59 := ⟨by decide +kernel, rfl⟩
theorem md_Mill_isSuch_59 : mz_d mb_Mill_isSuch 59 (.iload_n 3) 1 60 := ⟨by decide +kernel, rfl⟩
theorem md_Mill_isSuch_60 : mz_d mb_Mill_isSuch 60 (.ifCond .ne 7) 3 63 := ⟨by decide +kernel, rfl⟩
theorem md_Mill_isSuch_63 : mz_d mb_Mill_isSuch 63 (.iconst 1) 1 64 := ⟨by decide +kernel, rfl⟩
theorem md_Mill_isSuch_64 : mz_d mb_Mill_isSuch 64 (.goto 4) 3 67 := ⟨by decide +kernel, rfl⟩
theorem md_Mill_isSuch_67 : mz_d mb_Mill_isSuch 67 (.iconst 0) 1 68 := ⟨by decide +kernel, rfl⟩
theorem md_Mill_isSuch_68 : mz_d mb_Mill_isSuch 68 (.ireturn) 1 69 := ⟨by decide +kernel, rfl⟩
theorem md_Mill_isSuch_69 : mz_d mb_Mill_isSuch 69 (.iload_n 1) 1 70 := ⟨by decide +kernel, rfl⟩
theorem md_Mill_isSuch_70 : mz_d mb_Mill_isSuch 70 (.invokestatic 120) 3 73 := ⟨by decide +kernel, rfl⟩
theorem md_Mill_isSuch_73 : mz_d mb_Mill_isSuch 73 (.ifCond .eq 18) 3 76 := ⟨by decide +kernel, rfl⟩
theorem md_Mill_isSuch_76 : mz_d mb_Mill_isSuch 76 (.iload_n 2) 1 77 := ⟨by decide +kernel, rfl⟩
theorem md_Mill_isSuch_77 : mz_d mb_Mill_isSuch 77 (.invokestatic 120) 3 80 := ⟨by decide +kernel, rfl⟩
theorem md_Mill_isSuch_80 : mz_d mb_Mill_isSuch 80 (.ifCond .eq 11) 3 83 := ⟨by decide +kernel, rfl⟩
theorem md_Mill_isSuch_83 : mz_d mb_Mill_isSuch 83 (.iload_n 3) 1 84 := ⟨by decide +kernel, rfl⟩
theorem md_Mill_isSuch_84 : mz_d mb_Mill_isSuch 84 (.ifCond .ne 7) 3 87 := ⟨by decide +kernel, rfl⟩
theorem md_Mill_isSuch_87 : mz_d mb_Mill_isSuch 87 (.iconst 1) 1 88 := ⟨by decide +kernel, rfl⟩
theorem md_Mill_isSuch_88 : mz_d mb_Mill_isSuch 88 (.goto 4) 3 91 := ⟨by decide +kernel, rfl⟩
theorem md_Mill_isSuch_91 : mz_d mb_Mill_isSuch 91 (.iconst 0) 1 92 := ⟨by decide +kernel, rfl⟩
theorem md_Mill_isSuch_92 : mz_d mb_Mill_isSuch 92 (.ireturn) 1 93 := ⟨by decide +kernel, rfl⟩
theorem md_Mill_isSuch_93 : mz_d mb_Mill_isSuch 93 (.iload_n 1) 1 94 := ⟨by decide +kernel, rfl⟩
theorem md_Mill_isSuch_94 : mz_d mb_Mill_isSuch 94 (.ifCond .ne 21) 3 97 := ⟨by decide +kernel, rfl⟩
theorem md_Mill_isSuch_97 : mz_d mb_Mill_isSuch 97 (.iload_n 2) 1 98 := ⟨by decide +kernel, rfl⟩
theorem md_Mill_isSuch_98 : mz_d mb_Mill_isSuch 98 (.invokestatic 120) 3 101 := ⟨by decide +kernel, rfl⟩
theorem md_Mill_isSuch_101 : mz_d mb_Mill_isSuch 101 (.ifCond .eq 14) 3 104 := ⟨by decide +kernel, rfl⟩
theorem md_Mill_isSuch_104 : mz_d mb_Mill_isSuch 104 (.iload_n 3) 1 105 := ⟨by decide +kernel, rfl⟩
theorem md_Mill_isSuch_105 : mz_d mb_Mill_isSuch 105 (.invokestatic 120) 3 108 := ⟨by decide +kernel, rfl⟩
theorem md_Mill_isSuch_108 : mz_d mb_Mill_isSuch 108 (.ifCond .eq 7) 3 111 := ⟨by decide +kernel, rfl⟩
theorem md_Mill_isSuch_111 : mz_d mb_Mill_isSuch 111 (.iconst 1) 1 112 := ⟨by decide +kernel, rfl⟩
theorem md_Mill_isSuch_112 : mz_d mb_Mill_isSuch 112 (.goto 4) 3 115 := ⟨by decide +kernel, rfl⟩
theorem md_Mill_isSuch_115 : mz_d mb_Mill_isSuch 115 (.iconst 0) 1 116 := ⟨by decide +kernel, rfl⟩
theorem md_Mill_isSuch_116 : mz_d mb_Mill_isSuch 116 (.ireturn) 1 117 := ⟨by decide +kernel, rfl⟩
theorem md_Mill_isSuch_117 : mz_d mb_Mill_isSuch 117 (.iload_n 1) 1 118 := ⟨by decide +kernel, rfl⟩
theorem md_Mill_isSuch_118 : mz_d mb_Mill_isSuch 118 (.invokestatic 120) 3 121 := ⟨by decide +kernel, rfl⟩
theorem md_Mill_isSuch_121 : mz_d mb_Mill_isSuch 121 (.ifCond .eq 24) 3 124 := ⟨by decide +kernel, rfl⟩
theorem md_Mill_isSuch_124 : mz_d mb_Mill_isSuch 124 (.iload_n 2) 1 125 := ⟨by decide +kernel, rfl⟩
theorem md_Mill_isSuch_125 : mz_d mb_Mill_isSuch 125 (.invokestatic 120) 3 128 := ⟨by decide +kernel, rfl⟩
theorem md_Mill_isSuch_128 : mz_d mb_Mill_isSuch 128 (.ifCond .eq 17) 3 131 := ⟨by decide +kernel, rfl⟩
theorem md_Mill_isSuch_131 : mz_d mb_Mill_isSuch 131 (.iload_n 3) 1 132 := ⟨by decide +kernel, rfl⟩
theorem md_Mill_isSuch_132 : mz_d mb_Mill_isSuch 132 (.ifCond .lt 13) 3 135 := ⟨by decide +kernel, rfl⟩
theorem md_Mill_isSuch_135 : mz_d mb_Mill_isSuch 135 (.iload_n 3) 1 136 := ⟨by decide +kernel, rfl⟩
theorem md_Mill_isSuch_136 : mz_d mb_Mill_isSuch 136 (.bipush 10) 2 138 := ⟨by decide +kernel, rfl⟩
theorem md_Mill_isSuch_138 : mz_d mb_Mill_isSuch 138 (.if_icmp .ge 7) 3 141 := ⟨by decide +kernel, rfl⟩
theorem md_Mill_isSuch_141 : mz_d mb_Mill_isSuch 141 (.iconst 1) 1 142 := ⟨by decide +kernel, rfl⟩
theorem md_Mill_isSuch_142 : mz_d mb_Mill_isSuch 142 (.goto 4) 3 145 := ⟨by decide +kernel, rfl⟩
theorem md_Mill_isSuch_145 : mz_d mb_Mill_isSuch 145 (.iconst 0) 1 146 := ⟨by decide +kernel, rfl⟩
theorem md_Mill_isSuch_146 : mz_d mb_Mill_isSuch 146 (.ireturn) 1 147 := ⟨by decide +kernel, rfl⟩
theorem md_Mill_isSuch_147 : mz_d mb_Mill_isSuch 147 (.iload_n 0) 1 148 := ⟨by decide +kernel, rfl⟩
theorem md_Mill_isSuch_148 : mz_d mb_Mill_isSuch 148 (.iconst 1) 1 149 := ⟨by decide +kernel, rfl⟩
theorem md_Mill_isSuch_149 : mz_d mb_Mill_isSuch 149 (.if_icmp .le 34) 3 152 := ⟨by decide +kernel, rfl⟩
theorem md_Mill_isSuch_152 : mz_d mb_Mill_isSuch 152 (.iload_n 0) 1 153 := ⟨by decide +kernel, rfl⟩
theorem md_Mill_isSuch_153 : mz_d mb_Mill_isSuch 153 (.bipush 16) 2 155 := ⟨by decide +kernel, rfl⟩
theorem md_Mill_isSuch_155 : mz_d mb_Mill_isSuch 155 (.if_icmp .ge 28) 3 158 := ⟨by decide +kernel, rfl⟩
theorem md_Mill_isSuch_158 : mz_d mb_Mill_isSuch 158 (.iload_n 1) 1 159 := ⟨by decide +kernel, rfl⟩
theorem md_Mill_isSuch_159 : mz_d mb_Mill_isSuch 159 (.invokestatic 120) 3 162 := ⟨by decide +kernel, rfl⟩
theorem md_Mill_isSuch_162 : mz_d mb_Mill_isSuch 162 (.ifCond .eq 21) 3 165 := ⟨by decide +kernel, rfl⟩
theorem md_Mill_isSuch_165 : mz_d mb_Mill_isSuch 165 (.iload_n 2) 1 166 := ⟨by decide +kernel, rfl⟩
theorem md_Mill_isSuch_166 : mz_d mb_Mill_isSuch 166 (.invokestatic 120) 3 169 := ⟨by decide +kernel, rfl⟩
theorem md_Mill_isSuch_169 : mz_d mb_Mill_isSuch 169 (.ifCond .eq 14) 3 172 := ⟨by decide +kernel, rfl⟩
theorem md_Mill_isSuch_172 : mz_d mb_Mill_isSuch 172 (.iload_n 3) 1 173 := ⟨by decide +kernel, rfl⟩
theorem md_Mill_isSuch_173 : mz_d mb_Mill_isSuch 173 (.invokestatic 120) 3 176 := ⟨by decide +kernel, rfl⟩
theorem md_Mill_isSuch_176 : mz_d mb_Mill_isSuch 176 (.ifCond .eq 7) 3 179 := ⟨by decide +kernel, rfl⟩
theorem md_Mill_isSuch_179 : mz_d mb_Mill_isSuch 179 (.iconst 1) 1 180 := ⟨by decide +kernel, rfl⟩
theorem md_Mill_isSuch_180 : mz_d mb_Mill_isSuch 180 (.goto 4) 3 183 := ⟨by decide +kernel, rfl⟩
theorem md_Mill_isSuch_183 : mz_d mb_Mill_isSuch 183 (.iconst 0) 1 184 := ⟨by decide +kernel, rfl⟩
theorem md_Mill_isSuch_184 : mz_d mb_Mill_isSuch 184 (.ireturn) 1 185 := ⟨by decide +kernel, rfl⟩
theorem md_Mill_isIn_0 : mz_d mb_Mill_isIn 0 (.iload_n 0) 1 1 := ⟨by decide +kernel, rfl⟩
theorem md_Mill_isIn_1 : mz_d mb_Mill_isIn 1 (.iload_n 1) 1 2 := ⟨by decide +kernel, rfl⟩
theorem md_Mill_isIn_2 : mz_d mb_Mill_isIn 2 (.ishr) 1 3 := ⟨by decide +kernel, rfl⟩
theorem md_Mill_isIn_3 : mz_d mb_Mill_isIn 3 (.iconst 1) 1 4 := ⟨by decide +kernel, rfl⟩
theorem md_Mill_isIn_4 : mz_d mb_Mill_isIn 4 (.iand) 1 5 := ⟨by decide +kernel, rfl⟩
theorem md_Mill_isIn_5 : mz_d mb_Mill_isIn 5 (.ifCond .eq 7) 3 8 := ⟨by decide +kernel, rfl⟩
theorem md_Mill_isIn_8 : mz_d mb_Mill_isIn 8 (.iconst 1) 1 9 := ⟨by decide +kernel, rfl⟩
theorem md_Mill_isIn_9 : mz_d mb_Mill_isIn 9 (.goto 4) 3 12 := ⟨by decide +kernel, rfl⟩
theorem md_Mill_isIn_12 : mz_d mb_Mill_isIn 12 (.iconst 0) 1 13 := ⟨by decide +kernel, rfl⟩
theorem md_Mill_isIn_13 : mz_d mb_Mill_isIn 13 (.ireturn) 1 14 := ⟨by decide +kernel, rfl⟩
theorem md_Mill_failsToDivide_0 : mz_d mb_Mill_failsToDivide 0 (.iload_n 0) 1 1 := ⟨by decide +kernel, rfl⟩
theorem md_Mill_failsToDivide_1 : mz_d mb_Mill_failsToDivide 1 (.iconst 5) 1 2 := ⟨by decide +kernel, rfl⟩
theorem md_Mill_failsToDivide_2 : mz_d mb_Mill_failsToDivide 2 (.if_icmp .eq 9) 3 5 := ⟨by decide +kernel, rfl⟩
theorem md_Mill_failsToDivide_5 : mz_d mb_Mill_failsToDivide 5 (.iload_n 0) 1 6 := ⟨by decide +kernel, rfl⟩
theorem md_Mill_failsToDivide_6 : mz_d mb_Mill_failsToDivide 6 (.bipush 6) 2 8 := ⟨by decide +kernel, rfl⟩
theorem md_Mill_failsToDivide_8 : mz_d mb_Mill_failsToDivide 8 (.if_icmp .ne 22) 3 11 := ⟨by decide +kernel, rfl⟩
theorem md_Mill_failsToDivide_11 : mz_d mb_Mill_failsToDivide 11 (.iload_n 2) 1 12 := ⟨by decide +kernel, rfl⟩
theorem md_Mill_failsToDivide_12 : mz_d mb_Mill_failsToDivide 12 (.ifCond .eq 14) 3 15 := ⟨by decide +kernel, rfl⟩
theorem md_Mill_failsToDivide_15 : mz_d mb_Mill_failsToDivide 15 (.iload_n 1) 1 16 := ⟨by decide +kernel, rfl⟩
theorem md_Mill_failsToDivide_16 : mz_d mb_Mill_failsToDivide 16 (.ldc 215) 2 18 := ⟨by decide +kernel, rfl⟩
theorem md_Mill_failsToDivide_18 : mz_d mb_Mill_failsToDivide 18 (.if_icmp .ne 12) 3 21 := ⟨by decide +kernel, rfl⟩
theorem md_Mill_failsToDivide_21 : mz_d mb_Mill_failsToDivide 21 (.iload_n 2) 1 22 := ⟨by decide +kernel, rfl⟩
theorem md_Mill_failsToDivide_22 : mz_d mb_Mill_failsToDivide 22 (.iconst (-1)) 1 23 := ⟨by decide +kernel, rfl⟩
theorem md_Mill_failsToDivide_23 : mz_d mb_Mill_failsToDivide 23 (.if_icmp .ne 7) 3 26 := ⟨by decide +kernel, rfl⟩
theorem md_Mill_failsToDivide_26 : mz_d mb_Mill_failsToDivide 26 (.iconst 1) 1 27 := ⟨by decide +kernel, rfl⟩
theorem md_Mill_failsToDivide_27 : mz_d mb_Mill_failsToDivide 27 (.goto 4) 3 30 := ⟨by decide +kernel, rfl⟩
theorem md_Mill_failsToDivide_30 : mz_d mb_Mill_failsToDivide 30 (.iconst 0) 1 31 := ⟨by decide +kernel, rfl⟩
theorem md_Mill_failsToDivide_31 : mz_d mb_Mill_failsToDivide 31 (.ireturn) 1 32 := ⟨by decide +kernel, rfl⟩
theorem md_Mill_reckon_0 : mz_d mb_Mill_reckon 0 (.iload_n 0) 1 1 := ⟨by decide +kernel, rfl⟩
theorem md_Mill_reckon_1 : mz_d mb_Mill_reckon 1 (.tableswitch 179 2 15 #[71, 75, 79, 83, 95, 107, 111, 115, 119, 126, 133, 140, 151, 162]) 71 72 := ⟨by decide +kernel, rfl⟩
theorem md_Mill_reckon_72 : mz_d mb_Mill_reckon 72 (.iload_n 1) 1 73 := ⟨by decide +kernel, rfl⟩
theorem md_Mill_reckon_73 : mz_d mb_Mill_reckon 73 (.iload_n 2) 1 74 := ⟨by decide +kernel, rfl⟩
theorem md_Mill_reckon_74 : mz_d mb_Mill_reckon 74 (.iadd) 1 75 := ⟨by decide +kernel, rfl⟩
theorem md_Mill_reckon_75 : mz_d mb_Mill_reckon 75 (.ireturn) 1 76 := ⟨by decide +kernel, rfl⟩
theorem md_Mill_reckon_76 : mz_d mb_Mill_reckon 76 (.iload_n 1) 1 77 := ⟨by decide +kernel, rfl⟩
theorem md_Mill_reckon_77 : mz_d mb_Mill_reckon 77 (.iload_n 2) 1 78 := ⟨by decide +kernel, rfl⟩
theorem md_Mill_reckon_78 : mz_d mb_Mill_reckon 78 (.isub) 1 79 := ⟨by decide +kernel, rfl⟩
theorem md_Mill_reckon_79 : mz_d mb_Mill_reckon 79 (.ireturn) 1 80 := ⟨by decide +kernel, rfl⟩
theorem md_Mill_reckon_80 : mz_d mb_Mill_reckon 80 (.iload_n 1) 1 81 := ⟨by decide +kernel, rfl⟩
theorem md_Mill_reckon_81 : mz_d mb_Mill_reckon 81 (.iload_n 2) 1 82 := ⟨by decide +kernel, rfl⟩
theorem md_Mill_reckon_82 : mz_d mb_Mill_reckon 82 (.imul) 1 83 := ⟨by decide +kernel, rfl⟩
theorem md_Mill_reckon_83 : mz_d mb_Mill_reckon 83 (.ireturn) 1 84 := ⟨by decide +kernel, rfl⟩
theorem md_Mill_reckon_84 : mz_d mb_Mill_reckon 84 (.iload_n 2) 1 85 := ⟨by decide +kernel, rfl⟩
theorem md_Mill_reckon_85 : mz_d mb_Mill_reckon 85 (.ifCond .ne 7) 3 88 := ⟨by decide +kernel, rfl⟩
theorem md_Mill_reckon_88 : mz_d mb_Mill_reckon 88 (.iconst 0) 1 89 := ⟨by decide +kernel, rfl⟩
theorem md_Mill_reckon_89 : mz_d mb_Mill_reckon 89 (.goto 6) 3 92 := ⟨by decide +kernel, rfl⟩
theorem md_Mill_reckon_92 : mz_d mb_Mill_reckon 92 (.iload_n 1) 1 93 := ⟨by decide +kernel, rfl⟩
theorem md_Mill_reckon_93 : mz_d mb_Mill_reckon 93 (.iload_n 2) 1 94 := ⟨by decide +kernel, rfl⟩
theorem md_Mill_reckon_94 : mz_d mb_Mill_reckon 94 (.idiv) 1 95 := ⟨by decide +kernel, rfl⟩
theorem md_Mill_reckon_95 : mz_d mb_Mill_reckon 95 (.ireturn) 1 96 := ⟨by decide +kernel, rfl⟩
theorem md_Mill_reckon_96 : mz_d mb_Mill_reckon 96 (.iload_n 2) 1 97 := ⟨by decide +kernel, rfl⟩
theorem md_Mill_reckon_97 : mz_d mb_Mill_reckon 97 (.ifCond .ne 7) 3 100 := ⟨by decide +kernel, rfl⟩
theorem md_Mill_reckon_100 : mz_d mb_Mill_reckon 100 (.iconst 0) 1 101 := ⟨by decide +kernel, rfl⟩
theorem md_Mill_reckon_101 : mz_d mb_Mill_reckon 101 (.goto 6) 3 104 := ⟨by decide +kernel, rfl⟩
theorem md_Mill_reckon_104 : mz_d mb_Mill_reckon 104 (.iload_n 1) 1 105 := ⟨by decide +kernel, rfl⟩
theorem md_Mill_reckon_105 : mz_d mb_Mill_reckon 105 (.iload_n 2) 1 106 := ⟨by decide +kernel, rfl⟩
theorem md_Mill_reckon_106 : mz_d mb_Mill_reckon 106 (.irem) 1 107 := ⟨by decide +kernel, rfl⟩
theorem md_Mill_reckon_107 : mz_d mb_Mill_reckon 107 (.ireturn) 1 108 := ⟨by decide +kernel, rfl⟩
theorem md_Mill_reckon_108 : mz_d mb_Mill_reckon 108 (.iload_n 1) 1 109 := ⟨by decide +kernel, rfl⟩
theorem md_Mill_reckon_109 : mz_d mb_Mill_reckon 109 (.iload_n 2) 1 110 := ⟨by decide +kernel, rfl⟩
theorem md_Mill_reckon_110 : mz_d mb_Mill_reckon 110 (.iand) 1 111 := ⟨by decide +kernel, rfl⟩
theorem md_Mill_reckon_111 : mz_d mb_Mill_reckon 111 (.ireturn) 1 112 := ⟨by decide +kernel, rfl⟩
theorem md_Mill_reckon_112 : mz_d mb_Mill_reckon 112 (.iload_n 1) 1 113 := ⟨by decide +kernel, rfl⟩
theorem md_Mill_reckon_113 : mz_d mb_Mill_reckon 113 (.iload_n 2) 1 114 := ⟨by decide +kernel, rfl⟩
theorem md_Mill_reckon_114 : mz_d mb_Mill_reckon 114 (.ior) 1 115 := ⟨by decide +kernel, rfl⟩
theorem md_Mill_reckon_115 : mz_d mb_Mill_reckon 115 (.ireturn) 1 116 := ⟨by decide +kernel, rfl⟩
theorem md_Mill_reckon_116 : mz_d mb_Mill_reckon 116 (.iload_n 1) 1 117 := ⟨by decide +kernel, rfl⟩
theorem md_Mill_reckon_117 : mz_d mb_Mill_reckon 117 (.iload_n 2) 1 118 := ⟨by decide +kernel, rfl⟩
theorem md_Mill_reckon_118 : mz_d mb_Mill_reckon 118 (.ixor) 1 119 := ⟨by decide +kernel, rfl⟩
theorem md_Mill_reckon_119 : mz_d mb_Mill_reckon 119 (.ireturn) 1 120 := ⟨by decide +kernel, rfl⟩
theorem md_Mill_reckon_120 : mz_d mb_Mill_reckon 120 (.iload_n 1) 1 121 := ⟨by decide +kernel, rfl⟩
theorem md_Mill_reckon_121 : mz_d mb_Mill_reckon 121 (.iload_n 2) 1 122 := ⟨by decide +kernel, rfl⟩
theorem md_Mill_reckon_122 : mz_d mb_Mill_reckon 122 (.bipush 31) 2 124 := ⟨by decide +kernel, rfl⟩
theorem md_Mill_reckon_124 : mz_d mb_Mill_reckon 124 (.iand) 1 125 := ⟨by decide +kernel, rfl⟩
theorem md_Mill_reckon_125 : mz_d mb_Mill_reckon 125 (.ishl) 1 126 := ⟨by decide +kernel, rfl⟩
theorem md_Mill_reckon_126 : mz_d mb_Mill_reckon 126 (.ireturn) 1 127 := ⟨by decide +kernel, rfl⟩
theorem md_Mill_reckon_127 : mz_d mb_Mill_reckon 127 (.iload_n 1) 1 128 := ⟨by decide +kernel, rfl⟩
theorem md_Mill_reckon_128 : mz_d mb_Mill_reckon 128 (.iload_n 2) 1 129 := ⟨by decide +kernel, rfl⟩
theorem md_Mill_reckon_129 : mz_d mb_Mill_reckon 129 (.bipush 31) 2 131 := ⟨by decide +kernel, rfl⟩
theorem md_Mill_reckon_131 : mz_d mb_Mill_reckon 131 (.iand) 1 132 := ⟨by decide +kernel, rfl⟩
theorem md_Mill_reckon_132 : mz_d mb_Mill_reckon 132 (.ishr) 1 133 := ⟨by decide +kernel, rfl⟩
theorem md_Mill_reckon_133 : mz_d mb_Mill_reckon 133 (.ireturn) 1 134 := ⟨by decide +kernel, rfl⟩
theorem md_Mill_reckon_134 : mz_d mb_Mill_reckon 134 (.iload_n 1) 1 135 := ⟨by decide +kernel, rfl⟩
theorem md_Mill_reckon_135 : mz_d mb_Mill_reckon 135 (.iload_n 2) 1 136 := ⟨by decide +kernel, rfl⟩
theorem md_Mill_reckon_136 : mz_d mb_Mill_reckon 136 (.bipush 31) 2 138 := ⟨by decide +kernel, rfl⟩
theorem md_Mill_reckon_138 : mz_d mb_Mill_reckon 138 (.iand) 1 139 := ⟨by decide +kernel, rfl⟩
theorem md_Mill_reckon_139 : mz_d mb_Mill_reckon 139 (.iushr) 1 140 := ⟨by decide +kernel, rfl⟩
theorem md_Mill_reckon_140 : mz_d mb_Mill_reckon 140 (.ireturn) 1 141 := ⟨by decide +kernel, rfl⟩
theorem md_Mill_reckon_141 : mz_d mb_Mill_reckon 141 (.iload_n 1) 1 142 := ⟨by decide +kernel, rfl⟩
theorem md_Mill_reckon_142 : mz_d mb_Mill_reckon 142 (.iload_n 2) 1 143 := ⟨by decide +kernel, rfl⟩
theorem md_Mill_reckon_143 : mz_d mb_Mill_reckon 143 (.if_icmp .ne 7) 3 146 := ⟨by decide +kernel, rfl⟩
theorem md_Mill_reckon_146 : mz_d mb_Mill_reckon 146 (.iconst 1) 1 147 := ⟨by decide +kernel, rfl⟩
theorem md_Mill_reckon_147 : mz_d mb_Mill_reckon 147 (.goto 4) 3 150 := ⟨by decide +kernel, rfl⟩
theorem md_Mill_reckon_150 : mz_d mb_Mill_reckon 150 (.iconst 0) 1 151 := ⟨by decide +kernel, rfl⟩
theorem md_Mill_reckon_151 : mz_d mb_Mill_reckon 151 (.ireturn) 1 152 := ⟨by decide +kernel, rfl⟩
theorem md_Mill_reckon_152 : mz_d mb_Mill_reckon 152 (.iload_n 1) 1 153 := ⟨by decide +kernel, rfl⟩
theorem md_Mill_reckon_153 : mz_d mb_Mill_reckon 153 (.iload_n 2) 1 154 := ⟨by decide +kernel, rfl⟩
theorem md_Mill_reckon_154 : mz_d mb_Mill_reckon 154 (.if_icmp .ge 7) 3 157 := ⟨by decide +kernel, rfl⟩
theorem md_Mill_reckon_157 : mz_d mb_Mill_reckon 157 (.iconst 1) 1 158 := ⟨by decide +kernel, rfl⟩
theorem md_Mill_reckon_158 : mz_d mb_Mill_reckon 158 (.goto 4) 3 161 := ⟨by decide +kernel, rfl⟩
theorem md_Mill_reckon_161 : mz_d mb_Mill_reckon 161 (.iconst 0) 1 162 := ⟨by decide +kernel, rfl⟩
theorem md_Mill_reckon_162 : mz_d mb_Mill_reckon 162 (.ireturn) 1 163 := ⟨by decide +kernel, rfl⟩
theorem md_Mill_reckon_163 : mz_d mb_Mill_reckon 163 (.iload_n 1) 1 164 := ⟨by decide +kernel, rfl⟩
theorem md_Mill_reckon_164 : mz_d mb_Mill_reckon 164 (.ldc 215) 2 166 := ⟨by decide +kernel, rfl⟩
theorem md_Mill_reckon_166 : mz_d mb_Mill_reckon 166 (.iadd) 1 167 := ⟨by decide +kernel, rfl⟩
theorem md_Mill_reckon_167 : mz_d mb_Mill_reckon 167 (.iload_n 2) 1 168 := ⟨by decide +kernel, rfl⟩
theorem md_Mill_reckon_168 : mz_d mb_Mill_reckon 168 (.ldc 215) 2 170 := ⟨by decide +kernel, rfl⟩
theorem md_Mill_reckon_170 : mz_d mb_Mill_reckon 170 (.iadd) 1 171 := ⟨by decide +kernel, rfl⟩
theorem md_Mill_reckon_171 : mz_d mb_Mill_reckon 171 (.if_icmp .ge 7) 3 174 := ⟨by decide +kernel, rfl⟩
theorem md_Mill_reckon_174 : mz_d mb_Mill_reckon 174 (.iconst 1) 1 175 := ⟨by decide +kernel, rfl⟩
theorem md_Mill_reckon_175 : mz_d mb_Mill_reckon 175 (.goto 4) 3 178 := ⟨by decide +kernel, rfl⟩
theorem md_Mill_reckon_178 : mz_d mb_Mill_reckon 178 (.iconst 0) 1 179 := ⟨by decide +kernel, rfl⟩
theorem md_Mill_reckon_179 : mz_d mb_Mill_reckon 179 (.ireturn) 1 180 := ⟨by decide +kernel, rfl⟩
theorem md_Mill_reckon_180 : mz_d mb_Mill_reckon 180 (.iload_n 1) 1 181 := ⟨by decide +kernel, rfl⟩
theorem md_Mill_reckon_181 : mz_d mb_Mill_reckon 181 (.ireturn) 1 182 := ⟨by decide +kernel, rfl⟩
theorem md_Mill_phiName_0 : mz_d mb_Mill_phiName 0 (.iconst 1) 1 1 := ⟨by decide +kernel, rfl⟩
theorem md_Mill_phiName_1 : mz_d mb_Mill_phiName 1 (.iload_n 0) 1 2 := ⟨by decide +kernel, rfl⟩
theorem md_Mill_phiName_2 : mz_d mb_Mill_phiName 2 (.bipush 10) 2 4 := ⟨by decide +kernel, rfl⟩
theorem md_Mill_phiName_4 : mz_d mb_Mill_phiName 4 (.imul) 1 5 := ⟨by decide +kernel, rfl⟩
theorem md_Mill_phiName_5 : mz_d mb_Mill_phiName 5 (.iadd) 1 6 := ⟨by decide +kernel, rfl⟩
theorem md_Mill_phiName_6 : mz_d mb_Mill_phiName 6 (.iload_n 1) 1 7 := ⟨by decide +kernel, rfl⟩
theorem md_Mill_phiName_7 : mz_d mb_Mill_phiName 7 (.iadd) 1 8 := ⟨by decide +kernel, rfl⟩
theorem md_Mill_phiName_8 : mz_d mb_Mill_phiName 8 (.ireturn) 1 9 := ⟨by decide +kernel, rfl⟩
theorem md_Mill_madeName_0 : mz_d mb_Mill_madeName 0 (.bipush 101) 2 2 := ⟨by decide +kernel, rfl⟩
theorem md_Mill_madeName_2 : mz_d mb_Mill_madeName 2 (.iload_n 0) 1 3 := ⟨by decide +kernel, rfl⟩
theorem md_Mill_madeName_3 : mz_d mb_Mill_madeName 3 (.iadd) 1 4 := ⟨by decide +kernel, rfl⟩
theorem md_Mill_madeName_4 : mz_d mb_Mill_madeName 4 (.ireturn) 1 5 := ⟨by decide +kernel, rfl⟩
theorem md_Mill_roadOf_0 : mz_d mb_Mill_roadOf 0 (.bipush 10) 2 2 := ⟨by decide +kernel, rfl⟩
theorem md_Mill_roadOf_2 : mz_d mb_Mill_roadOf 2 (.iconst 2) 1 3 := ⟨by decide +kernel, rfl⟩
theorem md_Mill_roadOf_3 : mz_d mb_Mill_roadOf 3 (.iload_n 0) 1 4 := ⟨by decide +kernel, rfl⟩
theorem md_Mill_roadOf_4 : mz_d mb_Mill_roadOf 4 (.imul) 1 5 := ⟨by decide +kernel, rfl⟩
theorem md_Mill_roadOf_5 : mz_d mb_Mill_roadOf 5 (.iadd) 1 6 := ⟨by decide +kernel, rfl⟩
theorem md_Mill_roadOf_6 : mz_d mb_Mill_roadOf 6 (.iload_n 1) 1 7 := ⟨by decide +kernel, rfl⟩
theorem md_Mill_roadOf_7 : mz_d mb_Mill_roadOf 7 (.iadd) 1 8 := ⟨by decide +kernel, rfl⟩
theorem md_Mill_roadOf_8 : mz_d mb_Mill_roadOf 8 (.ireturn) 1 9 := ⟨by decide +kernel, rfl⟩
/-- ValueMill.isTemp(I)Z: what it does, as a transformer of what must hold behind it -/
def mw_Mill_isTemp (K : Int32 → mz_St → Prop) (a0 : Int32) (s0 : mz_St) : Prop :=
  ((a0 < 0 →
   K 0 s0) ∧
  (¬ a0 < 0 →
   ((10 ≤ a0 →
    K 0 s0) ∧
   (¬ 10 ≤ a0 →
    K 1 s0))))
set_option maxRecDepth 100000 in
set_option maxHeartbeats 4000000 in
theorem ms_Mill_isTemp (l : Launch) (E : mz_En) (hI : mz_Inj E) (K : Int32 → mz_St → Prop) (a0 : Int32) (s0 : mz_St) (h : mw_Mill_isTemp K a0 s0) : mz_Ci l E my_Mill_isTemp mb_Mill_isTemp 1 (some .boolean) (0) (0) [.int a0] s0 K := by
  refine mz_cti hI (by decide +kernel) (Nat.le_of_ble_eq_true rfl) (fun X C R => ?_)
  show mz_G E X 1 0 [(0, .int a0)] [] s0
  unfold mw_Mill_isTemp at h
  refine mr_iload_n C 0 md_Mill_isTemp_0 rfl rfl ?_
  refine mr_if_lt C md_Mill_isTemp_1 rfl (fun hc => ?_) (fun hc => ?_)
  · replace h := h.1 hc
    refine mr_iconst C md_Mill_isTemp_14 mk_iconst_0 ?_
    exact mr_zret C R mb_0 h md_Mill_isTemp_15
  replace h := h.2 hc
  refine mr_iload_n C 0 md_Mill_isTemp_4 rfl rfl ?_
  refine mr_bipush C md_Mill_isTemp_5 mk_bipush_10 ?_
  refine mr_icmp_ge C md_Mill_isTemp_7 rfl (fun hc => ?_) (fun hc => ?_)
  · replace h := h.1 hc
    refine mr_iconst C md_Mill_isTemp_14 mk_iconst_0 ?_
    exact mr_zret C R mb_0 h md_Mill_isTemp_15
  replace h := h.2 hc
  refine mr_iconst C md_Mill_isTemp_10 mk_iconst_1 ?_
  refine mr_goto C md_Mill_isTemp_11 rfl ?_
  exact mr_zret C R mb_1 h md_Mill_isTemp_15
/-- ValueMill.isWord(I)Z: what it does, as a transformer of what must hold behind it -/
def mw_Mill_isWord (K : Int32 → mz_St → Prop) (a0 : Int32) (s0 : mz_St) : Prop :=
  ((a0 < 0 →
   K 0 s0) ∧
  (¬ a0 < 0 →
   ((32 ≤ a0 →
    K 0 s0) ∧
   (¬ 32 ≤ a0 →
    K 1 s0))))
set_option maxRecDepth 100000 in
set_option maxHeartbeats 4000000 in
theorem ms_Mill_isWord (l : Launch) (E : mz_En) (hI : mz_Inj E) (K : Int32 → mz_St → Prop) (a0 : Int32) (s0 : mz_St) (h : mw_Mill_isWord K a0 s0) : mz_Ci l E my_Mill_isWord mb_Mill_isWord 1 (some .boolean) (0) (0) [.int a0] s0 K := by
  refine mz_cti hI (by decide +kernel) (Nat.le_of_ble_eq_true rfl) (fun X C R => ?_)
  show mz_G E X 1 0 [(0, .int a0)] [] s0
  unfold mw_Mill_isWord at h
  refine mr_iload_n C 0 md_Mill_isWord_0 rfl rfl ?_
  refine mr_if_lt C md_Mill_isWord_1 rfl (fun hc => ?_) (fun hc => ?_)
  · replace h := h.1 hc
    refine mr_iconst C md_Mill_isWord_14 mk_iconst_0 ?_
    exact mr_zret C R mb_0 h md_Mill_isWord_15
  replace h := h.2 hc
  refine mr_iload_n C 0 md_Mill_isWord_4 rfl rfl ?_
  refine mr_bipush C md_Mill_isWord_5 mk_bipush_32 ?_
  refine mr_icmp_ge C md_Mill_isWord_7 rfl (fun hc => ?_) (fun hc => ?_)
  · replace h := h.1 hc
    refine mr_iconst C md_Mill_isWord_14 mk_iconst_0 ?_
    exact mr_zret C R mb_0 h md_Mill_isWord_15
  replace h := h.2 hc
  refine mr_iconst C md_Mill_isWord_10 mk_iconst_1 ?_
  refine mr_goto C md_Mill_isWord_11 rfl ?_
  exact mr_zret C R mb_1 h md_Mill_isWord_15
def mw_Mill_isSuch_69 (K : Int32 → mz_St → Prop) (a1 : Int32) (a2 : Int32) (a3 : Int32) (s69 : mz_St) : Prop :=
  mw_Mill_isTemp (fun r1 u1 =>
   ((r1 = 0 →
    K 0 u1) ∧
   (¬ r1 = 0 →
    mw_Mill_isTemp (fun r2 u2 =>
     ((r2 = 0 →
      K 0 u2) ∧
     (¬ r2 = 0 →
      ((¬ a3 = 0 →
       K 0 u2) ∧
      (a3 = 0 →
       K 1 u2))))) a2 u1))) a1 s69
/-- ValueMill.isSuch(IIII)Z: what it does, as a transformer of what must hold behind it -/
def mw_Mill_isSuch (K : Int32 → mz_St → Prop) (a0 : Int32) (a1 : Int32) (a2 : Int32) (a3 : Int32) (s0 : mz_St) : Prop :=
  (∀ P69 : mz_St → Prop, (∀ (s69 : mz_St), mw_Mill_isSuch_69 K a1 a2 a3 s69 → P69 s69) →
  ((a0 = 0 →
   mw_Mill_isTemp (fun r3 u3 =>
    ((r3 = 0 →
     K 0 u3) ∧
    (¬ r3 = 0 →
     ((¬ a3 = 0 →
      K 0 u3) ∧
     (a3 = 0 →
      K 1 u3))))) a1 s0) ∧
  (¬ a0 = 0 →
  ((a0 = 1 →
   P69 s0) ∧
  (¬ a0 = 1 →
  ((a0 = 16 →
   P69 s0) ∧
  (¬ a0 = 16 →
  ((a0 = 17 →
   ((¬ a1 = 0 →
    K 0 s0) ∧
   (a1 = 0 →
    mw_Mill_isTemp (fun r4 u4 =>
     ((r4 = 0 →
      K 0 u4) ∧
     (¬ r4 = 0 →
      mw_Mill_isTemp (fun r5 u5 =>
       ((r5 = 0 →
        K 0 u5) ∧
       (¬ r5 = 0 →
        K 1 u5))) a3 u4))) a2 s0))) ∧
  (¬ a0 = 17 →
  ((a0 = 18 →
   mw_Mill_isTemp (fun r6 u6 =>
    ((r6 = 0 →
     K 0 u6) ∧
    (¬ r6 = 0 →
     mw_Mill_isTemp (fun r7 u7 =>
      ((r7 = 0 →
       K 0 u7) ∧
      (¬ r7 = 0 →
       ((a3 < 0 →
        K 0 u7) ∧
       (¬ a3 < 0 →
        ((10 ≤ a3 →
         K 0 u7) ∧
        (¬ 10 ≤ a3 →
         K 1 u7))))))) a2 u6))) a1 s0) ∧
  (¬ a0 = 18 →
  ((a0 ≤ 1 →
   K 0 s0) ∧
  (¬ a0 ≤ 1 →
   ((16 ≤ a0 →
    K 0 s0) ∧
   (¬ 16 ≤ a0 →
    mw_Mill_isTemp (fun r8 u8 =>
     ((r8 = 0 →
      K 0 u8) ∧
     (¬ r8 = 0 →
      mw_Mill_isTemp (fun r9 u9 =>
       ((r9 = 0 →
        K 0 u9) ∧
       (¬ r9 = 0 →
        mw_Mill_isTemp (fun r10 u10 =>
         ((r10 = 0 →
          K 0 u10) ∧
         (¬ r10 = 0 →
          K 1 u10))) a3 u9))) a2 u8))) a1 s0)))))))))))))))
set_option maxRecDepth 100000 in
set_option maxHeartbeats 4000000 in
theorem ms_Mill_isSuch (l : Launch) (E : mz_En) (hI : mz_Inj E) (K : Int32 → mz_St → Prop) (a0 : Int32) (a1 : Int32) (a2 : Int32) (a3 : Int32) (s0 : mz_St) (h : mw_Mill_isSuch K a0 a1 a2 a3 s0) : mz_Ci l E my_Mill_isSuch mb_Mill_isSuch 4 (some .boolean) (1) (20) [.int a0, .int a1, .int a2, .int a3] s0 K := by
  refine mz_cti hI (by decide +kernel) (Nat.le_of_ble_eq_true rfl) (fun X C R => ?_)
  show mz_G E X 4 0 [(0, .int a0), (1, .int a1), (2, .int a2), (3, .int a3)] [] s0
  unfold mw_Mill_isSuch at h
  refine mr_iload_n C 0 md_Mill_isSuch_0 rfl rfl ?_
  refine mj (h (fun (s69 : mz_St) => mz_G E X 4 69 [(1, .int a1), (2, .int a2), (3, .int a3)] [] s69) (fun s69 h => ?_)) (fun h => ?_)
  · unfold mw_Mill_isSuch_69 at h
    refine mr_iload_n C 0 md_Mill_isSuch_69 rfl rfl ?_
    refine mr_cSi C (As := [.int a1]) (rest := []) (ms_Mill_isTemp _ E hI _ a1 _ h) mo_Mill_isTemp mt_Mill_isTemp ml_482 rfl rfl (Nat.le_of_ble_eq_true rfl) (Nat.le_of_ble_eq_true rfl) (Nat.le_of_ble_eq_true rfl) md_Mill_isSuch_70 (fun r1 u1 h => ?_)
    refine mr_if_eq C md_Mill_isSuch_73 rfl (fun hc => ?_) (fun hc => ?_)
    · replace h := h.1 hc
      refine mr_iconst C md_Mill_isSuch_91 mk_iconst_0 ?_
      exact mr_zret C R mb_0 h md_Mill_isSuch_92
    replace h := h.2 hc
    refine mr_iload_n C 1 md_Mill_isSuch_76 rfl rfl ?_
    refine mr_cSi C (As := [.int a2]) (rest := []) (ms_Mill_isTemp _ E hI _ a2 _ h) mo_Mill_isTemp mt_Mill_isTemp ml_482 rfl rfl (Nat.le_of_ble_eq_true rfl) (Nat.le_of_ble_eq_true rfl) (Nat.le_of_ble_eq_true rfl) md_Mill_isSuch_77 (fun r2 u2 h => ?_)
    refine mr_if_eq C md_Mill_isSuch_80 rfl (fun hc => ?_) (fun hc => ?_)
    · replace h := h.1 hc
      refine mr_iconst C md_Mill_isSuch_91 mk_iconst_0 ?_
      exact mr_zret C R mb_0 h md_Mill_isSuch_92
    replace h := h.2 hc
    refine mr_iload_n C 2 md_Mill_isSuch_83 rfl rfl ?_
    refine mr_if_ne C md_Mill_isSuch_84 rfl (fun hc => ?_) (fun hc => ?_)
    · replace h := h.1 hc
      refine mr_iconst C md_Mill_isSuch_91 mk_iconst_0 ?_
      exact mr_zret C R mb_0 h md_Mill_isSuch_92
    replace h := h.2 hc
    refine mr_iconst C md_Mill_isSuch_87 mk_iconst_1 ?_
    refine mr_goto C md_Mill_isSuch_88 rfl ?_
    exact mr_zret C R mb_1 h md_Mill_isSuch_92
  by_cases hc0 : a0 = 0
  · replace h := h.1 hc0
    refine mr_look C (51) md_Mill_isSuch_1 (by decide) (by rw [hc0]; decide) rfl ?_
    refine mr_iload_n C 1 md_Mill_isSuch_52 rfl rfl ?_
    refine mr_cSi C (As := [.int a1]) (rest := []) (ms_Mill_isTemp _ E hI _ a1 _ h) mo_Mill_isTemp mt_Mill_isTemp ml_482 rfl rfl (Nat.le_of_ble_eq_true rfl) (Nat.le_of_ble_eq_true rfl) (Nat.le_of_ble_eq_true rfl) md_Mill_isSuch_53 (fun r3 u3 h => ?_)
    refine mr_if_eq C md_Mill_isSuch_56 rfl (fun hc => ?_) (fun hc => ?_)
    · replace h := h.1 hc
      refine mr_iconst C md_Mill_isSuch_67 mk_iconst_0 ?_
      exact mr_zret C R mb_0 h md_Mill_isSuch_68
    replace h := h.2 hc
    refine mr_iload_n C 3 md_Mill_isSuch_59 rfl rfl ?_
    refine mr_if_ne C md_Mill_isSuch_60 rfl (fun hc => ?_) (fun hc => ?_)
    · replace h := h.1 hc
      refine mr_iconst C md_Mill_isSuch_67 mk_iconst_0 ?_
      exact mr_zret C R mb_0 h md_Mill_isSuch_68
    replace h := h.2 hc
    refine mr_iconst C md_Mill_isSuch_63 mk_iconst_1 ?_
    refine mr_goto C md_Mill_isSuch_64 rfl ?_
    exact mr_zret C R mb_1 h md_Mill_isSuch_68
  replace h := h.2 hc0
  by_cases hc1 : a0 = 1
  · replace h := h.1 hc1
    refine mr_look C (68) md_Mill_isSuch_1 (by decide) (by rw [hc1]; decide) rfl ?_
    refine mr_sub [1, 2, 3] rfl ?_
    exact h
  replace h := h.2 hc1
  by_cases hc16 : a0 = 16
  · replace h := h.1 hc16
    refine mr_look C (68) md_Mill_isSuch_1 (by decide) (by rw [hc16]; decide) rfl ?_
    refine mr_sub [1, 2, 3] rfl ?_
    exact h
  replace h := h.2 hc16
  by_cases hc17 : a0 = 17
  · replace h := h.1 hc17
    refine mr_look C (92) md_Mill_isSuch_1 (by decide) (by rw [hc17]; decide) rfl ?_
    refine mr_iload_n C 1 md_Mill_isSuch_93 rfl rfl ?_
    refine mr_if_ne C md_Mill_isSuch_94 rfl (fun hc => ?_) (fun hc => ?_)
    · replace h := h.1 hc
      refine mr_iconst C md_Mill_isSuch_115 mk_iconst_0 ?_
      exact mr_zret C R mb_0 h md_Mill_isSuch_116
    replace h := h.2 hc
    refine mr_iload_n C 2 md_Mill_isSuch_97 rfl rfl ?_
    refine mr_cSi C (As := [.int a2]) (rest := []) (ms_Mill_isTemp _ E hI _ a2 _ h) mo_Mill_isTemp mt_Mill_isTemp ml_482 rfl rfl (Nat.le_of_ble_eq_true rfl) (Nat.le_of_ble_eq_true rfl) (Nat.le_of_ble_eq_true rfl) md_Mill_isSuch_98 (fun r4 u4 h => ?_)
    refine mr_if_eq C md_Mill_isSuch_101 rfl (fun hc => ?_) (fun hc => ?_)
    · replace h := h.1 hc
      refine mr_iconst C md_Mill_isSuch_115 mk_iconst_0 ?_
      exact mr_zret C R mb_0 h md_Mill_isSuch_116
    replace h := h.2 hc
    refine mr_iload_n C 3 md_Mill_isSuch_104 rfl rfl ?_
    refine mr_cSi C (As := [.int a3]) (rest := []) (ms_Mill_isTemp _ E hI _ a3 _ h) mo_Mill_isTemp mt_Mill_isTemp ml_482 rfl rfl (Nat.le_of_ble_eq_true rfl) (Nat.le_of_ble_eq_true rfl) (Nat.le_of_ble_eq_true rfl) md_Mill_isSuch_105 (fun r5 u5 h => ?_)
    refine mr_if_eq C md_Mill_isSuch_108 rfl (fun hc => ?_) (fun hc => ?_)
    · replace h := h.1 hc
      refine mr_iconst C md_Mill_isSuch_115 mk_iconst_0 ?_
      exact mr_zret C R mb_0 h md_Mill_isSuch_116
    replace h := h.2 hc
    refine mr_iconst C md_Mill_isSuch_111 mk_iconst_1 ?_
    refine mr_goto C md_Mill_isSuch_112 rfl ?_
    exact mr_zret C R mb_1 h md_Mill_isSuch_116
  replace h := h.2 hc17
  by_cases hc18 : a0 = 18
  · replace h := h.1 hc18
    refine mr_look C (116) md_Mill_isSuch_1 (by decide) (by rw [hc18]; decide) rfl ?_
    refine mr_iload_n C 1 md_Mill_isSuch_117 rfl rfl ?_
    refine mr_cSi C (As := [.int a1]) (rest := []) (ms_Mill_isTemp _ E hI _ a1 _ h) mo_Mill_isTemp mt_Mill_isTemp ml_482 rfl rfl (Nat.le_of_ble_eq_true rfl) (Nat.le_of_ble_eq_true rfl) (Nat.le_of_ble_eq_true rfl) md_Mill_isSuch_118 (fun r6 u6 h => ?_)
    refine mr_if_eq C md_Mill_isSuch_121 rfl (fun hc => ?_) (fun hc => ?_)
    · replace h := h.1 hc
      refine mr_iconst C md_Mill_isSuch_145 mk_iconst_0 ?_
      exact mr_zret C R mb_0 h md_Mill_isSuch_146
    replace h := h.2 hc
    refine mr_iload_n C 2 md_Mill_isSuch_124 rfl rfl ?_
    refine mr_cSi C (As := [.int a2]) (rest := []) (ms_Mill_isTemp _ E hI _ a2 _ h) mo_Mill_isTemp mt_Mill_isTemp ml_482 rfl rfl (Nat.le_of_ble_eq_true rfl) (Nat.le_of_ble_eq_true rfl) (Nat.le_of_ble_eq_true rfl) md_Mill_isSuch_125 (fun r7 u7 h => ?_)
    refine mr_if_eq C md_Mill_isSuch_128 rfl (fun hc => ?_) (fun hc => ?_)
    · replace h := h.1 hc
      refine mr_iconst C md_Mill_isSuch_145 mk_iconst_0 ?_
      exact mr_zret C R mb_0 h md_Mill_isSuch_146
    replace h := h.2 hc
    refine mr_iload_n C 3 md_Mill_isSuch_131 rfl rfl ?_
    refine mr_if_lt C md_Mill_isSuch_132 rfl (fun hc => ?_) (fun hc => ?_)
    · replace h := h.1 hc
      refine mr_iconst C md_Mill_isSuch_145 mk_iconst_0 ?_
      exact mr_zret C R mb_0 h md_Mill_isSuch_146
    replace h := h.2 hc
    refine mr_iload_n C 3 md_Mill_isSuch_135 rfl rfl ?_
    refine mr_bipush C md_Mill_isSuch_136 mk_bipush_10 ?_
    refine mr_icmp_ge C md_Mill_isSuch_138 rfl (fun hc => ?_) (fun hc => ?_)
    · replace h := h.1 hc
      refine mr_iconst C md_Mill_isSuch_145 mk_iconst_0 ?_
      exact mr_zret C R mb_0 h md_Mill_isSuch_146
    replace h := h.2 hc
    refine mr_iconst C md_Mill_isSuch_141 mk_iconst_1 ?_
    refine mr_goto C md_Mill_isSuch_142 rfl ?_
    exact mr_zret C R mb_1 h md_Mill_isSuch_146
  replace h := h.2 hc18
  refine mr_look C (146) md_Mill_isSuch_1 (by decide) (by
    rw [lv_osw hc0 (show (0 : Int32).toInt = 0 by decide), lv_osw hc1 (show (1 : Int32).toInt = 1 by decide), lv_osw hc16 (show (16 : Int32).toInt = 16 by decide), lv_osw hc17 (show (17 : Int32).toInt = 17 by decide), lv_osw hc18 (show (18 : Int32).toInt = 18 by decide)]
    rfl) rfl ?_
  refine mr_iload_n C 0 md_Mill_isSuch_147 rfl rfl ?_
  refine mr_iconst C md_Mill_isSuch_148 mk_iconst_1 ?_
  refine mr_icmp_le C md_Mill_isSuch_149 rfl (fun hc => ?_) (fun hc => ?_)
  · replace h := h.1 hc
    refine mr_iconst C md_Mill_isSuch_183 mk_iconst_0 ?_
    exact mr_zret C R mb_0 h md_Mill_isSuch_184
  replace h := h.2 hc
  refine mr_iload_n C 0 md_Mill_isSuch_152 rfl rfl ?_
  refine mr_bipush C md_Mill_isSuch_153 mk_bipush_16 ?_
  refine mr_icmp_ge C md_Mill_isSuch_155 rfl (fun hc => ?_) (fun hc => ?_)
  · replace h := h.1 hc
    refine mr_iconst C md_Mill_isSuch_183 mk_iconst_0 ?_
    exact mr_zret C R mb_0 h md_Mill_isSuch_184
  replace h := h.2 hc
  refine mr_iload_n C 1 md_Mill_isSuch_158 rfl rfl ?_
  refine mr_cSi C (As := [.int a1]) (rest := []) (ms_Mill_isTemp _ E hI _ a1 _ h) mo_Mill_isTemp mt_Mill_isTemp ml_482 rfl rfl (Nat.le_of_ble_eq_true rfl) (Nat.le_of_ble_eq_true rfl) (Nat.le_of_ble_eq_true rfl) md_Mill_isSuch_159 (fun r8 u8 h => ?_)
  refine mr_if_eq C md_Mill_isSuch_162 rfl (fun hc => ?_) (fun hc => ?_)
  · replace h := h.1 hc
    refine mr_iconst C md_Mill_isSuch_183 mk_iconst_0 ?_
    exact mr_zret C R mb_0 h md_Mill_isSuch_184
  replace h := h.2 hc
  refine mr_iload_n C 2 md_Mill_isSuch_165 rfl rfl ?_
  refine mr_cSi C (As := [.int a2]) (rest := []) (ms_Mill_isTemp _ E hI _ a2 _ h) mo_Mill_isTemp mt_Mill_isTemp ml_482 rfl rfl (Nat.le_of_ble_eq_true rfl) (Nat.le_of_ble_eq_true rfl) (Nat.le_of_ble_eq_true rfl) md_Mill_isSuch_166 (fun r9 u9 h => ?_)
  refine mr_if_eq C md_Mill_isSuch_169 rfl (fun hc => ?_) (fun hc => ?_)
  · replace h := h.1 hc
    refine mr_iconst C md_Mill_isSuch_183 mk_iconst_0 ?_
    exact mr_zret C R mb_0 h md_Mill_isSuch_184
  replace h := h.2 hc
  refine mr_iload_n C 3 md_Mill_isSuch_172 rfl rfl ?_
  refine mr_cSi C (As := [.int a3]) (rest := []) (ms_Mill_isTemp _ E hI _ a3 _ h) mo_Mill_isTemp mt_Mill_isTemp ml_482 rfl rfl (Nat.le_of_ble_eq_true rfl) (Nat.le_of_ble_eq_true rfl) (Nat.le_of_ble_eq_true rfl) md_Mill_isSuch_173 (fun r10 u10 h => ?_)
  refine mr_if_eq C md_Mill_isSuch_176 rfl (fun hc => ?_) (fun hc => ?_)
  · replace h := h.1 hc
    refine mr_iconst C md_Mill_isSuch_183 mk_iconst_0 ?_
    exact mr_zret C R mb_0 h md_Mill_isSuch_184
  replace h := h.2 hc
  refine mr_iconst C md_Mill_isSuch_179 mk_iconst_1 ?_
  refine mr_goto C md_Mill_isSuch_180 rfl ?_
  exact mr_zret C R mb_1 h md_Mill_isSuch_184
/-- ValueMill.isIn(II)Z: what it does, as a transformer of what must hold behind it -/
def mw_Mill_isIn (K : Int32 → mz_St → Prop) (a0 : Int32) (a1 : Int32) (s0 : mz_St) : Prop :=
  ((((a0 >>> (a1 &&& 31)) &&& 1) = 0 →
   K 0 s0) ∧
  (¬ ((a0 >>> (a1 &&& 31)) &&& 1) = 0 →
   K 1 s0))
set_option maxRecDepth 100000 in
set_option maxHeartbeats 4000000 in
theorem ms_Mill_isIn (l : Launch) (E : mz_En) (hI : mz_Inj E) (K : Int32 → mz_St → Prop) (a0 : Int32) (a1 : Int32) (s0 : mz_St) (h : mw_Mill_isIn K a0 a1 s0) : mz_Ci l E my_Mill_isIn mb_Mill_isIn 2 (some .boolean) (0) (0) [.int a0, .int a1] s0 K := by
  refine mz_cti hI (by decide +kernel) (Nat.le_of_ble_eq_true rfl) (fun X C R => ?_)
  show mz_G E X 2 0 [(0, .int a0), (1, .int a1)] [] s0
  unfold mw_Mill_isIn at h
  refine mr_iload_n C 0 md_Mill_isIn_0 rfl rfl ?_
  refine mr_iload_n C 1 md_Mill_isIn_1 rfl rfl ?_
  refine mr_ishr C md_Mill_isIn_2 ?_
  refine mr_iconst C md_Mill_isIn_3 mk_iconst_1 ?_
  refine mr_iand C md_Mill_isIn_4 ?_
  refine mr_if_eq C md_Mill_isIn_5 rfl (fun hc => ?_) (fun hc => ?_)
  · replace h := h.1 hc
    refine mr_iconst C md_Mill_isIn_12 mk_iconst_0 ?_
    exact mr_zret C R mb_0 h md_Mill_isIn_13
  replace h := h.2 hc
  refine mr_iconst C md_Mill_isIn_8 mk_iconst_1 ?_
  refine mr_goto C md_Mill_isIn_9 rfl ?_
  exact mr_zret C R mb_1 h md_Mill_isIn_13
def mw_Mill_failsToDivide_26 (K : Int32 → mz_St → Prop) (s26 : mz_St) : Prop :=
  K 1 s26
def mw_Mill_failsToDivide_11 (K : Int32 → mz_St → Prop) (a1 : Int32) (a2 : Int32) (s11 : mz_St) : Prop :=
  (∀ P26 : mz_St → Prop, (∀ (s26 : mz_St), mw_Mill_failsToDivide_26 K s26 → P26 s26) →
  ((a2 = 0 →
   P26 s11) ∧
  (¬ a2 = 0 →
   ((¬ a1 = (-2147483648) →
    K 0 s11) ∧
   (a1 = (-2147483648) →
    ((¬ a2 = (-1) →
     K 0 s11) ∧
    (a2 = (-1) →
     P26 s11)))))))
/-- ValueMill.failsToDivide(III)Z: what it does, as a transformer of what must hold behind it -/
def mw_Mill_failsToDivide (K : Int32 → mz_St → Prop) (a0 : Int32) (a1 : Int32) (a2 : Int32) (s0 : mz_St) : Prop :=
  (∀ P11 : mz_St → Prop, (∀ (s11 : mz_St), mw_Mill_failsToDivide_11 K a1 a2 s11 → P11 s11) →
  ((a0 = 5 →
   P11 s0) ∧
  (¬ a0 = 5 →
   ((¬ a0 = 6 →
    K 0 s0) ∧
   (a0 = 6 →
    P11 s0)))))
set_option maxRecDepth 100000 in
set_option maxHeartbeats 4000000 in
theorem ms_Mill_failsToDivide (l : Launch) (E : mz_En) (hI : mz_Inj E) (K : Int32 → mz_St → Prop) (a0 : Int32) (a1 : Int32) (a2 : Int32) (s0 : mz_St) (h : mw_Mill_failsToDivide K a0 a1 a2 s0) : mz_Ci l E my_Mill_failsToDivide mb_Mill_failsToDivide 3 (some .boolean) (0) (0) [.int a0, .int a1, .int a2] s0 K := by
  refine mz_cti hI (by decide +kernel) (Nat.le_of_ble_eq_true rfl) (fun X C R => ?_)
  show mz_G E X 3 0 [(0, .int a0), (1, .int a1), (2, .int a2)] [] s0
  unfold mw_Mill_failsToDivide at h
  refine mr_iload_n C 0 md_Mill_failsToDivide_0 rfl rfl ?_
  refine mr_iconst C md_Mill_failsToDivide_1 mk_iconst_5 ?_
  refine mj (h (fun (s11 : mz_St) => mz_G E X 3 11 [(1, .int a1), (2, .int a2)] [] s11) (fun s11 h => ?_)) (fun h => ?_)
  · unfold mw_Mill_failsToDivide_11 at h
    refine mr_iload_n C 1 md_Mill_failsToDivide_11 rfl rfl ?_
    refine mj (h (fun (s26 : mz_St) => mz_G E X 3 26 [] [] s26) (fun s26 h => ?_)) (fun h => ?_)
    · unfold mw_Mill_failsToDivide_26 at h
      refine mr_iconst C md_Mill_failsToDivide_26 mk_iconst_1 ?_
      refine mr_goto C md_Mill_failsToDivide_27 rfl ?_
      exact mr_zret C R mb_1 h md_Mill_failsToDivide_31
    refine mr_if_eq C md_Mill_failsToDivide_12 rfl (fun hc => ?_) (fun hc => ?_)
    · replace h := h.1 hc
      refine mr_sub [] rfl ?_
      exact h
    replace h := h.2 hc
    refine mr_iload_n C 0 md_Mill_failsToDivide_15 rfl rfl ?_
    refine mr_ldc C md_Mill_failsToDivide_16 ml_749 ?_
    refine mr_icmp_ne C md_Mill_failsToDivide_18 rfl (fun hc => ?_) (fun hc => ?_)
    · replace h := h.1 hc
      refine mr_iconst C md_Mill_failsToDivide_30 mk_iconst_0 ?_
      exact mr_zret C R mb_0 h md_Mill_failsToDivide_31
    replace h := h.2 hc
    refine mr_iload_n C 1 md_Mill_failsToDivide_21 rfl rfl ?_
    refine mr_iconst C md_Mill_failsToDivide_22 mk_iconst_m1 ?_
    refine mr_icmp_ne C md_Mill_failsToDivide_23 rfl (fun hc => ?_) (fun hc => ?_)
    · replace h := h.1 hc
      refine mr_iconst C md_Mill_failsToDivide_30 mk_iconst_0 ?_
      exact mr_zret C R mb_0 h md_Mill_failsToDivide_31
    replace h := h.2 hc
    refine mr_sub [] rfl ?_
    exact h
  refine mr_icmp_eq C md_Mill_failsToDivide_2 rfl (fun hc => ?_) (fun hc => ?_)
  · replace h := h.1 hc
    refine mr_sub [1, 2] rfl ?_
    exact h
  replace h := h.2 hc
  refine mr_iload_n C 0 md_Mill_failsToDivide_5 rfl rfl ?_
  refine mr_bipush C md_Mill_failsToDivide_6 mk_bipush_6 ?_
  refine mr_icmp_ne C md_Mill_failsToDivide_8 rfl (fun hc => ?_) (fun hc => ?_)
  · replace h := h.1 hc
    refine mr_iconst C md_Mill_failsToDivide_30 mk_iconst_0 ?_
    exact mr_zret C R mb_0 h md_Mill_failsToDivide_31
  replace h := h.2 hc
  refine mr_sub [1, 2] rfl ?_
  exact h
/-- ValueMill.reckon(III)I: what it does, as a transformer of what must hold behind it -/
def mw_Mill_reckon (K : Int32 → mz_St → Prop) (a0 : Int32) (a1 : Int32) (a2 : Int32) (s0 : mz_St) : Prop :=
  ((a0 = 2 →
   K (a1 + a2) s0) ∧
  (¬ a0 = 2 →
  ((a0 = 3 →
   K (a1 - a2) s0) ∧
  (¬ a0 = 3 →
  ((a0 = 4 →
   K (a1 * a2) s0) ∧
  (¬ a0 = 4 →
  ((a0 = 5 →
   ((¬ a2 = 0 →
    (¬ (a2 : Int32) = 0) ∧
    K (a1 / a2) s0) ∧
   (a2 = 0 →
    K 0 s0))) ∧
  (¬ a0 = 5 →
  ((a0 = 6 →
   ((¬ a2 = 0 →
    (¬ (a2 : Int32) = 0) ∧
    K (a1 - a1 / a2 * a2) s0) ∧
   (a2 = 0 →
    K 0 s0))) ∧
  (¬ a0 = 6 →
  ((a0 = 7 →
   K (a1 &&& a2) s0) ∧
  (¬ a0 = 7 →
  ((a0 = 8 →
   K (a1 ||| a2) s0) ∧
  (¬ a0 = 8 →
  ((a0 = 9 →
   K (a1 ^^^ a2) s0) ∧
  (¬ a0 = 9 →
  ((a0 = 10 →
   K (a1 <<< ((a2 &&& 31) &&& 31)) s0) ∧
  (¬ a0 = 10 →
  ((a0 = 11 →
   K (a1 >>> ((a2 &&& 31) &&& 31)) s0) ∧
  (¬ a0 = 11 →
  ((a0 = 12 →
   K ((a1.toUInt32 >>> ((a2 &&& 31).toUInt32 &&& Int32.toUInt32 31)).toInt32) s0) ∧
  (¬ a0 = 12 →
  ((a0 = 13 →
   ((¬ a1 = a2 →
    K 0 s0) ∧
   (a1 = a2 →
    K 1 s0))) ∧
  (¬ a0 = 13 →
  ((a0 = 14 →
   ((a2 ≤ a1 →
    K 0 s0) ∧
   (¬ a2 ≤ a1 →
    K 1 s0))) ∧
  (¬ a0 = 14 →
  ((a0 = 15 →
   (((a2 + (-2147483648)) ≤ (a1 + (-2147483648)) →
    K 0 s0) ∧
   (¬ (a2 + (-2147483648)) ≤ (a1 + (-2147483648)) →
    K 1 s0))) ∧
  (¬ a0 = 15 →
  K a1 s0))))))))))))))))))))))))))))
set_option maxRecDepth 100000 in
set_option maxHeartbeats 4000000 in
theorem ms_Mill_reckon (l : Launch) (E : mz_En) (hI : mz_Inj E) (K : Int32 → mz_St → Prop) (a0 : Int32) (a1 : Int32) (a2 : Int32) (s0 : mz_St) (h : mw_Mill_reckon K a0 a1 a2 s0) : mz_Ci l E my_Mill_reckon mb_Mill_reckon 3 (some .int) (0) (0) [.int a0, .int a1, .int a2] s0 K := by
  refine mz_cti hI (by decide +kernel) (Nat.le_of_ble_eq_true rfl) (fun X C R => ?_)
  show mz_G E X 3 0 [(0, .int a0), (1, .int a1), (2, .int a2)] [] s0
  unfold mw_Mill_reckon at h
  refine mr_iload_n C 0 md_Mill_reckon_0 rfl rfl ?_
  by_cases hc2 : a0 = 2
  · replace h := h.1 hc2
    refine mr_tabIn C 2 (71) hc2 md_Mill_reckon_1 (by decide) (by decide) (by decide) rfl ?_
    refine mr_iload_n C 1 md_Mill_reckon_72 rfl rfl ?_
    refine mr_iload_n C 2 md_Mill_reckon_73 rfl rfl ?_
    refine mr_iadd C md_Mill_reckon_74 ?_
    exact mr_iret C R h md_Mill_reckon_75
  replace h := h.2 hc2
  by_cases hc3 : a0 = 3
  · replace h := h.1 hc3
    refine mr_tabIn C 3 (75) hc3 md_Mill_reckon_1 (by decide) (by decide) (by decide) rfl ?_
    refine mr_iload_n C 1 md_Mill_reckon_76 rfl rfl ?_
    refine mr_iload_n C 2 md_Mill_reckon_77 rfl rfl ?_
    refine mr_isub C md_Mill_reckon_78 ?_
    exact mr_iret C R h md_Mill_reckon_79
  replace h := h.2 hc3
  by_cases hc4 : a0 = 4
  · replace h := h.1 hc4
    refine mr_tabIn C 4 (79) hc4 md_Mill_reckon_1 (by decide) (by decide) (by decide) rfl ?_
    refine mr_iload_n C 1 md_Mill_reckon_80 rfl rfl ?_
    refine mr_iload_n C 2 md_Mill_reckon_81 rfl rfl ?_
    refine mr_imul C md_Mill_reckon_82 ?_
    exact mr_iret C R h md_Mill_reckon_83
  replace h := h.2 hc4
  by_cases hc5 : a0 = 5
  · replace h := h.1 hc5
    refine mr_tabIn C 5 (83) hc5 md_Mill_reckon_1 (by decide) (by decide) (by decide) rfl ?_
    refine mr_iload_n C 2 md_Mill_reckon_84 rfl rfl ?_
    refine mr_if_ne C md_Mill_reckon_85 rfl (fun hc => ?_) (fun hc => ?_)
    · replace h := h.1 hc
      refine mr_iload_n C 1 md_Mill_reckon_92 rfl rfl ?_
      refine mr_iload_n C 2 md_Mill_reckon_93 rfl rfl ?_
      refine mr_idiv C md_Mill_reckon_94 h.1 ?_
      replace h := h.2
      exact mr_iret C R h md_Mill_reckon_95
    replace h := h.2 hc
    refine mr_iconst C md_Mill_reckon_88 mk_iconst_0 ?_
    refine mr_goto C md_Mill_reckon_89 rfl ?_
    exact mr_iret C R h md_Mill_reckon_95
  replace h := h.2 hc5
  by_cases hc6 : a0 = 6
  · replace h := h.1 hc6
    refine mr_tabIn C 6 (95) hc6 md_Mill_reckon_1 (by decide) (by decide) (by decide) rfl ?_
    refine mr_iload_n C 2 md_Mill_reckon_96 rfl rfl ?_
    refine mr_if_ne C md_Mill_reckon_97 rfl (fun hc => ?_) (fun hc => ?_)
    · replace h := h.1 hc
      refine mr_iload_n C 1 md_Mill_reckon_104 rfl rfl ?_
      refine mr_iload_n C 2 md_Mill_reckon_105 rfl rfl ?_
      refine mr_irem C md_Mill_reckon_106 h.1 ?_
      replace h := h.2
      exact mr_iret C R h md_Mill_reckon_107
    replace h := h.2 hc
    refine mr_iconst C md_Mill_reckon_100 mk_iconst_0 ?_
    refine mr_goto C md_Mill_reckon_101 rfl ?_
    exact mr_iret C R h md_Mill_reckon_107
  replace h := h.2 hc6
  by_cases hc7 : a0 = 7
  · replace h := h.1 hc7
    refine mr_tabIn C 7 (107) hc7 md_Mill_reckon_1 (by decide) (by decide) (by decide) rfl ?_
    refine mr_iload_n C 1 md_Mill_reckon_108 rfl rfl ?_
    refine mr_iload_n C 2 md_Mill_reckon_109 rfl rfl ?_
    refine mr_iand C md_Mill_reckon_110 ?_
    exact mr_iret C R h md_Mill_reckon_111
  replace h := h.2 hc7
  by_cases hc8 : a0 = 8
  · replace h := h.1 hc8
    refine mr_tabIn C 8 (111) hc8 md_Mill_reckon_1 (by decide) (by decide) (by decide) rfl ?_
    refine mr_iload_n C 1 md_Mill_reckon_112 rfl rfl ?_
    refine mr_iload_n C 2 md_Mill_reckon_113 rfl rfl ?_
    refine mr_ior C md_Mill_reckon_114 ?_
    exact mr_iret C R h md_Mill_reckon_115
  replace h := h.2 hc8
  by_cases hc9 : a0 = 9
  · replace h := h.1 hc9
    refine mr_tabIn C 9 (115) hc9 md_Mill_reckon_1 (by decide) (by decide) (by decide) rfl ?_
    refine mr_iload_n C 1 md_Mill_reckon_116 rfl rfl ?_
    refine mr_iload_n C 2 md_Mill_reckon_117 rfl rfl ?_
    refine mr_ixor C md_Mill_reckon_118 ?_
    exact mr_iret C R h md_Mill_reckon_119
  replace h := h.2 hc9
  by_cases hc10 : a0 = 10
  · replace h := h.1 hc10
    refine mr_tabIn C 10 (119) hc10 md_Mill_reckon_1 (by decide) (by decide) (by decide) rfl ?_
    refine mr_iload_n C 1 md_Mill_reckon_120 rfl rfl ?_
    refine mr_iload_n C 2 md_Mill_reckon_121 rfl rfl ?_
    refine mr_bipush C md_Mill_reckon_122 mk_bipush_31 ?_
    refine mr_iand C md_Mill_reckon_124 ?_
    refine mr_ishl C md_Mill_reckon_125 ?_
    exact mr_iret C R h md_Mill_reckon_126
  replace h := h.2 hc10
  by_cases hc11 : a0 = 11
  · replace h := h.1 hc11
    refine mr_tabIn C 11 (126) hc11 md_Mill_reckon_1 (by decide) (by decide) (by decide) rfl ?_
    refine mr_iload_n C 1 md_Mill_reckon_127 rfl rfl ?_
    refine mr_iload_n C 2 md_Mill_reckon_128 rfl rfl ?_
    refine mr_bipush C md_Mill_reckon_129 mk_bipush_31 ?_
    refine mr_iand C md_Mill_reckon_131 ?_
    refine mr_ishr C md_Mill_reckon_132 ?_
    exact mr_iret C R h md_Mill_reckon_133
  replace h := h.2 hc11
  by_cases hc12 : a0 = 12
  · replace h := h.1 hc12
    refine mr_tabIn C 12 (133) hc12 md_Mill_reckon_1 (by decide) (by decide) (by decide) rfl ?_
    refine mr_iload_n C 1 md_Mill_reckon_134 rfl rfl ?_
    refine mr_iload_n C 2 md_Mill_reckon_135 rfl rfl ?_
    refine mr_bipush C md_Mill_reckon_136 mk_bipush_31 ?_
    refine mr_iand C md_Mill_reckon_138 ?_
    refine mr_iushr C md_Mill_reckon_139 ?_
    exact mr_iret C R h md_Mill_reckon_140
  replace h := h.2 hc12
  by_cases hc13 : a0 = 13
  · replace h := h.1 hc13
    refine mr_tabIn C 13 (140) hc13 md_Mill_reckon_1 (by decide) (by decide) (by decide) rfl ?_
    refine mr_iload_n C 1 md_Mill_reckon_141 rfl rfl ?_
    refine mr_iload_n C 2 md_Mill_reckon_142 rfl rfl ?_
    refine mr_icmp_ne C md_Mill_reckon_143 rfl (fun hc => ?_) (fun hc => ?_)
    · replace h := h.1 hc
      refine mr_iconst C md_Mill_reckon_150 mk_iconst_0 ?_
      exact mr_iret C R h md_Mill_reckon_151
    replace h := h.2 hc
    refine mr_iconst C md_Mill_reckon_146 mk_iconst_1 ?_
    refine mr_goto C md_Mill_reckon_147 rfl ?_
    exact mr_iret C R h md_Mill_reckon_151
  replace h := h.2 hc13
  by_cases hc14 : a0 = 14
  · replace h := h.1 hc14
    refine mr_tabIn C 14 (151) hc14 md_Mill_reckon_1 (by decide) (by decide) (by decide) rfl ?_
    refine mr_iload_n C 1 md_Mill_reckon_152 rfl rfl ?_
    refine mr_iload_n C 2 md_Mill_reckon_153 rfl rfl ?_
    refine mr_icmp_ge C md_Mill_reckon_154 rfl (fun hc => ?_) (fun hc => ?_)
    · replace h := h.1 hc
      refine mr_iconst C md_Mill_reckon_161 mk_iconst_0 ?_
      exact mr_iret C R h md_Mill_reckon_162
    replace h := h.2 hc
    refine mr_iconst C md_Mill_reckon_157 mk_iconst_1 ?_
    refine mr_goto C md_Mill_reckon_158 rfl ?_
    exact mr_iret C R h md_Mill_reckon_162
  replace h := h.2 hc14
  by_cases hc15 : a0 = 15
  · replace h := h.1 hc15
    refine mr_tabIn C 15 (162) hc15 md_Mill_reckon_1 (by decide) (by decide) (by decide) rfl ?_
    refine mr_iload_n C 1 md_Mill_reckon_163 rfl rfl ?_
    refine mr_ldc C md_Mill_reckon_164 ml_749 ?_
    refine mr_iadd C md_Mill_reckon_166 ?_
    refine mr_iload_n C 2 md_Mill_reckon_167 rfl rfl ?_
    refine mr_ldc C md_Mill_reckon_168 ml_749 ?_
    refine mr_iadd C md_Mill_reckon_170 ?_
    refine mr_icmp_ge C md_Mill_reckon_171 rfl (fun hc => ?_) (fun hc => ?_)
    · replace h := h.1 hc
      refine mr_iconst C md_Mill_reckon_178 mk_iconst_0 ?_
      exact mr_iret C R h md_Mill_reckon_179
    replace h := h.2 hc
    refine mr_iconst C md_Mill_reckon_174 mk_iconst_1 ?_
    refine mr_goto C md_Mill_reckon_175 rfl ?_
    exact mr_iret C R h md_Mill_reckon_179
  replace h := h.2 hc15
  have hout : a0.toInt < 2 ∨ 15 < a0.toInt := by
    have hq2 := lv_neT hc2 (show (2 : Int32).toInt = 2 by decide)
    have hq3 := lv_neT hc3 (show (3 : Int32).toInt = 3 by decide)
    have hq4 := lv_neT hc4 (show (4 : Int32).toInt = 4 by decide)
    have hq5 := lv_neT hc5 (show (5 : Int32).toInt = 5 by decide)
    have hq6 := lv_neT hc6 (show (6 : Int32).toInt = 6 by decide)
    have hq7 := lv_neT hc7 (show (7 : Int32).toInt = 7 by decide)
    have hq8 := lv_neT hc8 (show (8 : Int32).toInt = 8 by decide)
    have hq9 := lv_neT hc9 (show (9 : Int32).toInt = 9 by decide)
    have hq10 := lv_neT hc10 (show (10 : Int32).toInt = 10 by decide)
    have hq11 := lv_neT hc11 (show (11 : Int32).toInt = 11 by decide)
    have hq12 := lv_neT hc12 (show (12 : Int32).toInt = 12 by decide)
    have hq13 := lv_neT hc13 (show (13 : Int32).toInt = 13 by decide)
    have hq14 := lv_neT hc14 (show (14 : Int32).toInt = 14 by decide)
    have hq15 := lv_neT hc15 (show (15 : Int32).toInt = 15 by decide)
    omega
  refine mr_tabOut C hout md_Mill_reckon_1 rfl ?_
  refine mr_iload_n C 1 md_Mill_reckon_180 rfl rfl ?_
  exact mr_iret C R h md_Mill_reckon_181
/-- ValueMill.phiName(II)I: what it does, as a transformer of what must hold behind it -/
def mw_Mill_phiName (K : Int32 → mz_St → Prop) (a0 : Int32) (a1 : Int32) (s0 : mz_St) : Prop :=
  K (((1 : Int32) + (a0 * 10)) + a1) s0
set_option maxRecDepth 100000 in
set_option maxHeartbeats 4000000 in
theorem ms_Mill_phiName (l : Launch) (E : mz_En) (hI : mz_Inj E) (K : Int32 → mz_St → Prop) (a0 : Int32) (a1 : Int32) (s0 : mz_St) (h : mw_Mill_phiName K a0 a1 s0) : mz_Ci l E my_Mill_phiName mb_Mill_phiName 2 (some .int) (0) (0) [.int a0, .int a1] s0 K := by
  refine mz_cti hI (by decide +kernel) (Nat.le_of_ble_eq_true rfl) (fun X C R => ?_)
  show mz_G E X 2 0 [(0, .int a0), (1, .int a1)] [] s0
  unfold mw_Mill_phiName at h
  refine mr_iconst C md_Mill_phiName_0 mk_iconst_1 ?_
  refine mr_iload_n C 0 md_Mill_phiName_1 rfl rfl ?_
  refine mr_bipush C md_Mill_phiName_2 mk_bipush_10 ?_
  refine mr_imul C md_Mill_phiName_4 ?_
  refine mr_iadd C md_Mill_phiName_5 ?_
  refine mr_iload_n C 1 md_Mill_phiName_6 rfl rfl ?_
  refine mr_iadd C md_Mill_phiName_7 ?_
  exact mr_iret C R h md_Mill_phiName_8
/-- ValueMill.madeName(I)I: what it does, as a transformer of what must hold behind it -/
def mw_Mill_madeName (K : Int32 → mz_St → Prop) (a0 : Int32) (s0 : mz_St) : Prop :=
  K ((101 : Int32) + a0) s0
set_option maxRecDepth 100000 in
set_option maxHeartbeats 4000000 in
theorem ms_Mill_madeName (l : Launch) (E : mz_En) (hI : mz_Inj E) (K : Int32 → mz_St → Prop) (a0 : Int32) (s0 : mz_St) (h : mw_Mill_madeName K a0 s0) : mz_Ci l E my_Mill_madeName mb_Mill_madeName 1 (some .int) (0) (0) [.int a0] s0 K := by
  refine mz_cti hI (by decide +kernel) (Nat.le_of_ble_eq_true rfl) (fun X C R => ?_)
  show mz_G E X 1 0 [(0, .int a0)] [] s0
  unfold mw_Mill_madeName at h
  refine mr_bipush C md_Mill_madeName_0 mk_bipush_101 ?_
  refine mr_iload_n C 0 md_Mill_madeName_2 rfl rfl ?_
  refine mr_iadd C md_Mill_madeName_3 ?_
  exact mr_iret C R h md_Mill_madeName_4
/-- ValueMill.roadOf(II)I: what it does, as a transformer of what must hold behind it -/
def mw_Mill_roadOf (K : Int32 → mz_St → Prop) (a0 : Int32) (a1 : Int32) (s0 : mz_St) : Prop :=
  K (((10 : Int32) + ((2 : Int32) * a0)) + a1) s0
set_option maxRecDepth 100000 in
set_option maxHeartbeats 4000000 in
theorem ms_Mill_roadOf (l : Launch) (E : mz_En) (hI : mz_Inj E) (K : Int32 → mz_St → Prop) (a0 : Int32) (a1 : Int32) (s0 : mz_St) (h : mw_Mill_roadOf K a0 a1 s0) : mz_Ci l E my_Mill_roadOf mb_Mill_roadOf 2 (some .int) (0) (0) [.int a0, .int a1] s0 K := by
  refine mz_cti hI (by decide +kernel) (Nat.le_of_ble_eq_true rfl) (fun X C R => ?_)
  show mz_G E X 2 0 [(0, .int a0), (1, .int a1)] [] s0
  unfold mw_Mill_roadOf at h
  refine mr_bipush C md_Mill_roadOf_0 mk_bipush_10 ?_
  refine mr_iconst C md_Mill_roadOf_2 mk_iconst_2 ?_
  refine mr_iload_n C 0 md_Mill_roadOf_3 rfl rfl ?_
  refine mr_imul C md_Mill_roadOf_4 ?_
  refine mr_iadd C md_Mill_roadOf_5 ?_
  refine mr_iload_n C 1 md_Mill_roadOf_6 rfl rfl ?_
  refine mr_iadd C md_Mill_roadOf_7 ?_
  exact mr_iret C R h md_Mill_roadOf_8

/-! BEGIN Writer: its instructions, what each method does (mw_), that its bytecode does it (ms_): printed -/
theorem md_Writer_plainForm_0 : mz_d mb_Writer_plainForm 0 (.aload_n 0) 1 1 := ⟨by decide +kernel, rfl⟩
theorem md_Writer_plainForm_1 : mz_d mb_Writer_plainForm 1 (.getfield 9) 3 4 := ⟨by decide +kernel, rfl⟩
theorem md_Writer_plainForm_4 : mz_d mb_Writer_plainForm 4 (.iload_n 1) 1 5 := ⟨by decide +kernel, rfl⟩
theorem md_Writer_plainForm_5 : mz_d mb_Writer_plainForm 5 (.invokevirtual 93) 3 8 := ⟨by decide +kernel, rfl⟩
theorem md_Writer_plainForm_8 : mz_d mb_Writer_plainForm 8 (.ifCond .eq 7) 3 11 := ⟨by decide +kernel, rfl⟩
theorem md_Writer_plainForm_11 : mz_d mb_Writer_plainForm 11 (.iconst 0) 1 12 := ⟨by decide +kernel, rfl⟩
theorem md_Writer_plainForm_12 : mz_d mb_Writer_plainForm 12 (.goto 4) 3 15 := ⟨by decide +kernel, rfl⟩
theorem md_Writer_plainForm_15 : mz_d mb_Writer_plainForm 15 (.iconst 1) 1 16 := ⟨by decide +kernel, rfl⟩
theorem md_Writer_plainForm_16 : mz_d mb_Writer_plainForm 16 (.aload_n 0) 1 17 := ⟨by decide +kernel, rfl⟩
theorem md_Writer_plainForm_17 : mz_d mb_Writer_plainForm 17 (.getfield 9) 3 20 := ⟨by decide +kernel, rfl⟩
theorem md_Writer_plainForm_20 : mz_d mb_Writer_plainForm 20 (.iload_n 1) 1 21 := ⟨by decide +kernel, rfl⟩
theorem md_Writer_plainForm_21 : mz_d mb_Writer_plainForm 21 (.invokevirtual 97) 3 24 := ⟨by decide +kernel, rfl⟩
theorem md_Writer_plainForm_24 : mz_d mb_Writer_plainForm 24 (.ifCond .eq 7) 3 27 := ⟨by decide +kernel, rfl⟩
theorem md_Writer_plainForm_27 : mz_d mb_Writer_plainForm 27 (.iconst 0) 1 28 := ⟨by decide +kernel, rfl⟩
theorem md_Writer_plainForm_28 : mz_d mb_Writer_plainForm 28 (.goto 4) 3 31 := ⟨by decide +kernel, rfl⟩
theorem md_Writer_plainForm_31 : mz_d mb_Writer_plainForm 31 (.iconst 2) 1 32 := ⟨by decide +kernel, rfl⟩
theorem md_Writer_plainForm_32 : mz_d mb_Writer_plainForm 32 (.ior) 1 33 := ⟨by decide +kernel, rfl⟩
theorem md_Writer_plainForm_33 : mz_d mb_Writer_plainForm 33 (.ireturn) 1 34 := ⟨by decide +kernel, rfl⟩
theorem md_Writer_writeAsItIs_0 : mz_d mb_Writer_writeAsItIs 0 (.aload_n 0) 1 1 := ⟨by decide +kernel, rfl⟩
theorem md_Writer_writeAsItIs_1 : mz_d mb_Writer_writeAsItIs 1 (.getfield 31) 3 4 := ⟨by decide +kernel, rfl⟩
theorem md_Writer_writeAsItIs_4 : mz_d mb_Writer_writeAsItIs 4 (.invokevirtual 44) 3 7 := ⟨by decide +kernel, rfl⟩
theorem md_Writer_writeAsItIs_7 : mz_d mb_Writer_writeAsItIs 7 (.iconst 0) 1 8 := ⟨by decide +kernel, rfl⟩
theorem md_Writer_writeAsItIs_8 : mz_d mb_Writer_writeAsItIs 8 (.istore_n 1) 1 9 := ⟨by decide +kernel, rfl⟩
theorem md_Writer_writeAsItIs_9 : mz_d mb_Writer_writeAsItIs 9 (.iload_n 1) 1 10 := ⟨by decide +kernel, rfl⟩
theorem md_Writer_writeAsItIs_10 : mz_d mb_Writer_writeAsItIs 10 (.aload_n 0) 1 11 := ⟨by decide +kernel, rfl⟩
theorem md_Writer_writeAsItIs_11 : mz_d mb_Writer_writeAsItIs 11 (.getfield 9) 3 14 := ⟨by decide +kernel, rfl⟩
theorem md_Writer_writeAsItIs_14 : mz_d mb_Writer_writeAsItIs 14 (.getfield 49) 3 17 := ⟨by decide +kernel, rfl⟩
theorem md_Writer_writeAsItIs_17 : mz_d mb_Writer_writeAsItIs 17 (.if_icmp .ge 120) 3 20 := ⟨by decide +kernel, rfl⟩
theorem md_Writer_writeAsItIs_20 : mz_d mb_Writer_writeAsItIs 20 (.aload_n 0) 1 21 := ⟨by decide +kernel, rfl⟩
theorem md_Writer_writeAsItIs_21 : mz_d mb_Writer_writeAsItIs 21 (.getfield 31) 3 24 := ⟨by decide +kernel, rfl⟩
theorem md_Writer_writeAsItIs_24 : mz_d mb_Writer_writeAsItIs 24 (.iload_n 1) 1 25 := ⟨by decide +kernel, rfl⟩
theorem md_Writer_writeAsItIs_25 : mz_d mb_Writer_writeAsItIs 25 (.invokevirtual 55) 3 28 := ⟨by decide +kernel, rfl⟩
theorem md_Writer_writeAsItIs_28 : mz_d mb_Writer_writeAsItIs 28 (.iload_n 1) 1 29 := ⟨by decide +kernel, rfl⟩
theorem md_Writer_writeAsItIs_29 : mz_d mb_Writer_writeAsItIs 29 (.bipush 12) 2 31 := ⟨by decide +kernel, rfl⟩
theorem md_Writer_writeAsItIs_31 : mz_d mb_Writer_writeAsItIs 31 (.imul) 1 32 := ⟨by decide +kernel, rfl⟩
theorem md_Writer_writeAsItIs_32 : mz_d mb_Writer_writeAsItIs 32 (.istore_n 2) 1 33 := ⟨by decide +kernel, rfl⟩
theorem md_Writer_writeAsItIs_33 : mz_d mb_Writer_writeAsItIs 33 (.iload_n 2) 1 34 := ⟨by decide +kernel, rfl⟩
theorem md_Writer_writeAsItIs_34 : mz_d mb_Writer_writeAsItIs 34 (.iload_n 1) 1 35 := ⟨by decide +kernel, rfl⟩
theorem md_Writer_writeAsItIs_35 : mz_d mb_Writer_writeAsItIs 35 (.bipush 12) 2 37 := ⟨by decide +kernel, rfl⟩
theorem md_Writer_writeAsItIs_37 : mz_d mb_Writer_writeAsItIs 37 (.imul) 1 38 := ⟨by decide +kernel, rfl⟩
theorem md_Writer_writeAsItIs_38 : mz_d mb_Writer_writeAsItIs 38 (.aload_n 0) 1 39 := ⟨by decide +kernel, rfl⟩
theorem md_Writer_writeAsItIs_39 : mz_d mb_Writer_writeAsItIs 39 (.getfield 9) 3 42 := ⟨by decide +kernel, rfl⟩
theorem md_Writer_writeAsItIs_42 : mz_d mb_Writer_writeAsItIs 42 (.getfield 59) 3 45 := ⟨by decide +kernel, rfl⟩
theorem md_Writer_writeAsItIs_45 : mz_d mb_Writer_writeAsItIs 45 (.iload_n 1) 1 46 := ⟨by decide +kernel, rfl⟩
theorem md_Writer_writeAsItIs_46 : mz_d mb_Writer_writeAsItIs 46 (.iaload) 1 47 := ⟨by decide +kernel, rfl⟩
theorem md_Writer_writeAsItIs_47 : mz_d mb_Writer_writeAsItIs 47 (.iadd) 1 48 := ⟨by decide +kernel, rfl⟩
theorem md_Writer_writeAsItIs_48 : mz_d mb_Writer_writeAsItIs 48 (.if_icmp .ge 57) 3 51 := ⟨by decide +kernel, rfl⟩
theorem md_Writer_writeAsItIs_51 : mz_d mb_Writer_writeAsItIs 51 (.aload_n 0) 1 52 := ⟨by decide +kernel, rfl⟩
theorem md_Writer_writeAsItIs_52 : mz_d mb_Writer_writeAsItIs 52 (.getfield 31) 3 55 := ⟨by decide +kernel, rfl⟩
theorem md_Writer_writeAsItIs_55 : mz_d mb_Writer_writeAsItIs 55 (.aload_n 0) 1 56 := ⟨by decide +kernel, rfl⟩
theorem md_Writer_writeAsItIs_56 : mz_d mb_Writer_writeAsItIs 56 (.getfield 9) 3 59 := ⟨by decide +kernel, rfl⟩
theorem md_Writer_writeAsItIs_59 : mz_d mb_Writer_writeAsItIs 59 (.getfield 63) 3 62 := ⟨by decide +kernel, rfl⟩
theorem md_Writer_writeAsItIs_62 : mz_d mb_Writer_writeAsItIs 62 (.iload_n 2) 1 63 := ⟨by decide +kernel, rfl⟩
theorem md_Writer_writeAsItIs_63 : mz_d mb_Writer_writeAsItIs 63 (.iaload) 1 64 := ⟨by decide +kernel, rfl⟩
theorem md_Writer_writeAsItIs_64 : mz_d mb_Writer_writeAsItIs 64 (.aload_n 0) 1 65 := ⟨by decide +kernel, rfl⟩
theorem md_Writer_writeAsItIs_65 : mz_d mb_Writer_writeAsItIs 65 (.getfield 9) 3 68 := ⟨by decide +kernel, rfl⟩
theorem md_Writer_writeAsItIs_68 : mz_d mb_Writer_writeAsItIs 68 (.getfield 66) 3 71 := ⟨by decide +kernel, rfl⟩
theorem md_Writer_writeAsItIs_71 : mz_d mb_Writer_writeAsItIs 71 (.iload_n 2) 1 72 := ⟨by decide +kernel, rfl⟩
theorem md_Writer_writeAsItIs_72 : mz_d mb_Writer_writeAsItIs 72 (.iaload) 1 73 := ⟨by decide +kernel, rfl⟩
theorem md_Writer_writeAsItIs_73 : mz_d mb_Writer_writeAsItIs 73 (.aload_n 0) 1 74 := ⟨by decide +kernel, rfl⟩
theorem md_Writer_writeAsItIs_74 : mz_d mb_Writer_writeAsItIs 74 (.getfield 9) 3 77 := ⟨by decide +kernel, rfl⟩
theorem md_Writer_writeAsItIs_77 : mz_d mb_Writer_writeAsItIs 77 (.getfield 69) 3 80 := ⟨by decide +kernel, rfl⟩
theorem md_Writer_writeAsItIs_80 : mz_d mb_Writer_writeAsItIs 80 (.iload_n 2) 1 81 := ⟨by decide +kernel, rfl⟩
theorem md_Writer_writeAsItIs_81 : mz_d mb_Writer_writeAsItIs 81 (.iaload) 1 82 := ⟨by decide +kernel, rfl⟩
theorem md_Writer_writeAsItIs_82 : mz_d mb_Writer_writeAsItIs 82 (.aload_n 0) 1 83 := ⟨by decide +kernel, rfl⟩
theorem md_Writer_writeAsItIs_83 : mz_d mb_Writer_writeAsItIs 83 (.getfield 9) 3 86 := ⟨by decide +kernel, rfl⟩
theorem md_Writer_writeAsItIs_86 : mz_d mb_Writer_writeAsItIs 86 (.getfield 72) 3 89 := ⟨by decide +kernel, rfl⟩
theorem md_Writer_writeAsItIs_89 : mz_d mb_Writer_writeAsItIs 89 (.iload_n 2) 1 90 := ⟨by decide +kernel, rfl⟩
theorem md_Writer_writeAsItIs_90 : mz_d mb_Writer_writeAsItIs 90 (.iaload) 1 91 := ⟨by decide +kernel, rfl⟩
theorem md_Writer_writeAsItIs_91 : mz_d mb_Writer_writeAsItIs 91 (.aload_n 0) 1 92 := ⟨by decide +kernel, rfl⟩
theorem md_Writer_writeAsItIs_92 : mz_d mb_Writer_writeAsItIs 92 (.iload_n 2) 1 93 := ⟨by decide +kernel, rfl⟩
theorem md_Writer_writeAsItIs_93 : mz_d mb_Writer_writeAsItIs 93 (.invokevirtual 75) 3 96 := ⟨by decide +kernel, rfl⟩
theorem md_Writer_writeAsItIs_96 : mz_d mb_Writer_writeAsItIs 96 (.invokevirtual 79) 3 99 := ⟨by decide +kernel, rfl⟩
theorem md_Writer_writeAsItIs_99 : mz_d mb_Writer_writeAsItIs 99 (.iinc 2 1) 3 102 := ⟨by decide +kernel, rfl⟩
theorem md_Writer_writeAsItIs_102 : mz_d mb_Writer_writeAsItIs 102 (.goto (-69)) 3 105 := ⟨by decide +kernel, rfl⟩
theorem md_Writer_writeAsItIs_105 : mz_d mb_Writer_writeAsItIs 105 (.aload_n 0) 1 106 := ⟨by decide +kernel, rfl⟩
theorem md_Writer_writeAsItIs_106 : mz_d mb_Writer_writeAsItIs 106 (.getfield 31) 3 109 := ⟨by decide +kernel, rfl⟩
theorem md_Writer_writeAsItIs_109 : mz_d mb_Writer_writeAsItIs 109 (.iload_n 1) 1 110 := ⟨by decide +kernel, rfl⟩
theorem md_Writer_writeAsItIs_110 : mz_d mb_Writer_writeAsItIs 110 (.invokevirtual 83) 3 113 := ⟨by decide +kernel, rfl⟩
theorem md_Writer_writeAsItIs_113 : mz_d mb_Writer_writeAsItIs 113 (.aload_n 0) 1 114 := ⟨by decide +kernel, rfl⟩
theorem md_Writer_writeAsItIs_114 : mz_d mb_Writer_writeAsItIs 114 (.getfield 31) 3 117 := ⟨by decide +kernel, rfl⟩
theorem md_Writer_writeAsItIs_117 : mz_d mb_Writer_writeAsItIs 117 (.iload_n 1) 1 118 := ⟨by decide +kernel, rfl⟩
theorem md_Writer_writeAsItIs_118 : mz_d mb_Writer_writeAsItIs 118 (.aload_n 0) 1 119 := ⟨by decide +kernel, rfl⟩
theorem md_Writer_writeAsItIs_119 : mz_d mb_Writer_writeAsItIs 119 (.getfield 9) 3 122 := ⟨by decide +kernel, rfl⟩
theorem md_Writer_writeAsItIs_122 : mz_d mb_Writer_writeAsItIs 122 (.getfield 86) 3 125 := ⟨by decide +kernel, rfl⟩
theorem md_Writer_writeAsItIs_125 : mz_d mb_Writer_writeAsItIs 125 (.iload_n 1) 1 126 := ⟨by decide +kernel, rfl⟩
theorem md_Writer_writeAsItIs_126 : mz_d mb_Writer_writeAsItIs 126 (.iaload) 1 127 := ⟨by decide +kernel, rfl⟩
theorem md_Writer_writeAsItIs_127 : mz_d mb_Writer_writeAsItIs 127 (.iconst 0) 1 128 := ⟨by decide +kernel, rfl⟩
theorem md_Writer_writeAsItIs_128 : mz_d mb_Writer_writeAsItIs 128 (.invokevirtual 89) 3 131 := ⟨by decide +kernel, rfl⟩
theorem md_Writer_writeAsItIs_131 : mz_d mb_Writer_writeAsItIs 131 (.iinc 1 1) 3 134 := ⟨by decide +kernel, rfl⟩
theorem md_Writer_writeAsItIs_134 : mz_d mb_Writer_writeAsItIs 134 (.goto (-125)) 3 137 := ⟨by decide +kernel, rfl⟩
theorem md_Writer_writeAsItIs_137 : mz_d mb_Writer_writeAsItIs 137 (.return_) 1 138 := ⟨by decide +kernel, rfl⟩
theorem md_Writer_bring_0 : mz_d mb_Writer_bring 0 (.aload_n 0) 1 1 := ⟨by decide +kernel, rfl⟩
theorem md_Writer_bring_1 : mz_d mb_Writer_bring 1 (.getfield 23) 3 4 := ⟨by decide +kernel, rfl⟩
theorem md_Writer_bring_4 : mz_d mb_Writer_bring 4 (.getfield 160) 3 7 := ⟨by decide +kernel, rfl⟩
theorem md_Writer_bring_7 : mz_d mb_Writer_bring 7 (.iload_n 1) 1 8 := ⟨by decide +kernel, rfl⟩
theorem md_Writer_bring_8 : mz_d mb_Writer_bring 8 (.iaload) 1 9 := ⟨by decide +kernel, rfl⟩
theorem md_Writer_bring_9 : mz_d mb_Writer_bring 9 (.istore_n 3) 1 10 := ⟨by decide +kernel, rfl⟩
theorem md_Writer_bring_10 : mz_d mb_Writer_bring 10 (.aload_n 0) 1 11 := ⟨by decide +kernel, rfl⟩
theorem md_Writer_bring_11 : mz_d mb_Writer_bring 11 (.getfield 23) 3 14 := ⟨by decide +kernel, rfl⟩
theorem md_Writer_bring_14 : mz_d mb_Writer_bring 14 (.iload_n 1) 1 15 := ⟨by decide +kernel, rfl⟩
theorem md_Writer_bring_15 : mz_d mb_Writer_bring 15 (.invokevirtual 132) 3 18 := ⟨by decide +kernel, rfl⟩
theorem md_Writer_bring_18 : mz_d mb_Writer_bring 18 (.ifCond .eq 5) 3 21 := ⟨by decide +kernel, rfl⟩
theorem md_Writer_bring_21 : mz_d mb_Writer_bring 21 (.iload_n 3) 1 22 := ⟨by decide +kernel, rfl⟩
theorem md_Writer_bring_22 : mz_d mb_Writer_bring 22 (.ireturn) 1 23 := ⟨by decide +kernel, rfl⟩
theorem md_Writer_bring_23 : mz_d mb_Writer_bring 23 (.aload_n 0) 1 24 := ⟨by decide +kernel, rfl⟩
theorem md_Writer_bring_24 : mz_d mb_Writer_bring 24 (.getfield 27) 3 27 := ⟨by decide +kernel, rfl⟩
theorem md_Writer_bring_27 : mz_d mb_Writer_bring 27 (.getfield 148) 3 30 := ⟨by decide +kernel, rfl⟩
theorem md_Writer_bring_30 : mz_d mb_Writer_bring 30 (.iload_n 3) 1 31 := ⟨by decide +kernel, rfl⟩
theorem md_Writer_bring_31 : mz_d mb_Writer_bring 31 (.iaload) 1 32 := ⟨by decide +kernel, rfl⟩
theorem md_Writer_bring_32 : mz_d mb_Writer_bring 32 (.istore 4) 2 34 := ⟨by decide +kernel, rfl⟩
theorem md_Writer_bring_34 : mz_d mb_Writer_bring 34 (.aload_n 0) 1 35 := ⟨by decide +kernel, rfl⟩
theorem md_Writer_bring_35 : mz_d mb_Writer_bring 35 (.getfield 27) 3 38 := ⟨by decide +kernel, rfl⟩
theorem md_Writer_bring_38 : mz_d mb_Writer_bring 38 (.iload 4) 2 40 := ⟨by decide +kernel, rfl⟩
theorem md_Writer_bring_40 : mz_d mb_Writer_bring 40 (.invokevirtual 154) 3 43 := ⟨by decide +kernel, rfl⟩
theorem md_Writer_bring_43 : mz_d mb_Writer_bring 43 (.ifCond .ne 6) 3 46 := ⟨by decide +kernel, rfl⟩
theorem md_Writer_bring_46 : mz_d mb_Writer_bring 46 (.iload 4) 2 48 := ⟨by decide +kernel, rfl⟩
theorem md_Writer_bring_48 : mz_d mb_Writer_bring 48 (.ireturn) 1 49 := ⟨by decide +kernel, rfl⟩
theorem md_Writer_bring_49 : mz_d mb_Writer_bring 49 (.aload_n 0) 1 50 := ⟨by decide +kernel, rfl⟩
theorem md_Writer_bring_50 : mz_d mb_Writer_bring 50 (.getfield 31) 3 53 := ⟨by decide +kernel, rfl⟩
theorem md_Writer_bring_53 : mz_d mb_Writer_bring 53 (.iload_n 2) 1 54 := ⟨by decide +kernel, rfl⟩
theorem md_Writer_bring_54 : mz_d mb_Writer_bring 54 (.iload 4) 2 56 := ⟨by decide +kernel, rfl⟩
theorem md_Writer_bring_56 : mz_d mb_Writer_bring 56 (.iconst 0) 1 57 := ⟨by decide +kernel, rfl⟩
theorem md_Writer_bring_57 : mz_d mb_Writer_bring 57 (.invokevirtual 157) 3 60 := ⟨by decide +kernel, rfl⟩
theorem md_Writer_bring_60 : mz_d mb_Writer_bring 60 (.iload_n 2) 1 61 := ⟨by decide +kernel, rfl⟩
theorem md_Writer_bring_61 : mz_d mb_Writer_bring 61 (.ireturn) 1 62 := ⟨by decide +kernel, rfl⟩
theorem md_Writer_writeOperation_0 : mz_d mb_Writer_writeOperation 0 (.aload_n 0) 1 1 := ⟨by decide +kernel, rfl⟩
theorem md_Writer_writeOperation_1 : mz_d mb_Writer_writeOperation 1 (.getfield 9) 3 4 := ⟨by decide +kernel, rfl⟩
theorem md_Writer_writeOperation_4 : mz_d mb_Writer_writeOperation 4 (.getfield 63) 3 7 := ⟨by decide +kernel, rfl⟩
theorem md_Writer_writeOperation_7 : mz_d mb_Writer_writeOperation 7 (.iload_n 1) 1 8 := ⟨by decide +kernel, rfl⟩
theorem md_Writer_writeOperation_8 : mz_d mb_Writer_writeOperation 8 (.iaload) 1 9 := ⟨by decide +kernel, rfl⟩
theorem md_Writer_writeOperation_9 : mz_d mb_Writer_writeOperation 9 (.istore_n 2) 1 10 := ⟨by decide +kernel, rfl⟩
theorem md_Writer_writeOperation_10 : mz_d mb_Writer_writeOperation 10 (.aload_n 0) 1 11 := ⟨by decide +kernel, rfl⟩
theorem md_Writer_writeOperation_11 : mz_d mb_Writer_writeOperation 11 (.iload_n 1) 1 12 := ⟨by decide +kernel, rfl⟩
theorem md_Writer_writeOperation_12 : mz_d mb_Writer_writeOperation 12 (.invokevirtual 75) 3 15 := ⟨by decide +kernel, rfl⟩
theorem md_Writer_writeOperation_15 : mz_d mb_Writer_writeOperation 15 (.istore_n 3) 1 16 := ⟨by decide +kernel, rfl⟩
theorem md_Writer_writeOperation_16 : mz_d mb_Writer_writeOperation 16 (.aload_n 0) 1 17 := ⟨by decide +kernel, rfl⟩
theorem md_Writer_writeOperation_17 : mz_d mb_Writer_writeOperation 17 (.getfield 9) 3 20 := ⟨by decide +kernel, rfl⟩
theorem md_Writer_writeOperation_20 : mz_d mb_Writer_writeOperation 20 (.getfield 69) 3 23 := ⟨by decide +kernel, rfl⟩
theorem md_Writer_writeOperation_23 : mz_d mb_Writer_writeOperation 23 (.iload_n 1) 1 24 := ⟨by decide +kernel, rfl⟩
theorem md_Writer_writeOperation_24 : mz_d mb_Writer_writeOperation 24 (.iaload) 1 25 := ⟨by decide +kernel, rfl⟩
theorem md_Writer_writeOperation_25 : mz_d mb_Writer_writeOperation 25 (.istore 4) 2 27 := ⟨by decide +kernel, rfl⟩
theorem md_Writer_writeOperation_27 : mz_d mb_Writer_writeOperation 27 (.aload_n 0) 1 28 := ⟨by decide +kernel, rfl⟩
theorem md_Writer_writeOperation_28 : mz_d mb_Writer_writeOperation 28 (.getfield 9) 3 31 := ⟨by decide +kernel, rfl⟩
theorem md_Writer_writeOperation_31 : mz_d mb_Writer_writeOperation 31 (.getfield 72) 3 34 := ⟨by decide +kernel, rfl⟩
theorem md_Writer_writeOperation_34 : mz_d mb_Writer_writeOperation 34 (.iload_n 1) 1 35 := ⟨by decide +kernel, rfl⟩
theorem md_Writer_writeOperation_35 : mz_d mb_Writer_writeOperation 35 (.iaload) 1 36 := ⟨by decide +kernel, rfl⟩
theorem md_Writer_writeOperation_36 : mz_d mb_Writer_writeOperation 36 (.istore 5) 2 38 := ⟨by decide +kernel, rfl⟩
theorem md_Writer_writeOperation_38 : mz_d mb_Writer_writeOperation 38 (.aload_n 0) 1 39 := ⟨by decide +kernel, rfl⟩
theorem md_Writer_writeOperation_39 : mz_d mb_Writer_writeOperation 39 (.getfield 9) 3 42 := ⟨by decide +kernel, rfl⟩
theorem md_Writer_writeOperation_42 : mz_d mb_Writer_writeOperation 42 (.iload_n 1) 1 43 := ⟨by decide +kernel, rfl⟩
theorem md_Writer_writeOperation_43 : mz_d mb_Writer_writeOperation 43 (.invokevirtual 93) 3 46 := ⟨by decide +kernel, rfl⟩
theorem md_Writer_writeOperation_46 : mz_d mb_Writer_writeOperation 46 (.ifCond .eq 52) 3 49 := ⟨by decide +kernel, rfl⟩
theorem md_Writer_writeOperation_49 : mz_d mb_Writer_writeOperation 49 (.iload_n 3) 1 50 := ⟨by decide +kernel, rfl⟩
theorem md_Writer_writeOperation_50 : mz_d mb_Writer_writeOperation 50 (.aload_n 0) 1 51 := ⟨by decide +kernel, rfl⟩
theorem md_Writer_writeOperation_51 : mz_d mb_Writer_writeOperation 51 (.getfield 23) 3 54 := ⟨by decide +kernel, rfl⟩
theorem md_Writer_writeOperation_54 : mz_d mb_Writer_writeOperation 54 (.aload_n 0) 1 55 := ⟨by decide +kernel, rfl⟩
theorem md_Writer_writeOperation_55 : mz_d mb_Writer_writeOperation 55 (.getfield 19) 3 58 := ⟨by decide +kernel, rfl⟩
theorem md_Writer_writeOperation_58 : mz_d mb_Writer_writeOperation 58 (.getfield 129) 3 61 := ⟨by decide +kernel, rfl⟩
theorem md_Writer_writeOperation_61 : mz_d mb_Writer_writeOperation 61 (.iload_n 1) 1 62 := ⟨by decide +kernel, rfl⟩
theorem md_Writer_writeOperation_62 : mz_d mb_Writer_writeOperation 62 (.iaload) 1 63 := ⟨by decide +kernel, rfl⟩
theorem md_Writer_writeOperation_63 : mz_d mb_Writer_writeOperation 63 (.invokevirtual 132) 3 66 := ⟨by decide +kernel, rfl⟩
theorem md_Writer_writeOperation_66 : mz_d mb_Writer_writeOperation 66 (.ifCond .eq 7) 3 69 := ⟨by decide +kernel, rfl⟩
theorem md_Writer_writeOperation_69 : mz_d mb_Writer_writeOperation 69 (.iconst 1) 1 70 := ⟨by decide +kernel, rfl⟩
theorem md_Writer_writeOperation_70 : mz_d mb_Writer_writeOperation 70 (.goto 4) 3 73 := ⟨by decide +kernel, rfl⟩
theorem md_Writer_writeOperation_73 : mz_d mb_Writer_writeOperation 73 (.iconst 0) 1 74 := ⟨by decide +kernel, rfl⟩
theorem md_Writer_writeOperation_74 : mz_d mb_Writer_writeOperation 74 (.ior) 1 75 := ⟨by decide +kernel, rfl⟩
theorem md_Writer_writeOperation_75 : mz_d mb_Writer_writeOperation 75 (.istore_n 3) 1 76 := ⟨by decide +kernel, rfl⟩
theorem md_Writer_writeOperation_76 : mz_d mb_Writer_writeOperation 76 (.aload_n 0) 1 77 := ⟨by decide +kernel, rfl⟩
theorem md_Writer_writeOperation_77 : mz_d mb_Writer_writeOperation 77 (.aload_n 0) 1 78 := ⟨by decide +kernel, rfl⟩
theorem md_Writer_writeOperation_78 : mz_d mb_Writer_writeOperation 78 (.getfield 19) 3 81 := ⟨by decide +kernel, rfl⟩
theorem md_Writer_writeOperation_81 : mz_d mb_Writer_writeOperation 81 (.getfield 129) 3 84 := ⟨by decide +kernel, rfl⟩
theorem md_Writer_writeOperation_84 : mz_d mb_Writer_writeOperation 84 (.iload_n 1) 1 85 := ⟨by decide +kernel, rfl⟩
theorem md_Writer_writeOperation_85 : mz_d mb_Writer_writeOperation 85 (.iaload) 1 86 := ⟨by decide +kernel, rfl⟩
theorem md_Writer_writeOperation_86 : mz_d mb_Writer_writeOperation 86 (.aload_n 0) 1 87 := ⟨by decide +kernel, rfl⟩
theorem md_Writer_writeOperation_87 : mz_d mb_Writer_writeOperation 87 (.getfield 27) 3 90 := ⟨by decide +kernel, rfl⟩
theorem md_Writer_writeOperation_90 : mz_d mb_Writer_writeOperation 90 (.getfield 135) 3 93 := ⟨by decide +kernel, rfl⟩
theorem md_Writer_writeOperation_93 : mz_d mb_Writer_writeOperation 93 (.invokevirtual 140) 3 96 := ⟨by decide +kernel, rfl⟩
theorem md_Writer_writeOperation_96 : mz_d mb_Writer_writeOperation 96 (.istore 4) 2 98 := ⟨by decide +kernel, rfl⟩
theorem md_Writer_writeOperation_98 : mz_d mb_Writer_writeOperation 98 (.aload_n 0) 1 99 := ⟨by decide +kernel, rfl⟩
theorem md_Writer_writeOperation_99 : mz_d mb_Writer_writeOperation 99 (.getfield 9) 3 102 := ⟨by decide +kernel, rfl⟩
theorem md_Writer_writeOperation_102 : mz_d mb_Writer_writeOperation 102 (.iload_n 1) 1 103 := ⟨by decide +kernel, rfl⟩
theorem md_Writer_writeOperation_103 : mz_d mb_Writer_writeOperation 103 (.invokevirtual 97) 3 106 := ⟨by decide +kernel, rfl⟩
theorem md_Writer_writeOperation_106 : mz_d mb_Writer_writeOperation 106 (.ifCond .eq 54) 3 109 := ⟨by decide +kernel, rfl⟩
theorem md_Writer_writeOperation_109 : mz_d mb_Writer_writeOperation 109 (.iload_n 3) 1 110 := ⟨by decide +kernel, rfl⟩
theorem md_Writer_writeOperation_110 : mz_d mb_Writer_writeOperation 110 (.aload_n 0) 1 111 := ⟨by decide +kernel, rfl⟩
theorem md_Writer_writeOperation_111 : mz_d mb_Writer_writeOperation 111 (.getfield 23) 3 114 := ⟨by decide +kernel, rfl⟩
theorem md_Writer_writeOperation_114 : mz_d mb_Writer_writeOperation 114 (.aload_n 0) 1 115 := ⟨by decide +kernel, rfl⟩
theorem md_Writer_writeOperation_115 : mz_d mb_Writer_writeOperation 115 (.getfield 19) 3 118 := ⟨by decide +kernel, rfl⟩
theorem md_Writer_writeOperation_118 : mz_d mb_Writer_writeOperation 118 (.getfield 144) 3 121 := ⟨by decide +kernel, rfl⟩
theorem md_Writer_writeOperation_121 : mz_d mb_Writer_writeOperation 121 (.iload_n 1) 1 122 := ⟨by decide +kernel, rfl⟩
theorem md_Writer_writeOperation_122 : mz_d mb_Writer_writeOperation 122 (.iaload) 1 123 := ⟨by decide +kernel, rfl⟩
theorem md_Writer_writeOperation_123 : mz_d mb_Writer_writeOperation 123 (.invokevirtual 132) 3 126 := ⟨by decide +kernel, rfl⟩
theorem md_Writer_writeOperation_126 : mz_d mb_Writer_writeOperation 126 (.ifCond .eq 7) 3 129 := ⟨by decide +kernel, rfl⟩
theorem md_Writer_writeOperation_129 : mz_d mb_Writer_writeOperation 129 (.iconst 2) 1 130 := ⟨by decide +kernel, rfl⟩
theorem md_Writer_writeOperation_130 : mz_d mb_Writer_writeOperation 130 (.goto 4) 3 133 := ⟨by decide +kernel, rfl⟩
theorem md_Writer_writeOperation_133 : mz_d mb_Writer_writeOperation 133 (.iconst 0) 1 134 := ⟨by decide +kernel, rfl⟩
theorem md_Writer_writeOperation_134 : mz_d mb_Writer_writeOperation 134 (.ior) 1 135 := ⟨by decide +kernel, rfl⟩
theorem md_Writer_writeOperation_135 : mz_d mb_Writer_writeOperation 135 (.istore_n 3) 1 136 := ⟨by decide +kernel, rfl⟩
theorem md_Writer_writeOperation_136 : mz_d mb_Writer_writeOperation 136 (.aload_n 0) 1 137 := ⟨by decide +kernel, rfl⟩
theorem md_Writer_writeOperation_137 : mz_d mb_Writer_writeOperation 137 (.aload_n 0) 1 138 := ⟨by decide +kernel, rfl⟩
theorem md_Writer_writeOperation_138 : mz_d mb_Writer_writeOperation 138 (.getfield 19) 3 141 := ⟨by decide +kernel, rfl⟩
theorem md_Writer_writeOperation_141 : mz_d mb_Writer_writeOperation 141 (.getfield 144) 3 144 := ⟨by decide +kernel, rfl⟩
theorem md_Writer_writeOperation_144 : mz_d mb_Writer_writeOperation 144 (.iload_n 1) 1 145 := ⟨by decide +kernel, rfl⟩
theorem md_Writer_writeOperation_145 : mz_d mb_Writer_writeOperation 145 (.iaload) 1 146 := ⟨by decide +kernel, rfl⟩
theorem md_Writer_writeOperation_146 : mz_d mb_Writer_writeOperation 146 (.aload_n 0) 1 147 := ⟨by decide +kernel, rfl⟩
theorem md_Writer_writeOperation_147 : mz_d mb_Writer_writeOperation 147 (.getfield 27) 3 150 := ⟨by decide +kernel, rfl⟩
theorem md_Writer_writeOperation_150 : mz_d mb_Writer_writeOperation 150 (.getfield 135) 3 153 := ⟨by decide +kernel, rfl⟩
theorem md_Writer_writeOperation_153 : mz_d mb_Writer_writeOperation 153 (.iconst 1) 1 154 := ⟨by decide +kernel, rfl⟩
theorem md_Writer_writeOperation_154 : mz_d mb_Writer_writeOperation 154 (.iadd) 1 155 := ⟨by decide +kernel, rfl⟩
theorem md_Writer_writeOperation_155 : mz_d mb_Writer_writeOperation 155 (.invokevirtual 140) 3 158 := ⟨by decide +kernel, rfl⟩
theorem md_Writer_writeOperation_158 : mz_d mb_Writer_writeOperation 158 (.istore 5) 2 160 := ⟨by decide +kernel, rfl⟩
theorem md_Writer_writeOperation_160 : mz_d mb_Writer_writeOperation 160 (.aload_n 0) 1 161 := ⟨by decide +kernel, rfl⟩
theorem md_Writer_writeOperation_161 : mz_d mb_Writer_writeOperation 161 (.getfield 9) 3 164 := ⟨by decide +kernel, rfl⟩
theorem md_Writer_writeOperation_164 : mz_d mb_Writer_writeOperation 164 (.iload_n 1) 1 165 := ⟨by decide +kernel, rfl⟩
theorem md_Writer_writeOperation_165 : mz_d mb_Writer_writeOperation 165 (.invokevirtual 145) 3 168 := ⟨by decide +kernel, rfl⟩
theorem md_Writer_writeOperation_168 : mz_d mb_Writer_writeOperation 168 (.ifCond .ne 18) 3 171 := ⟨by decide +kernel, rfl⟩
theorem md_Writer_writeOperation_171 : mz_d mb_Writer_writeOperation 171 (.aload_n 0) 1 172 := ⟨by decide +kernel, rfl⟩
theorem md_Writer_writeOperation_172 : mz_d mb_Writer_writeOperation 172 (.getfield 31) 3 175 := ⟨by decide +kernel, rfl⟩
theorem md_Writer_writeOperation_175 : mz_d mb_Writer_writeOperation 175 (.iload_n 2) 1 176 := ⟨by decide +kernel, rfl⟩
theorem md_Writer_writeOperation_176 : mz_d mb_Writer_writeOperation 176 (.iconst 0) 1 177 := ⟨by decide +kernel, rfl⟩
theorem md_Writer_writeOperation_177 : mz_d mb_Writer_writeOperation 177 (.iload 4) 2 179 := ⟨by decide +kernel, rfl⟩
theorem md_Writer_writeOperation_179 : mz_d mb_Writer_writeOperation 179 (.iload 5) 2 181 := ⟨by decide +kernel, rfl⟩
theorem md_Writer_writeOperation_181 : mz_d mb_Writer_writeOperation 181 (.iload_n 3) 1 182 := ⟨by decide +kernel, rfl⟩
theorem md_Writer_writeOperation_182 : mz_d mb_Writer_writeOperation 182 (.invokevirtual 79) 3 185 := ⟨by decide +kernel, rfl⟩
theorem md_Writer_writeOperation_185 : mz_d mb_Writer_writeOperation 185 (.return_) 1 186 := ⟨by decide +kernel, rfl⟩
theorem md_Writer_writeOperation_186 : mz_d mb_Writer_writeOperation 186 (.aload_n 0) 1 187 := ⟨by decide +kernel, rfl⟩
theorem md_Writer_writeOperation_187 : mz_d mb_Writer_writeOperation 187 (.getfield 27) 3 190 := ⟨by decide +kernel, rfl⟩
theorem md_Writer_writeOperation_190 : mz_d mb_Writer_writeOperation 190 (.getfield 148) 3 193 := ⟨by decide +kernel, rfl⟩
theorem md_Writer_writeOperation_193 : mz_d mb_Writer_writeOperation 193 (.iload_n 1) 1 194 := ⟨by decide +kernel, rfl⟩
theorem md_Writer_writeOperation_194 : mz_d mb_Writer_writeOperation 194 (.invokestatic 151) 3 197 := ⟨by decide +kernel, rfl⟩
theorem md_Writer_writeOperation_197 : mz_d mb_Writer_writeOperation 197 (.iaload) 1 198 := ⟨by decide +kernel, rfl⟩
theorem md_Writer_writeOperation_198 : mz_d mb_Writer_writeOperation 198 (.istore 6) 2 200 := ⟨by decide +kernel, rfl⟩
theorem md_Writer_writeOperation_200 : mz_d mb_Writer_writeOperation 200 (.aload_n 0) 1 201 := ⟨by decide +kernel, rfl⟩
theorem md_Writer_writeOperation_201 : mz_d mb_Writer_writeOperation 201 (.getfield 27) 3 204 := ⟨by decide +kernel, rfl⟩
theorem md_Writer_writeOperation_204 : mz_d mb_Writer_writeOperation 204 (.iload 6) 2 206 := ⟨by decide +kernel, rfl⟩
theorem md_Writer_writeOperation_206 : mz_d mb_Writer_writeOperation 206 (.invokevirtual 154) 3 209 := ⟨by decide +kernel, rfl⟩
theorem md_Writer_writeOperation_209 : mz_d mb_Writer_writeOperation 209 (.ifCond .eq 43) 3 212 := ⟨by decide +kernel, rfl⟩
theorem md_Writer_writeOperation_212 : mz_d mb_Writer_writeOperation 212 (.aload_n 0) 1 213 := ⟨by decide +kernel, rfl⟩
theorem md_Writer_writeOperation_213 : mz_d mb_Writer_writeOperation 213 (.getfield 31) 3 216 := ⟨by decide +kernel, rfl⟩
theorem md_Writer_writeOperation_216 : mz_d mb_Writer_writeOperation 216 (.iload_n 2) 1 217 := ⟨by decide +kernel, rfl⟩
theorem md_Writer_writeOperation_217 : mz_d mb_Writer_writeOperation 217 (.aload_n 0) 1 218 := ⟨by decide +kernel, rfl⟩
theorem md_Writer_writeOperation_218 : mz_d mb_Writer_writeOperation 218 (.getfield 27) 3 221 := ⟨by decide +kernel, rfl⟩
theorem md_Writer_writeOperation_221 : mz_d mb_Writer_writeOperation 221 (.getfield 135) 3 224 := ⟨by decide +kernel, rfl⟩
theorem md_Writer_writeOperation_224 : mz_d mb_Writer_writeOperation 224 (.iload 4) 2 226 := ⟨by decide +kernel, rfl⟩
theorem md_Writer_writeOperation_226 : mz_d mb_Writer_writeOperation 226 (.iload 5) 2 228 := ⟨by decide +kernel, rfl⟩
theorem md_Writer_writeOperation_228 : mz_d mb_Writer_writeOperation 228 (.iload_n 3) 1 229 := ⟨by decide +kernel, rfl⟩
theorem md_Writer_writeOperation_229 : mz_d mb_Writer_writeOperation 229 (.invokevirtual 79) 3 232 := ⟨by decide +kernel, rfl⟩
theorem md_Writer_writeOperation_232 : mz_d mb_Writer_writeOperation 232 (.aload_n 0) 1 233 := ⟨by decide +kernel, rfl⟩
theorem md_Writer_writeOperation_233 : mz_d mb_Writer_writeOperation 233 (.getfield 31) 3 236 := ⟨by decide +kernel, rfl⟩
theorem md_Writer_writeOperation_236 : mz_d mb_Writer_writeOperation 236 (.iload 6) 2 238 := ⟨by decide +kernel, rfl⟩
theorem md_Writer_writeOperation_238 : mz_d mb_Writer_writeOperation 238 (.aload_n 0) 1 239 := ⟨by decide +kernel, rfl⟩
theorem md_Writer_writeOperation_239 : mz_d mb_Writer_writeOperation 239 (.getfield 27) 3 242 := ⟨by decide +kernel, rfl⟩
theorem md_Writer_writeOperation_242 : mz_d mb_Writer_writeOperation 242 (.getfield 135) 3 245 := ⟨by decide +kernel, rfl⟩
theorem md_Writer_writeOperation_245 : mz_d mb_Writer_writeOperation 245 (.iconst 0) 1 246 := ⟨by decide +kernel, rfl⟩
theorem md_Writer_writeOperation_246 : mz_d mb_Writer_writeOperation 246 (.invokevirtual 157) 3 249 := ⟨by decide +kernel, rfl⟩
theorem md_Writer_writeOperation_249 : mz_d mb_Writer_writeOperation 249 (.goto 18) 3 252 := ⟨by decide +kernel, rfl⟩
theorem md_Writer_writeOperation_252 : mz_d mb_Writer_writeOperation 252 (.aload_n 0) 1 253 := ⟨by decide +kernel, rfl⟩
theorem md_Writer_writeOperation_253 : mz_d mb_Writer_writeOperation 253 (.getfield 31) 3 256 := ⟨by decide +kernel, rfl⟩
theorem md_Writer_writeOperation_256 : mz_d mb_Writer_writeOperation 256 (.iload_n 2) 1 257 := ⟨by decide +kernel, rfl⟩
theorem md_Writer_writeOperation_257 : mz_d mb_Writer_writeOperation 257 (.iload 6) 2 259 := ⟨by decide +kernel, rfl⟩
theorem md_Writer_writeOperation_259 : mz_d mb_Writer_writeOperation 259 (.iload 4) 2 261 := ⟨by decide +kernel, rfl⟩
theorem md_Writer_writeOperation_261 : mz_d mb_Writer_writeOperation 261 (.iload 5) 2 263 := ⟨by decide +kernel, rfl⟩
theorem md_Writer_writeOperation_263 : mz_d mb_Writer_writeOperation 263 (.iload_n 3) 1 264 := ⟨by decide +kernel, rfl⟩
theorem md_Writer_writeOperation_264 : mz_d mb_Writer_writeOperation 264 (.invokevirtual 79) 3 267 := ⟨by decide +kernel, rfl⟩
theorem md_Writer_writeOperation_267 : mz_d mb_Writer_writeOperation 267 (.return_) 1 268 := ⟨by decide +kernel, rfl⟩
theorem md_Writer_writeEnd_0 : mz_d mb_Writer_writeEnd 0 (.aload_n 0) 1 1 := ⟨by decide +kernel, rfl⟩
theorem md_Writer_writeEnd_1 : mz_d mb_Writer_writeEnd 1 (.getfield 9) 3 4 := ⟨by decide +kernel, rfl⟩
theorem md_Writer_writeEnd_4 : mz_d mb_Writer_writeEnd 4 (.iload_n 1) 1 5 := ⟨by decide +kernel, rfl⟩
theorem md_Writer_writeEnd_5 : mz_d mb_Writer_writeEnd 5 (.invokevirtual 163) 3 8 := ⟨by decide +kernel, rfl⟩
theorem md_Writer_writeEnd_8 : mz_d mb_Writer_writeEnd 8 (.ifCond .eq 44) 3 11 := ⟨by decide +kernel, rfl⟩
theorem md_Writer_writeEnd_11 : mz_d mb_Writer_writeEnd 11 (.aload_n 0) 1 12 := ⟨by decide +kernel, rfl⟩
theorem md_Writer_writeEnd_12 : mz_d mb_Writer_writeEnd 12 (.getfield 19) 3 15 := ⟨by decide +kernel, rfl⟩
theorem md_Writer_writeEnd_15 : mz_d mb_Writer_writeEnd 15 (.getfield 166) 3 18 := ⟨by decide +kernel, rfl⟩
theorem md_Writer_writeEnd_18 : mz_d mb_Writer_writeEnd 18 (.iload_n 1) 1 19 := ⟨by decide +kernel, rfl⟩
theorem md_Writer_writeEnd_19 : mz_d mb_Writer_writeEnd 19 (.iaload) 1 20 := ⟨by decide +kernel, rfl⟩
theorem md_Writer_writeEnd_20 : mz_d mb_Writer_writeEnd 20 (.istore_n 2) 1 21 := ⟨by decide +kernel, rfl⟩
theorem md_Writer_writeEnd_21 : mz_d mb_Writer_writeEnd 21 (.aload_n 0) 1 22 := ⟨by decide +kernel, rfl⟩
theorem md_Writer_writeEnd_22 : mz_d mb_Writer_writeEnd 22 (.getfield 31) 3 25 := ⟨by decide +kernel, rfl⟩
theorem md_Writer_writeEnd_25 : mz_d mb_Writer_writeEnd 25 (.iload_n 1) 1 26 := ⟨by decide +kernel, rfl⟩
theorem md_Writer_writeEnd_26 : mz_d mb_Writer_writeEnd 26 (.aload_n 0) 1 27 := ⟨by decide +kernel, rfl⟩
theorem md_Writer_writeEnd_27 : mz_d mb_Writer_writeEnd 27 (.iload_n 2) 1 28 := ⟨by decide +kernel, rfl⟩
theorem md_Writer_writeEnd_28 : mz_d mb_Writer_writeEnd 28 (.aload_n 0) 1 29 := ⟨by decide +kernel, rfl⟩
theorem md_Writer_writeEnd_29 : mz_d mb_Writer_writeEnd 29 (.getfield 27) 3 32 := ⟨by decide +kernel, rfl⟩
theorem md_Writer_writeEnd_32 : mz_d mb_Writer_writeEnd 32 (.getfield 135) 3 35 := ⟨by decide +kernel, rfl⟩
theorem md_Writer_writeEnd_35 : mz_d mb_Writer_writeEnd 35 (.invokevirtual 140) 3 38 := ⟨by decide +kernel, rfl⟩
theorem md_Writer_writeEnd_38 : mz_d mb_Writer_writeEnd 38 (.aload_n 0) 1 39 := ⟨by decide +kernel, rfl⟩
theorem md_Writer_writeEnd_39 : mz_d mb_Writer_writeEnd 39 (.getfield 23) 3 42 := ⟨by decide +kernel, rfl⟩
theorem md_Writer_writeEnd_42 : mz_d mb_Writer_writeEnd 42 (.iload_n 2) 1 43 := ⟨by decide +kernel, rfl⟩
theorem md_Writer_writeEnd_43 : mz_d mb_Writer_writeEnd 43 (.invokevirtual 132) 3 46 := ⟨by decide +kernel, rfl⟩
theorem md_Writer_writeEnd_46 : mz_d mb_Writer_writeEnd 46 (.invokevirtual 89) 3 49 := ⟨by decide +kernel, rfl⟩
theorem md_Writer_writeEnd_49 : mz_d mb_Writer_writeEnd 49 (.goto 13) 3 52 := ⟨by decide +kernel, rfl⟩
theorem md_Writer_writeEnd_52 : mz_d mb_Writer_writeEnd 52 (.aload_n 0) 1 53 := ⟨by decide +kernel, rfl⟩
theorem md_Writer_writeEnd_53 : mz_d mb_Writer_writeEnd 53 (.getfield 31) 3 56 := ⟨by decide +kernel, rfl⟩
theorem md_Writer_writeEnd_56 : mz_d mb_Writer_writeEnd 56 (.iload_n 1) 1 57 := ⟨by decide +kernel, rfl⟩
theorem md_Writer_writeEnd_57 : mz_d mb_Writer_writeEnd 57 (.iconst 0) 1 58 := ⟨by decide +kernel, rfl⟩
theorem md_Writer_writeEnd_58 : mz_d mb_Writer_writeEnd 58 (.iconst 1) 1 59 := ⟨by decide +kernel, rfl⟩
theorem md_Writer_writeEnd_59 : mz_d mb_Writer_writeEnd 59 (.invokevirtual 89) 3 62 := ⟨by decide +kernel, rfl⟩
theorem md_Writer_writeEnd_62 : mz_d mb_Writer_writeEnd 62 (.return_) 1 63 := ⟨by decide +kernel, rfl⟩
theorem md_Writer_writeBlock_0 : mz_d mb_Writer_writeBlock 0 (.aload_n 0) 1 1 := ⟨by decide +kernel, rfl⟩
theorem md_Writer_writeBlock_1 : mz_d mb_Writer_writeBlock 1 (.getfield 31) 3 4 := ⟨by decide +kernel, rfl⟩
theorem md_Writer_writeBlock_4 : mz_d mb_Writer_writeBlock 4 (.iload_n 1) 1 5 := ⟨by decide +kernel, rfl⟩
theorem md_Writer_writeBlock_5 : mz_d mb_Writer_writeBlock 5 (.invokevirtual 55) 3 8 := ⟨by decide +kernel, rfl⟩
theorem md_Writer_writeBlock_8 : mz_d mb_Writer_writeBlock 8 (.iload_n 1) 1 9 := ⟨by decide +kernel, rfl⟩
theorem md_Writer_writeBlock_9 : mz_d mb_Writer_writeBlock 9 (.bipush 12) 2 11 := ⟨by decide +kernel, rfl⟩
theorem md_Writer_writeBlock_11 : mz_d mb_Writer_writeBlock 11 (.imul) 1 12 := ⟨by decide +kernel, rfl⟩
theorem md_Writer_writeBlock_12 : mz_d mb_Writer_writeBlock 12 (.istore_n 2) 1 13 := ⟨by decide +kernel, rfl⟩
theorem md_Writer_writeBlock_13 : mz_d mb_Writer_writeBlock 13 (.iload_n 2) 1 14 := ⟨by decide +kernel, rfl⟩
theorem md_Writer_writeBlock_14 : mz_d mb_Writer_writeBlock 14 (.iload_n 1) 1 15 := ⟨by decide +kernel, rfl⟩
theorem md_Writer_writeBlock_15 : mz_d mb_Writer_writeBlock 15 (.bipush 12) 2 17 := ⟨by decide +kernel, rfl⟩
theorem md_Writer_writeBlock_17 : mz_d mb_Writer_writeBlock 17 (.imul) 1 18 := ⟨by decide +kernel, rfl⟩
theorem md_Writer_writeBlock_18 : mz_d mb_Writer_writeBlock 18 (.aload_n 0) 1 19 := ⟨by decide +kernel, rfl⟩
theorem md_Writer_writeBlock_19 : mz_d mb_Writer_writeBlock 19 (.getfield 9) 3 22 := ⟨by decide +kernel, rfl⟩
theorem md_Writer_writeBlock_22 : mz_d mb_Writer_writeBlock 22 (.getfield 59) 3 25 := ⟨by decide +kernel, rfl⟩
theorem md_Writer_writeBlock_25 : mz_d mb_Writer_writeBlock 25 (.iload_n 1) 1 26 := ⟨by decide +kernel, rfl⟩
theorem md_Writer_writeBlock_26 : mz_d mb_Writer_writeBlock 26 (.iaload) 1 27 := ⟨by decide +kernel, rfl⟩
theorem md_Writer_writeBlock_27 : mz_d mb_Writer_writeBlock 27 (.iadd) 1 28 := ⟨by decide +kernel, rfl⟩
theorem md_Writer_writeBlock_28 : mz_d mb_Writer_writeBlock 28 (.if_icmp .ge 25) 3 31 := ⟨by decide +kernel, rfl⟩
theorem md_Writer_writeBlock_31 : mz_d mb_Writer_writeBlock 31 (.aload_n 0) 1 32 := ⟨by decide +kernel, rfl⟩
theorem md_Writer_writeBlock_32 : mz_d mb_Writer_writeBlock 32 (.getfield 23) 3 35 := ⟨by decide +kernel, rfl⟩
theorem md_Writer_writeBlock_35 : mz_d mb_Writer_writeBlock 35 (.iload_n 2) 1 36 := ⟨by decide +kernel, rfl⟩
theorem md_Writer_writeBlock_36 : mz_d mb_Writer_writeBlock 36 (.invokevirtual 118) 3 39 := ⟨by decide +kernel, rfl⟩
theorem md_Writer_writeBlock_39 : mz_d mb_Writer_writeBlock 39 (.ifCond .eq 8) 3 42 := ⟨by decide +kernel, rfl⟩
theorem md_Writer_writeBlock_42 : mz_d mb_Writer_writeBlock 42 (.aload_n 0) 1 43 := ⟨by decide +kernel, rfl⟩
theorem md_Writer_writeBlock_43 : mz_d mb_Writer_writeBlock 43 (.iload_n 2) 1 44 := ⟨by decide +kernel, rfl⟩
theorem md_Writer_writeBlock_44 : mz_d mb_Writer_writeBlock 44 (.invokevirtual 123) 3 47 := ⟨by decide +kernel, rfl⟩
theorem md_Writer_writeBlock_47 : mz_d mb_Writer_writeBlock 47 (.iinc 2 1) 3 50 := ⟨by decide +kernel, rfl⟩
theorem md_Writer_writeBlock_50 : mz_d mb_Writer_writeBlock 50 (.goto (-37)) 3 53 := ⟨by decide +kernel, rfl⟩
theorem md_Writer_writeBlock_53 : mz_d mb_Writer_writeBlock 53 (.aload_n 0) 1 54 := ⟨by decide +kernel, rfl⟩
theorem md_Writer_writeBlock_54 : mz_d mb_Writer_writeBlock 54 (.iload_n 1) 1 55 := ⟨by decide +kernel, rfl⟩
theorem md_Writer_writeBlock_55 : mz_d mb_Writer_writeBlock 55 (.invokevirtual 126) 3 58 := ⟨by decide +kernel, rfl⟩
theorem md_Writer_writeBlock_58 : mz_d mb_Writer_writeBlock 58 (.aload_n 0) 1 59 := ⟨by decide +kernel, rfl⟩
theorem md_Writer_writeBlock_59 : mz_d mb_Writer_writeBlock 59 (.getfield 31) 3 62 := ⟨by decide +kernel, rfl⟩
theorem md_Writer_writeBlock_62 : mz_d mb_Writer_writeBlock 62 (.iload_n 1) 1 63 := ⟨by decide +kernel, rfl⟩
theorem md_Writer_writeBlock_63 : mz_d mb_Writer_writeBlock 63 (.invokevirtual 83) 3 66 := ⟨by decide +kernel, rfl⟩
theorem md_Writer_writeBlock_66 : mz_d mb_Writer_writeBlock 66 (.return_) 1 67 := ⟨by decide +kernel, rfl⟩
theorem md_Writer_addMove_0 : mz_d mb_Writer_addMove 0 (.aload_n 0) 1 1 := ⟨by decide +kernel, rfl⟩
theorem md_Writer_addMove_1 : mz_d mb_Writer_addMove 1 (.getfield 23) 3 4 := ⟨by decide +kernel, rfl⟩
theorem md_Writer_addMove_4 : mz_d mb_Writer_addMove 4 (.iload_n 1) 1 5 := ⟨by decide +kernel, rfl⟩
theorem md_Writer_addMove_5 : mz_d mb_Writer_addMove 5 (.iload_n 2) 1 6 := ⟨by decide +kernel, rfl⟩
theorem md_Writer_addMove_6 : mz_d mb_Writer_addMove 6 (.invokevirtual 184) 3 9 := ⟨by decide +kernel, rfl⟩
theorem md_Writer_addMove_9 : mz_d mb_Writer_addMove 9 (.ifCond .ne 4) 3 12 := ⟨by decide +kernel, rfl⟩
theorem md_Writer_addMove_12 : mz_d mb_Writer_addMove 12 (.return_) 1 13 := ⟨by decide +kernel, rfl⟩
theorem md_Writer_addMove_13 : mz_d mb_Writer_addMove 13 (.aload_n 0) 1 14 := ⟨by decide +kernel, rfl⟩
theorem md_Writer_addMove_14 : mz_d mb_Writer_addMove 14 (.getfield 23) 3 17 := ⟨by decide +kernel, rfl⟩
theorem md_Writer_addMove_17 : mz_d mb_Writer_addMove 17 (.getfield 160) 3 20 := ⟨by decide +kernel, rfl⟩
theorem md_Writer_addMove_20 : mz_d mb_Writer_addMove 20 (.iload_n 3) 1 21 := ⟨by decide +kernel, rfl⟩
theorem md_Writer_addMove_21 : mz_d mb_Writer_addMove 21 (.iaload) 1 22 := ⟨by decide +kernel, rfl⟩
theorem md_Writer_addMove_22 : mz_d mb_Writer_addMove 22 (.istore 4) 2 24 := ⟨by decide +kernel, rfl⟩
theorem md_Writer_addMove_24 : mz_d mb_Writer_addMove 24 (.aload_n 0) 1 25 := ⟨by decide +kernel, rfl⟩
theorem md_Writer_addMove_25 : mz_d mb_Writer_addMove 25 (.getfield 23) 3 28 := ⟨by decide +kernel, rfl⟩
theorem md_Writer_addMove_28 : mz_d mb_Writer_addMove 28 (.iload_n 3) 1 29 := ⟨by decide +kernel, rfl⟩
theorem md_Writer_addMove_29 : mz_d mb_Writer_addMove 29 (.invokevirtual 132) 3 32 := ⟨by decide +kernel, rfl⟩
theorem md_Writer_addMove_32 : mz_d mb_Writer_addMove 32 (.istore 5) 2 34 := ⟨by decide +kernel, rfl⟩
theorem md_Writer_addMove_34 : mz_d mb_Writer_addMove 34 (.aload_n 0) 1 35 := ⟨by decide +kernel, rfl⟩
theorem md_Writer_addMove_35 : mz_d mb_Writer_addMove 35 (.getfield 40) 3 38 := ⟨by decide +kernel, rfl⟩
theorem md_Writer_addMove_38 : mz_d mb_Writer_addMove 38 (.aload_n 0) 1 39 := ⟨by decide +kernel, rfl⟩
theorem md_Writer_addMove_39 : mz_d mb_Writer_addMove 39 (.getfield 27) 3 42 := ⟨by decide +kernel, rfl⟩
theorem md_Writer_addMove_42 : mz_d mb_Writer_addMove 42 (.getfield 148) 3 45 := ⟨by decide +kernel, rfl⟩
theorem md_Writer_addMove_45 : mz_d mb_Writer_addMove 45 (.iload_n 1) 1 46 := ⟨by decide +kernel, rfl⟩
theorem md_Writer_addMove_46 : mz_d mb_Writer_addMove 46 (.iload_n 2) 1 47 := ⟨by decide +kernel, rfl⟩
theorem md_Writer_addMove_47 : mz_d mb_Writer_addMove 47 (.invokestatic 188) 3 50 := ⟨by decide +kernel, rfl⟩
theorem md_Writer_addMove_50 : mz_d mb_Writer_addMove 50 (.iaload) 1 51 := ⟨by decide +kernel, rfl⟩
theorem md_Writer_addMove_51 : mz_d mb_Writer_addMove 51 (.iload 5) 2 53 := ⟨by decide +kernel, rfl⟩
theorem md_Writer_addMove_53 : mz_d mb_Writer_addMove 53 (.ifCond .eq 8) 3 56 := ⟨by decide +kernel, rfl⟩
theorem md_Writer_addMove_56 : mz_d mb_Writer_addMove 56 (.iload 4) 2 58 := ⟨by decide +kernel, rfl⟩
theorem md_Writer_addMove_58 : mz_d mb_Writer_addMove 58 (.goto 13) 3 61 := ⟨by decide +kernel, rfl⟩
theorem md_Writer_addMove_61 : mz_d mb_Writer_addMove 61 (.aload_n 0) 1 62 := ⟨by decide +kernel, rfl⟩
theorem md_Writer_addMove_62 : mz_d mb_Writer_addMove 62 (.getfield 27) 3 65 := ⟨by decide +kernel, rfl⟩
theorem md_Writer_addMove_65 : mz_d mb_Writer_addMove 65 (.getfield 148) 3 68 := ⟨by decide +kernel, rfl⟩
theorem md_Writer_addMove_68 : mz_d mb_Writer_addMove 68 (.iload 4) 2 70 := ⟨by decide +kernel, rfl⟩
theorem md_Writer_addMove_70 : mz_d mb_Writer_addMove 70 (.iaload) 1 71 := ⟨by decide +kernel, rfl⟩
theorem md_Writer_addMove_71 : mz_d mb_Writer_addMove 71 (.iload 5) 2 73 := ⟨by decide +kernel, rfl⟩
theorem md_Writer_addMove_73 : mz_d mb_Writer_addMove 73 (.invokevirtual 191) 3 76 := ⟨by decide +kernel, rfl⟩
theorem md_Writer_addMove_76 : mz_d mb_Writer_addMove 76 (.return_) 1 77 := ⟨by decide +kernel, rfl⟩
theorem md_Writer_writeRoad_0 : mz_d mb_Writer_writeRoad 0 (.iconst 0) 1 1 := ⟨by decide +kernel, rfl⟩
theorem md_Writer_writeRoad_1 : mz_d mb_Writer_writeRoad 1 (.istore_n 3) 1 2 := ⟨by decide +kernel, rfl⟩
theorem md_Writer_writeRoad_2 : mz_d mb_Writer_writeRoad 2 (.iload_n 3) 1 3 := ⟨by decide +kernel, rfl⟩
theorem md_Writer_writeRoad_3 : mz_d mb_Writer_writeRoad 3 (.bipush 10) 2 5 := ⟨by decide +kernel, rfl⟩
theorem md_Writer_writeRoad_5 : mz_d mb_Writer_writeRoad 5 (.if_icmp .ge 32) 3 8 := ⟨by decide +kernel, rfl⟩
theorem md_Writer_writeRoad_8 : mz_d mb_Writer_writeRoad 8 (.aload_n 0) 1 9 := ⟨by decide +kernel, rfl⟩
theorem md_Writer_writeRoad_9 : mz_d mb_Writer_writeRoad 9 (.aload_n 0) 1 10 := ⟨by decide +kernel, rfl⟩
theorem md_Writer_writeRoad_10 : mz_d mb_Writer_writeRoad 10 (.getfield 9) 3 13 := ⟨by decide +kernel, rfl⟩
theorem md_Writer_writeRoad_13 : mz_d mb_Writer_writeRoad 13 (.iload_n 1) 1 14 := ⟨by decide +kernel, rfl⟩
theorem md_Writer_writeRoad_14 : mz_d mb_Writer_writeRoad 14 (.iload_n 2) 1 15 := ⟨by decide +kernel, rfl⟩
theorem md_Writer_writeRoad_15 : mz_d mb_Writer_writeRoad 15 (.invokevirtual 169) 3 18 := ⟨by decide +kernel, rfl⟩
theorem md_Writer_writeRoad_18 : mz_d mb_Writer_writeRoad 18 (.iload_n 3) 1 19 := ⟨by decide +kernel, rfl⟩
theorem md_Writer_writeRoad_19 : mz_d mb_Writer_writeRoad 19 (.aload_n 0) 1 20 := ⟨by decide +kernel, rfl⟩
theorem md_Writer_writeRoad_20 : mz_d mb_Writer_writeRoad 20 (.getfield 19) 3 23 := ⟨by decide +kernel, rfl⟩
theorem md_Writer_writeRoad_23 : mz_d mb_Writer_writeRoad 23 (.iload_n 1) 1 24 := ⟨by decide +kernel, rfl⟩
theorem md_Writer_writeRoad_24 : mz_d mb_Writer_writeRoad 24 (.iload_n 3) 1 25 := ⟨by decide +kernel, rfl⟩
theorem md_Writer_writeRoad_25 : mz_d mb_Writer_writeRoad 25 (.invokevirtual 172) 3 28 := ⟨by decide +kernel, rfl⟩
theorem md_Writer_writeRoad_28 : mz_d mb_Writer_writeRoad 28 (.invokevirtual 175) 3 31 := ⟨by decide +kernel, rfl⟩
theorem md_Writer_writeRoad_31 : mz_d mb_Writer_writeRoad 31 (.iinc 3 1) 3 34 := ⟨by decide +kernel, rfl⟩
theorem md_Writer_writeRoad_34 : mz_d mb_Writer_writeRoad 34 (.goto (-32)) 3 37 := ⟨by decide +kernel, rfl⟩
theorem md_Writer_writeRoad_37 : mz_d mb_Writer_writeRoad 37 (.aload_n 0) 1 38 := ⟨by decide +kernel, rfl⟩
theorem md_Writer_writeRoad_38 : mz_d mb_Writer_writeRoad 38 (.getfield 31) 3 41 := ⟨by decide +kernel, rfl⟩
theorem md_Writer_writeRoad_41 : mz_d mb_Writer_writeRoad 41 (.iload_n 1) 1 42 := ⟨by decide +kernel, rfl⟩
theorem md_Writer_writeRoad_42 : mz_d mb_Writer_writeRoad 42 (.iload_n 2) 1 43 := ⟨by decide +kernel, rfl⟩
theorem md_Writer_writeRoad_43 : mz_d mb_Writer_writeRoad 43 (.invokestatic 178) 3 46 := ⟨by decide +kernel, rfl⟩
theorem md_Writer_writeRoad_46 : mz_d mb_Writer_writeRoad 46 (.invokevirtual 55) 3 49 := ⟨by decide +kernel, rfl⟩
theorem md_Writer_writeRoad_49 : mz_d mb_Writer_writeRoad 49 (.aload_n 0) 1 50 := ⟨by decide +kernel, rfl⟩
theorem md_Writer_writeRoad_50 : mz_d mb_Writer_writeRoad 50 (.getfield 40) 3 53 := ⟨by decide +kernel, rfl⟩
theorem md_Writer_writeRoad_53 : mz_d mb_Writer_writeRoad 53 (.invokevirtual 181) 3 56 := ⟨by decide +kernel, rfl⟩
theorem md_Writer_writeRoad_56 : mz_d mb_Writer_writeRoad 56 (.aload_n 0) 1 57 := ⟨by decide +kernel, rfl⟩
theorem md_Writer_writeRoad_57 : mz_d mb_Writer_writeRoad 57 (.getfield 31) 3 60 := ⟨by decide +kernel, rfl⟩
theorem md_Writer_writeRoad_60 : mz_d mb_Writer_writeRoad 60 (.iload_n 1) 1 61 := ⟨by decide +kernel, rfl⟩
theorem md_Writer_writeRoad_61 : mz_d mb_Writer_writeRoad 61 (.iload_n 2) 1 62 := ⟨by decide +kernel, rfl⟩
theorem md_Writer_writeRoad_62 : mz_d mb_Writer_writeRoad 62 (.invokestatic 178) 3 65 := ⟨by decide +kernel, rfl⟩
theorem md_Writer_writeRoad_65 : mz_d mb_Writer_writeRoad 65 (.invokevirtual 83) 3 68 := ⟨by decide +kernel, rfl⟩
theorem md_Writer_writeRoad_68 : mz_d mb_Writer_writeRoad 68 (.return_) 1 69 := ⟨by decide +kernel, rfl⟩
theorem md_Writer_writeNamed_0 : mz_d mb_Writer_writeNamed 0 (.aload_n 0) 1 1 := ⟨by decide +kernel, rfl⟩
theorem md_Writer_writeNamed_1 : mz_d mb_Writer_writeNamed 1 (.getfield 31) 3 4 := ⟨by decide +kernel, rfl⟩
theorem md_Writer_writeNamed_4 : mz_d mb_Writer_writeNamed 4 (.invokevirtual 44) 3 7 := ⟨by decide +kernel, rfl⟩
theorem md_Writer_writeNamed_7 : mz_d mb_Writer_writeNamed 7 (.iconst 0) 1 8 := ⟨by decide +kernel, rfl⟩
theorem md_Writer_writeNamed_8 : mz_d mb_Writer_writeNamed 8 (.istore_n 1) 1 9 := ⟨by decide +kernel, rfl⟩
theorem md_Writer_writeNamed_9 : mz_d mb_Writer_writeNamed 9 (.iload_n 1) 1 10 := ⟨by decide +kernel, rfl⟩
theorem md_Writer_writeNamed_10 : mz_d mb_Writer_writeNamed 10 (.aload_n 0) 1 11 := ⟨by decide +kernel, rfl⟩
theorem md_Writer_writeNamed_11 : mz_d mb_Writer_writeNamed 11 (.getfield 15) 3 14 := ⟨by decide +kernel, rfl⟩
theorem md_Writer_writeNamed_14 : mz_d mb_Writer_writeNamed 14 (.getfield 100) 3 17 := ⟨by decide +kernel, rfl⟩
theorem md_Writer_writeNamed_17 : mz_d mb_Writer_writeNamed 17 (.if_icmp .ge 50) 3 20 := ⟨by decide +kernel, rfl⟩
theorem md_Writer_writeNamed_20 : mz_d mb_Writer_writeNamed 20 (.aload_n 0) 1 21 := ⟨by decide +kernel, rfl⟩
theorem md_Writer_writeNamed_21 : mz_d mb_Writer_writeNamed 21 (.getfield 15) 3 24 := ⟨by decide +kernel, rfl⟩
theorem md_Writer_writeNamed_24 : mz_d mb_Writer_writeNamed 24 (.getfield 105) 3 27 := ⟨by decide +kernel, rfl⟩
theorem md_Writer_writeNamed_27 : mz_d mb_Writer_writeNamed 27 (.iload_n 1) 1 28 := ⟨by decide +kernel, rfl⟩
theorem md_Writer_writeNamed_28 : mz_d mb_Writer_writeNamed 28 (.iaload) 1 29 := ⟨by decide +kernel, rfl⟩
theorem md_Writer_writeNamed_29 : mz_d mb_Writer_writeNamed 29 (.istore_n 2) 1 30 := ⟨by decide +kernel, rfl⟩
theorem md_Writer_writeNamed_30 : mz_d mb_Writer_writeNamed 30 (.aload_n 0) 1 31 := ⟨by decide +kernel, rfl⟩
theorem md_Writer_writeNamed_31 : mz_d mb_Writer_writeNamed 31 (.iload_n 2) 1 32 := ⟨by decide +kernel, rfl⟩
theorem md_Writer_writeNamed_32 : mz_d mb_Writer_writeNamed 32 (.invokevirtual 108) 3 35 := ⟨by decide +kernel, rfl⟩
theorem md_Writer_writeNamed_35 : mz_d mb_Writer_writeNamed 35 (.iconst 0) 1 36 := ⟨by decide +kernel, rfl⟩
theorem md_Writer_writeNamed_36 : mz_d mb_Writer_writeNamed 36 (.istore_n 3) 1 37 := ⟨by decide +kernel, rfl⟩
theorem md_Writer_writeNamed_37 : mz_d mb_Writer_writeNamed 37 (.iload_n 3) 1 38 := ⟨by decide +kernel, rfl⟩
theorem md_Writer_writeNamed_38 : mz_d mb_Writer_writeNamed 38 (.aload_n 0) 1 39 := ⟨by decide +kernel, rfl⟩
theorem md_Writer_writeNamed_39 : mz_d mb_Writer_writeNamed 39 (.getfield 9) 3 42 := ⟨by decide +kernel, rfl⟩
theorem md_Writer_writeNamed_42 : mz_d mb_Writer_writeNamed 42 (.iload_n 2) 1 43 := ⟨by decide +kernel, rfl⟩
theorem md_Writer_writeNamed_43 : mz_d mb_Writer_writeNamed 43 (.invokevirtual 111) 3 46 := ⟨by decide +kernel, rfl⟩
theorem md_Writer_writeNamed_46 : mz_d mb_Writer_writeNamed 46 (.if_icmp .ge 15) 3 49 := ⟨by decide +kernel, rfl⟩
theorem md_Writer_writeNamed_49 : mz_d mb_Writer_writeNamed 49 (.aload_n 0) 1 50 := ⟨by decide +kernel, rfl⟩
theorem md_Writer_writeNamed_50 : mz_d mb_Writer_writeNamed 50 (.iload_n 2) 1 51 := ⟨by decide +kernel, rfl⟩
theorem md_Writer_writeNamed_51 : mz_d mb_Writer_writeNamed 51 (.iload_n 3) 1 52 := ⟨by decide +kernel, rfl⟩
theorem md_Writer_writeNamed_52 : mz_d mb_Writer_writeNamed 52 (.invokevirtual 114) 3 55 := ⟨by decide +kernel, rfl⟩
theorem md_Writer_writeNamed_55 : mz_d mb_Writer_writeNamed 55 (.iinc 3 1) 3 58 := ⟨by decide +kernel, rfl⟩
theorem md_Writer_writeNamed_58 : mz_d mb_Writer_writeNamed 58 (.goto (-21)) 3 61 := ⟨by decide +kernel, rfl⟩
theorem md_Writer_writeNamed_61 : mz_d mb_Writer_writeNamed 61 (.iinc 1 1) 3 64 := ⟨by decide +kernel, rfl⟩
theorem md_Writer_writeNamed_64 : mz_d mb_Writer_writeNamed 64 (.goto (-55)) 3 67 := ⟨by decide +kernel, rfl⟩
theorem md_Writer_writeNamed_67 : mz_d mb_Writer_writeNamed 67 (.return_) 1 68 := ⟨by decide +kernel, rfl⟩
def mw_Writer_plainForm_16 (K : Int32 → mz_St → Prop) (a0 : Int32) (y0_16 : Int32) (s16 : mz_St) : Prop :=
  mw_Program_takesB (fun r2 u2 =>
   ((r2 = 0 →
    K (y0_16 ||| 2) u2) ∧
   (¬ r2 = 0 →
    K (y0_16 ||| 0) u2))) a0 s16
/-- ValueMill$Writer.plainForm(I)I: what it does, as a transformer of what must hold behind it -/
def mw_Writer_plainForm (K : Int32 → mz_St → Prop) (a0 : Int32) (s0 : mz_St) : Prop :=
  mw_Program_takesA (fun r1 u1 =>
   (∀ P16 : Int32 → mz_St → Prop, (∀ (y0_16 : Int32) (s16 : mz_St), mw_Writer_plainForm_16 K a0 y0_16 s16 → P16 y0_16 s16) →
   ((r1 = 0 →
    P16 1 u1) ∧
   (¬ r1 = 0 →
    P16 0 u1)))) a0 s0
set_option maxRecDepth 100000 in
set_option maxHeartbeats 4000000 in
theorem ms_Writer_plainForm (l : Launch) (E : mz_En) (hI : mz_Inj E) (K : Int32 → mz_St → Prop) (a0 : Int32) (s0 : mz_St) (h : mw_Writer_plainForm K a0 s0) : mz_Ci l E my_Writer_plainForm mb_Writer_plainForm 2 (some .int) (1) (21) [.ref (E.2.1 9), .int a0] s0 K := by
  refine mz_cti hI (by decide +kernel) (Nat.le_of_ble_eq_true rfl) (fun X C R => ?_)
  show mz_G E X 2 0 [(0, .ref (E.2.1 9)), (1, .int a0)] [] s0
  unfold mw_Writer_plainForm at h
  refine mr_aload_n C 0 md_Writer_plainForm_0 rfl rfl ?_
  refine mr_get C 9 0 mc_Writer_cls ml_375 rfl (by decide) (by decide) (fun _ => rfl) rfl md_Writer_plainForm_1 ?_
  refine mr_iload_n C 1 md_Writer_plainForm_4 rfl rfl ?_
  refine mr_cVNi C (As := [.int a0]) (rest := []) 1 (ms_Program_takesA _ E hI _ a0 _ h) mo_Program_takesA mi_Program_takesA mc_Program_cls ml_543 (by decide) (fun _ => rfl) rfl rfl (Nat.le_of_ble_eq_true rfl) (Nat.le_of_ble_eq_true rfl) (Nat.le_of_ble_eq_true rfl) md_Writer_plainForm_5 (fun r1 u1 h => ?_)
  refine mj (h (fun (y0_16 : Int32) (s16 : mz_St) => mz_G E X 2 16 [(0, .ref (E.2.1 9)), (1, .int a0)] [.int y0_16] s16) (fun y0_16 s16 h => ?_)) (fun h => ?_)
  · unfold mw_Writer_plainForm_16 at h
    refine mr_aload_n C 0 md_Writer_plainForm_16 rfl rfl ?_
    refine mr_get C 9 0 mc_Writer_cls ml_375 rfl (by decide) (by decide) (fun _ => rfl) rfl md_Writer_plainForm_17 ?_
    refine mr_iload_n C 1 md_Writer_plainForm_20 rfl rfl ?_
    refine mr_cVNi C (As := [.int a0]) (rest := [.int y0_16]) 1 (ms_Program_takesB _ E hI _ a0 _ h) mo_Program_takesB mi_Program_takesB mc_Program_cls ml_547 (by decide) (fun _ => rfl) rfl rfl (Nat.le_of_ble_eq_true rfl) (Nat.le_of_ble_eq_true rfl) (Nat.le_of_ble_eq_true rfl) md_Writer_plainForm_21 (fun r2 u2 h => ?_)
    refine mr_if_eq C md_Writer_plainForm_24 rfl (fun hc => ?_) (fun hc => ?_)
    · replace h := h.1 hc
      refine mr_iconst C md_Writer_plainForm_31 mk_iconst_2 ?_
      refine mr_ior C md_Writer_plainForm_32 ?_
      exact mr_iret C R h md_Writer_plainForm_33
    replace h := h.2 hc
    refine mr_iconst C md_Writer_plainForm_27 mk_iconst_0 ?_
    refine mr_goto C md_Writer_plainForm_28 rfl ?_
    refine mr_ior C md_Writer_plainForm_32 ?_
    exact mr_iret C R h md_Writer_plainForm_33
  refine mr_if_eq C md_Writer_plainForm_8 rfl (fun hc => ?_) (fun hc => ?_)
  · replace h := h.1 hc
    refine mr_iconst C md_Writer_plainForm_15 mk_iconst_1 ?_
    exact h
  replace h := h.2 hc
  refine mr_iconst C md_Writer_plainForm_11 mk_iconst_0 ?_
  refine mr_goto C md_Writer_plainForm_12 rfl ?_
  exact h
def mw_Writer_writeAsItIs_33 (P9 : Int32 → mz_St → Prop) (x1_9 : Int32) (P33 : Int32 → mz_St → Prop) (x2_33 : Int32) (s33 : mz_St) : Prop :=
  vp_in x1_9 10 ∧
  ((((x1_9 * 12) + (mz_rd s33 16 x1_9)) ≤ x2_33 →
   mw_Code_finish (fun u3 =>
    vp_in x1_9 10 ∧
    mw_Code_setEnd (fun u4 =>
     P9 (x1_9 + 1) u4) x1_9 (mz_rd u3 18 x1_9) 0 u3) x1_9 s33) ∧
  (¬ ((x1_9 * 12) + (mz_rd s33 16 x1_9)) ≤ x2_33 →
   vp_in x2_33 120 ∧
   vp_in x2_33 120 ∧
   vp_in x2_33 120 ∧
   vp_in x2_33 120 ∧
   mw_Writer_plainForm (fun r1 u5 =>
    mw_Code_add (fun u6 =>
     P33 (x2_33 + 1) u6) (mz_rd s33 12 x2_33) (mz_rd s33 13 x2_33) (mz_rd s33 14 x2_33) (mz_rd s33 15 x2_33) r1 u5) x2_33 s33))
def mw_Writer_writeAsItIs_9 (K : mz_St → Prop) (P9 : Int32 → mz_St → Prop) (x1_9 : Int32) (s9 : mz_St) : Prop :=
  (((s9 1003 0) ≤ x1_9 →
   K s9) ∧
  (¬ (s9 1003 0) ≤ x1_9 →
   mw_Code_begin (fun u2 =>
    (∀ P33 : Int32 → mz_St → Prop, (∀ (x2_33 : Int32) (s33 : mz_St), mw_Writer_writeAsItIs_33 P9 x1_9 P33 x2_33 s33 → P33 x2_33 s33) →
    P33 (x1_9 * 12) u2)) x1_9 s9))
/-- ValueMill$Writer.writeAsItIs()V: what it does, as a transformer of what must hold behind it -/
def mw_Writer_writeAsItIs (K : mz_St → Prop) (s0 : mz_St) : Prop :=
  mw_Code_clear (fun u1 =>
   (∀ P9 : Int32 → mz_St → Prop, (∀ (x1_9 : Int32) (s9 : mz_St), mw_Writer_writeAsItIs_9 K P9 x1_9 s9 → P9 x1_9 s9) →
   P9 0 u1)) s0
set_option maxRecDepth 100000 in
set_option maxHeartbeats 4000000 in
theorem ms_Writer_writeAsItIs (l : Launch) (E : mz_En) (hI : mz_Inj E) (K : mz_St → Prop) (s0 : mz_St) (h : mw_Writer_writeAsItIs K s0) : mz_Cv l E my_Writer_writeAsItIs mb_Writer_writeAsItIs 3 (2) (44) [.ref (E.2.1 9)] s0 K := by
  refine mz_ctv hI (by decide +kernel) (Nat.le_of_ble_eq_true rfl) (fun X C R => ?_)
  show mz_G E X 3 0 [(0, .ref (E.2.1 9))] [] s0
  unfold mw_Writer_writeAsItIs at h
  refine mr_aload_n C 0 md_Writer_writeAsItIs_0 rfl rfl ?_
  refine mr_get C 9 5 mc_Writer_cls ml_380 rfl (by decide) (by decide) (fun _ => rfl) rfl md_Writer_writeAsItIs_1 ?_
  refine mr_cVNv C (As := []) (rest := []) 7 (ms_Code_clear _ E hI _  _ h) mo_Code_clear mi_Code_clear mc_Code_cls ml_528 (by decide) (fun _ => rfl) rfl rfl (Nat.le_of_ble_eq_true rfl) (Nat.le_of_ble_eq_true rfl) (Nat.le_of_ble_eq_true rfl) md_Writer_writeAsItIs_4 (fun u1 h => ?_)
  refine mr_iconst C md_Writer_writeAsItIs_7 mk_iconst_0 ?_
  refine mr_istore_n C (L' := [(1, .int 0), (0, .ref (E.2.1 9))]) md_Writer_writeAsItIs_8 rfl (Nat.le_of_ble_eq_true rfl) rfl ?_
  refine mr_sub [1, 0] rfl ?_
  refine h (fun (x1_9 : Int32) (s9 : mz_St) => mz_G E X 3 9 [(0, .ref (E.2.1 9)), (1, .int x1_9)] [] s9) (fun x1_9 s9 h => ?_)
  unfold mw_Writer_writeAsItIs_9 at h
  refine mr_iload_n C 1 md_Writer_writeAsItIs_9 rfl rfl ?_
  refine mr_aload_n C 0 md_Writer_writeAsItIs_10 rfl rfl ?_
  refine mr_get C 9 0 mc_Writer_cls ml_375 rfl (by decide) (by decide) (fun _ => rfl) rfl md_Writer_writeAsItIs_11 ?_
  refine mr_getN C 1 10 mc_Program_cls ml_63 rfl (by decide) (by decide) (fun _ => rfl) rfl md_Writer_writeAsItIs_14 ?_
  refine mr_icmp_ge C md_Writer_writeAsItIs_17 rfl (fun hc => ?_) (fun hc => ?_)
  · replace h := h.1 hc
    exact mr_vret C R h md_Writer_writeAsItIs_137
  replace h := h.2 hc
  refine mr_aload_n C 0 md_Writer_writeAsItIs_20 rfl rfl ?_
  refine mr_get C 9 5 mc_Writer_cls ml_380 rfl (by decide) (by decide) (fun _ => rfl) rfl md_Writer_writeAsItIs_21 ?_
  refine mr_iload_n C 1 md_Writer_writeAsItIs_24 rfl rfl ?_
  refine mr_cVNv C (As := [.int x1_9]) (rest := []) 7 (ms_Code_begin _ E hI _ x1_9 _ h) mo_Code_begin mi_Code_begin mc_Code_cls ml_535 (by decide) (fun _ => rfl) rfl rfl (Nat.le_of_ble_eq_true rfl) (Nat.le_of_ble_eq_true rfl) (Nat.le_of_ble_eq_true rfl) md_Writer_writeAsItIs_25 (fun u2 h => ?_)
  refine mr_iload_n C 1 md_Writer_writeAsItIs_28 rfl rfl ?_
  refine mr_bipush C md_Writer_writeAsItIs_29 mk_bipush_12 ?_
  refine mr_imul C md_Writer_writeAsItIs_31 ?_
  refine mr_istore_n C (L' := [(2, .int (x1_9 * 12)), (0, .ref (E.2.1 9)), (1, .int x1_9)]) md_Writer_writeAsItIs_32 rfl (Nat.le_of_ble_eq_true rfl) rfl ?_
  refine mr_sub [1, 2, 0] rfl ?_
  refine h (fun (x2_33 : Int32) (s33 : mz_St) => mz_G E X 3 33 [(0, .ref (E.2.1 9)), (1, .int x1_9), (2, .int x2_33)] [] s33) (fun x2_33 s33 h => ?_)
  unfold mw_Writer_writeAsItIs_33 at h
  refine mr_iload_n C 2 md_Writer_writeAsItIs_33 rfl rfl ?_
  refine mr_iload_n C 1 md_Writer_writeAsItIs_34 rfl rfl ?_
  refine mr_bipush C md_Writer_writeAsItIs_35 mk_bipush_12 ?_
  refine mr_imul C md_Writer_writeAsItIs_37 ?_
  refine mr_aload_n C 0 md_Writer_writeAsItIs_38 rfl rfl ?_
  refine mr_get C 9 0 mc_Writer_cls ml_375 rfl (by decide) (by decide) (fun _ => rfl) rfl md_Writer_writeAsItIs_39 ?_
  refine mr_getN C 1 4 mc_Program_cls ml_44 rfl (by decide) (by decide) (fun _ => rfl) rfl md_Writer_writeAsItIs_42 ?_
  refine mr_iload_n C 1 md_Writer_writeAsItIs_45 rfl rfl ?_
  refine mr_iald C 16 10 (by decide) (fun _ => rfl) h.1 md_Writer_writeAsItIs_46 ?_
  replace h := h.2
  refine mr_iadd C md_Writer_writeAsItIs_47 ?_
  refine mr_icmp_ge C md_Writer_writeAsItIs_48 rfl (fun hc => ?_) (fun hc => ?_)
  · replace h := h.1 hc
    refine mr_aload_n C 0 md_Writer_writeAsItIs_105 rfl rfl ?_
    refine mr_get C 9 5 mc_Writer_cls ml_380 rfl (by decide) (by decide) (fun _ => rfl) rfl md_Writer_writeAsItIs_106 ?_
    refine mr_iload_n C 1 md_Writer_writeAsItIs_109 rfl rfl ?_
    refine mr_cVNv C (As := [.int x1_9]) (rest := []) 7 (ms_Code_finish _ E hI _ x1_9 _ h) mo_Code_finish mi_Code_finish mc_Code_cls ml_555 (by decide) (fun _ => rfl) rfl rfl (Nat.le_of_ble_eq_true rfl) (Nat.le_of_ble_eq_true rfl) (Nat.le_of_ble_eq_true rfl) md_Writer_writeAsItIs_110 (fun u3 h => ?_)
    refine mr_aload_n C 0 md_Writer_writeAsItIs_113 rfl rfl ?_
    refine mr_get C 9 5 mc_Writer_cls ml_380 rfl (by decide) (by decide) (fun _ => rfl) rfl md_Writer_writeAsItIs_114 ?_
    refine mr_iload_n C 1 md_Writer_writeAsItIs_117 rfl rfl ?_
    refine mr_aload_n C 0 md_Writer_writeAsItIs_118 rfl rfl ?_
    refine mr_get C 9 0 mc_Writer_cls ml_375 rfl (by decide) (by decide) (fun _ => rfl) rfl md_Writer_writeAsItIs_119 ?_
    refine mr_getN C 1 6 mc_Program_cls ml_54 rfl (by decide) (by decide) (fun _ => rfl) rfl md_Writer_writeAsItIs_122 ?_
    refine mr_iload_n C 1 md_Writer_writeAsItIs_125 rfl rfl ?_
    refine mr_iald C 18 10 (by decide) (fun _ => rfl) h.1 md_Writer_writeAsItIs_126 ?_
    replace h := h.2
    refine mr_iconst C md_Writer_writeAsItIs_127 mk_iconst_0 ?_
    refine mr_cVNv C (As := [.int x1_9, .int (mz_rd u3 18 x1_9), .int 0]) (rest := []) 7 (ms_Code_setEnd _ E hI _ x1_9 (mz_rd u3 18 x1_9) 0 _ h) mo_Code_setEnd mi_Code_setEnd mc_Code_cls ml_559 (by decide) (fun _ => rfl) rfl rfl (Nat.le_of_ble_eq_true rfl) (Nat.le_of_ble_eq_true rfl) (Nat.le_of_ble_eq_true rfl) md_Writer_writeAsItIs_128 (fun u4 h => ?_)
    refine mr_iinc C (L' := [(1, .int (x1_9 + 1)), (0, .ref (E.2.1 9)), (2, .int x2_33)]) 1 md_Writer_writeAsItIs_131 rfl (mk_inc mk_iconst_1) (Nat.le_of_ble_eq_true rfl) rfl ?_
    refine mr_goto C md_Writer_writeAsItIs_134 rfl ?_
    refine mr_sub [1, 0] rfl ?_
    exact h
  replace h := h.2 hc
  refine mr_aload_n C 0 md_Writer_writeAsItIs_51 rfl rfl ?_
  refine mr_get C 9 5 mc_Writer_cls ml_380 rfl (by decide) (by decide) (fun _ => rfl) rfl md_Writer_writeAsItIs_52 ?_
  refine mr_aload_n C 0 md_Writer_writeAsItIs_55 rfl rfl ?_
  refine mr_get C 9 0 mc_Writer_cls ml_375 rfl (by decide) (by decide) (fun _ => rfl) rfl md_Writer_writeAsItIs_56 ?_
  refine mr_getN C 1 0 mc_Program_cls ml_30 rfl (by decide) (by decide) (fun _ => rfl) rfl md_Writer_writeAsItIs_59 ?_
  refine mr_iload_n C 2 md_Writer_writeAsItIs_62 rfl rfl ?_
  refine mr_iald C 12 120 (by decide) (fun _ => rfl) h.1 md_Writer_writeAsItIs_63 ?_
  replace h := h.2
  refine mr_aload_n C 0 md_Writer_writeAsItIs_64 rfl rfl ?_
  refine mr_get C 9 0 mc_Writer_cls ml_375 rfl (by decide) (by decide) (fun _ => rfl) rfl md_Writer_writeAsItIs_65 ?_
  refine mr_getN C 1 1 mc_Program_cls ml_33 rfl (by decide) (by decide) (fun _ => rfl) rfl md_Writer_writeAsItIs_68 ?_
  refine mr_iload_n C 2 md_Writer_writeAsItIs_71 rfl rfl ?_
  refine mr_iald C 13 120 (by decide) (fun _ => rfl) h.1 md_Writer_writeAsItIs_72 ?_
  replace h := h.2
  refine mr_aload_n C 0 md_Writer_writeAsItIs_73 rfl rfl ?_
  refine mr_get C 9 0 mc_Writer_cls ml_375 rfl (by decide) (by decide) (fun _ => rfl) rfl md_Writer_writeAsItIs_74 ?_
  refine mr_getN C 1 2 mc_Program_cls ml_37 rfl (by decide) (by decide) (fun _ => rfl) rfl md_Writer_writeAsItIs_77 ?_
  refine mr_iload_n C 2 md_Writer_writeAsItIs_80 rfl rfl ?_
  refine mr_iald C 14 120 (by decide) (fun _ => rfl) h.1 md_Writer_writeAsItIs_81 ?_
  replace h := h.2
  refine mr_aload_n C 0 md_Writer_writeAsItIs_82 rfl rfl ?_
  refine mr_get C 9 0 mc_Writer_cls ml_375 rfl (by decide) (by decide) (fun _ => rfl) rfl md_Writer_writeAsItIs_83 ?_
  refine mr_getN C 1 3 mc_Program_cls ml_41 rfl (by decide) (by decide) (fun _ => rfl) rfl md_Writer_writeAsItIs_86 ?_
  refine mr_iload_n C 2 md_Writer_writeAsItIs_89 rfl rfl ?_
  refine mr_iald C 15 120 (by decide) (fun _ => rfl) h.1 md_Writer_writeAsItIs_90 ?_
  replace h := h.2
  refine mr_aload_n C 0 md_Writer_writeAsItIs_91 rfl rfl ?_
  refine mr_iload_n C 2 md_Writer_writeAsItIs_92 rfl rfl ?_
  refine mr_cVi C (As := [.int x2_33]) (rest := [.int (mz_rd s33 15 x2_33), .int (mz_rd s33 14 x2_33), .int (mz_rd s33 13 x2_33), .int (mz_rd s33 12 x2_33), .ref (E.2.1 7)]) 9 (ms_Writer_plainForm _ E hI _ x2_33 _ h) mo_Writer_plainForm mi_Writer_plainForm mc_Writer_cls ml_539 (by decide) (fun _ => rfl) rfl rfl (Nat.le_of_ble_eq_true rfl) (Nat.le_of_ble_eq_true rfl) (Nat.le_of_ble_eq_true rfl) md_Writer_writeAsItIs_93 (fun r1 u5 h => ?_)
  refine mr_cVNv C (As := [.int (mz_rd s33 12 x2_33), .int (mz_rd s33 13 x2_33), .int (mz_rd s33 14 x2_33), .int (mz_rd s33 15 x2_33), .int r1]) (rest := []) 7 (ms_Code_add _ E hI _ (mz_rd s33 12 x2_33) (mz_rd s33 13 x2_33) (mz_rd s33 14 x2_33) (mz_rd s33 15 x2_33) r1 _ h) mo_Code_add mi_Code_add mc_Code_cls ml_551 (by decide) (fun _ => rfl) rfl rfl (Nat.le_of_ble_eq_true rfl) (Nat.le_of_ble_eq_true rfl) (Nat.le_of_ble_eq_true rfl) md_Writer_writeAsItIs_96 (fun u6 h => ?_)
  refine mr_iinc C (L' := [(2, .int (x2_33 + 1)), (0, .ref (E.2.1 9)), (1, .int x1_9)]) 2 md_Writer_writeAsItIs_99 rfl (mk_inc mk_iconst_1) (Nat.le_of_ble_eq_true rfl) rfl ?_
  refine mr_goto C md_Writer_writeAsItIs_102 rfl ?_
  refine mr_sub [1, 2, 0] rfl ?_
  exact h
/-- ValueMill$Writer.bring(II)I: what it does, as a transformer of what must hold behind it -/
def mw_Writer_bring (K : Int32 → mz_St → Prop) (a0 : Int32) (a1 : Int32) (s0 : mz_St) : Prop :=
  vp_in a0 221 ∧
  mw_Stands_isNumber (fun r1 u1 =>
   ((r1 = 0 →
    vp_in (mz_rd s0 38 a0) 221 ∧
    mw_Homes_isSlot (fun r2 u2 =>
     ((¬ r2 = 0 →
      mw_Code_addMove (fun u3 =>
       K a1 u3) a1 (mz_rd u1 40 (mz_rd s0 38 a0)) 0 u2) ∧
     (r2 = 0 →
      K (mz_rd u1 40 (mz_rd s0 38 a0)) u2))) (mz_rd u1 40 (mz_rd s0 38 a0)) u1) ∧
   (¬ r1 = 0 →
    K (mz_rd s0 38 a0) u1))) a0 s0
set_option maxRecDepth 100000 in
set_option maxHeartbeats 4000000 in
theorem ms_Writer_bring (l : Launch) (E : mz_En) (hI : mz_Inj E) (K : Int32 → mz_St → Prop) (a0 : Int32) (a1 : Int32) (s0 : mz_St) (h : mw_Writer_bring K a0 a1 s0) : mz_Ci l E my_Writer_bring mb_Writer_bring 5 (some .int) (2) (48) [.ref (E.2.1 9), .int a0, .int a1] s0 K := by
  refine mz_cti hI (by decide +kernel) (Nat.le_of_ble_eq_true rfl) (fun X C R => ?_)
  show mz_G E X 5 0 [(0, .ref (E.2.1 9)), (1, .int a0), (2, .int a1)] [] s0
  unfold mw_Writer_bring at h
  refine mr_aload_n C 0 md_Writer_bring_0 rfl rfl ?_
  refine mr_get C 9 3 mc_Writer_cls ml_378 rfl (by decide) (by decide) (fun _ => rfl) rfl md_Writer_bring_1 ?_
  refine mr_getN C 5 5 mc_Stands_cls ml_226 rfl (by decide) (by decide) (fun _ => rfl) rfl md_Writer_bring_4 ?_
  refine mr_iload_n C 1 md_Writer_bring_7 rfl rfl ?_
  refine mr_iald C 38 221 (by decide) (fun _ => rfl) h.1 md_Writer_bring_8 ?_
  replace h := h.2
  refine mr_istore_n C (L' := [(3, .int (mz_rd s0 38 a0)), (0, .ref (E.2.1 9)), (1, .int a0), (2, .int a1)]) md_Writer_bring_9 rfl (Nat.le_of_ble_eq_true rfl) rfl ?_
  refine mr_aload_n C 1 md_Writer_bring_10 rfl rfl ?_
  refine mr_get C 9 3 mc_Writer_cls ml_378 rfl (by decide) (by decide) (fun _ => rfl) rfl md_Writer_bring_11 ?_
  refine mr_iload_n C 2 md_Writer_bring_14 rfl rfl ?_
  refine mr_cVNi C (As := [.int a0]) (rest := []) 5 (ms_Stands_isNumber _ E hI _ a0 _ h) mo_Stands_isNumber mi_Stands_isNumber mc_Stands_cls ml_857 (by decide) (fun _ => rfl) rfl rfl (Nat.le_of_ble_eq_true rfl) (Nat.le_of_ble_eq_true rfl) (Nat.le_of_ble_eq_true rfl) md_Writer_bring_15 (fun r1 u1 h => ?_)
  refine mr_if_eq C md_Writer_bring_18 rfl (fun hc => ?_) (fun hc => ?_)
  · replace h := h.1 hc
    refine mr_aload_n C 1 md_Writer_bring_23 rfl rfl ?_
    refine mr_get C 9 4 mc_Writer_cls ml_379 rfl (by decide) (by decide) (fun _ => rfl) rfl md_Writer_bring_24 ?_
    refine mr_getN C 6 5 mc_Homes_cls ml_256 rfl (by decide) (by decide) (fun _ => rfl) rfl md_Writer_bring_27 ?_
    refine mr_iload_n C 0 md_Writer_bring_30 rfl rfl ?_
    refine mr_iald C 40 221 (by decide) (fun _ => rfl) h.1 md_Writer_bring_31 ?_
    replace h := h.2
    refine mr_istore C (L' := [(4, .int (mz_rd u1 40 (mz_rd s0 38 a0))), (3, .int (mz_rd s0 38 a0)), (0, .ref (E.2.1 9)), (1, .int a0), (2, .int a1)]) md_Writer_bring_32 (Nat.le_of_ble_eq_true rfl) rfl ?_
    refine mr_aload_n C 2 md_Writer_bring_34 rfl rfl ?_
    refine mr_get C 9 4 mc_Writer_cls ml_379 rfl (by decide) (by decide) (fun _ => rfl) rfl md_Writer_bring_35 ?_
    refine mr_iload C 0 md_Writer_bring_38 rfl ?_
    refine mr_cVNi C (As := [.int (mz_rd u1 40 (mz_rd s0 38 a0))]) (rest := []) 6 (ms_Homes_isSlot _ E hI _ (mz_rd u1 40 (mz_rd s0 38 a0)) _ h) mo_Homes_isSlot mi_Homes_isSlot mc_Homes_cls ml_862 (by decide) (fun _ => rfl) rfl rfl (Nat.le_of_ble_eq_true rfl) (Nat.le_of_ble_eq_true rfl) (Nat.le_of_ble_eq_true rfl) md_Writer_bring_40 (fun r2 u2 h => ?_)
    refine mr_if_ne C md_Writer_bring_43 rfl (fun hc => ?_) (fun hc => ?_)
    · replace h := h.1 hc
      refine mr_aload_n C 2 md_Writer_bring_49 rfl rfl ?_
      refine mr_get C 9 5 mc_Writer_cls ml_380 rfl (by decide) (by decide) (fun _ => rfl) rfl md_Writer_bring_50 ?_
      refine mr_iload_n C 4 md_Writer_bring_53 rfl rfl ?_
      refine mr_iload C 0 md_Writer_bring_54 rfl ?_
      refine mr_iconst C md_Writer_bring_56 mk_iconst_0 ?_
      refine mr_cVNv C (As := [.int a1, .int (mz_rd u1 40 (mz_rd s0 38 a0)), .int 0]) (rest := []) 7 (ms_Code_addMove _ E hI _ a1 (mz_rd u1 40 (mz_rd s0 38 a0)) 0 _ h) mo_Code_addMove mi_Code_addMove mc_Code_cls ml_866 (by decide) (fun _ => rfl) rfl rfl (Nat.le_of_ble_eq_true rfl) (Nat.le_of_ble_eq_true rfl) (Nat.le_of_ble_eq_true rfl) md_Writer_bring_57 (fun u3 h => ?_)
      refine mr_iload_n C 4 md_Writer_bring_60 rfl rfl ?_
      exact mr_iret C R h md_Writer_bring_61
    replace h := h.2 hc
    refine mr_iload C 0 md_Writer_bring_46 rfl ?_
    exact mr_iret C R h md_Writer_bring_48
  replace h := h.2 hc
  refine mr_iload_n C 0 md_Writer_bring_21 rfl rfl ?_
  exact mr_iret C R h md_Writer_bring_22
def mw_Writer_writeOperation_160 (K : mz_St → Prop) (a0 : Int32) (s0 : mz_St) (x4_98 : Int32) (x3_160 : Int32) (x5_160 : Int32) (s160 : mz_St) : Prop :=
  mw_Program_makesValue (fun r4 u4 =>
   ((¬ r4 = 0 →
    mw_Mill_madeName (fun r5 u5 =>
     vp_in r5 221 ∧
     mw_Homes_isSlot (fun r6 u6 =>
      ((r6 = 0 →
       mw_Code_add (fun u7 =>
        K u7) (mz_rd s0 12 a0) (mz_rd u5 40 r5) x4_98 x5_160 x3_160 u6) ∧
      (¬ r6 = 0 →
       mw_Code_add (fun u8 =>
        mw_Code_addMove (fun u9 =>
         K u9) (mz_rd u5 40 r5) (u8 1008 0) 0 u8) (mz_rd s0 12 a0) (u6 1008 0) x4_98 x5_160 x3_160 u6))) (mz_rd u5 40 r5) u5) a0 u4) ∧
   (r4 = 0 →
    mw_Code_add (fun u10 =>
     K u10) (mz_rd s0 12 a0) 0 x4_98 x5_160 x3_160 u4))) a0 s160
def mw_Writer_writeOperation_134 (a0 : Int32) (P160 : Int32 → Int32 → mz_St → Prop) (y0_134 : Int32) (y1_134 : Int32) (s134 : mz_St) : Prop :=
  vp_in a0 120 ∧
  mw_Writer_bring (fun r8 u12 =>
   P160 (y1_134 ||| y0_134) r8 u12) (mz_rd s134 34 a0) ((s134 1008 0) + 1) s134
def mw_Writer_writeOperation_98 (K : mz_St → Prop) (a0 : Int32) (s0 : mz_St) (u1 : mz_St) (x3_98 : Int32) (x4_98 : Int32) (s98 : mz_St) : Prop :=
  mw_Program_takesB (fun r3 u3 =>
   (∀ P160 : Int32 → Int32 → mz_St → Prop, (∀ (x3_160 : Int32) (x5_160 : Int32) (s160 : mz_St), mw_Writer_writeOperation_160 K a0 s0 x4_98 x3_160 x5_160 s160 → P160 x3_160 x5_160 s160) →
   ((r3 = 0 →
    P160 x3_98 (mz_rd u1 15 a0) u3) ∧
   (¬ r3 = 0 →
    vp_in a0 120 ∧
    mw_Stands_isNumber (fun r7 u11 =>
     (∀ P134 : Int32 → Int32 → mz_St → Prop, (∀ (y0_134 : Int32) (y1_134 : Int32) (s134 : mz_St), mw_Writer_writeOperation_134 a0 P160 y0_134 y1_134 s134 → P134 y0_134 y1_134 s134) →
     ((r7 = 0 →
      P134 0 x3_98 u11) ∧
     (¬ r7 = 0 →
      P134 2 x3_98 u11)))) (mz_rd u3 34 a0) u3)))) a0 s98
def mw_Writer_writeOperation_74 (a0 : Int32) (P98 : Int32 → Int32 → mz_St → Prop) (y0_74 : Int32) (y1_74 : Int32) (s74 : mz_St) : Prop :=
  vp_in a0 120 ∧
  mw_Writer_bring (fun r10 u14 =>
   P98 (y1_74 ||| y0_74) r10 u14) (mz_rd s74 33 a0) (s74 1008 0) s74
/-- ValueMill$Writer.writeOperation(I)V: what it does, as a transformer of what must hold behind it -/
def mw_Writer_writeOperation (K : mz_St → Prop) (a0 : Int32) (s0 : mz_St) : Prop :=
  vp_in a0 120 ∧
  mw_Writer_plainForm (fun r1 u1 =>
   vp_in a0 120 ∧
   vp_in a0 120 ∧
   mw_Program_takesA (fun r2 u2 =>
    (∀ P98 : Int32 → Int32 → mz_St → Prop, (∀ (x3_98 : Int32) (x4_98 : Int32) (s98 : mz_St), mw_Writer_writeOperation_98 K a0 s0 u1 x3_98 x4_98 s98 → P98 x3_98 x4_98 s98) →
    ((r2 = 0 →
     P98 r1 (mz_rd u1 14 a0) u2) ∧
    (¬ r2 = 0 →
     vp_in a0 120 ∧
     mw_Stands_isNumber (fun r9 u13 =>
      (∀ P74 : Int32 → Int32 → mz_St → Prop, (∀ (y0_74 : Int32) (y1_74 : Int32) (s74 : mz_St), mw_Writer_writeOperation_74 a0 P98 y0_74 y1_74 s74 → P74 y0_74 y1_74 s74) →
      ((r9 = 0 →
       P74 0 r1 u13) ∧
      (¬ r9 = 0 →
       P74 1 r1 u13)))) (mz_rd u2 33 a0) u2)))) a0 u1) a0 s0
set_option maxRecDepth 100000 in
set_option maxHeartbeats 4000000 in
theorem ms_Writer_writeOperation (l : Launch) (E : mz_En) (hI : mz_Inj E) (K : mz_St → Prop) (a0 : Int32) (s0 : mz_St) (h : mw_Writer_writeOperation K a0 s0) : mz_Cv l E my_Writer_writeOperation mb_Writer_writeOperation 7 (3) (72) [.ref (E.2.1 9), .int a0] s0 K := by
  refine mz_ctv hI (by decide +kernel) (Nat.le_of_ble_eq_true rfl) (fun X C R => ?_)
  show mz_G E X 7 0 [(0, .ref (E.2.1 9)), (1, .int a0)] [] s0
  unfold mw_Writer_writeOperation at h
  refine mr_aload_n C 0 md_Writer_writeOperation_0 rfl rfl ?_
  refine mr_get C 9 0 mc_Writer_cls ml_375 rfl (by decide) (by decide) (fun _ => rfl) rfl md_Writer_writeOperation_1 ?_
  refine mr_getN C 1 0 mc_Program_cls ml_30 rfl (by decide) (by decide) (fun _ => rfl) rfl md_Writer_writeOperation_4 ?_
  refine mr_iload_n C 1 md_Writer_writeOperation_7 rfl rfl ?_
  refine mr_iald C 12 120 (by decide) (fun _ => rfl) h.1 md_Writer_writeOperation_8 ?_
  replace h := h.2
  refine mr_istore_n C (L' := [(2, .int (mz_rd s0 12 a0)), (0, .ref (E.2.1 9)), (1, .int a0)]) md_Writer_writeOperation_9 rfl (Nat.le_of_ble_eq_true rfl) rfl ?_
  refine mr_aload_n C 1 md_Writer_writeOperation_10 rfl rfl ?_
  refine mr_iload_n C 2 md_Writer_writeOperation_11 rfl rfl ?_
  refine mr_cVi C (As := [.int a0]) (rest := []) 9 (ms_Writer_plainForm _ E hI _ a0 _ h) mo_Writer_plainForm mi_Writer_plainForm mc_Writer_cls ml_539 (by decide) (fun _ => rfl) rfl rfl (Nat.le_of_ble_eq_true rfl) (Nat.le_of_ble_eq_true rfl) (Nat.le_of_ble_eq_true rfl) md_Writer_writeOperation_12 (fun r1 u1 h => ?_)
  refine mr_istore_n C (L' := [(3, .int r1), (2, .int (mz_rd s0 12 a0)), (0, .ref (E.2.1 9)), (1, .int a0)]) md_Writer_writeOperation_15 rfl (Nat.le_of_ble_eq_true rfl) rfl ?_
  refine mr_aload_n C 2 md_Writer_writeOperation_16 rfl rfl ?_
  refine mr_get C 9 0 mc_Writer_cls ml_375 rfl (by decide) (by decide) (fun _ => rfl) rfl md_Writer_writeOperation_17 ?_
  refine mr_getN C 1 2 mc_Program_cls ml_37 rfl (by decide) (by decide) (fun _ => rfl) rfl md_Writer_writeOperation_20 ?_
  refine mr_iload_n C 3 md_Writer_writeOperation_23 rfl rfl ?_
  refine mr_iald C 14 120 (by decide) (fun _ => rfl) h.1 md_Writer_writeOperation_24 ?_
  replace h := h.2
  refine mr_istore C (L' := [(4, .int (mz_rd u1 14 a0)), (3, .int r1), (2, .int (mz_rd s0 12 a0)), (0, .ref (E.2.1 9)), (1, .int a0)]) md_Writer_writeOperation_25 (Nat.le_of_ble_eq_true rfl) rfl ?_
  refine mr_aload_n C 3 md_Writer_writeOperation_27 rfl rfl ?_
  refine mr_get C 9 0 mc_Writer_cls ml_375 rfl (by decide) (by decide) (fun _ => rfl) rfl md_Writer_writeOperation_28 ?_
  refine mr_getN C 1 3 mc_Program_cls ml_41 rfl (by decide) (by decide) (fun _ => rfl) rfl md_Writer_writeOperation_31 ?_
  refine mr_iload_n C 4 md_Writer_writeOperation_34 rfl rfl ?_
  refine mr_iald C 15 120 (by decide) (fun _ => rfl) h.1 md_Writer_writeOperation_35 ?_
  replace h := h.2
  refine mr_istore C (L' := [(5, .int (mz_rd u1 15 a0)), (4, .int (mz_rd u1 14 a0)), (3, .int r1), (2, .int (mz_rd s0 12 a0)), (0, .ref (E.2.1 9)), (1, .int a0)]) md_Writer_writeOperation_36 (Nat.le_of_ble_eq_true rfl) rfl ?_
  refine mr_aload_n C 4 md_Writer_writeOperation_38 rfl rfl ?_
  refine mr_get C 9 0 mc_Writer_cls ml_375 rfl (by decide) (by decide) (fun _ => rfl) rfl md_Writer_writeOperation_39 ?_
  refine mr_iload_n C 5 md_Writer_writeOperation_42 rfl rfl ?_
  refine mr_cVNi C (As := [.int a0]) (rest := []) 1 (ms_Program_takesA _ E hI _ a0 _ h) mo_Program_takesA mi_Program_takesA mc_Program_cls ml_543 (by decide) (fun _ => rfl) rfl rfl (Nat.le_of_ble_eq_true rfl) (Nat.le_of_ble_eq_true rfl) (Nat.le_of_ble_eq_true rfl) md_Writer_writeOperation_43 (fun r2 u2 h => ?_)
  refine mj (h (fun (x3_98 : Int32) (x4_98 : Int32) (s98 : mz_St) => mz_G E X 7 98 [(0, .ref (E.2.1 9)), (1, .int a0), (2, .int (mz_rd s0 12 a0)), (3, .int x3_98), (4, .int x4_98), (5, .int (mz_rd u1 15 a0))] [] s98) (fun x3_98 x4_98 s98 h => ?_)) (fun h => ?_)
  · unfold mw_Writer_writeOperation_98 at h
    refine mr_aload_n C 0 md_Writer_writeOperation_98 rfl rfl ?_
    refine mr_get C 9 0 mc_Writer_cls ml_375 rfl (by decide) (by decide) (fun _ => rfl) rfl md_Writer_writeOperation_99 ?_
    refine mr_iload_n C 1 md_Writer_writeOperation_102 rfl rfl ?_
    refine mr_cVNi C (As := [.int a0]) (rest := []) 1 (ms_Program_takesB _ E hI _ a0 _ h) mo_Program_takesB mi_Program_takesB mc_Program_cls ml_547 (by decide) (fun _ => rfl) rfl rfl (Nat.le_of_ble_eq_true rfl) (Nat.le_of_ble_eq_true rfl) (Nat.le_of_ble_eq_true rfl) md_Writer_writeOperation_103 (fun r3 u3 h => ?_)
    refine mj (h (fun (x3_160 : Int32) (x5_160 : Int32) (s160 : mz_St) => mz_G E X 7 160 [(0, .ref (E.2.1 9)), (1, .int a0), (2, .int (mz_rd s0 12 a0)), (3, .int x3_160), (4, .int x4_98), (5, .int x5_160)] [] s160) (fun x3_160 x5_160 s160 h => ?_)) (fun h => ?_)
    · unfold mw_Writer_writeOperation_160 at h
      refine mr_aload_n C 0 md_Writer_writeOperation_160 rfl rfl ?_
      refine mr_get C 9 0 mc_Writer_cls ml_375 rfl (by decide) (by decide) (fun _ => rfl) rfl md_Writer_writeOperation_161 ?_
      refine mr_iload_n C 1 md_Writer_writeOperation_164 rfl rfl ?_
      refine mr_cVNi C (As := [.int a0]) (rest := []) 1 (ms_Program_makesValue _ E hI _ a0 _ h) mo_Program_makesValue mi_Program_makesValue mc_Program_cls ml_871 (by decide) (fun _ => rfl) rfl rfl (Nat.le_of_ble_eq_true rfl) (Nat.le_of_ble_eq_true rfl) (Nat.le_of_ble_eq_true rfl) md_Writer_writeOperation_165 (fun r4 u4 h => ?_)
      refine mr_if_ne C md_Writer_writeOperation_168 rfl (fun hc => ?_) (fun hc => ?_)
      · replace h := h.1 hc
        refine mr_aload_n C 0 md_Writer_writeOperation_186 rfl rfl ?_
        refine mr_get C 9 4 mc_Writer_cls ml_379 rfl (by decide) (by decide) (fun _ => rfl) rfl md_Writer_writeOperation_187 ?_
        refine mr_getN C 6 5 mc_Homes_cls ml_256 rfl (by decide) (by decide) (fun _ => rfl) rfl md_Writer_writeOperation_190 ?_
        refine mr_iload_n C 1 md_Writer_writeOperation_193 rfl rfl ?_
        refine mr_cSNi C (As := [.int a0]) (rest := [.ref (E.2.1 40)]) (ms_Mill_madeName _ E hI _ a0 _ h) mo_Mill_madeName mt_Mill_madeName ml_872 rfl rfl (Nat.le_of_ble_eq_true rfl) (Nat.le_of_ble_eq_true rfl) (Nat.le_of_ble_eq_true rfl) md_Writer_writeOperation_194 (fun r5 u5 h => ?_)
        refine mr_iald C 40 221 (by decide) (fun _ => rfl) h.1 md_Writer_writeOperation_197 ?_
        replace h := h.2
        refine mr_istore C (L' := [(6, .int (mz_rd u5 40 r5)), (0, .ref (E.2.1 9)), (1, .int a0), (2, .int (mz_rd s0 12 a0)), (3, .int x3_160), (4, .int x4_98), (5, .int x5_160)]) md_Writer_writeOperation_198 (Nat.le_of_ble_eq_true rfl) rfl ?_
        refine mr_aload_n C 1 md_Writer_writeOperation_200 rfl rfl ?_
        refine mr_get C 9 4 mc_Writer_cls ml_379 rfl (by decide) (by decide) (fun _ => rfl) rfl md_Writer_writeOperation_201 ?_
        refine mr_iload C 0 md_Writer_writeOperation_204 rfl ?_
        refine mr_cVNi C (As := [.int (mz_rd u5 40 r5)]) (rest := []) 6 (ms_Homes_isSlot _ E hI _ (mz_rd u5 40 r5) _ h) mo_Homes_isSlot mi_Homes_isSlot mc_Homes_cls ml_862 (by decide) (fun _ => rfl) rfl rfl (Nat.le_of_ble_eq_true rfl) (Nat.le_of_ble_eq_true rfl) (Nat.le_of_ble_eq_true rfl) md_Writer_writeOperation_206 (fun r6 u6 h => ?_)
        refine mr_if_eq C md_Writer_writeOperation_209 rfl (fun hc => ?_) (fun hc => ?_)
        · replace h := h.1 hc
          refine mr_aload_n C 1 md_Writer_writeOperation_252 rfl rfl ?_
          refine mr_get C 9 5 mc_Writer_cls ml_380 rfl (by decide) (by decide) (fun _ => rfl) rfl md_Writer_writeOperation_253 ?_
          refine mr_iload_n C 3 md_Writer_writeOperation_256 rfl rfl ?_
          refine mr_iload C 0 md_Writer_writeOperation_257 rfl ?_
          refine mr_iload C 5 md_Writer_writeOperation_259 rfl ?_
          refine mr_iload C 6 md_Writer_writeOperation_261 rfl ?_
          refine mr_iload_n C 4 md_Writer_writeOperation_263 rfl rfl ?_
          refine mr_cVNv C (As := [.int (mz_rd s0 12 a0), .int (mz_rd u5 40 r5), .int x4_98, .int x5_160, .int x3_160]) (rest := []) 7 (ms_Code_add _ E hI _ (mz_rd s0 12 a0) (mz_rd u5 40 r5) x4_98 x5_160 x3_160 _ h) mo_Code_add mi_Code_add mc_Code_cls ml_551 (by decide) (fun _ => rfl) rfl rfl (Nat.le_of_ble_eq_true rfl) (Nat.le_of_ble_eq_true rfl) (Nat.le_of_ble_eq_true rfl) md_Writer_writeOperation_264 (fun u7 h => ?_)
          exact mr_vret C R h md_Writer_writeOperation_267
        replace h := h.2 hc
        refine mr_aload_n C 1 md_Writer_writeOperation_212 rfl rfl ?_
        refine mr_get C 9 5 mc_Writer_cls ml_380 rfl (by decide) (by decide) (fun _ => rfl) rfl md_Writer_writeOperation_213 ?_
        refine mr_iload_n C 3 md_Writer_writeOperation_216 rfl rfl ?_
        refine mr_aload_n C 1 md_Writer_writeOperation_217 rfl rfl ?_
        refine mr_get C 9 4 mc_Writer_cls ml_379 rfl (by decide) (by decide) (fun _ => rfl) rfl md_Writer_writeOperation_218 ?_
        refine mr_getN C 6 11 mc_Homes_cls ml_263 rfl (by decide) (by decide) (fun _ => rfl) rfl md_Writer_writeOperation_221 ?_
        refine mr_iload C 5 md_Writer_writeOperation_224 rfl ?_
        refine mr_iload C 6 md_Writer_writeOperation_226 rfl ?_
        refine mr_iload_n C 4 md_Writer_writeOperation_228 rfl rfl ?_
        refine mr_cVNv C (As := [.int (mz_rd s0 12 a0), .int (u6 1008 0), .int x4_98, .int x5_160, .int x3_160]) (rest := []) 7 (ms_Code_add _ E hI _ (mz_rd s0 12 a0) (u6 1008 0) x4_98 x5_160 x3_160 _ h) mo_Code_add mi_Code_add mc_Code_cls ml_551 (by decide) (fun _ => rfl) rfl rfl (Nat.le_of_ble_eq_true rfl) (Nat.le_of_ble_eq_true rfl) (Nat.le_of_ble_eq_true rfl) md_Writer_writeOperation_229 (fun u8 h => ?_)
        refine mr_aload_n C 1 md_Writer_writeOperation_232 rfl rfl ?_
        refine mr_get C 9 5 mc_Writer_cls ml_380 rfl (by decide) (by decide) (fun _ => rfl) rfl md_Writer_writeOperation_233 ?_
        refine mr_iload C 0 md_Writer_writeOperation_236 rfl ?_
        refine mr_aload_n C 1 md_Writer_writeOperation_238 rfl rfl ?_
        refine mr_get C 9 4 mc_Writer_cls ml_379 rfl (by decide) (by decide) (fun _ => rfl) rfl md_Writer_writeOperation_239 ?_
        refine mr_getN C 6 11 mc_Homes_cls ml_263 rfl (by decide) (by decide) (fun _ => rfl) rfl md_Writer_writeOperation_242 ?_
        refine mr_iconst C md_Writer_writeOperation_245 mk_iconst_0 ?_
        refine mr_cVNv C (As := [.int (mz_rd u5 40 r5), .int (u8 1008 0), .int 0]) (rest := []) 7 (ms_Code_addMove _ E hI _ (mz_rd u5 40 r5) (u8 1008 0) 0 _ h) mo_Code_addMove mi_Code_addMove mc_Code_cls ml_866 (by decide) (fun _ => rfl) rfl rfl (Nat.le_of_ble_eq_true rfl) (Nat.le_of_ble_eq_true rfl) (Nat.le_of_ble_eq_true rfl) md_Writer_writeOperation_246 (fun u9 h => ?_)
        refine mr_goto C md_Writer_writeOperation_249 rfl ?_
        exact mr_vret C R h md_Writer_writeOperation_267
      replace h := h.2 hc
      refine mr_aload_n C 0 md_Writer_writeOperation_171 rfl rfl ?_
      refine mr_get C 9 5 mc_Writer_cls ml_380 rfl (by decide) (by decide) (fun _ => rfl) rfl md_Writer_writeOperation_172 ?_
      refine mr_iload_n C 2 md_Writer_writeOperation_175 rfl rfl ?_
      refine mr_iconst C md_Writer_writeOperation_176 mk_iconst_0 ?_
      refine mr_iload C 4 md_Writer_writeOperation_177 rfl ?_
      refine mr_iload C 5 md_Writer_writeOperation_179 rfl ?_
      refine mr_iload_n C 3 md_Writer_writeOperation_181 rfl rfl ?_
      refine mr_cVNv C (As := [.int (mz_rd s0 12 a0), .int 0, .int x4_98, .int x5_160, .int x3_160]) (rest := []) 7 (ms_Code_add _ E hI _ (mz_rd s0 12 a0) 0 x4_98 x5_160 x3_160 _ h) mo_Code_add mi_Code_add mc_Code_cls ml_551 (by decide) (fun _ => rfl) rfl rfl (Nat.le_of_ble_eq_true rfl) (Nat.le_of_ble_eq_true rfl) (Nat.le_of_ble_eq_true rfl) md_Writer_writeOperation_182 (fun u10 h => ?_)
      exact mr_vret C R h md_Writer_writeOperation_185
    refine mr_if_eq C md_Writer_writeOperation_106 rfl (fun hc => ?_) (fun hc => ?_)
    · replace h := h.1 hc
      exact h
    replace h := h.2 hc
    refine mr_iload_n C 3 md_Writer_writeOperation_109 rfl rfl ?_
    refine mr_aload_n C 0 md_Writer_writeOperation_110 rfl rfl ?_
    refine mr_get C 9 3 mc_Writer_cls ml_378 rfl (by decide) (by decide) (fun _ => rfl) rfl md_Writer_writeOperation_111 ?_
    refine mr_aload_n C 0 md_Writer_writeOperation_114 rfl rfl ?_
    refine mr_get C 9 2 mc_Writer_cls ml_377 rfl (by decide) (by decide) (fun _ => rfl) rfl md_Writer_writeOperation_115 ?_
    refine mr_getN C 4 4 mc_Names_cls ml_193 rfl (by decide) (by decide) (fun _ => rfl) rfl md_Writer_writeOperation_118 ?_
    refine mr_iload_n C 1 md_Writer_writeOperation_121 rfl rfl ?_
    refine mr_iald C 34 120 (by decide) (fun _ => rfl) h.1 md_Writer_writeOperation_122 ?_
    replace h := h.2
    refine mr_cVNi C (As := [.int (mz_rd u3 34 a0)]) (rest := [.int x3_98]) 5 (ms_Stands_isNumber _ E hI _ (mz_rd u3 34 a0) _ h) mo_Stands_isNumber mi_Stands_isNumber mc_Stands_cls ml_857 (by decide) (fun _ => rfl) rfl rfl (Nat.le_of_ble_eq_true rfl) (Nat.le_of_ble_eq_true rfl) (Nat.le_of_ble_eq_true rfl) md_Writer_writeOperation_123 (fun r7 u11 h => ?_)
    refine mj (h (fun (y0_134 : Int32) (y1_134 : Int32) (s134 : mz_St) => mz_G E X 7 134 [(0, .ref (E.2.1 9)), (1, .int a0), (2, .int (mz_rd s0 12 a0)), (4, .int x4_98)] [.int y0_134, .int y1_134] s134) (fun y0_134 y1_134 s134 h => ?_)) (fun h => ?_)
    · unfold mw_Writer_writeOperation_134 at h
      refine mr_ior C md_Writer_writeOperation_134 ?_
      refine mr_istore_n C (L' := [(3, .int (y1_134 ||| y0_134)), (0, .ref (E.2.1 9)), (1, .int a0), (2, .int (mz_rd s0 12 a0)), (4, .int x4_98)]) md_Writer_writeOperation_135 rfl (Nat.le_of_ble_eq_true rfl) rfl ?_
      refine mr_aload_n C 1 md_Writer_writeOperation_136 rfl rfl ?_
      refine mr_aload_n C 1 md_Writer_writeOperation_137 rfl rfl ?_
      refine mr_get C 9 2 mc_Writer_cls ml_377 rfl (by decide) (by decide) (fun _ => rfl) rfl md_Writer_writeOperation_138 ?_
      refine mr_getN C 4 4 mc_Names_cls ml_193 rfl (by decide) (by decide) (fun _ => rfl) rfl md_Writer_writeOperation_141 ?_
      refine mr_iload_n C 2 md_Writer_writeOperation_144 rfl rfl ?_
      refine mr_iald C 34 120 (by decide) (fun _ => rfl) h.1 md_Writer_writeOperation_145 ?_
      replace h := h.2
      refine mr_aload_n C 1 md_Writer_writeOperation_146 rfl rfl ?_
      refine mr_get C 9 4 mc_Writer_cls ml_379 rfl (by decide) (by decide) (fun _ => rfl) rfl md_Writer_writeOperation_147 ?_
      refine mr_getN C 6 11 mc_Homes_cls ml_263 rfl (by decide) (by decide) (fun _ => rfl) rfl md_Writer_writeOperation_150 ?_
      refine mr_iconst C md_Writer_writeOperation_153 mk_iconst_1 ?_
      refine mr_iadd C md_Writer_writeOperation_154 ?_
      refine mr_cVi C (As := [.int (mz_rd s134 34 a0), .int ((s134 1008 0) + 1)]) (rest := []) 9 (ms_Writer_bring _ E hI _ (mz_rd s134 34 a0) ((s134 1008 0) + 1) _ h) mo_Writer_bring mi_Writer_bring mc_Writer_cls ml_858 (by decide) (fun _ => rfl) rfl rfl (Nat.le_of_ble_eq_true rfl) (Nat.le_of_ble_eq_true rfl) (Nat.le_of_ble_eq_true rfl) md_Writer_writeOperation_155 (fun r8 u12 h => ?_)
      refine mr_istore C (L' := [(5, .int r8), (3, .int (y1_134 ||| y0_134)), (0, .ref (E.2.1 9)), (1, .int a0), (2, .int (mz_rd s0 12 a0)), (4, .int x4_98)]) md_Writer_writeOperation_158 (Nat.le_of_ble_eq_true rfl) rfl ?_
      refine mr_sub [2, 3, 4, 1, 5, 0] rfl ?_
      exact h
    refine mr_if_eq C md_Writer_writeOperation_126 rfl (fun hc => ?_) (fun hc => ?_)
    · replace h := h.1 hc
      refine mr_iconst C md_Writer_writeOperation_133 mk_iconst_0 ?_
      refine mr_sub [0, 1, 2, 4] rfl ?_
      exact h
    replace h := h.2 hc
    refine mr_iconst C md_Writer_writeOperation_129 mk_iconst_2 ?_
    refine mr_goto C md_Writer_writeOperation_130 rfl ?_
    refine mr_sub [0, 1, 2, 4] rfl ?_
    exact h
  refine mr_if_eq C md_Writer_writeOperation_46 rfl (fun hc => ?_) (fun hc => ?_)
  · replace h := h.1 hc
    refine mr_sub [4, 5, 3, 2, 1, 0] rfl ?_
    exact h
  replace h := h.2 hc
  refine mr_iload_n C 2 md_Writer_writeOperation_49 rfl rfl ?_
  refine mr_aload_n C 4 md_Writer_writeOperation_50 rfl rfl ?_
  refine mr_get C 9 3 mc_Writer_cls ml_378 rfl (by decide) (by decide) (fun _ => rfl) rfl md_Writer_writeOperation_51 ?_
  refine mr_aload_n C 4 md_Writer_writeOperation_54 rfl rfl ?_
  refine mr_get C 9 2 mc_Writer_cls ml_377 rfl (by decide) (by decide) (fun _ => rfl) rfl md_Writer_writeOperation_55 ?_
  refine mr_getN C 4 3 mc_Names_cls ml_189 rfl (by decide) (by decide) (fun _ => rfl) rfl md_Writer_writeOperation_58 ?_
  refine mr_iload_n C 5 md_Writer_writeOperation_61 rfl rfl ?_
  refine mr_iald C 33 120 (by decide) (fun _ => rfl) h.1 md_Writer_writeOperation_62 ?_
  replace h := h.2
  refine mr_cVNi C (As := [.int (mz_rd u2 33 a0)]) (rest := [.int r1]) 5 (ms_Stands_isNumber _ E hI _ (mz_rd u2 33 a0) _ h) mo_Stands_isNumber mi_Stands_isNumber mc_Stands_cls ml_857 (by decide) (fun _ => rfl) rfl rfl (Nat.le_of_ble_eq_true rfl) (Nat.le_of_ble_eq_true rfl) (Nat.le_of_ble_eq_true rfl) md_Writer_writeOperation_63 (fun r9 u13 h => ?_)
  refine mj (h (fun (y0_74 : Int32) (y1_74 : Int32) (s74 : mz_St) => mz_G E X 7 74 [(0, .ref (E.2.1 9)), (1, .int a0), (2, .int (mz_rd s0 12 a0)), (5, .int (mz_rd u1 15 a0))] [.int y0_74, .int y1_74] s74) (fun y0_74 y1_74 s74 h => ?_)) (fun h => ?_)
  · unfold mw_Writer_writeOperation_74 at h
    refine mr_ior C md_Writer_writeOperation_74 ?_
    refine mr_istore_n C (L' := [(3, .int (y1_74 ||| y0_74)), (0, .ref (E.2.1 9)), (1, .int a0), (2, .int (mz_rd s0 12 a0)), (5, .int (mz_rd u1 15 a0))]) md_Writer_writeOperation_75 rfl (Nat.le_of_ble_eq_true rfl) rfl ?_
    refine mr_aload_n C 1 md_Writer_writeOperation_76 rfl rfl ?_
    refine mr_aload_n C 1 md_Writer_writeOperation_77 rfl rfl ?_
    refine mr_get C 9 2 mc_Writer_cls ml_377 rfl (by decide) (by decide) (fun _ => rfl) rfl md_Writer_writeOperation_78 ?_
    refine mr_getN C 4 3 mc_Names_cls ml_189 rfl (by decide) (by decide) (fun _ => rfl) rfl md_Writer_writeOperation_81 ?_
    refine mr_iload_n C 2 md_Writer_writeOperation_84 rfl rfl ?_
    refine mr_iald C 33 120 (by decide) (fun _ => rfl) h.1 md_Writer_writeOperation_85 ?_
    replace h := h.2
    refine mr_aload_n C 1 md_Writer_writeOperation_86 rfl rfl ?_
    refine mr_get C 9 4 mc_Writer_cls ml_379 rfl (by decide) (by decide) (fun _ => rfl) rfl md_Writer_writeOperation_87 ?_
    refine mr_getN C 6 11 mc_Homes_cls ml_263 rfl (by decide) (by decide) (fun _ => rfl) rfl md_Writer_writeOperation_90 ?_
    refine mr_cVi C (As := [.int (mz_rd s74 33 a0), .int (s74 1008 0)]) (rest := []) 9 (ms_Writer_bring _ E hI _ (mz_rd s74 33 a0) (s74 1008 0) _ h) mo_Writer_bring mi_Writer_bring mc_Writer_cls ml_858 (by decide) (fun _ => rfl) rfl rfl (Nat.le_of_ble_eq_true rfl) (Nat.le_of_ble_eq_true rfl) (Nat.le_of_ble_eq_true rfl) md_Writer_writeOperation_93 (fun r10 u14 h => ?_)
    refine mr_istore C (L' := [(4, .int r10), (3, .int (y1_74 ||| y0_74)), (0, .ref (E.2.1 9)), (1, .int a0), (2, .int (mz_rd s0 12 a0)), (5, .int (mz_rd u1 15 a0))]) md_Writer_writeOperation_96 (Nat.le_of_ble_eq_true rfl) rfl ?_
    refine mr_sub [2, 3, 4, 1, 0, 5] rfl ?_
    exact h
  refine mr_if_eq C md_Writer_writeOperation_66 rfl (fun hc => ?_) (fun hc => ?_)
  · replace h := h.1 hc
    refine mr_iconst C md_Writer_writeOperation_73 mk_iconst_0 ?_
    refine mr_sub [4, 5, 3, 0] rfl ?_
    exact h
  replace h := h.2 hc
  refine mr_iconst C md_Writer_writeOperation_69 mk_iconst_1 ?_
  refine mr_goto C md_Writer_writeOperation_70 rfl ?_
  refine mr_sub [4, 5, 3, 0] rfl ?_
  exact h
/-- ValueMill$Writer.writeEnd(I)V: what it does, as a transformer of what must hold behind it -/
def mw_Writer_writeEnd (K : mz_St → Prop) (a0 : Int32) (s0 : mz_St) : Prop :=
  mw_Program_endTakesTemp (fun r1 u1 =>
   ((r1 = 0 →
    mw_Code_setEnd (fun u2 =>
     K u2) a0 0 1 u1) ∧
   (¬ r1 = 0 →
    vp_in a0 10 ∧
    mw_Writer_bring (fun r2 u3 =>
     mw_Stands_isNumber (fun r3 u4 =>
      mw_Code_setEnd (fun u5 =>
       K u5) a0 r2 r3 u4) (mz_rd u1 35 a0) u3) (mz_rd u1 35 a0) (u1 1008 0) u1))) a0 s0
set_option maxRecDepth 100000 in
set_option maxHeartbeats 4000000 in
theorem ms_Writer_writeEnd (l : Launch) (E : mz_En) (hI : mz_Inj E) (K : mz_St → Prop) (a0 : Int32) (s0 : mz_St) (h : mw_Writer_writeEnd K a0 s0) : mz_Cv l E my_Writer_writeEnd mb_Writer_writeEnd 3 (3) (72) [.ref (E.2.1 9), .int a0] s0 K := by
  refine mz_ctv hI (by decide +kernel) (Nat.le_of_ble_eq_true rfl) (fun X C R => ?_)
  show mz_G E X 3 0 [(0, .ref (E.2.1 9)), (1, .int a0)] [] s0
  unfold mw_Writer_writeEnd at h
  refine mr_aload_n C 0 md_Writer_writeEnd_0 rfl rfl ?_
  refine mr_get C 9 0 mc_Writer_cls ml_375 rfl (by decide) (by decide) (fun _ => rfl) rfl md_Writer_writeEnd_1 ?_
  refine mr_iload_n C 1 md_Writer_writeEnd_4 rfl rfl ?_
  refine mr_cVNi C (As := [.int a0]) (rest := []) 1 (ms_Program_endTakesTemp _ E hI _ a0 _ h) mo_Program_endTakesTemp mi_Program_endTakesTemp mc_Program_cls ml_877 (by decide) (fun _ => rfl) rfl rfl (Nat.le_of_ble_eq_true rfl) (Nat.le_of_ble_eq_true rfl) (Nat.le_of_ble_eq_true rfl) md_Writer_writeEnd_5 (fun r1 u1 h => ?_)
  refine mr_if_eq C md_Writer_writeEnd_8 rfl (fun hc => ?_) (fun hc => ?_)
  · replace h := h.1 hc
    refine mr_aload_n C 0 md_Writer_writeEnd_52 rfl rfl ?_
    refine mr_get C 9 5 mc_Writer_cls ml_380 rfl (by decide) (by decide) (fun _ => rfl) rfl md_Writer_writeEnd_53 ?_
    refine mr_iload_n C 1 md_Writer_writeEnd_56 rfl rfl ?_
    refine mr_iconst C md_Writer_writeEnd_57 mk_iconst_0 ?_
    refine mr_iconst C md_Writer_writeEnd_58 mk_iconst_1 ?_
    refine mr_cVNv C (As := [.int a0, .int 0, .int 1]) (rest := []) 7 (ms_Code_setEnd _ E hI _ a0 0 1 _ h) mo_Code_setEnd mi_Code_setEnd mc_Code_cls ml_559 (by decide) (fun _ => rfl) rfl rfl (Nat.le_of_ble_eq_true rfl) (Nat.le_of_ble_eq_true rfl) (Nat.le_of_ble_eq_true rfl) md_Writer_writeEnd_59 (fun u2 h => ?_)
    exact mr_vret C R h md_Writer_writeEnd_62
  replace h := h.2 hc
  refine mr_aload_n C 0 md_Writer_writeEnd_11 rfl rfl ?_
  refine mr_get C 9 2 mc_Writer_cls ml_377 rfl (by decide) (by decide) (fun _ => rfl) rfl md_Writer_writeEnd_12 ?_
  refine mr_getN C 4 5 mc_Names_cls ml_197 rfl (by decide) (by decide) (fun _ => rfl) rfl md_Writer_writeEnd_15 ?_
  refine mr_iload_n C 1 md_Writer_writeEnd_18 rfl rfl ?_
  refine mr_iald C 35 10 (by decide) (fun _ => rfl) h.1 md_Writer_writeEnd_19 ?_
  replace h := h.2
  refine mr_istore_n C (L' := [(2, .int (mz_rd u1 35 a0)), (0, .ref (E.2.1 9)), (1, .int a0)]) md_Writer_writeEnd_20 rfl (Nat.le_of_ble_eq_true rfl) rfl ?_
  refine mr_aload_n C 1 md_Writer_writeEnd_21 rfl rfl ?_
  refine mr_get C 9 5 mc_Writer_cls ml_380 rfl (by decide) (by decide) (fun _ => rfl) rfl md_Writer_writeEnd_22 ?_
  refine mr_iload_n C 2 md_Writer_writeEnd_25 rfl rfl ?_
  refine mr_aload_n C 1 md_Writer_writeEnd_26 rfl rfl ?_
  refine mr_iload_n C 0 md_Writer_writeEnd_27 rfl rfl ?_
  refine mr_aload_n C 1 md_Writer_writeEnd_28 rfl rfl ?_
  refine mr_get C 9 4 mc_Writer_cls ml_379 rfl (by decide) (by decide) (fun _ => rfl) rfl md_Writer_writeEnd_29 ?_
  refine mr_getN C 6 11 mc_Homes_cls ml_263 rfl (by decide) (by decide) (fun _ => rfl) rfl md_Writer_writeEnd_32 ?_
  refine mr_cVi C (As := [.int (mz_rd u1 35 a0), .int (u1 1008 0)]) (rest := [.int a0, .ref (E.2.1 7)]) 9 (ms_Writer_bring _ E hI _ (mz_rd u1 35 a0) (u1 1008 0) _ h) mo_Writer_bring mi_Writer_bring mc_Writer_cls ml_858 (by decide) (fun _ => rfl) rfl rfl (Nat.le_of_ble_eq_true rfl) (Nat.le_of_ble_eq_true rfl) (Nat.le_of_ble_eq_true rfl) md_Writer_writeEnd_35 (fun r2 u3 h => ?_)
  refine mr_aload_n C 1 md_Writer_writeEnd_38 rfl rfl ?_
  refine mr_get C 9 3 mc_Writer_cls ml_378 rfl (by decide) (by decide) (fun _ => rfl) rfl md_Writer_writeEnd_39 ?_
  refine mr_iload_n C 0 md_Writer_writeEnd_42 rfl rfl ?_
  refine mr_cVNi C (As := [.int (mz_rd u1 35 a0)]) (rest := [.int r2, .int a0, .ref (E.2.1 7)]) 5 (ms_Stands_isNumber _ E hI _ (mz_rd u1 35 a0) _ h) mo_Stands_isNumber mi_Stands_isNumber mc_Stands_cls ml_857 (by decide) (fun _ => rfl) rfl rfl (Nat.le_of_ble_eq_true rfl) (Nat.le_of_ble_eq_true rfl) (Nat.le_of_ble_eq_true rfl) md_Writer_writeEnd_43 (fun r3 u4 h => ?_)
  refine mr_cVNv C (As := [.int a0, .int r2, .int r3]) (rest := []) 7 (ms_Code_setEnd _ E hI _ a0 r2 r3 _ h) mo_Code_setEnd mi_Code_setEnd mc_Code_cls ml_559 (by decide) (fun _ => rfl) rfl rfl (Nat.le_of_ble_eq_true rfl) (Nat.le_of_ble_eq_true rfl) (Nat.le_of_ble_eq_true rfl) md_Writer_writeEnd_46 (fun u5 h => ?_)
  refine mr_goto C md_Writer_writeEnd_49 rfl ?_
  exact mr_vret C R h md_Writer_writeEnd_62
def mw_Writer_writeBlock_47 (P13 : Int32 → mz_St → Prop) (x2_13 : Int32) (s47 : mz_St) : Prop :=
  P13 (x2_13 + 1) s47
def mw_Writer_writeBlock_13 (K : mz_St → Prop) (a0 : Int32) (P13 : Int32 → mz_St → Prop) (x2_13 : Int32) (s13 : mz_St) : Prop :=
  vp_in a0 10 ∧
  ((((a0 * 12) + (mz_rd s13 16 a0)) ≤ x2_13 →
   mw_Writer_writeEnd (fun u2 =>
    mw_Code_finish (fun u3 =>
     K u3) a0 u2) a0 s13) ∧
  (¬ ((a0 * 12) + (mz_rd s13 16 a0)) ≤ x2_13 →
   mw_Stands_keepsOperation (fun r1 u4 =>
    (∀ P47 : mz_St → Prop, (∀ (s47 : mz_St), mw_Writer_writeBlock_47 P13 x2_13 s47 → P47 s47) →
    ((r1 = 0 →
     P47 u4) ∧
    (¬ r1 = 0 →
     mw_Writer_writeOperation (fun u5 =>
      P47 u5) x2_13 u4)))) x2_13 s13))
/-- ValueMill$Writer.writeBlock(I)V: what it does, as a transformer of what must hold behind it -/
def mw_Writer_writeBlock (K : mz_St → Prop) (a0 : Int32) (s0 : mz_St) : Prop :=
  mw_Code_begin (fun u1 =>
   (∀ P13 : Int32 → mz_St → Prop, (∀ (x2_13 : Int32) (s13 : mz_St), mw_Writer_writeBlock_13 K a0 P13 x2_13 s13 → P13 x2_13 s13) →
   P13 (a0 * 12) u1)) a0 s0
set_option maxRecDepth 100000 in
set_option maxHeartbeats 4000000 in
theorem ms_Writer_writeBlock (l : Launch) (E : mz_En) (hI : mz_Inj E) (K : mz_St → Prop) (a0 : Int32) (s0 : mz_St) (h : mw_Writer_writeBlock K a0 s0) : mz_Cv l E my_Writer_writeBlock mb_Writer_writeBlock 3 (4) (98) [.ref (E.2.1 9), .int a0] s0 K := by
  refine mz_ctv hI (by decide +kernel) (Nat.le_of_ble_eq_true rfl) (fun X C R => ?_)
  show mz_G E X 3 0 [(0, .ref (E.2.1 9)), (1, .int a0)] [] s0
  unfold mw_Writer_writeBlock at h
  refine mr_aload_n C 0 md_Writer_writeBlock_0 rfl rfl ?_
  refine mr_get C 9 5 mc_Writer_cls ml_380 rfl (by decide) (by decide) (fun _ => rfl) rfl md_Writer_writeBlock_1 ?_
  refine mr_iload_n C 1 md_Writer_writeBlock_4 rfl rfl ?_
  refine mr_cVNv C (As := [.int a0]) (rest := []) 7 (ms_Code_begin _ E hI _ a0 _ h) mo_Code_begin mi_Code_begin mc_Code_cls ml_535 (by decide) (fun _ => rfl) rfl rfl (Nat.le_of_ble_eq_true rfl) (Nat.le_of_ble_eq_true rfl) (Nat.le_of_ble_eq_true rfl) md_Writer_writeBlock_5 (fun u1 h => ?_)
  refine mr_iload_n C 1 md_Writer_writeBlock_8 rfl rfl ?_
  refine mr_bipush C md_Writer_writeBlock_9 mk_bipush_12 ?_
  refine mr_imul C md_Writer_writeBlock_11 ?_
  refine mr_istore_n C (L' := [(2, .int (a0 * 12)), (0, .ref (E.2.1 9)), (1, .int a0)]) md_Writer_writeBlock_12 rfl (Nat.le_of_ble_eq_true rfl) rfl ?_
  refine mr_sub [1, 2, 0] rfl ?_
  refine h (fun (x2_13 : Int32) (s13 : mz_St) => mz_G E X 3 13 [(0, .ref (E.2.1 9)), (1, .int a0), (2, .int x2_13)] [] s13) (fun x2_13 s13 h => ?_)
  unfold mw_Writer_writeBlock_13 at h
  refine mr_iload_n C 2 md_Writer_writeBlock_13 rfl rfl ?_
  refine mr_iload_n C 1 md_Writer_writeBlock_14 rfl rfl ?_
  refine mr_bipush C md_Writer_writeBlock_15 mk_bipush_12 ?_
  refine mr_imul C md_Writer_writeBlock_17 ?_
  refine mr_aload_n C 0 md_Writer_writeBlock_18 rfl rfl ?_
  refine mr_get C 9 0 mc_Writer_cls ml_375 rfl (by decide) (by decide) (fun _ => rfl) rfl md_Writer_writeBlock_19 ?_
  refine mr_getN C 1 4 mc_Program_cls ml_44 rfl (by decide) (by decide) (fun _ => rfl) rfl md_Writer_writeBlock_22 ?_
  refine mr_iload_n C 1 md_Writer_writeBlock_25 rfl rfl ?_
  refine mr_iald C 16 10 (by decide) (fun _ => rfl) h.1 md_Writer_writeBlock_26 ?_
  replace h := h.2
  refine mr_iadd C md_Writer_writeBlock_27 ?_
  refine mr_icmp_ge C md_Writer_writeBlock_28 rfl (fun hc => ?_) (fun hc => ?_)
  · replace h := h.1 hc
    refine mr_aload_n C 0 md_Writer_writeBlock_53 rfl rfl ?_
    refine mr_iload_n C 1 md_Writer_writeBlock_54 rfl rfl ?_
    refine mr_cVv C (As := [.int a0]) (rest := []) 9 (ms_Writer_writeEnd _ E hI _ a0 _ h) mo_Writer_writeEnd mi_Writer_writeEnd mc_Writer_cls ml_873 (by decide) (fun _ => rfl) rfl rfl (Nat.le_of_ble_eq_true rfl) (Nat.le_of_ble_eq_true rfl) (Nat.le_of_ble_eq_true rfl) md_Writer_writeBlock_55 (fun u2 h => ?_)
    refine mr_aload_n C 0 md_Writer_writeBlock_58 rfl rfl ?_
    refine mr_get C 9 5 mc_Writer_cls ml_380 rfl (by decide) (by decide) (fun _ => rfl) rfl md_Writer_writeBlock_59 ?_
    refine mr_iload_n C 1 md_Writer_writeBlock_62 rfl rfl ?_
    refine mr_cVNv C (As := [.int a0]) (rest := []) 7 (ms_Code_finish _ E hI _ a0 _ h) mo_Code_finish mi_Code_finish mc_Code_cls ml_555 (by decide) (fun _ => rfl) rfl rfl (Nat.le_of_ble_eq_true rfl) (Nat.le_of_ble_eq_true rfl) (Nat.le_of_ble_eq_true rfl) md_Writer_writeBlock_63 (fun u3 h => ?_)
    exact mr_vret C R h md_Writer_writeBlock_66
  replace h := h.2 hc
  refine mr_aload_n C 0 md_Writer_writeBlock_31 rfl rfl ?_
  refine mr_get C 9 3 mc_Writer_cls ml_378 rfl (by decide) (by decide) (fun _ => rfl) rfl md_Writer_writeBlock_32 ?_
  refine mr_iload_n C 2 md_Writer_writeBlock_35 rfl rfl ?_
  refine mr_cVNi C (As := [.int x2_13]) (rest := []) 5 (ms_Stands_keepsOperation _ E hI _ x2_13 _ h) mo_Stands_keepsOperation mi_Stands_keepsOperation mc_Stands_cls ml_852 (by decide) (fun _ => rfl) rfl rfl (Nat.le_of_ble_eq_true rfl) (Nat.le_of_ble_eq_true rfl) (Nat.le_of_ble_eq_true rfl) md_Writer_writeBlock_36 (fun r1 u4 h => ?_)
  refine mj (h (fun (s47 : mz_St) => mz_G E X 3 47 [(0, .ref (E.2.1 9)), (1, .int a0), (2, .int x2_13)] [] s47) (fun s47 h => ?_)) (fun h => ?_)
  · unfold mw_Writer_writeBlock_47 at h
    refine mr_iinc C (L' := [(2, .int (x2_13 + 1)), (0, .ref (E.2.1 9)), (1, .int a0)]) 2 md_Writer_writeBlock_47 rfl (mk_inc mk_iconst_1) (Nat.le_of_ble_eq_true rfl) rfl ?_
    refine mr_goto C md_Writer_writeBlock_50 rfl ?_
    refine mr_sub [1, 2, 0] rfl ?_
    exact h
  refine mr_if_eq C md_Writer_writeBlock_39 rfl (fun hc => ?_) (fun hc => ?_)
  · replace h := h.1 hc
    exact h
  replace h := h.2 hc
  refine mr_aload_n C 0 md_Writer_writeBlock_42 rfl rfl ?_
  refine mr_iload_n C 2 md_Writer_writeBlock_43 rfl rfl ?_
  refine mr_cVv C (As := [.int x2_13]) (rest := []) 9 (ms_Writer_writeOperation _ E hI _ x2_13 _ h) mo_Writer_writeOperation mi_Writer_writeOperation mc_Writer_cls ml_853 (by decide) (fun _ => rfl) rfl rfl (Nat.le_of_ble_eq_true rfl) (Nat.le_of_ble_eq_true rfl) (Nat.le_of_ble_eq_true rfl) md_Writer_writeBlock_44 (fun u5 h => ?_)
  exact h
def mw_Writer_addMove_71 (K : mz_St → Prop) (r2 : Int32) (y0_71 : Int32) (y1_71 : Int32) (s71 : mz_St) : Prop :=
  mw_Moves_add (fun u4 =>
   K u4) y1_71 y0_71 r2 s71
/-- ValueMill$Writer.addMove(III)V: what it does, as a transformer of what must hold behind it -/
def mw_Writer_addMove (K : mz_St → Prop) (a0 : Int32) (a1 : Int32) (a2 : Int32) (s0 : mz_St) : Prop :=
  mw_Stands_keepsPhi (fun r1 u1 =>
   ((¬ r1 = 0 →
    vp_in a2 221 ∧
    mw_Stands_isNumber (fun r2 u2 =>
     mw_Mill_phiName (fun r3 u3 =>
      vp_in r3 221 ∧
      (∀ P71 : Int32 → Int32 → mz_St → Prop, (∀ (y0_71 : Int32) (y1_71 : Int32) (s71 : mz_St), mw_Writer_addMove_71 K r2 y0_71 y1_71 s71 → P71 y0_71 y1_71 s71) →
      ((r2 = 0 →
       vp_in (mz_rd u1 38 a2) 221 ∧
       P71 (mz_rd u3 40 (mz_rd u1 38 a2)) (mz_rd u3 40 r3) u3) ∧
      (¬ r2 = 0 →
       P71 (mz_rd u1 38 a2) (mz_rd u3 40 r3) u3)))) a0 a1 u2) a2 u1) ∧
   (r1 = 0 →
    K u1))) a0 a1 s0
set_option maxRecDepth 100000 in
set_option maxHeartbeats 4000000 in
theorem ms_Writer_addMove (l : Launch) (E : mz_En) (hI : mz_Inj E) (K : mz_St → Prop) (a0 : Int32) (a1 : Int32) (a2 : Int32) (s0 : mz_St) (h : mw_Writer_addMove K a0 a1 a2 s0) : mz_Cv l E my_Writer_addMove mb_Writer_addMove 6 (2) (43) [.ref (E.2.1 9), .int a0, .int a1, .int a2] s0 K := by
  refine mz_ctv hI (by decide +kernel) (Nat.le_of_ble_eq_true rfl) (fun X C R => ?_)
  show mz_G E X 6 0 [(0, .ref (E.2.1 9)), (1, .int a0), (2, .int a1), (3, .int a2)] [] s0
  unfold mw_Writer_addMove at h
  refine mr_aload_n C 0 md_Writer_addMove_0 rfl rfl ?_
  refine mr_get C 9 3 mc_Writer_cls ml_378 rfl (by decide) (by decide) (fun _ => rfl) rfl md_Writer_addMove_1 ?_
  refine mr_iload_n C 1 md_Writer_addMove_4 rfl rfl ?_
  refine mr_iload_n C 2 md_Writer_addMove_5 rfl rfl ?_
  refine mr_cVNi C (As := [.int a0, .int a1]) (rest := []) 5 (ms_Stands_keepsPhi _ E hI _ a0 a1 _ h) mo_Stands_keepsPhi mi_Stands_keepsPhi mc_Stands_cls ml_889 (by decide) (fun _ => rfl) rfl rfl (Nat.le_of_ble_eq_true rfl) (Nat.le_of_ble_eq_true rfl) (Nat.le_of_ble_eq_true rfl) md_Writer_addMove_6 (fun r1 u1 h => ?_)
  refine mr_if_ne C md_Writer_addMove_9 rfl (fun hc => ?_) (fun hc => ?_)
  · replace h := h.1 hc
    refine mr_aload_n C 0 md_Writer_addMove_13 rfl rfl ?_
    refine mr_get C 9 3 mc_Writer_cls ml_378 rfl (by decide) (by decide) (fun _ => rfl) rfl md_Writer_addMove_14 ?_
    refine mr_getN C 5 5 mc_Stands_cls ml_226 rfl (by decide) (by decide) (fun _ => rfl) rfl md_Writer_addMove_17 ?_
    refine mr_iload_n C 3 md_Writer_addMove_20 rfl rfl ?_
    refine mr_iald C 38 221 (by decide) (fun _ => rfl) h.1 md_Writer_addMove_21 ?_
    replace h := h.2
    refine mr_istore C (L' := [(4, .int (mz_rd u1 38 a2)), (0, .ref (E.2.1 9)), (1, .int a0), (2, .int a1), (3, .int a2)]) md_Writer_addMove_22 (Nat.le_of_ble_eq_true rfl) rfl ?_
    refine mr_aload_n C 1 md_Writer_addMove_24 rfl rfl ?_
    refine mr_get C 9 3 mc_Writer_cls ml_378 rfl (by decide) (by decide) (fun _ => rfl) rfl md_Writer_addMove_25 ?_
    refine mr_iload_n C 4 md_Writer_addMove_28 rfl rfl ?_
    refine mr_cVNi C (As := [.int a2]) (rest := []) 5 (ms_Stands_isNumber _ E hI _ a2 _ h) mo_Stands_isNumber mi_Stands_isNumber mc_Stands_cls ml_857 (by decide) (fun _ => rfl) rfl rfl (Nat.le_of_ble_eq_true rfl) (Nat.le_of_ble_eq_true rfl) (Nat.le_of_ble_eq_true rfl) md_Writer_addMove_29 (fun r2 u2 h => ?_)
    refine mr_istore C (L' := [(5, .int r2), (4, .int (mz_rd u1 38 a2)), (0, .ref (E.2.1 9)), (1, .int a0), (2, .int a1), (3, .int a2)]) md_Writer_addMove_32 (Nat.le_of_ble_eq_true rfl) rfl ?_
    refine mr_aload_n C 2 md_Writer_addMove_34 rfl rfl ?_
    refine mr_get C 9 6 mc_Writer_cls ml_381 rfl (by decide) (by decide) (fun _ => rfl) rfl md_Writer_addMove_35 ?_
    refine mr_aload_n C 2 md_Writer_addMove_38 rfl rfl ?_
    refine mr_get C 9 4 mc_Writer_cls ml_379 rfl (by decide) (by decide) (fun _ => rfl) rfl md_Writer_addMove_39 ?_
    refine mr_getN C 6 5 mc_Homes_cls ml_256 rfl (by decide) (by decide) (fun _ => rfl) rfl md_Writer_addMove_42 ?_
    refine mr_iload_n C 3 md_Writer_addMove_45 rfl rfl ?_
    refine mr_iload_n C 4 md_Writer_addMove_46 rfl rfl ?_
    refine mr_cSNi C (As := [.int a0, .int a1]) (rest := [.ref (E.2.1 40), .ref (E.2.1 8)]) (ms_Mill_phiName _ E hI _ a0 a1 _ h) mo_Mill_phiName mt_Mill_phiName ml_890 rfl rfl (Nat.le_of_ble_eq_true rfl) (Nat.le_of_ble_eq_true rfl) (Nat.le_of_ble_eq_true rfl) md_Writer_addMove_47 (fun r3 u3 h => ?_)
    refine mr_iald C 40 221 (by decide) (fun _ => rfl) h.1 md_Writer_addMove_50 ?_
    replace h := h.2
    refine mr_iload C 0 md_Writer_addMove_51 rfl ?_
    refine mj (h (fun (y0_71 : Int32) (y1_71 : Int32) (s71 : mz_St) => mz_G E X 6 71 [(5, .int r2)] [.int y0_71, .int y1_71, .ref (E.2.1 8)] s71) (fun y0_71 y1_71 s71 h => ?_)) (fun h => ?_)
    · unfold mw_Writer_addMove_71 at h
      refine mr_iload C 0 md_Writer_addMove_71 rfl ?_
      refine mr_cVNv C (As := [.int y1_71, .int y0_71, .int r2]) (rest := []) 8 (ms_Moves_add _ E hI _ y1_71 y0_71 r2 _ h) mo_Moves_add mi_Moves_add mc_Moves_cls ml_891 (by decide) (fun _ => rfl) rfl rfl (Nat.le_of_ble_eq_true rfl) (Nat.le_of_ble_eq_true rfl) (Nat.le_of_ble_eq_true rfl) md_Writer_addMove_73 (fun u4 h => ?_)
      exact mr_vret C R h md_Writer_addMove_76
    refine mr_if_eq C md_Writer_addMove_53 rfl (fun hc => ?_) (fun hc => ?_)
    · replace h := h.1 hc
      refine mr_aload_n C 2 md_Writer_addMove_61 rfl rfl ?_
      refine mr_get C 9 4 mc_Writer_cls ml_379 rfl (by decide) (by decide) (fun _ => rfl) rfl md_Writer_addMove_62 ?_
      refine mr_getN C 6 5 mc_Homes_cls ml_256 rfl (by decide) (by decide) (fun _ => rfl) rfl md_Writer_addMove_65 ?_
      refine mr_iload C 1 md_Writer_addMove_68 rfl ?_
      refine mr_iald C 40 221 (by decide) (fun _ => rfl) h.1 md_Writer_addMove_70 ?_
      replace h := h.2
      refine mr_sub [0] rfl ?_
      exact h
    replace h := h.2 hc
    refine mr_iload C 1 md_Writer_addMove_56 rfl ?_
    refine mr_goto C md_Writer_addMove_58 rfl ?_
    refine mr_sub [0] rfl ?_
    exact h
  replace h := h.2 hc
  exact mr_vret C R h md_Writer_addMove_12
def mw_Writer_writeRoad_2 (K : mz_St → Prop) (a0 : Int32) (a1 : Int32) (P2 : Int32 → mz_St → Prop) (x3_2 : Int32) (s2 : mz_St) : Prop :=
  ((10 ≤ x3_2 →
   mw_Mill_roadOf (fun r1 u1 =>
    mw_Code_begin (fun u2 =>
     mw_Moves_write (fun u3 =>
      mw_Mill_roadOf (fun r2 u4 =>
       mw_Code_finish (fun u5 =>
        K u5) r2 u4) a0 a1 u3) u2) r1 u1) a0 a1 s2) ∧
  (¬ 10 ≤ x3_2 →
   mw_Program_target (fun r3 u6 =>
    mw_Names_along (fun r4 u7 =>
     mw_Writer_addMove (fun u8 =>
      P2 (x3_2 + 1) u8) r3 x3_2 r4 u7) a0 x3_2 u6) a0 a1 s2))
/-- ValueMill$Writer.writeRoad(II)V: what it does, as a transformer of what must hold behind it -/
def mw_Writer_writeRoad (K : mz_St → Prop) (a0 : Int32) (a1 : Int32) (s0 : mz_St) : Prop :=
  (∀ P2 : Int32 → mz_St → Prop, (∀ (x3_2 : Int32) (s2 : mz_St), mw_Writer_writeRoad_2 K a0 a1 P2 x3_2 s2 → P2 x3_2 s2) →
  P2 0 s0)
set_option maxRecDepth 100000 in
set_option maxHeartbeats 4000000 in
theorem ms_Writer_writeRoad (l : Launch) (E : mz_En) (hI : mz_Inj E) (K : mz_St → Prop) (a0 : Int32) (a1 : Int32) (s0 : mz_St) (h : mw_Writer_writeRoad K a0 a1 s0) : mz_Cv l E my_Writer_writeRoad mb_Writer_writeRoad 4 (4) (93) [.ref (E.2.1 9), .int a0, .int a1] s0 K := by
  refine mz_ctv hI (by decide +kernel) (Nat.le_of_ble_eq_true rfl) (fun X C R => ?_)
  show mz_G E X 4 0 [(0, .ref (E.2.1 9)), (1, .int a0), (2, .int a1)] [] s0
  unfold mw_Writer_writeRoad at h
  refine mr_iconst C md_Writer_writeRoad_0 mk_iconst_0 ?_
  refine mr_istore_n C (L' := [(3, .int 0), (0, .ref (E.2.1 9)), (1, .int a0), (2, .int a1)]) md_Writer_writeRoad_1 rfl (Nat.le_of_ble_eq_true rfl) rfl ?_
  refine mr_sub [1, 2, 3, 0] rfl ?_
  refine h (fun (x3_2 : Int32) (s2 : mz_St) => mz_G E X 4 2 [(0, .ref (E.2.1 9)), (1, .int a0), (2, .int a1), (3, .int x3_2)] [] s2) (fun x3_2 s2 h => ?_)
  unfold mw_Writer_writeRoad_2 at h
  refine mr_iload_n C 3 md_Writer_writeRoad_2 rfl rfl ?_
  refine mr_bipush C md_Writer_writeRoad_3 mk_bipush_10 ?_
  refine mr_icmp_ge C md_Writer_writeRoad_5 rfl (fun hc => ?_) (fun hc => ?_)
  · replace h := h.1 hc
    refine mr_aload_n C 0 md_Writer_writeRoad_37 rfl rfl ?_
    refine mr_get C 9 5 mc_Writer_cls ml_380 rfl (by decide) (by decide) (fun _ => rfl) rfl md_Writer_writeRoad_38 ?_
    refine mr_iload_n C 1 md_Writer_writeRoad_41 rfl rfl ?_
    refine mr_iload_n C 2 md_Writer_writeRoad_42 rfl rfl ?_
    refine mr_cSNi C (As := [.int a0, .int a1]) (rest := [.ref (E.2.1 7)]) (ms_Mill_roadOf _ E hI _ a0 a1 _ h) mo_Mill_roadOf mt_Mill_roadOf ml_895 rfl rfl (Nat.le_of_ble_eq_true rfl) (Nat.le_of_ble_eq_true rfl) (Nat.le_of_ble_eq_true rfl) md_Writer_writeRoad_43 (fun r1 u1 h => ?_)
    refine mr_cVNv C (As := [.int r1]) (rest := []) 7 (ms_Code_begin _ E hI _ r1 _ h) mo_Code_begin mi_Code_begin mc_Code_cls ml_535 (by decide) (fun _ => rfl) rfl rfl (Nat.le_of_ble_eq_true rfl) (Nat.le_of_ble_eq_true rfl) (Nat.le_of_ble_eq_true rfl) md_Writer_writeRoad_46 (fun u2 h => ?_)
    refine mr_aload_n C 0 md_Writer_writeRoad_49 rfl rfl ?_
    refine mr_get C 9 6 mc_Writer_cls ml_381 rfl (by decide) (by decide) (fun _ => rfl) rfl md_Writer_writeRoad_50 ?_
    refine mr_cVNv C (As := []) (rest := []) 8 (ms_Moves_write _ E hI _  _ h) mo_Moves_write mi_Moves_write mc_Moves_cls ml_898 (by decide) (fun _ => rfl) rfl rfl (Nat.le_of_ble_eq_true rfl) (Nat.le_of_ble_eq_true rfl) (Nat.le_of_ble_eq_true rfl) md_Writer_writeRoad_53 (fun u3 h => ?_)
    refine mr_aload_n C 0 md_Writer_writeRoad_56 rfl rfl ?_
    refine mr_get C 9 5 mc_Writer_cls ml_380 rfl (by decide) (by decide) (fun _ => rfl) rfl md_Writer_writeRoad_57 ?_
    refine mr_iload_n C 1 md_Writer_writeRoad_60 rfl rfl ?_
    refine mr_iload_n C 2 md_Writer_writeRoad_61 rfl rfl ?_
    refine mr_cSNi C (As := [.int a0, .int a1]) (rest := [.ref (E.2.1 7)]) (ms_Mill_roadOf _ E hI _ a0 a1 _ h) mo_Mill_roadOf mt_Mill_roadOf ml_895 rfl rfl (Nat.le_of_ble_eq_true rfl) (Nat.le_of_ble_eq_true rfl) (Nat.le_of_ble_eq_true rfl) md_Writer_writeRoad_62 (fun r2 u4 h => ?_)
    refine mr_cVNv C (As := [.int r2]) (rest := []) 7 (ms_Code_finish _ E hI _ r2 _ h) mo_Code_finish mi_Code_finish mc_Code_cls ml_555 (by decide) (fun _ => rfl) rfl rfl (Nat.le_of_ble_eq_true rfl) (Nat.le_of_ble_eq_true rfl) (Nat.le_of_ble_eq_true rfl) md_Writer_writeRoad_65 (fun u5 h => ?_)
    exact mr_vret C R h md_Writer_writeRoad_68
  replace h := h.2 hc
  refine mr_aload_n C 0 md_Writer_writeRoad_8 rfl rfl ?_
  refine mr_aload_n C 0 md_Writer_writeRoad_9 rfl rfl ?_
  refine mr_get C 9 0 mc_Writer_cls ml_375 rfl (by decide) (by decide) (fun _ => rfl) rfl md_Writer_writeRoad_10 ?_
  refine mr_iload_n C 1 md_Writer_writeRoad_13 rfl rfl ?_
  refine mr_iload_n C 2 md_Writer_writeRoad_14 rfl rfl ?_
  refine mr_cVNi C (As := [.int a0, .int a1]) (rest := [.ref (E.2.1 9)]) 1 (ms_Program_target _ E hI _ a0 a1 _ h) mo_Program_target mi_Program_target mc_Program_cls ml_883 (by decide) (fun _ => rfl) rfl rfl (Nat.le_of_ble_eq_true rfl) (Nat.le_of_ble_eq_true rfl) (Nat.le_of_ble_eq_true rfl) md_Writer_writeRoad_15 (fun r3 u6 h => ?_)
  refine mr_iload_n C 3 md_Writer_writeRoad_18 rfl rfl ?_
  refine mr_aload_n C 0 md_Writer_writeRoad_19 rfl rfl ?_
  refine mr_get C 9 2 mc_Writer_cls ml_377 rfl (by decide) (by decide) (fun _ => rfl) rfl md_Writer_writeRoad_20 ?_
  refine mr_iload_n C 1 md_Writer_writeRoad_23 rfl rfl ?_
  refine mr_iload_n C 3 md_Writer_writeRoad_24 rfl rfl ?_
  refine mr_cVNi C (As := [.int a0, .int x3_2]) (rest := [.int x3_2, .int r3, .ref (E.2.1 9)]) 4 (ms_Names_along _ E hI _ a0 x3_2 _ h) mo_Names_along mi_Names_along mc_Names_cls ml_884 (by decide) (fun _ => rfl) rfl rfl (Nat.le_of_ble_eq_true rfl) (Nat.le_of_ble_eq_true rfl) (Nat.le_of_ble_eq_true rfl) md_Writer_writeRoad_25 (fun r4 u7 h => ?_)
  refine mr_cVv C (As := [.int r3, .int x3_2, .int r4]) (rest := []) 9 (ms_Writer_addMove _ E hI _ r3 x3_2 r4 _ h) mo_Writer_addMove mi_Writer_addMove mc_Writer_cls ml_885 (by decide) (fun _ => rfl) rfl rfl (Nat.le_of_ble_eq_true rfl) (Nat.le_of_ble_eq_true rfl) (Nat.le_of_ble_eq_true rfl) md_Writer_writeRoad_28 (fun u8 h => ?_)
  refine mr_iinc C (L' := [(3, .int (x3_2 + 1)), (0, .ref (E.2.1 9)), (1, .int a0), (2, .int a1)]) 3 md_Writer_writeRoad_31 rfl (mk_inc mk_iconst_1) (Nat.le_of_ble_eq_true rfl) rfl ?_
  refine mr_goto C md_Writer_writeRoad_34 rfl ?_
  refine mr_sub [1, 2, 3, 0] rfl ?_
  exact h
def mw_Writer_writeNamed_37 (P9 : Int32 → mz_St → Prop) (x1_9 : Int32) (s9 : mz_St) (P37 : Int32 → mz_St → Prop) (x3_37 : Int32) (s37 : mz_St) : Prop :=
  mw_Program_edges (fun r1 u3 =>
   ((r1 ≤ x3_37 →
    P9 (x1_9 + 1) u3) ∧
   (¬ r1 ≤ x3_37 →
    mw_Writer_writeRoad (fun u4 =>
     P37 (x3_37 + 1) u4) (mz_rd s9 24 x1_9) x3_37 u3))) (mz_rd s9 24 x1_9) s37
def mw_Writer_writeNamed_9 (K : mz_St → Prop) (P9 : Int32 → mz_St → Prop) (x1_9 : Int32) (s9 : mz_St) : Prop :=
  (((s9 1006 0) ≤ x1_9 →
   K s9) ∧
  (¬ (s9 1006 0) ≤ x1_9 →
   vp_in x1_9 10 ∧
   mw_Writer_writeBlock (fun u2 =>
    (∀ P37 : Int32 → mz_St → Prop, (∀ (x3_37 : Int32) (s37 : mz_St), mw_Writer_writeNamed_37 P9 x1_9 s9 P37 x3_37 s37 → P37 x3_37 s37) →
    P37 0 u2)) (mz_rd s9 24 x1_9) s9))
/-- ValueMill$Writer.writeNamed()V: what it does, as a transformer of what must hold behind it -/
def mw_Writer_writeNamed (K : mz_St → Prop) (s0 : mz_St) : Prop :=
  mw_Code_clear (fun u1 =>
   (∀ P9 : Int32 → mz_St → Prop, (∀ (x1_9 : Int32) (s9 : mz_St), mw_Writer_writeNamed_9 K P9 x1_9 s9 → P9 x1_9 s9) →
   P9 0 u1)) s0
set_option maxRecDepth 100000 in
set_option maxHeartbeats 4000000 in
theorem ms_Writer_writeNamed (l : Launch) (E : mz_En) (hI : mz_Inj E) (K : mz_St → Prop) (s0 : mz_St) (h : mw_Writer_writeNamed K s0) : mz_Cv l E my_Writer_writeNamed mb_Writer_writeNamed 4 (5) (120) [.ref (E.2.1 9)] s0 K := by
  refine mz_ctv hI (by decide +kernel) (Nat.le_of_ble_eq_true rfl) (fun X C R => ?_)
  show mz_G E X 4 0 [(0, .ref (E.2.1 9))] [] s0
  unfold mw_Writer_writeNamed at h
  refine mr_aload_n C 0 md_Writer_writeNamed_0 rfl rfl ?_
  refine mr_get C 9 5 mc_Writer_cls ml_380 rfl (by decide) (by decide) (fun _ => rfl) rfl md_Writer_writeNamed_1 ?_
  refine mr_cVNv C (As := []) (rest := []) 7 (ms_Code_clear _ E hI _  _ h) mo_Code_clear mi_Code_clear mc_Code_cls ml_528 (by decide) (fun _ => rfl) rfl rfl (Nat.le_of_ble_eq_true rfl) (Nat.le_of_ble_eq_true rfl) (Nat.le_of_ble_eq_true rfl) md_Writer_writeNamed_4 (fun u1 h => ?_)
  refine mr_iconst C md_Writer_writeNamed_7 mk_iconst_0 ?_
  refine mr_istore_n C (L' := [(1, .int 0), (0, .ref (E.2.1 9))]) md_Writer_writeNamed_8 rfl (Nat.le_of_ble_eq_true rfl) rfl ?_
  refine mr_sub [1, 0] rfl ?_
  refine h (fun (x1_9 : Int32) (s9 : mz_St) => mz_G E X 4 9 [(0, .ref (E.2.1 9)), (1, .int x1_9)] [] s9) (fun x1_9 s9 h => ?_)
  unfold mw_Writer_writeNamed_9 at h
  refine mr_iload_n C 1 md_Writer_writeNamed_9 rfl rfl ?_
  refine mr_aload_n C 0 md_Writer_writeNamed_10 rfl rfl ?_
  refine mr_get C 9 1 mc_Writer_cls ml_376 rfl (by decide) (by decide) (fun _ => rfl) rfl md_Writer_writeNamed_11 ?_
  refine mr_getN C 2 10 mc_Flow_cls ml_120 rfl (by decide) (by decide) (fun _ => rfl) rfl md_Writer_writeNamed_14 ?_
  refine mr_icmp_ge C md_Writer_writeNamed_17 rfl (fun hc => ?_) (fun hc => ?_)
  · replace h := h.1 hc
    exact mr_vret C R h md_Writer_writeNamed_67
  replace h := h.2 hc
  refine mr_aload_n C 0 md_Writer_writeNamed_20 rfl rfl ?_
  refine mr_get C 9 1 mc_Writer_cls ml_376 rfl (by decide) (by decide) (fun _ => rfl) rfl md_Writer_writeNamed_21 ?_
  refine mr_getN C 2 3 mc_Flow_cls ml_102 rfl (by decide) (by decide) (fun _ => rfl) rfl md_Writer_writeNamed_24 ?_
  refine mr_iload_n C 1 md_Writer_writeNamed_27 rfl rfl ?_
  refine mr_iald C 24 10 (by decide) (fun _ => rfl) h.1 md_Writer_writeNamed_28 ?_
  replace h := h.2
  refine mr_istore_n C (L' := [(2, .int (mz_rd s9 24 x1_9)), (0, .ref (E.2.1 9)), (1, .int x1_9)]) md_Writer_writeNamed_29 rfl (Nat.le_of_ble_eq_true rfl) rfl ?_
  refine mr_aload_n C 1 md_Writer_writeNamed_30 rfl rfl ?_
  refine mr_iload_n C 0 md_Writer_writeNamed_31 rfl rfl ?_
  refine mr_cVv C (As := [.int (mz_rd s9 24 x1_9)]) (rest := []) 9 (ms_Writer_writeBlock _ E hI _ (mz_rd s9 24 x1_9) _ h) mo_Writer_writeBlock mi_Writer_writeBlock mc_Writer_cls ml_848 (by decide) (fun _ => rfl) rfl rfl (Nat.le_of_ble_eq_true rfl) (Nat.le_of_ble_eq_true rfl) (Nat.le_of_ble_eq_true rfl) md_Writer_writeNamed_32 (fun u2 h => ?_)
  refine mr_iconst C md_Writer_writeNamed_35 mk_iconst_0 ?_
  refine mr_istore_n C (L' := [(3, .int 0), (2, .int (mz_rd s9 24 x1_9)), (0, .ref (E.2.1 9)), (1, .int x1_9)]) md_Writer_writeNamed_36 rfl (Nat.le_of_ble_eq_true rfl) rfl ?_
  refine mr_sub [2, 3, 1, 0] rfl ?_
  refine h (fun (x3_37 : Int32) (s37 : mz_St) => mz_G E X 4 37 [(0, .ref (E.2.1 9)), (1, .int x1_9), (2, .int (mz_rd s9 24 x1_9)), (3, .int x3_37)] [] s37) (fun x3_37 s37 h => ?_)
  unfold mw_Writer_writeNamed_37 at h
  refine mr_iload_n C 3 md_Writer_writeNamed_37 rfl rfl ?_
  refine mr_aload_n C 0 md_Writer_writeNamed_38 rfl rfl ?_
  refine mr_get C 9 0 mc_Writer_cls ml_375 rfl (by decide) (by decide) (fun _ => rfl) rfl md_Writer_writeNamed_39 ?_
  refine mr_iload_n C 2 md_Writer_writeNamed_42 rfl rfl ?_
  refine mr_cVNi C (As := [.int (mz_rd s9 24 x1_9)]) (rest := [.int x3_37]) 1 (ms_Program_edges _ E hI _ (mz_rd s9 24 x1_9) _ h) mo_Program_edges mi_Program_edges mc_Program_cls ml_878 (by decide) (fun _ => rfl) rfl rfl (Nat.le_of_ble_eq_true rfl) (Nat.le_of_ble_eq_true rfl) (Nat.le_of_ble_eq_true rfl) md_Writer_writeNamed_43 (fun r1 u3 h => ?_)
  refine mr_icmp_ge C md_Writer_writeNamed_46 rfl (fun hc => ?_) (fun hc => ?_)
  · replace h := h.1 hc
    refine mr_iinc C (L' := [(1, .int (x1_9 + 1)), (0, .ref (E.2.1 9)), (2, .int (mz_rd s9 24 x1_9)), (3, .int x3_37)]) 1 md_Writer_writeNamed_61 rfl (mk_inc mk_iconst_1) (Nat.le_of_ble_eq_true rfl) rfl ?_
    refine mr_goto C md_Writer_writeNamed_64 rfl ?_
    refine mr_sub [1, 0] rfl ?_
    exact h
  replace h := h.2 hc
  refine mr_aload_n C 0 md_Writer_writeNamed_49 rfl rfl ?_
  refine mr_iload_n C 2 md_Writer_writeNamed_50 rfl rfl ?_
  refine mr_iload_n C 3 md_Writer_writeNamed_51 rfl rfl ?_
  refine mr_cVv C (As := [.int (mz_rd s9 24 x1_9), .int x3_37]) (rest := []) 9 (ms_Writer_writeRoad _ E hI _ (mz_rd s9 24 x1_9) x3_37 _ h) mo_Writer_writeRoad mi_Writer_writeRoad mc_Writer_cls ml_879 (by decide) (fun _ => rfl) rfl rfl (Nat.le_of_ble_eq_true rfl) (Nat.le_of_ble_eq_true rfl) (Nat.le_of_ble_eq_true rfl) md_Writer_writeNamed_52 (fun u4 h => ?_)
  refine mr_iinc C (L' := [(3, .int (x3_37 + 1)), (0, .ref (E.2.1 9)), (1, .int x1_9), (2, .int (mz_rd s9 24 x1_9))]) 3 md_Writer_writeNamed_55 rfl (mk_inc mk_iconst_1) (Nat.le_of_ble_eq_true rfl) rfl ?_
  refine mr_goto C md_Writer_writeNamed_58 rfl ?_
  refine mr_sub [1, 2, 3, 0] rfl ?_
  exact h

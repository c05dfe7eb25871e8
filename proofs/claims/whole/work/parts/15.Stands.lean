/-! BEGIN Stands: its instructions, what each method does (mw_), that its bytecode does it (ms_): printed -/
theorem md_Stands_isNumber_0 : mz_d mb_Stands_isNumber 0 (.aload_n 0) 1 1 := ⟨by decide +kernel, rfl⟩
theorem md_Stands_isNumber_1 : mz_d mb_Stands_isNumber 1 (.getfield 9) 3 4 := ⟨by decide +kernel, rfl⟩
theorem md_Stands_isNumber_4 : mz_d mb_Stands_isNumber 4 (.iload_n 1) 1 5 := ⟨by decide +kernel, rfl⟩
theorem md_Stands_isNumber_5 : mz_d mb_Stands_isNumber 5 (.iaload) 1 6 := ⟨by decide +kernel, rfl⟩
theorem md_Stands_isNumber_6 : mz_d mb_Stands_isNumber 6 (.iconst 2) 1 7 := ⟨by decide +kernel, rfl⟩
theorem md_Stands_isNumber_7 : mz_d mb_Stands_isNumber 7 (.if_icmp .ne 7) 3 10 := ⟨by decide +kernel, rfl⟩
theorem md_Stands_isNumber_10 : mz_d mb_Stands_isNumber 10 (.iconst 1) 1 11 := ⟨by decide +kernel, rfl⟩
theorem md_Stands_isNumber_11 : mz_d mb_Stands_isNumber 11 (.goto 4) 3 14 := ⟨by decide +kernel, rfl⟩
theorem md_Stands_isNumber_14 : mz_d mb_Stands_isNumber 14 (.iconst 0) 1 15 := ⟨by decide +kernel, rfl⟩
theorem md_Stands_isNumber_15 : mz_d mb_Stands_isNumber 15 (.ireturn) 1 16 := ⟨by decide +kernel, rfl⟩
theorem md_Stands_isItself_0 : mz_d mb_Stands_isItself 0 (.aload_n 0) 1 1 := ⟨by decide +kernel, rfl⟩
theorem md_Stands_isItself_1 : mz_d mb_Stands_isItself 1 (.getfield 9) 3 4 := ⟨by decide +kernel, rfl⟩
theorem md_Stands_isItself_4 : mz_d mb_Stands_isItself 4 (.iload_n 1) 1 5 := ⟨by decide +kernel, rfl⟩
theorem md_Stands_isItself_5 : mz_d mb_Stands_isItself 5 (.iaload) 1 6 := ⟨by decide +kernel, rfl⟩
theorem md_Stands_isItself_6 : mz_d mb_Stands_isItself 6 (.iconst 1) 1 7 := ⟨by decide +kernel, rfl⟩
theorem md_Stands_isItself_7 : mz_d mb_Stands_isItself 7 (.if_icmp .ne 17) 3 10 := ⟨by decide +kernel, rfl⟩
theorem md_Stands_isItself_10 : mz_d mb_Stands_isItself 10 (.aload_n 0) 1 11 := ⟨by decide +kernel, rfl⟩
theorem md_Stands_isItself_11 : mz_d mb_Stands_isItself 11 (.getfield 15) 3 14 := ⟨by decide +kernel, rfl⟩
theorem md_Stands_isItself_14 : mz_d mb_Stands_isItself 14 (.iload_n 1) 1 15 := ⟨by decide +kernel, rfl⟩
theorem md_Stands_isItself_15 : mz_d mb_Stands_isItself 15 (.iaload) 1 16 := ⟨by decide +kernel, rfl⟩
theorem md_Stands_isItself_16 : mz_d mb_Stands_isItself 16 (.iload_n 1) 1 17 := ⟨by decide +kernel, rfl⟩
theorem md_Stands_isItself_17 : mz_d mb_Stands_isItself 17 (.if_icmp .ne 7) 3 20 := ⟨by decide +kernel, rfl⟩
theorem md_Stands_isItself_20 : mz_d mb_Stands_isItself 20 (.iconst 1) 1 21 := ⟨by decide +kernel, rfl⟩
theorem md_Stands_isItself_21 : mz_d mb_Stands_isItself 21 (.goto 4) 3 24 := ⟨by decide +kernel, rfl⟩
theorem md_Stands_isItself_24 : mz_d mb_Stands_isItself 24 (.iconst 0) 1 25 := ⟨by decide +kernel, rfl⟩
theorem md_Stands_isItself_25 : mz_d mb_Stands_isItself 25 (.ireturn) 1 26 := ⟨by decide +kernel, rfl⟩
theorem md_Stands_nameFor_0 : mz_d mb_Stands_nameFor 0 (.aload_n 0) 1 1 := ⟨by decide +kernel, rfl⟩
theorem md_Stands_nameFor_1 : mz_d mb_Stands_nameFor 1 (.getfield 9) 3 4 := ⟨by decide +kernel, rfl⟩
theorem md_Stands_nameFor_4 : mz_d mb_Stands_nameFor 4 (.iload_n 1) 1 5 := ⟨by decide +kernel, rfl⟩
theorem md_Stands_nameFor_5 : mz_d mb_Stands_nameFor 5 (.iaload) 1 6 := ⟨by decide +kernel, rfl⟩
theorem md_Stands_nameFor_6 : mz_d mb_Stands_nameFor 6 (.iconst 1) 1 7 := ⟨by decide +kernel, rfl⟩
theorem md_Stands_nameFor_7 : mz_d mb_Stands_nameFor 7 (.if_icmp .ne 12) 3 10 := ⟨by decide +kernel, rfl⟩
theorem md_Stands_nameFor_10 : mz_d mb_Stands_nameFor 10 (.aload_n 0) 1 11 := ⟨by decide +kernel, rfl⟩
theorem md_Stands_nameFor_11 : mz_d mb_Stands_nameFor 11 (.getfield 15) 3 14 := ⟨by decide +kernel, rfl⟩
theorem md_Stands_nameFor_14 : mz_d mb_Stands_nameFor 14 (.iload_n 1) 1 15 := ⟨by decide +kernel, rfl⟩
theorem md_Stands_nameFor_15 : mz_d mb_Stands_nameFor 15 (.iaload) 1 16 := ⟨by decide +kernel, rfl⟩
theorem md_Stands_nameFor_16 : mz_d mb_Stands_nameFor 16 (.goto 4) 3 19 := ⟨by decide +kernel, rfl⟩
theorem md_Stands_nameFor_19 : mz_d mb_Stands_nameFor 19 (.iconst (-1)) 1 20 := ⟨by decide +kernel, rfl⟩
theorem md_Stands_nameFor_20 : mz_d mb_Stands_nameFor 20 (.ireturn) 1 21 := ⟨by decide +kernel, rfl⟩
theorem md_Stands_keepsPhi_0 : mz_d mb_Stands_keepsPhi 0 (.aload_n 0) 1 1 := ⟨by decide +kernel, rfl⟩
theorem md_Stands_keepsPhi_1 : mz_d mb_Stands_keepsPhi 1 (.getfield 29) 3 4 := ⟨by decide +kernel, rfl⟩
theorem md_Stands_keepsPhi_4 : mz_d mb_Stands_keepsPhi 4 (.getfield 37) 3 7 := ⟨by decide +kernel, rfl⟩
theorem md_Stands_keepsPhi_7 : mz_d mb_Stands_keepsPhi 7 (.iload_n 1) 1 8 := ⟨by decide +kernel, rfl⟩
theorem md_Stands_keepsPhi_8 : mz_d mb_Stands_keepsPhi 8 (.iaload) 1 9 := ⟨by decide +kernel, rfl⟩
theorem md_Stands_keepsPhi_9 : mz_d mb_Stands_keepsPhi 9 (.iload_n 2) 1 10 := ⟨by decide +kernel, rfl⟩
theorem md_Stands_keepsPhi_10 : mz_d mb_Stands_keepsPhi 10 (.invokestatic 42) 3 13 := ⟨by decide +kernel, rfl⟩
theorem md_Stands_keepsPhi_13 : mz_d mb_Stands_keepsPhi 13 (.ifCond .eq 19) 3 16 := ⟨by decide +kernel, rfl⟩
theorem md_Stands_keepsPhi_16 : mz_d mb_Stands_keepsPhi 16 (.aload_n 0) 1 17 := ⟨by decide +kernel, rfl⟩
theorem md_Stands_keepsPhi_17 : mz_d mb_Stands_keepsPhi 17 (.iload_n 1) 1 18 := ⟨by decide +kernel, rfl⟩
theorem md_Stands_keepsPhi_18 : mz_d mb_Stands_keepsPhi 18 (.iload_n 2) 1 19 := ⟨by decide +kernel, rfl⟩
theorem md_Stands_keepsPhi_19 : mz_d mb_Stands_keepsPhi 19 (.invokestatic 46) 3 22 := ⟨by decide +kernel, rfl⟩
theorem md_Stands_keepsPhi_22 : mz_d mb_Stands_keepsPhi 22 (.invokevirtual 50) 3 25 := ⟨by decide +kernel, rfl⟩
theorem md_Stands_keepsPhi_25 : mz_d mb_Stands_keepsPhi 25 (.ifCond .eq 7) 3 28 := ⟨by decide +kernel, rfl⟩
theorem md_Stands_keepsPhi_28 : mz_d mb_Stands_keepsPhi 28 (.iconst 1) 1 29 := ⟨by decide +kernel, rfl⟩
theorem md_Stands_keepsPhi_29 : mz_d mb_Stands_keepsPhi 29 (.goto 4) 3 32 := ⟨by decide +kernel, rfl⟩
theorem md_Stands_keepsPhi_32 : mz_d mb_Stands_keepsPhi 32 (.iconst 0) 1 33 := ⟨by decide +kernel, rfl⟩
theorem md_Stands_keepsPhi_33 : mz_d mb_Stands_keepsPhi 33 (.ireturn) 1 34 := ⟨by decide +kernel, rfl⟩
theorem md_Stands_keepsOperation_0 : mz_d mb_Stands_keepsOperation 0 (.aload_n 0) 1 1 := ⟨by decide +kernel, rfl⟩
theorem md_Stands_keepsOperation_1 : mz_d mb_Stands_keepsOperation 1 (.getfield 21) 3 4 := ⟨by decide +kernel, rfl⟩
theorem md_Stands_keepsOperation_4 : mz_d mb_Stands_keepsOperation 4 (.iload_n 1) 1 5 := ⟨by decide +kernel, rfl⟩
theorem md_Stands_keepsOperation_5 : mz_d mb_Stands_keepsOperation 5 (.invokevirtual 54) 3 8 := ⟨by decide +kernel, rfl⟩
theorem md_Stands_keepsOperation_8 : mz_d mb_Stands_keepsOperation 8 (.ifCond .eq 14) 3 11 := ⟨by decide +kernel, rfl⟩
theorem md_Stands_keepsOperation_11 : mz_d mb_Stands_keepsOperation 11 (.aload_n 0) 1 12 := ⟨by decide +kernel, rfl⟩
theorem md_Stands_keepsOperation_12 : mz_d mb_Stands_keepsOperation 12 (.iload_n 1) 1 13 := ⟨by decide +kernel, rfl⟩
theorem md_Stands_keepsOperation_13 : mz_d mb_Stands_keepsOperation 13 (.invokestatic 59) 3 16 := ⟨by decide +kernel, rfl⟩
theorem md_Stands_keepsOperation_16 : mz_d mb_Stands_keepsOperation 16 (.invokevirtual 50) 3 19 := ⟨by decide +kernel, rfl⟩
theorem md_Stands_keepsOperation_19 : mz_d mb_Stands_keepsOperation 19 (.ifCond .eq 7) 3 22 := ⟨by decide +kernel, rfl⟩
theorem md_Stands_keepsOperation_22 : mz_d mb_Stands_keepsOperation 22 (.iconst 1) 1 23 := ⟨by decide +kernel, rfl⟩
theorem md_Stands_keepsOperation_23 : mz_d mb_Stands_keepsOperation 23 (.goto 4) 3 26 := ⟨by decide +kernel, rfl⟩
theorem md_Stands_keepsOperation_26 : mz_d mb_Stands_keepsOperation 26 (.iconst 0) 1 27 := ⟨by decide +kernel, rfl⟩
theorem md_Stands_keepsOperation_27 : mz_d mb_Stands_keepsOperation 27 (.ireturn) 1 28 := ⟨by decide +kernel, rfl⟩
theorem md_Stands_letBe_0 : mz_d mb_Stands_letBe 0 (.aload_n 0) 1 1 := ⟨by decide +kernel, rfl⟩
theorem md_Stands_letBe_1 : mz_d mb_Stands_letBe 1 (.getfield 9) 3 4 := ⟨by decide +kernel, rfl⟩
theorem md_Stands_letBe_4 : mz_d mb_Stands_letBe 4 (.iload_n 1) 1 5 := ⟨by decide +kernel, rfl⟩
theorem md_Stands_letBe_5 : mz_d mb_Stands_letBe 5 (.iconst 1) 1 6 := ⟨by decide +kernel, rfl⟩
theorem md_Stands_letBe_6 : mz_d mb_Stands_letBe 6 (.iastore) 1 7 := ⟨by decide +kernel, rfl⟩
theorem md_Stands_letBe_7 : mz_d mb_Stands_letBe 7 (.aload_n 0) 1 8 := ⟨by decide +kernel, rfl⟩
theorem md_Stands_letBe_8 : mz_d mb_Stands_letBe 8 (.getfield 15) 3 11 := ⟨by decide +kernel, rfl⟩
theorem md_Stands_letBe_11 : mz_d mb_Stands_letBe 11 (.iload_n 1) 1 12 := ⟨by decide +kernel, rfl⟩
theorem md_Stands_letBe_12 : mz_d mb_Stands_letBe 12 (.iload_n 1) 1 13 := ⟨by decide +kernel, rfl⟩
theorem md_Stands_letBe_13 : mz_d mb_Stands_letBe 13 (.iastore) 1 14 := ⟨by decide +kernel, rfl⟩
theorem md_Stands_letBe_14 : mz_d mb_Stands_letBe 14 (.return_) 1 15 := ⟨by decide +kernel, rfl⟩
theorem md_Stands_letAllBe_0 : mz_d mb_Stands_letAllBe 0 (.iconst 0) 1 1 := ⟨by decide +kernel, rfl⟩
theorem md_Stands_letAllBe_1 : mz_d mb_Stands_letAllBe 1 (.istore_n 1) 1 2 := ⟨by decide +kernel, rfl⟩
theorem md_Stands_letAllBe_2 : mz_d mb_Stands_letAllBe 2 (.iload_n 1) 1 3 := ⟨by decide +kernel, rfl⟩
theorem md_Stands_letAllBe_3 : mz_d mb_Stands_letAllBe 3 (.sipush 221) 3 6 := ⟨by decide +kernel, rfl⟩
theorem md_Stands_letAllBe_6 : mz_d mb_Stands_letAllBe 6 (.if_icmp .ge 14) 3 9 := ⟨by decide +kernel, rfl⟩
theorem md_Stands_letAllBe_9 : mz_d mb_Stands_letAllBe 9 (.aload_n 0) 1 10 := ⟨by decide +kernel, rfl⟩
theorem md_Stands_letAllBe_10 : mz_d mb_Stands_letAllBe 10 (.iload_n 1) 1 11 := ⟨by decide +kernel, rfl⟩
theorem md_Stands_letAllBe_11 : mz_d mb_Stands_letAllBe 11 (.invokevirtual 63) 3 14 := ⟨by decide +kernel, rfl⟩
theorem md_Stands_letAllBe_14 : mz_d mb_Stands_letAllBe 14 (.iinc 1 1) 3 17 := ⟨by decide +kernel, rfl⟩
theorem md_Stands_letAllBe_17 : mz_d mb_Stands_letAllBe 17 (.goto (-15)) 3 20 := ⟨by decide +kernel, rfl⟩
theorem md_Stands_letAllBe_20 : mz_d mb_Stands_letAllBe 20 (.return_) 1 21 := ⟨by decide +kernel, rfl⟩
theorem md_Stands_letBeNumber_0 : mz_d mb_Stands_letBeNumber 0 (.aload_n 0) 1 1 := ⟨by decide +kernel, rfl⟩
theorem md_Stands_letBeNumber_1 : mz_d mb_Stands_letBeNumber 1 (.getfield 9) 3 4 := ⟨by decide +kernel, rfl⟩
theorem md_Stands_letBeNumber_4 : mz_d mb_Stands_letBeNumber 4 (.iload_n 1) 1 5 := ⟨by decide +kernel, rfl⟩
theorem md_Stands_letBeNumber_5 : mz_d mb_Stands_letBeNumber 5 (.iconst 2) 1 6 := ⟨by decide +kernel, rfl⟩
theorem md_Stands_letBeNumber_6 : mz_d mb_Stands_letBeNumber 6 (.iastore) 1 7 := ⟨by decide +kernel, rfl⟩
theorem md_Stands_letBeNumber_7 : mz_d mb_Stands_letBeNumber 7 (.aload_n 0) 1 8 := ⟨by decide +kernel, rfl⟩
theorem md_Stands_letBeNumber_8 : mz_d mb_Stands_letBeNumber 8 (.getfield 15) 3 11 := ⟨by decide +kernel, rfl⟩
theorem md_Stands_letBeNumber_11 : mz_d mb_Stands_letBeNumber 11 (.iload_n 1) 1 12 := ⟨by decide +kernel, rfl⟩
theorem md_Stands_letBeNumber_12 : mz_d mb_Stands_letBeNumber 12 (.iload_n 2) 1 13 := ⟨by decide +kernel, rfl⟩
theorem md_Stands_letBeNumber_13 : mz_d mb_Stands_letBeNumber 13 (.iastore) 1 14 := ⟨by decide +kernel, rfl⟩
theorem md_Stands_letBeNumber_14 : mz_d mb_Stands_letBeNumber 14 (.return_) 1 15 := ⟨by decide +kernel, rfl⟩
theorem md_Stands_firstKnown_0 : mz_d mb_Stands_firstKnown 0 (.iload_n 1) 1 1 := ⟨by decide +kernel, rfl⟩
theorem md_Stands_firstKnown_1 : mz_d mb_Stands_firstKnown 1 (.ifCond .ne 5) 3 4 := ⟨by decide +kernel, rfl⟩
theorem md_Stands_firstKnown_4 : mz_d mb_Stands_firstKnown 4 (.iconst 0) 1 5 := ⟨by decide +kernel, rfl⟩
theorem md_Stands_firstKnown_5 : mz_d mb_Stands_firstKnown 5 (.ireturn) 1 6 := ⟨by decide +kernel, rfl⟩
theorem md_Stands_firstKnown_6 : mz_d mb_Stands_firstKnown 6 (.iconst 0) 1 7 := ⟨by decide +kernel, rfl⟩
theorem md_Stands_firstKnown_7 : mz_d mb_Stands_firstKnown 7 (.istore_n 3) 1 8 := ⟨by decide +kernel, rfl⟩
theorem md_Stands_firstKnown_8 : mz_d mb_Stands_firstKnown 8 (.iload_n 3) 1 9 := ⟨by decide +kernel, rfl⟩
theorem md_Stands_firstKnown_9 : mz_d mb_Stands_firstKnown 9 (.aload_n 0) 1 10 := ⟨by decide +kernel, rfl⟩
theorem md_Stands_firstKnown_10 : mz_d mb_Stands_firstKnown 10 (.getfield 21) 3 13 := ⟨by decide +kernel, rfl⟩
theorem md_Stands_firstKnown_13 : mz_d mb_Stands_firstKnown 13 (.getfield 112) 3 16 := ⟨by decide +kernel, rfl⟩
theorem md_Stands_firstKnown_16 : mz_d mb_Stands_firstKnown 16 (.if_icmp .ge 52) 3 19 := ⟨by decide +kernel, rfl⟩
theorem md_Stands_firstKnown_19 : mz_d mb_Stands_firstKnown 19 (.aload_n 0) 1 20 := ⟨by decide +kernel, rfl⟩
theorem md_Stands_firstKnown_20 : mz_d mb_Stands_firstKnown 20 (.getfield 25) 3 23 := ⟨by decide +kernel, rfl⟩
theorem md_Stands_firstKnown_23 : mz_d mb_Stands_firstKnown 23 (.getfield 115) 3 26 := ⟨by decide +kernel, rfl⟩
theorem md_Stands_firstKnown_26 : mz_d mb_Stands_firstKnown 26 (.iload_n 1) 1 27 := ⟨by decide +kernel, rfl⟩
theorem md_Stands_firstKnown_27 : mz_d mb_Stands_firstKnown 27 (.iaload) 1 28 := ⟨by decide +kernel, rfl⟩
theorem md_Stands_firstKnown_28 : mz_d mb_Stands_firstKnown 28 (.iload_n 3) 1 29 := ⟨by decide +kernel, rfl⟩
theorem md_Stands_firstKnown_29 : mz_d mb_Stands_firstKnown 29 (.invokestatic 42) 3 32 := ⟨by decide +kernel, rfl⟩
theorem md_Stands_firstKnown_32 : mz_d mb_Stands_firstKnown 32 (.ifCond .eq 30) 3 35 := ⟨by decide +kernel, rfl⟩
theorem md_Stands_firstKnown_35 : mz_d mb_Stands_firstKnown 35 (.aload_n 0) 1 36 := ⟨by decide +kernel, rfl⟩
theorem md_Stands_firstKnown_36 : mz_d mb_Stands_firstKnown 36 (.getfield 9) 3 39 := ⟨by decide +kernel, rfl⟩
theorem md_Stands_firstKnown_39 : mz_d mb_Stands_firstKnown 39 (.aload_n 0) 1 40 := ⟨by decide +kernel, rfl⟩
theorem md_Stands_firstKnown_40 : mz_d mb_Stands_firstKnown 40 (.getfield 33) 3 43 := ⟨by decide +kernel, rfl⟩
theorem md_Stands_firstKnown_43 : mz_d mb_Stands_firstKnown 43 (.iload_n 3) 1 44 := ⟨by decide +kernel, rfl⟩
theorem md_Stands_firstKnown_44 : mz_d mb_Stands_firstKnown 44 (.iload_n 2) 1 45 := ⟨by decide +kernel, rfl⟩
theorem md_Stands_firstKnown_45 : mz_d mb_Stands_firstKnown 45 (.invokevirtual 118) 3 48 := ⟨by decide +kernel, rfl⟩
theorem md_Stands_firstKnown_48 : mz_d mb_Stands_firstKnown 48 (.iaload) 1 49 := ⟨by decide +kernel, rfl⟩
theorem md_Stands_firstKnown_49 : mz_d mb_Stands_firstKnown 49 (.ifCond .eq 13) 3 52 := ⟨by decide +kernel, rfl⟩
theorem md_Stands_firstKnown_52 : mz_d mb_Stands_firstKnown 52 (.aload_n 0) 1 53 := ⟨by decide +kernel, rfl⟩
theorem md_Stands_firstKnown_53 : mz_d mb_Stands_firstKnown 53 (.getfield 33) 3 56 := ⟨by decide +kernel, rfl⟩
theorem md_Stands_firstKnown_56 : mz_d mb_Stands_firstKnown 56 (.iload_n 3) 1 57 := ⟨by decide +kernel, rfl⟩
theorem md_Stands_firstKnown_57 : mz_d mb_Stands_firstKnown 57 (.iload_n 2) 1 58 := ⟨by decide +kernel, rfl⟩
theorem md_Stands_firstKnown_58 : mz_d mb_Stands_firstKnown 58 (.invokevirtual 118) 3 61 := ⟨by decide +kernel, rfl⟩
theorem md_Stands_firstKnown_61 : mz_d mb_Stands_firstKnown 61 (.ireturn) 1 62 := ⟨by decide +kernel, rfl⟩
theorem md_Stands_firstKnown_62 : mz_d mb_Stands_firstKnown 62 (.iinc 3 1) 3 65 := ⟨by decide +kernel, rfl⟩
theorem md_Stands_firstKnown_65 : mz_d mb_Stands_firstKnown 65 (.goto (-57)) 3 68 := ⟨by decide +kernel, rfl⟩
theorem md_Stands_firstKnown_68 : mz_d mb_Stands_firstKnown 68 (.iconst (-1)) 1 69 := ⟨by decide +kernel, rfl⟩
theorem md_Stands_firstKnown_69 : mz_d mb_Stands_firstKnown 69 (.ireturn) 1 70 := ⟨by decide +kernel, rfl⟩
theorem md_Stands_differ_0 : mz_d mb_Stands_differ 0 (.aload_n 0) 1 1 := ⟨by decide +kernel, rfl⟩
theorem md_Stands_differ_1 : mz_d mb_Stands_differ 1 (.getfield 9) 3 4 := ⟨by decide +kernel, rfl⟩
theorem md_Stands_differ_4 : mz_d mb_Stands_differ 4 (.iload_n 2) 1 5 := ⟨by decide +kernel, rfl⟩
theorem md_Stands_differ_5 : mz_d mb_Stands_differ 5 (.iaload) 1 6 := ⟨by decide +kernel, rfl⟩
theorem md_Stands_differ_6 : mz_d mb_Stands_differ 6 (.ifCond .eq 37) 3 9 := ⟨by decide +kernel, rfl⟩
theorem md_Stands_differ_9 : mz_d mb_Stands_differ 9 (.aload_n 0) 1 10 := ⟨by decide +kernel, rfl⟩
theorem md_Stands_differ_10 : mz_d mb_Stands_differ 10 (.getfield 9) 3 13 := ⟨by decide +kernel, rfl⟩
theorem md_Stands_differ_13 : mz_d mb_Stands_differ 13 (.iload_n 2) 1 14 := ⟨by decide +kernel, rfl⟩
theorem md_Stands_differ_14 : mz_d mb_Stands_differ 14 (.iaload) 1 15 := ⟨by decide +kernel, rfl⟩
theorem md_Stands_differ_15 : mz_d mb_Stands_differ 15 (.aload_n 0) 1 16 := ⟨by decide +kernel, rfl⟩
theorem md_Stands_differ_16 : mz_d mb_Stands_differ 16 (.getfield 9) 3 19 := ⟨by decide +kernel, rfl⟩
theorem md_Stands_differ_19 : mz_d mb_Stands_differ 19 (.iload_n 1) 1 20 := ⟨by decide +kernel, rfl⟩
theorem md_Stands_differ_20 : mz_d mb_Stands_differ 20 (.iaload) 1 21 := ⟨by decide +kernel, rfl⟩
theorem md_Stands_differ_21 : mz_d mb_Stands_differ 21 (.if_icmp .ne 18) 3 24 := ⟨by decide +kernel, rfl⟩
theorem md_Stands_differ_24 : mz_d mb_Stands_differ 24 (.aload_n 0) 1 25 := ⟨by decide +kernel, rfl⟩
theorem md_Stands_differ_25 : mz_d mb_Stands_differ 25 (.getfield 15) 3 28 := ⟨by decide +kernel, rfl⟩
theorem md_Stands_differ_28 : mz_d mb_Stands_differ 28 (.iload_n 2) 1 29 := ⟨by decide +kernel, rfl⟩
theorem md_Stands_differ_29 : mz_d mb_Stands_differ 29 (.iaload) 1 30 := ⟨by decide +kernel, rfl⟩
theorem md_Stands_differ_30 : mz_d mb_Stands_differ 30 (.aload_n 0) 1 31 := ⟨by decide +kernel, rfl⟩
theorem md_Stands_differ_31 : mz_d mb_Stands_differ 31 (.getfield 15) 3 34 := ⟨by decide +kernel, rfl⟩
theorem md_Stands_differ_34 : mz_d mb_Stands_differ 34 (.iload_n 1) 1 35 := ⟨by decide +kernel, rfl⟩
theorem md_Stands_differ_35 : mz_d mb_Stands_differ 35 (.iaload) 1 36 := ⟨by decide +kernel, rfl⟩
theorem md_Stands_differ_36 : mz_d mb_Stands_differ 36 (.if_icmp .eq 7) 3 39 := ⟨by decide +kernel, rfl⟩
theorem md_Stands_differ_39 : mz_d mb_Stands_differ 39 (.iconst 1) 1 40 := ⟨by decide +kernel, rfl⟩
theorem md_Stands_differ_40 : mz_d mb_Stands_differ 40 (.goto 4) 3 43 := ⟨by decide +kernel, rfl⟩
theorem md_Stands_differ_43 : mz_d mb_Stands_differ 43 (.iconst 0) 1 44 := ⟨by decide +kernel, rfl⟩
theorem md_Stands_differ_44 : mz_d mb_Stands_differ 44 (.ireturn) 1 45 := ⟨by decide +kernel, rfl⟩
theorem md_Stands_takesOtherThan_0 : mz_d mb_Stands_takesOtherThan 0 (.iconst 0) 1 1 := ⟨by decide +kernel, rfl⟩
theorem md_Stands_takesOtherThan_1 : mz_d mb_Stands_takesOtherThan 1 (.istore 4) 2 3 := ⟨by decide +kernel, rfl⟩
theorem md_Stands_takesOtherThan_3 : mz_d mb_Stands_takesOtherThan 3 (.iload 4) 2 5 := ⟨by decide +kernel, rfl⟩
theorem md_Stands_takesOtherThan_5 : mz_d mb_Stands_takesOtherThan 5 (.aload_n 0) 1 6 := ⟨by decide +kernel, rfl⟩
theorem md_Stands_takesOtherThan_6 : mz_d mb_Stands_takesOtherThan 6 (.getfield 21) 3 9 := ⟨by decide +kernel, rfl⟩
theorem md_Stands_takesOtherThan_9 : mz_d mb_Stands_takesOtherThan 9 (.getfield 112) 3 12 := ⟨by decide +kernel, rfl⟩
theorem md_Stands_takesOtherThan_12 : mz_d mb_Stands_takesOtherThan 12 (.if_icmp .ge 46) 3 15 := ⟨by decide +kernel, rfl⟩
theorem md_Stands_takesOtherThan_15 : mz_d mb_Stands_takesOtherThan 15 (.aload_n 0) 1 16 := ⟨by decide +kernel, rfl⟩
theorem md_Stands_takesOtherThan_16 : mz_d mb_Stands_takesOtherThan 16 (.getfield 25) 3 19 := ⟨by decide +kernel, rfl⟩
theorem md_Stands_takesOtherThan_19 : mz_d mb_Stands_takesOtherThan 19 (.getfield 115) 3 22 := ⟨by decide +kernel, rfl⟩
theorem md_Stands_takesOtherThan_22 : mz_d mb_Stands_takesOtherThan 22 (.iload_n 2) 1 23 := ⟨by decide +kernel, rfl⟩
theorem md_Stands_takesOtherThan_23 : mz_d mb_Stands_takesOtherThan 23 (.iaload) 1 24 := ⟨by decide +kernel, rfl⟩
theorem md_Stands_takesOtherThan_24 : mz_d mb_Stands_takesOtherThan 24 (.iload 4) 2 26 := ⟨by decide +kernel, rfl⟩
theorem md_Stands_takesOtherThan_26 : mz_d mb_Stands_takesOtherThan 26 (.invokestatic 42) 3 29 := ⟨by decide +kernel, rfl⟩
theorem md_Stands_takesOtherThan_29 : mz_d mb_Stands_takesOtherThan 29 (.ifCond .eq 23) 3 32 := ⟨by decide +kernel, rfl⟩
theorem md_Stands_takesOtherThan_32 : mz_d mb_Stands_takesOtherThan 32 (.aload_n 0) 1 33 := ⟨by decide +kernel, rfl⟩
theorem md_Stands_takesOtherThan_33 : mz_d mb_Stands_takesOtherThan 33 (.iload_n 1) 1 34 := ⟨by decide +kernel, rfl⟩
theorem md_Stands_takesOtherThan_34 : mz_d mb_Stands_takesOtherThan 34 (.aload_n 0) 1 35 := ⟨by decide +kernel, rfl⟩
theorem md_Stands_takesOtherThan_35 : mz_d mb_Stands_takesOtherThan 35 (.getfield 33) 3 38 := ⟨by decide +kernel, rfl⟩
theorem md_Stands_takesOtherThan_38 : mz_d mb_Stands_takesOtherThan 38 (.iload 4) 2 40 := ⟨by decide +kernel, rfl⟩
theorem md_Stands_takesOtherThan_40 : mz_d mb_Stands_takesOtherThan 40 (.iload_n 3) 1 41 := ⟨by decide +kernel, rfl⟩
theorem md_Stands_takesOtherThan_41 : mz_d mb_Stands_takesOtherThan 41 (.invokevirtual 118) 3 44 := ⟨by decide +kernel, rfl⟩
theorem md_Stands_takesOtherThan_44 : mz_d mb_Stands_takesOtherThan 44 (.invokevirtual 123) 3 47 := ⟨by decide +kernel, rfl⟩
theorem md_Stands_takesOtherThan_47 : mz_d mb_Stands_takesOtherThan 47 (.ifCond .eq 5) 3 50 := ⟨by decide +kernel, rfl⟩
theorem md_Stands_takesOtherThan_50 : mz_d mb_Stands_takesOtherThan 50 (.iconst 1) 1 51 := ⟨by decide +kernel, rfl⟩
theorem md_Stands_takesOtherThan_51 : mz_d mb_Stands_takesOtherThan 51 (.ireturn) 1 52 := ⟨by decide +kernel, rfl⟩
theorem md_Stands_takesOtherThan_52 : mz_d mb_Stands_takesOtherThan 52 (.iinc 4 1) 3 55 := ⟨by decide +kernel, rfl⟩
theorem md_Stands_takesOtherThan_55 : mz_d mb_Stands_takesOtherThan 55 (.goto (-52)) 3 58 := ⟨by decide +kernel, rfl⟩
theorem md_Stands_takesOtherThan_58 : mz_d mb_Stands_takesOtherThan 58 (.iconst 0) 1 59 := ⟨by decide +kernel, rfl⟩
theorem md_Stands_takesOtherThan_59 : mz_d mb_Stands_takesOtherThan 59 (.ireturn) 1 60 := ⟨by decide +kernel, rfl⟩
theorem md_Stands_standLike_0 : mz_d mb_Stands_standLike 0 (.aload_n 0) 1 1 := ⟨by decide +kernel, rfl⟩
theorem md_Stands_standLike_1 : mz_d mb_Stands_standLike 1 (.getfield 9) 3 4 := ⟨by decide +kernel, rfl⟩
theorem md_Stands_standLike_4 : mz_d mb_Stands_standLike 4 (.iload_n 1) 1 5 := ⟨by decide +kernel, rfl⟩
theorem md_Stands_standLike_5 : mz_d mb_Stands_standLike 5 (.aload_n 0) 1 6 := ⟨by decide +kernel, rfl⟩
theorem md_Stands_standLike_6 : mz_d mb_Stands_standLike 6 (.getfield 9) 3 9 := ⟨by decide +kernel, rfl⟩
theorem md_Stands_standLike_9 : mz_d mb_Stands_standLike 9 (.iload_n 2) 1 10 := ⟨by decide +kernel, rfl⟩
theorem md_Stands_standLike_10 : mz_d mb_Stands_standLike 10 (.iaload) 1 11 := ⟨by decide +kernel, rfl⟩
theorem md_Stands_standLike_11 : mz_d mb_Stands_standLike 11 (.iastore) 1 12 := ⟨by decide +kernel, rfl⟩
theorem md_Stands_standLike_12 : mz_d mb_Stands_standLike 12 (.aload_n 0) 1 13 := ⟨by decide +kernel, rfl⟩
theorem md_Stands_standLike_13 : mz_d mb_Stands_standLike 13 (.getfield 15) 3 16 := ⟨by decide +kernel, rfl⟩
theorem md_Stands_standLike_16 : mz_d mb_Stands_standLike 16 (.iload_n 1) 1 17 := ⟨by decide +kernel, rfl⟩
theorem md_Stands_standLike_17 : mz_d mb_Stands_standLike 17 (.aload_n 0) 1 18 := ⟨by decide +kernel, rfl⟩
theorem md_Stands_standLike_18 : mz_d mb_Stands_standLike 18 (.getfield 15) 3 21 := ⟨by decide +kernel, rfl⟩
theorem md_Stands_standLike_21 : mz_d mb_Stands_standLike 21 (.iload_n 2) 1 22 := ⟨by decide +kernel, rfl⟩
theorem md_Stands_standLike_22 : mz_d mb_Stands_standLike 22 (.iaload) 1 23 := ⟨by decide +kernel, rfl⟩
theorem md_Stands_standLike_23 : mz_d mb_Stands_standLike 23 (.iastore) 1 24 := ⟨by decide +kernel, rfl⟩
theorem md_Stands_standLike_24 : mz_d mb_Stands_standLike 24 (.return_) 1 25 := ⟨by decide +kernel, rfl⟩
theorem md_Stands_guessPhi_0 : mz_d mb_Stands_guessPhi 0 (.aload_n 0) 1 1 := ⟨by decide +kernel, rfl⟩
theorem md_Stands_guessPhi_1 : mz_d mb_Stands_guessPhi 1 (.iload_n 1) 1 2 := ⟨by decide +kernel, rfl⟩
theorem md_Stands_guessPhi_2 : mz_d mb_Stands_guessPhi 2 (.iload_n 2) 1 3 := ⟨by decide +kernel, rfl⟩
theorem md_Stands_guessPhi_3 : mz_d mb_Stands_guessPhi 3 (.invokevirtual 106) 3 6 := ⟨by decide +kernel, rfl⟩
theorem md_Stands_guessPhi_6 : mz_d mb_Stands_guessPhi 6 (.istore_n 3) 1 7 := ⟨by decide +kernel, rfl⟩
theorem md_Stands_guessPhi_7 : mz_d mb_Stands_guessPhi 7 (.iload_n 3) 1 8 := ⟨by decide +kernel, rfl⟩
theorem md_Stands_guessPhi_8 : mz_d mb_Stands_guessPhi 8 (.iconst (-1)) 1 9 := ⟨by decide +kernel, rfl⟩
theorem md_Stands_guessPhi_9 : mz_d mb_Stands_guessPhi 9 (.if_icmp .eq 13) 3 12 := ⟨by decide +kernel, rfl⟩
theorem md_Stands_guessPhi_12 : mz_d mb_Stands_guessPhi 12 (.aload_n 0) 1 13 := ⟨by decide +kernel, rfl⟩
theorem md_Stands_guessPhi_13 : mz_d mb_Stands_guessPhi 13 (.iload_n 3) 1 14 := ⟨by decide +kernel, rfl⟩
theorem md_Stands_guessPhi_14 : mz_d mb_Stands_guessPhi 14 (.iload_n 1) 1 15 := ⟨by decide +kernel, rfl⟩
theorem md_Stands_guessPhi_15 : mz_d mb_Stands_guessPhi 15 (.iload_n 2) 1 16 := ⟨by decide +kernel, rfl⟩
theorem md_Stands_guessPhi_16 : mz_d mb_Stands_guessPhi 16 (.invokevirtual 102) 3 19 := ⟨by decide +kernel, rfl⟩
theorem md_Stands_guessPhi_19 : mz_d mb_Stands_guessPhi 19 (.ifCond .eq 15) 3 22 := ⟨by decide +kernel, rfl⟩
theorem md_Stands_guessPhi_22 : mz_d mb_Stands_guessPhi 22 (.aload_n 0) 1 23 := ⟨by decide +kernel, rfl⟩
theorem md_Stands_guessPhi_23 : mz_d mb_Stands_guessPhi 23 (.getfield 18) 3 26 := ⟨by decide +kernel, rfl⟩
theorem md_Stands_guessPhi_26 : mz_d mb_Stands_guessPhi 26 (.iload_n 1) 1 27 := ⟨by decide +kernel, rfl⟩
theorem md_Stands_guessPhi_27 : mz_d mb_Stands_guessPhi 27 (.dup2) 1 28 := ⟨by decide +kernel, rfl⟩
theorem md_Stands_guessPhi_28 : mz_d mb_Stands_guessPhi 28 (.iaload) 1 29 := ⟨by decide +kernel, rfl⟩
theorem md_Stands_guessPhi_29 : mz_d mb_Stands_guessPhi 29 (.iconst 1) 1 30 := ⟨by decide +kernel, rfl⟩
theorem md_Stands_guessPhi_30 : mz_d mb_Stands_guessPhi 30 (.iload_n 2) 1 31 := ⟨by decide +kernel, rfl⟩
theorem md_Stands_guessPhi_31 : mz_d mb_Stands_guessPhi 31 (.ishl) 1 32 := ⟨by decide +kernel, rfl⟩
theorem md_Stands_guessPhi_32 : mz_d mb_Stands_guessPhi 32 (.ior) 1 33 := ⟨by decide +kernel, rfl⟩
theorem md_Stands_guessPhi_33 : mz_d mb_Stands_guessPhi 33 (.iastore) 1 34 := ⟨by decide +kernel, rfl⟩
theorem md_Stands_guessPhi_34 : mz_d mb_Stands_guessPhi 34 (.aload_n 0) 1 35 := ⟨by decide +kernel, rfl⟩
theorem md_Stands_guessPhi_35 : mz_d mb_Stands_guessPhi 35 (.getfield 18) 3 38 := ⟨by decide +kernel, rfl⟩
theorem md_Stands_guessPhi_38 : mz_d mb_Stands_guessPhi 38 (.iload_n 1) 1 39 := ⟨by decide +kernel, rfl⟩
theorem md_Stands_guessPhi_39 : mz_d mb_Stands_guessPhi 39 (.iaload) 1 40 := ⟨by decide +kernel, rfl⟩
theorem md_Stands_guessPhi_40 : mz_d mb_Stands_guessPhi 40 (.iload_n 2) 1 41 := ⟨by decide +kernel, rfl⟩
theorem md_Stands_guessPhi_41 : mz_d mb_Stands_guessPhi 41 (.invokestatic 42) 3 44 := ⟨by decide +kernel, rfl⟩
theorem md_Stands_guessPhi_44 : mz_d mb_Stands_guessPhi 44 (.ifCond .eq 15) 3 47 := ⟨by decide +kernel, rfl⟩
theorem md_Stands_guessPhi_47 : mz_d mb_Stands_guessPhi 47 (.aload_n 0) 1 48 := ⟨by decide +kernel, rfl⟩
theorem md_Stands_guessPhi_48 : mz_d mb_Stands_guessPhi 48 (.iload_n 1) 1 49 := ⟨by decide +kernel, rfl⟩
theorem md_Stands_guessPhi_49 : mz_d mb_Stands_guessPhi 49 (.iload_n 2) 1 50 := ⟨by decide +kernel, rfl⟩
theorem md_Stands_guessPhi_50 : mz_d mb_Stands_guessPhi 50 (.invokestatic 46) 3 53 := ⟨by decide +kernel, rfl⟩
theorem md_Stands_guessPhi_53 : mz_d mb_Stands_guessPhi 53 (.invokevirtual 63) 3 56 := ⟨by decide +kernel, rfl⟩
theorem md_Stands_guessPhi_56 : mz_d mb_Stands_guessPhi 56 (.goto 13) 3 59 := ⟨by decide +kernel, rfl⟩
theorem md_Stands_guessPhi_59 : mz_d mb_Stands_guessPhi 59 (.aload_n 0) 1 60 := ⟨by decide +kernel, rfl⟩
theorem md_Stands_guessPhi_60 : mz_d mb_Stands_guessPhi 60 (.iload_n 1) 1 61 := ⟨by decide +kernel, rfl⟩
theorem md_Stands_guessPhi_61 : mz_d mb_Stands_guessPhi 61 (.iload_n 2) 1 62 := ⟨by decide +kernel, rfl⟩
theorem md_Stands_guessPhi_62 : mz_d mb_Stands_guessPhi 62 (.invokestatic 46) 3 65 := ⟨by decide +kernel, rfl⟩
theorem md_Stands_guessPhi_65 : mz_d mb_Stands_guessPhi 65 (.iload_n 3) 1 66 := ⟨by decide +kernel, rfl⟩
theorem md_Stands_guessPhi_66 : mz_d mb_Stands_guessPhi 66 (.invokevirtual 109) 3 69 := ⟨by decide +kernel, rfl⟩
theorem md_Stands_guessPhi_69 : mz_d mb_Stands_guessPhi 69 (.return_) 1 70 := ⟨by decide +kernel, rfl⟩
theorem md_Stands_givesNumber_0 : mz_d mb_Stands_givesNumber 0 (.aload_n 0) 1 1 := ⟨by decide +kernel, rfl⟩
theorem md_Stands_givesNumber_1 : mz_d mb_Stands_givesNumber 1 (.getfield 33) 3 4 := ⟨by decide +kernel, rfl⟩
theorem md_Stands_givesNumber_4 : mz_d mb_Stands_givesNumber 4 (.getfield 132) 3 7 := ⟨by decide +kernel, rfl⟩
theorem md_Stands_givesNumber_7 : mz_d mb_Stands_givesNumber 7 (.iload_n 1) 1 8 := ⟨by decide +kernel, rfl⟩
theorem md_Stands_givesNumber_8 : mz_d mb_Stands_givesNumber 8 (.iaload) 1 9 := ⟨by decide +kernel, rfl⟩
theorem md_Stands_givesNumber_9 : mz_d mb_Stands_givesNumber 9 (.istore_n 2) 1 10 := ⟨by decide +kernel, rfl⟩
theorem md_Stands_givesNumber_10 : mz_d mb_Stands_givesNumber 10 (.aload_n 0) 1 11 := ⟨by decide +kernel, rfl⟩
theorem md_Stands_givesNumber_11 : mz_d mb_Stands_givesNumber 11 (.getfield 33) 3 14 := ⟨by decide +kernel, rfl⟩
theorem md_Stands_givesNumber_14 : mz_d mb_Stands_givesNumber 14 (.getfield 136) 3 17 := ⟨by decide +kernel, rfl⟩
theorem md_Stands_givesNumber_17 : mz_d mb_Stands_givesNumber 17 (.iload_n 1) 1 18 := ⟨by decide +kernel, rfl⟩
theorem md_Stands_givesNumber_18 : mz_d mb_Stands_givesNumber 18 (.iaload) 1 19 := ⟨by decide +kernel, rfl⟩
theorem md_Stands_givesNumber_19 : mz_d mb_Stands_givesNumber 19 (.istore_n 3) 1 20 := ⟨by decide +kernel, rfl⟩
theorem md_Stands_givesNumber_20 : mz_d mb_Stands_givesNumber 20 (.aload_n 0) 1 21 := ⟨by decide +kernel, rfl⟩
theorem md_Stands_givesNumber_21 : mz_d mb_Stands_givesNumber 21 (.iload_n 2) 1 22 := ⟨by decide +kernel, rfl⟩
theorem md_Stands_givesNumber_22 : mz_d mb_Stands_givesNumber 22 (.invokevirtual 143) 3 25 := ⟨by decide +kernel, rfl⟩
theorem md_Stands_givesNumber_25 : mz_d mb_Stands_givesNumber 25 (.ifCond .eq 42) 3 28 := ⟨by decide +kernel, rfl⟩
theorem md_Stands_givesNumber_28 : mz_d mb_Stands_givesNumber 28 (.aload_n 0) 1 29 := ⟨by decide +kernel, rfl⟩
theorem md_Stands_givesNumber_29 : mz_d mb_Stands_givesNumber 29 (.iload_n 3) 1 30 := ⟨by decide +kernel, rfl⟩
theorem md_Stands_givesNumber_30 : mz_d mb_Stands_givesNumber 30 (.invokevirtual 143) 3 33 := ⟨by decide +kernel, rfl⟩
theorem md_Stands_givesNumber_33 : mz_d mb_Stands_givesNumber 33 (.ifCond .eq 34) 3 36 := ⟨by decide +kernel, rfl⟩
theorem md_Stands_givesNumber_36 : mz_d mb_Stands_givesNumber 36 (.aload_n 0) 1 37 := ⟨by decide +kernel, rfl⟩
theorem md_Stands_givesNumber_37 : mz_d mb_Stands_givesNumber 37 (.getfield 21) 3 40 := ⟨by decide +kernel, rfl⟩
theorem md_Stands_givesNumber_40 : mz_d mb_Stands_givesNumber 40 (.getfield 126) 3 43 := ⟨by decide +kernel, rfl⟩
theorem md_Stands_givesNumber_43 : mz_d mb_Stands_givesNumber 43 (.iload_n 1) 1 44 := ⟨by decide +kernel, rfl⟩
theorem md_Stands_givesNumber_44 : mz_d mb_Stands_givesNumber 44 (.iaload) 1 45 := ⟨by decide +kernel, rfl⟩
theorem md_Stands_givesNumber_45 : mz_d mb_Stands_givesNumber 45 (.aload_n 0) 1 46 := ⟨by decide +kernel, rfl⟩
theorem md_Stands_givesNumber_46 : mz_d mb_Stands_givesNumber 46 (.getfield 15) 3 49 := ⟨by decide +kernel, rfl⟩
theorem md_Stands_givesNumber_49 : mz_d mb_Stands_givesNumber 49 (.iload_n 2) 1 50 := ⟨by decide +kernel, rfl⟩
theorem md_Stands_givesNumber_50 : mz_d mb_Stands_givesNumber 50 (.iaload) 1 51 := ⟨by decide +kernel, rfl⟩
theorem md_Stands_givesNumber_51 : mz_d mb_Stands_givesNumber 51 (.aload_n 0) 1 52 := ⟨by decide +kernel, rfl⟩
theorem md_Stands_givesNumber_52 : mz_d mb_Stands_givesNumber 52 (.getfield 15) 3 55 := ⟨by decide +kernel, rfl⟩
theorem md_Stands_givesNumber_55 : mz_d mb_Stands_givesNumber 55 (.iload_n 3) 1 56 := ⟨by decide +kernel, rfl⟩
theorem md_Stands_givesNumber_56 : mz_d mb_Stands_givesNumber 56 (.iaload) 1 57 := ⟨by decide +kernel, rfl⟩
theorem md_Stands_givesNumber_57 : mz_d mb_Stands_givesNumber 57 (.invokestatic 146) 3 60 := ⟨by decide +kernel, rfl⟩
theorem md_Stands_givesNumber_60 : mz_d mb_Stands_givesNumber 60 (.ifCond .ne 7) 3 63 := ⟨by decide +kernel, rfl⟩
theorem md_Stands_givesNumber_63 : mz_d mb_Stands_givesNumber 63 (.iconst 1) 1 64 := ⟨by decide +kernel, rfl⟩
theorem md_Stands_givesNumber_64 : mz_d mb_Stands_givesNumber 64 (.goto 4) 3 67 := ⟨by decide +kernel, rfl⟩
theorem md_Stands_givesNumber_67 : mz_d mb_Stands_givesNumber 67 (.iconst 0) 1 68 := ⟨by decide +kernel, rfl⟩
theorem md_Stands_givesNumber_68 : mz_d mb_Stands_givesNumber 68 (.ireturn) 1 69 := ⟨by decide +kernel, rfl⟩
theorem md_Stands_guessOperation_0 : mz_d mb_Stands_guessOperation 0 (.aload_n 0) 1 1 := ⟨by decide +kernel, rfl⟩
theorem md_Stands_guessOperation_1 : mz_d mb_Stands_guessOperation 1 (.getfield 21) 3 4 := ⟨by decide +kernel, rfl⟩
theorem md_Stands_guessOperation_4 : mz_d mb_Stands_guessOperation 4 (.getfield 126) 3 7 := ⟨by decide +kernel, rfl⟩
theorem md_Stands_guessOperation_7 : mz_d mb_Stands_guessOperation 7 (.iload_n 1) 1 8 := ⟨by decide +kernel, rfl⟩
theorem md_Stands_guessOperation_8 : mz_d mb_Stands_guessOperation 8 (.iaload) 1 9 := ⟨by decide +kernel, rfl⟩
theorem md_Stands_guessOperation_9 : mz_d mb_Stands_guessOperation 9 (.istore_n 2) 1 10 := ⟨by decide +kernel, rfl⟩
theorem md_Stands_guessOperation_10 : mz_d mb_Stands_guessOperation 10 (.iload_n 1) 1 11 := ⟨by decide +kernel, rfl⟩
theorem md_Stands_guessOperation_11 : mz_d mb_Stands_guessOperation 11 (.invokestatic 59) 3 14 := ⟨by decide +kernel, rfl⟩
theorem md_Stands_guessOperation_14 : mz_d mb_Stands_guessOperation 14 (.istore_n 3) 1 15 := ⟨by decide +kernel, rfl⟩
theorem md_Stands_guessOperation_15 : mz_d mb_Stands_guessOperation 15 (.iload_n 2) 1 16 := ⟨by decide +kernel, rfl⟩
theorem md_Stands_guessOperation_16 : mz_d mb_Stands_guessOperation 16 (.ifCond .ne 20) 3 19 := ⟨by decide +kernel, rfl⟩
theorem md_Stands_guessOperation_19 : mz_d mb_Stands_guessOperation 19 (.aload_n 0) 1 20 := ⟨by decide +kernel, rfl⟩
theorem md_Stands_guessOperation_20 : mz_d mb_Stands_guessOperation 20 (.iload_n 3) 1 21 := ⟨by decide +kernel, rfl⟩
theorem md_Stands_guessOperation_21 : mz_d mb_Stands_guessOperation 21 (.aload_n 0) 1 22 := ⟨by decide +kernel, rfl⟩
theorem md_Stands_guessOperation_22 : mz_d mb_Stands_guessOperation 22 (.getfield 21) 3 25 := ⟨by decide +kernel, rfl⟩
theorem md_Stands_guessOperation_25 : mz_d mb_Stands_guessOperation 25 (.getfield 129) 3 28 := ⟨by decide +kernel, rfl⟩
theorem md_Stands_guessOperation_28 : mz_d mb_Stands_guessOperation 28 (.iload_n 1) 1 29 := ⟨by decide +kernel, rfl⟩
theorem md_Stands_guessOperation_29 : mz_d mb_Stands_guessOperation 29 (.iaload) 1 30 := ⟨by decide +kernel, rfl⟩
theorem md_Stands_guessOperation_30 : mz_d mb_Stands_guessOperation 30 (.invokevirtual 80) 3 33 := ⟨by decide +kernel, rfl⟩
theorem md_Stands_guessOperation_33 : mz_d mb_Stands_guessOperation 33 (.goto 95) 3 36 := ⟨by decide +kernel, rfl⟩
theorem md_Stands_guessOperation_36 : mz_d mb_Stands_guessOperation 36 (.iload_n 2) 1 37 := ⟨by decide +kernel, rfl⟩
theorem md_Stands_guessOperation_37 : mz_d mb_Stands_guessOperation 37 (.iconst 1) 1 38 := ⟨by decide +kernel, rfl⟩
theorem md_Stands_guessOperation_38 : mz_d mb_Stands_guessOperation 38 (.if_icmp .ne 20) 3 41 := ⟨by decide +kernel, rfl⟩
theorem md_Stands_guessOperation_41 : mz_d mb_Stands_guessOperation 41 (.aload_n 0) 1 42 := ⟨by decide +kernel, rfl⟩
theorem md_Stands_guessOperation_42 : mz_d mb_Stands_guessOperation 42 (.iload_n 3) 1 43 := ⟨by decide +kernel, rfl⟩
theorem md_Stands_guessOperation_43 : mz_d mb_Stands_guessOperation 43 (.aload_n 0) 1 44 := ⟨by decide +kernel, rfl⟩
theorem md_Stands_guessOperation_44 : mz_d mb_Stands_guessOperation 44 (.getfield 33) 3 47 := ⟨by decide +kernel, rfl⟩
theorem md_Stands_guessOperation_47 : mz_d mb_Stands_guessOperation 47 (.getfield 132) 3 50 := ⟨by decide +kernel, rfl⟩
theorem md_Stands_guessOperation_50 : mz_d mb_Stands_guessOperation 50 (.iload_n 1) 1 51 := ⟨by decide +kernel, rfl⟩
theorem md_Stands_guessOperation_51 : mz_d mb_Stands_guessOperation 51 (.iaload) 1 52 := ⟨by decide +kernel, rfl⟩
theorem md_Stands_guessOperation_52 : mz_d mb_Stands_guessOperation 52 (.invokevirtual 109) 3 55 := ⟨by decide +kernel, rfl⟩
theorem md_Stands_guessOperation_55 : mz_d mb_Stands_guessOperation 55 (.goto 73) 3 58 := ⟨by decide +kernel, rfl⟩
theorem md_Stands_guessOperation_58 : mz_d mb_Stands_guessOperation 58 (.iload_n 2) 1 59 := ⟨by decide +kernel, rfl⟩
theorem md_Stands_guessOperation_59 : mz_d mb_Stands_guessOperation 59 (.bipush 16) 2 61 := ⟨by decide +kernel, rfl⟩
theorem md_Stands_guessOperation_61 : mz_d mb_Stands_guessOperation 61 (.if_icmp .ge 51) 3 64 := ⟨by decide +kernel, rfl⟩
theorem md_Stands_guessOperation_64 : mz_d mb_Stands_guessOperation 64 (.aload_n 0) 1 65 := ⟨by decide +kernel, rfl⟩
theorem md_Stands_guessOperation_65 : mz_d mb_Stands_guessOperation 65 (.iload_n 1) 1 66 := ⟨by decide +kernel, rfl⟩
theorem md_Stands_guessOperation_66 : mz_d mb_Stands_guessOperation 66 (.invokevirtual 133) 3 69 := ⟨by decide +kernel, rfl⟩
theorem md_Stands_guessOperation_69 : mz_d mb_Stands_guessOperation 69 (.ifCond .eq 43) 3 72 := ⟨by decide +kernel, rfl⟩
theorem md_Stands_guessOperation_72 : mz_d mb_Stands_guessOperation 72 (.aload_n 0) 1 73 := ⟨by decide +kernel, rfl⟩
theorem md_Stands_guessOperation_73 : mz_d mb_Stands_guessOperation 73 (.iload_n 3) 1 74 := ⟨by decide +kernel, rfl⟩
theorem md_Stands_guessOperation_74 : mz_d mb_Stands_guessOperation 74 (.iload_n 2) 1 75 := ⟨by decide +kernel, rfl⟩
theorem md_Stands_guessOperation_75 : mz_d mb_Stands_guessOperation 75 (.aload_n 0) 1 76 := ⟨by decide +kernel, rfl⟩
theorem md_Stands_guessOperation_76 : mz_d mb_Stands_guessOperation 76 (.getfield 15) 3 79 := ⟨by decide +kernel, rfl⟩
theorem md_Stands_guessOperation_79 : mz_d mb_Stands_guessOperation 79 (.aload_n 0) 1 80 := ⟨by decide +kernel, rfl⟩
theorem md_Stands_guessOperation_80 : mz_d mb_Stands_guessOperation 80 (.getfield 33) 3 83 := ⟨by decide +kernel, rfl⟩
theorem md_Stands_guessOperation_83 : mz_d mb_Stands_guessOperation 83 (.getfield 132) 3 86 := ⟨by decide +kernel, rfl⟩
theorem md_Stands_guessOperation_86 : mz_d mb_Stands_guessOperation 86 (.iload_n 1) 1 87 := ⟨by decide +kernel, rfl⟩
theorem md_Stands_guessOperation_87 : mz_d mb_Stands_guessOperation 87 (.iaload) 1 88 := ⟨by decide +kernel, rfl⟩
theorem md_Stands_guessOperation_88 : mz_d mb_Stands_guessOperation 88 (.iaload) 1 89 := ⟨by decide +kernel, rfl⟩
theorem md_Stands_guessOperation_89 : mz_d mb_Stands_guessOperation 89 (.aload_n 0) 1 90 := ⟨by decide +kernel, rfl⟩
theorem md_Stands_guessOperation_90 : mz_d mb_Stands_guessOperation 90 (.getfield 15) 3 93 := ⟨by decide +kernel, rfl⟩
theorem md_Stands_guessOperation_93 : mz_d mb_Stands_guessOperation 93 (.aload_n 0) 1 94 := ⟨by decide +kernel, rfl⟩
theorem md_Stands_guessOperation_94 : mz_d mb_Stands_guessOperation 94 (.getfield 33) 3 97 := ⟨by decide +kernel, rfl⟩
theorem md_Stands_guessOperation_97 : mz_d mb_Stands_guessOperation 97 (.getfield 136) 3 100 := ⟨by decide +kernel, rfl⟩
theorem md_Stands_guessOperation_100 : mz_d mb_Stands_guessOperation 100 (.iload_n 1) 1 101 := ⟨by decide +kernel, rfl⟩
theorem md_Stands_guessOperation_101 : mz_d mb_Stands_guessOperation 101 (.iaload) 1 102 := ⟨by decide +kernel, rfl⟩
theorem md_Stands_guessOperation_102 : mz_d mb_Stands_guessOperation 102 (.iaload) 1 103 := ⟨by decide +kernel, rfl⟩
theorem md_Stands_guessOperation_103 : mz_d mb_Stands_guessOperation 103 (.invokestatic 139) 3 106 := ⟨by decide +kernel, rfl⟩
theorem md_Stands_guessOperation_106 : mz_d mb_Stands_guessOperation 106 (.invokevirtual 80) 3 109 := ⟨by decide +kernel, rfl⟩
theorem md_Stands_guessOperation_109 : mz_d mb_Stands_guessOperation 109 (.goto 19) 3 112 := ⟨by decide +kernel, rfl⟩
theorem md_Stands_guessOperation_112 : mz_d mb_Stands_guessOperation 112 (.aload_n 0) 1 113 := ⟨by decide +kernel, rfl⟩
theorem md_Stands_guessOperation_113 : mz_d mb_Stands_guessOperation 113 (.getfield 21) 3 116 := ⟨by decide +kernel, rfl⟩
theorem md_Stands_guessOperation_116 : mz_d mb_Stands_guessOperation 116 (.iload_n 1) 1 117 := ⟨by decide +kernel, rfl⟩
theorem md_Stands_guessOperation_117 : mz_d mb_Stands_guessOperation 117 (.invokevirtual 54) 3 120 := ⟨by decide +kernel, rfl⟩
theorem md_Stands_guessOperation_120 : mz_d mb_Stands_guessOperation 120 (.ifCond .eq 8) 3 123 := ⟨by decide +kernel, rfl⟩
theorem md_Stands_guessOperation_123 : mz_d mb_Stands_guessOperation 123 (.aload_n 0) 1 124 := ⟨by decide +kernel, rfl⟩
theorem md_Stands_guessOperation_124 : mz_d mb_Stands_guessOperation 124 (.iload_n 3) 1 125 := ⟨by decide +kernel, rfl⟩
theorem md_Stands_guessOperation_125 : mz_d mb_Stands_guessOperation 125 (.invokevirtual 63) 3 128 := ⟨by decide +kernel, rfl⟩
theorem md_Stands_guessOperation_128 : mz_d mb_Stands_guessOperation 128 (.return_) 1 129 := ⟨by decide +kernel, rfl⟩
theorem md_Stands_guess_0 : mz_d mb_Stands_guess 0 (.aload_n 0) 1 1 := ⟨by decide +kernel, rfl⟩
theorem md_Stands_guess_1 : mz_d mb_Stands_guess 1 (.getfield 9) 3 4 := ⟨by decide +kernel, rfl⟩
theorem md_Stands_guess_4 : mz_d mb_Stands_guess 4 (.iconst 0) 1 5 := ⟨by decide +kernel, rfl⟩
theorem md_Stands_guess_5 : mz_d mb_Stands_guess 5 (.invokestatic 67) 3 8 := ⟨by decide +kernel, rfl⟩
theorem md_Stands_guess_8 : mz_d mb_Stands_guess 8 (.aload_n 0) 1 9 := ⟨by decide +kernel, rfl⟩
theorem md_Stands_guess_9 : mz_d mb_Stands_guess 9 (.iconst 0) 1 10 := ⟨by decide +kernel, rfl⟩
theorem md_Stands_guess_10 : mz_d mb_Stands_guess 10 (.iconst 0) 1 11 := ⟨by decide +kernel, rfl⟩
theorem md_Stands_guess_11 : mz_d mb_Stands_guess 11 (.invokevirtual 80) 3 14 := ⟨by decide +kernel, rfl⟩
theorem md_Stands_guess_14 : mz_d mb_Stands_guess 14 (.iconst 0) 1 15 := ⟨by decide +kernel, rfl⟩
theorem md_Stands_guess_15 : mz_d mb_Stands_guess 15 (.istore_n 1) 1 16 := ⟨by decide +kernel, rfl⟩
theorem md_Stands_guess_16 : mz_d mb_Stands_guess 16 (.iload_n 1) 1 17 := ⟨by decide +kernel, rfl⟩
theorem md_Stands_guess_17 : mz_d mb_Stands_guess 17 (.aload_n 0) 1 18 := ⟨by decide +kernel, rfl⟩
theorem md_Stands_guess_18 : mz_d mb_Stands_guess 18 (.getfield 25) 3 21 := ⟨by decide +kernel, rfl⟩
theorem md_Stands_guess_21 : mz_d mb_Stands_guess 21 (.getfield 84) 3 24 := ⟨by decide +kernel, rfl⟩
theorem md_Stands_guess_24 : mz_d mb_Stands_guess 24 (.if_icmp .ge 89) 3 27 := ⟨by decide +kernel, rfl⟩
theorem md_Stands_guess_27 : mz_d mb_Stands_guess 27 (.aload_n 0) 1 28 := ⟨by decide +kernel, rfl⟩
theorem md_Stands_guess_28 : mz_d mb_Stands_guess 28 (.getfield 25) 3 31 := ⟨by decide +kernel, rfl⟩
theorem md_Stands_guess_31 : mz_d mb_Stands_guess 31 (.getfield 90) 3 34 := ⟨by decide +kernel, rfl⟩
theorem md_Stands_guess_34 : mz_d mb_Stands_guess 34 (.iload_n 1) 1 35 := ⟨by decide +kernel, rfl⟩
theorem md_Stands_guess_35 : mz_d mb_Stands_guess 35 (.iaload) 1 36 := ⟨by decide +kernel, rfl⟩
theorem md_Stands_guess_36 : mz_d mb_Stands_guess 36 (.istore_n 2) 1 37 := ⟨by decide +kernel, rfl⟩
theorem md_Stands_guess_37 : mz_d mb_Stands_guess 37 (.iconst 0) 1 38 := ⟨by decide +kernel, rfl⟩
theorem md_Stands_guess_38 : mz_d mb_Stands_guess 38 (.istore_n 3) 1 39 := ⟨by decide +kernel, rfl⟩
theorem md_Stands_guess_39 : mz_d mb_Stands_guess 39 (.iload_n 3) 1 40 := ⟨by decide +kernel, rfl⟩
theorem md_Stands_guess_40 : mz_d mb_Stands_guess 40 (.bipush 10) 2 42 := ⟨by decide +kernel, rfl⟩
theorem md_Stands_guess_42 : mz_d mb_Stands_guess 42 (.if_icmp .ge 31) 3 45 := ⟨by decide +kernel, rfl⟩
theorem md_Stands_guess_45 : mz_d mb_Stands_guess 45 (.aload_n 0) 1 46 := ⟨by decide +kernel, rfl⟩
theorem md_Stands_guess_46 : mz_d mb_Stands_guess 46 (.getfield 29) 3 49 := ⟨by decide +kernel, rfl⟩
theorem md_Stands_guess_49 : mz_d mb_Stands_guess 49 (.getfield 37) 3 52 := ⟨by decide +kernel, rfl⟩
theorem md_Stands_guess_52 : mz_d mb_Stands_guess 52 (.iload_n 2) 1 53 := ⟨by decide +kernel, rfl⟩
theorem md_Stands_guess_53 : mz_d mb_Stands_guess 53 (.iaload) 1 54 := ⟨by decide +kernel, rfl⟩
theorem md_Stands_guess_54 : mz_d mb_Stands_guess 54 (.iload_n 3) 1 55 := ⟨by decide +kernel, rfl⟩
theorem md_Stands_guess_55 : mz_d mb_Stands_guess 55 (.invokestatic 42) 3 58 := ⟨by decide +kernel, rfl⟩
theorem md_Stands_guess_58 : mz_d mb_Stands_guess 58 (.ifCond .eq 9) 3 61 := ⟨by decide +kernel, rfl⟩
theorem md_Stands_guess_61 : mz_d mb_Stands_guess 61 (.aload_n 0) 1 62 := ⟨by decide +kernel, rfl⟩
theorem md_Stands_guess_62 : mz_d mb_Stands_guess 62 (.iload_n 2) 1 63 := ⟨by decide +kernel, rfl⟩
theorem md_Stands_guess_63 : mz_d mb_Stands_guess 63 (.iload_n 3) 1 64 := ⟨by decide +kernel, rfl⟩
theorem md_Stands_guess_64 : mz_d mb_Stands_guess 64 (.invokevirtual 93) 3 67 := ⟨by decide +kernel, rfl⟩
theorem md_Stands_guess_67 : mz_d mb_Stands_guess 67 (.iinc 3 1) 3 70 := ⟨by decide +kernel, rfl⟩
theorem md_Stands_guess_70 : mz_d mb_Stands_guess 70 (.goto (-31)) 3 73 := ⟨by decide +kernel, rfl⟩
theorem md_Stands_guess_73 : mz_d mb_Stands_guess 73 (.iload_n 2) 1 74 := ⟨by decide +kernel, rfl⟩
theorem md_Stands_guess_74 : mz_d mb_Stands_guess 74 (.bipush 12) 2 76 := ⟨by decide +kernel, rfl⟩
theorem md_Stands_guess_76 : mz_d mb_Stands_guess 76 (.imul) 1 77 := ⟨by decide +kernel, rfl⟩
theorem md_Stands_guess_77 : mz_d mb_Stands_guess 77 (.istore_n 3) 1 78 := ⟨by decide +kernel, rfl⟩
theorem md_Stands_guess_78 : mz_d mb_Stands_guess 78 (.iload_n 3) 1 79 := ⟨by decide +kernel, rfl⟩
theorem md_Stands_guess_79 : mz_d mb_Stands_guess 79 (.iload_n 2) 1 80 := ⟨by decide +kernel, rfl⟩
theorem md_Stands_guess_80 : mz_d mb_Stands_guess 80 (.bipush 12) 2 82 := ⟨by decide +kernel, rfl⟩
theorem md_Stands_guess_82 : mz_d mb_Stands_guess 82 (.imul) 1 83 := ⟨by decide +kernel, rfl⟩
theorem md_Stands_guess_83 : mz_d mb_Stands_guess 83 (.aload_n 0) 1 84 := ⟨by decide +kernel, rfl⟩
theorem md_Stands_guess_84 : mz_d mb_Stands_guess 84 (.getfield 21) 3 87 := ⟨by decide +kernel, rfl⟩
theorem md_Stands_guess_87 : mz_d mb_Stands_guess 87 (.getfield 96) 3 90 := ⟨by decide +kernel, rfl⟩
theorem md_Stands_guess_90 : mz_d mb_Stands_guess 90 (.iload_n 2) 1 91 := ⟨by decide +kernel, rfl⟩
theorem md_Stands_guess_91 : mz_d mb_Stands_guess 91 (.iaload) 1 92 := ⟨by decide +kernel, rfl⟩
theorem md_Stands_guess_92 : mz_d mb_Stands_guess 92 (.iadd) 1 93 := ⟨by decide +kernel, rfl⟩
theorem md_Stands_guess_93 : mz_d mb_Stands_guess 93 (.if_icmp .ge 14) 3 96 := ⟨by decide +kernel, rfl⟩
theorem md_Stands_guess_96 : mz_d mb_Stands_guess 96 (.aload_n 0) 1 97 := ⟨by decide +kernel, rfl⟩
theorem md_Stands_guess_97 : mz_d mb_Stands_guess 97 (.iload_n 3) 1 98 := ⟨by decide +kernel, rfl⟩
theorem md_Stands_guess_98 : mz_d mb_Stands_guess 98 (.invokevirtual 99) 3 101 := ⟨by decide +kernel, rfl⟩
theorem md_Stands_guess_101 : mz_d mb_Stands_guess 101 (.iinc 3 1) 3 104 := ⟨by decide +kernel, rfl⟩
theorem md_Stands_guess_104 : mz_d mb_Stands_guess 104 (.goto (-26)) 3 107 := ⟨by decide +kernel, rfl⟩
theorem md_Stands_guess_107 : mz_d mb_Stands_guess 107 (.iinc 1 1) 3 110 := ⟨by decide +kernel, rfl⟩
theorem md_Stands_guess_110 : mz_d mb_Stands_guess 110 (.goto (-94)) 3 113 := ⟨by decide +kernel, rfl⟩
theorem md_Stands_guess_113 : mz_d mb_Stands_guess 113 (.return_) 1 114 := ⟨by decide +kernel, rfl⟩
theorem md_Stands_findWrongGuesses_0 : mz_d mb_Stands_findWrongGuesses 0 (.iconst 0) 1 1 := ⟨by decide +kernel, rfl⟩
theorem md_Stands_findWrongGuesses_1 : mz_d mb_Stands_findWrongGuesses 1 (.istore_n 1) 1 2 := ⟨by decide +kernel, rfl⟩
theorem md_Stands_findWrongGuesses_2 : mz_d mb_Stands_findWrongGuesses 2 (.iconst 0) 1 3 := ⟨by decide +kernel, rfl⟩
theorem md_Stands_findWrongGuesses_3 : mz_d mb_Stands_findWrongGuesses 3 (.istore_n 2) 1 4 := ⟨by decide +kernel, rfl⟩
theorem md_Stands_findWrongGuesses_4 : mz_d mb_Stands_findWrongGuesses 4 (.iload_n 2) 1 5 := ⟨by decide +kernel, rfl⟩
theorem md_Stands_findWrongGuesses_5 : mz_d mb_Stands_findWrongGuesses 5 (.aload_n 0) 1 6 := ⟨by decide +kernel, rfl⟩
theorem md_Stands_findWrongGuesses_6 : mz_d mb_Stands_findWrongGuesses 6 (.getfield 25) 3 9 := ⟨by decide +kernel, rfl⟩
theorem md_Stands_findWrongGuesses_9 : mz_d mb_Stands_findWrongGuesses 9 (.getfield 84) 3 12 := ⟨by decide +kernel, rfl⟩
theorem md_Stands_findWrongGuesses_12 : mz_d mb_Stands_findWrongGuesses 12 (.if_icmp .ge 96) 3 15 := ⟨by decide +kernel, rfl⟩
theorem md_Stands_findWrongGuesses_15 : mz_d mb_Stands_findWrongGuesses 15 (.aload_n 0) 1 16 := ⟨by decide +kernel, rfl⟩
theorem md_Stands_findWrongGuesses_16 : mz_d mb_Stands_findWrongGuesses 16 (.getfield 25) 3 19 := ⟨by decide +kernel, rfl⟩
theorem md_Stands_findWrongGuesses_19 : mz_d mb_Stands_findWrongGuesses 19 (.getfield 90) 3 22 := ⟨by decide +kernel, rfl⟩
theorem md_Stands_findWrongGuesses_22 : mz_d mb_Stands_findWrongGuesses 22 (.iload_n 2) 1 23 := ⟨by decide +kernel, rfl⟩
theorem md_Stands_findWrongGuesses_23 : mz_d mb_Stands_findWrongGuesses 23 (.iaload) 1 24 := ⟨by decide +kernel, rfl⟩
theorem md_Stands_findWrongGuesses_24 : mz_d mb_Stands_findWrongGuesses 24 (.istore_n 3) 1 25 := ⟨by decide +kernel, rfl⟩
theorem md_Stands_findWrongGuesses_25 : mz_d mb_Stands_findWrongGuesses 25 (.iconst 0) 1 26 := ⟨by decide +kernel, rfl⟩
theorem md_Stands_findWrongGuesses_26 : mz_d mb_Stands_findWrongGuesses 26 (.istore 4) 2 28 := ⟨by decide +kernel, rfl⟩
theorem md_Stands_findWrongGuesses_28 : mz_d mb_Stands_findWrongGuesses 28 (.iload 4) 2 30 := ⟨by decide +kernel, rfl⟩
theorem md_Stands_findWrongGuesses_30 : mz_d mb_Stands_findWrongGuesses 30 (.bipush 10) 2 32 := ⟨by decide +kernel, rfl⟩
theorem md_Stands_findWrongGuesses_32 : mz_d mb_Stands_findWrongGuesses 32 (.if_icmp .ge 70) 3 35 := ⟨by decide +kernel, rfl⟩
theorem md_Stands_findWrongGuesses_35 : mz_d mb_Stands_findWrongGuesses 35 (.aload_n 0) 1 36 := ⟨by decide +kernel, rfl⟩
theorem md_Stands_findWrongGuesses_36 : mz_d mb_Stands_findWrongGuesses 36 (.getfield 29) 3 39 := ⟨by decide +kernel, rfl⟩
theorem md_Stands_findWrongGuesses_39 : mz_d mb_Stands_findWrongGuesses 39 (.getfield 37) 3 42 := ⟨by decide +kernel, rfl⟩
theorem md_Stands_findWrongGuesses_42 : mz_d mb_Stands_findWrongGuesses 42 (.iload_n 3) 1 43 := ⟨by decide +kernel, rfl⟩
theorem md_Stands_findWrongGuesses_43 : mz_d mb_Stands_findWrongGuesses 43 (.iaload) 1 44 := ⟨by decide +kernel, rfl⟩
theorem md_Stands_findWrongGuesses_44 : mz_d mb_Stands_findWrongGuesses 44 (.aload_n 0) 1 45 := ⟨by decide +kernel, rfl⟩
theorem md_Stands_findWrongGuesses_45 : mz_d mb_Stands_findWrongGuesses 45 (.getfield 18) 3 48 := ⟨by decide +kernel, rfl⟩
theorem md_Stands_findWrongGuesses_48 : mz_d mb_Stands_findWrongGuesses 48 (.iload_n 3) 1 49 := ⟨by decide +kernel, rfl⟩
theorem md_Stands_findWrongGuesses_49 : mz_d mb_Stands_findWrongGuesses 49 (.iaload) 1 50 := ⟨by decide +kernel, rfl⟩
theorem md_Stands_findWrongGuesses_50 : mz_d mb_Stands_findWrongGuesses 50 (.iconst (-1)) 1 51 := ⟨by decide +kernel, rfl⟩
theorem md_Stands_findWrongGuesses_51 : mz_d mb_Stands_findWrongGuesses 51 (.ixor) 1 52 := ⟨by decide +kernel, rfl⟩
theorem md_Stands_findWrongGuesses_52 : mz_d mb_Stands_findWrongGuesses 52 (.iand) 1 53 := ⟨by decide +kernel, rfl⟩
theorem md_Stands_findWrongGuesses_53 : mz_d mb_Stands_findWrongGuesses 53 (.iload 4) 2 55 := ⟨by decide +kernel, rfl⟩
theorem md_Stands_findWrongGuesses_55 : mz_d mb_Stands_findWrongGuesses 55 (.invokestatic 42) 3 58 := ⟨by decide +kernel, rfl⟩
theorem md_Stands_findWrongGuesses_58 : mz_d mb_Stands_findWrongGuesses 58 (.istore 5) 2 60 := ⟨by decide +kernel, rfl⟩
theorem md_Stands_findWrongGuesses_60 : mz_d mb_Stands_findWrongGuesses 60 (.iload 5) 2 62 := ⟨by decide +kernel, rfl⟩
theorem md_Stands_findWrongGuesses_62 : mz_d mb_Stands_findWrongGuesses 62 (.ifCond .eq 34) 3 65 := ⟨by decide +kernel, rfl⟩
theorem md_Stands_findWrongGuesses_65 : mz_d mb_Stands_findWrongGuesses 65 (.aload_n 0) 1 66 := ⟨by decide +kernel, rfl⟩
theorem md_Stands_findWrongGuesses_66 : mz_d mb_Stands_findWrongGuesses 66 (.iload_n 3) 1 67 := ⟨by decide +kernel, rfl⟩
theorem md_Stands_findWrongGuesses_67 : mz_d mb_Stands_findWrongGuesses 67 (.iload 4) 2 69 := ⟨by decide +kernel, rfl⟩
theorem md_Stands_findWrongGuesses_69 : mz_d mb_Stands_findWrongGuesses 69 (.invokestatic 46) 3 72 := ⟨by decide +kernel, rfl⟩
theorem md_Stands_findWrongGuesses_72 : mz_d mb_Stands_findWrongGuesses 72 (.iload_n 3) 1 73 := ⟨by decide +kernel, rfl⟩
theorem md_Stands_findWrongGuesses_73 : mz_d mb_Stands_findWrongGuesses 73 (.iload 4) 2 75 := ⟨by decide +kernel, rfl⟩
theorem md_Stands_findWrongGuesses_75 : mz_d mb_Stands_findWrongGuesses 75 (.invokevirtual 102) 3 78 := ⟨by decide +kernel, rfl⟩
theorem md_Stands_findWrongGuesses_78 : mz_d mb_Stands_findWrongGuesses 78 (.ifCond .eq 18) 3 81 := ⟨by decide +kernel, rfl⟩
theorem md_Stands_findWrongGuesses_81 : mz_d mb_Stands_findWrongGuesses 81 (.aload_n 0) 1 82 := ⟨by decide +kernel, rfl⟩
theorem md_Stands_findWrongGuesses_82 : mz_d mb_Stands_findWrongGuesses 82 (.getfield 18) 3 85 := ⟨by decide +kernel, rfl⟩
theorem md_Stands_findWrongGuesses_85 : mz_d mb_Stands_findWrongGuesses 85 (.iload_n 3) 1 86 := ⟨by decide +kernel, rfl⟩
theorem md_Stands_findWrongGuesses_86 : mz_d mb_Stands_findWrongGuesses 86 (.dup2) 1 87 := ⟨by decide +kernel, rfl⟩
theorem md_Stands_findWrongGuesses_87 : mz_d mb_Stands_findWrongGuesses 87 (.iaload) 1 88 := ⟨by decide +kernel, rfl⟩
theorem md_Stands_findWrongGuesses_88 : mz_d mb_Stands_findWrongGuesses 88 (.iconst 1) 1 89 := ⟨by decide +kernel, rfl⟩
theorem md_Stands_findWrongGuesses_89 : mz_d mb_Stands_findWrongGuesses 89 (.iload 4) 2 91 := ⟨by decide +kernel, rfl⟩
theorem md_Stands_findWrongGuesses_91 : mz_d mb_Stands_findWrongGuesses 91 (.ishl) 1 92 := ⟨by decide +kernel, rfl⟩
theorem md_Stands_findWrongGuesses_92 : mz_d mb_Stands_findWrongGuesses 92 (.ior) 1 93 := ⟨by decide +kernel, rfl⟩
theorem md_Stands_findWrongGuesses_93 : mz_d mb_Stands_findWrongGuesses 93 (.iastore) 1 94 := ⟨by decide +kernel, rfl⟩
theorem md_Stands_findWrongGuesses_94 : mz_d mb_Stands_findWrongGuesses 94 (.iconst 1) 1 95 := ⟨by decide +kernel, rfl⟩
theorem md_Stands_findWrongGuesses_95 : mz_d mb_Stands_findWrongGuesses 95 (.istore_n 1) 1 96 := ⟨by decide +kernel, rfl⟩
theorem md_Stands_findWrongGuesses_96 : mz_d mb_Stands_findWrongGuesses 96 (.iinc 4 1) 3 99 := ⟨by decide +kernel, rfl⟩
theorem md_Stands_findWrongGuesses_99 : mz_d mb_Stands_findWrongGuesses 99 (.goto (-71)) 3 102 := ⟨by decide +kernel, rfl⟩
theorem md_Stands_findWrongGuesses_102 : mz_d mb_Stands_findWrongGuesses 102 (.iinc 2 1) 3 105 := ⟨by decide +kernel, rfl⟩
theorem md_Stands_findWrongGuesses_105 : mz_d mb_Stands_findWrongGuesses 105 (.goto (-101)) 3 108 := ⟨by decide +kernel, rfl⟩
theorem md_Stands_findWrongGuesses_108 : mz_d mb_Stands_findWrongGuesses 108 (.iload_n 1) 1 109 := ⟨by decide +kernel, rfl⟩
theorem md_Stands_findWrongGuesses_109 : mz_d mb_Stands_findWrongGuesses 109 (.ireturn) 1 110 := ⟨by decide +kernel, rfl⟩
theorem md_Stands_settle_0 : mz_d mb_Stands_settle 0 (.aload_n 0) 1 1 := ⟨by decide +kernel, rfl⟩
theorem md_Stands_settle_1 : mz_d mb_Stands_settle 1 (.getfield 18) 3 4 := ⟨by decide +kernel, rfl⟩
theorem md_Stands_settle_4 : mz_d mb_Stands_settle 4 (.iconst 0) 1 5 := ⟨by decide +kernel, rfl⟩
theorem md_Stands_settle_5 : mz_d mb_Stands_settle 5 (.invokestatic 67) 3 8 := ⟨by decide +kernel, rfl⟩
theorem md_Stands_settle_8 : mz_d mb_Stands_settle 8 (.iconst 0) 1 9 := ⟨by decide +kernel, rfl⟩
theorem md_Stands_settle_9 : mz_d mb_Stands_settle 9 (.istore_n 1) 1 10 := ⟨by decide +kernel, rfl⟩
theorem md_Stands_settle_10 : mz_d mb_Stands_settle 10 (.iload_n 1) 1 11 := ⟨by decide +kernel, rfl⟩
theorem md_Stands_settle_11 : mz_d mb_Stands_settle 11 (.bipush 100) 2 13 := ⟨by decide +kernel, rfl⟩
theorem md_Stands_settle_13 : mz_d mb_Stands_settle 13 (.if_icmp .gt 21) 3 16 := ⟨by decide +kernel, rfl⟩
theorem md_Stands_settle_16 : mz_d mb_Stands_settle 16 (.aload_n 0) 1 17 := ⟨by decide +kernel, rfl⟩
theorem md_Stands_settle_17 : mz_d mb_Stands_settle 17 (.invokevirtual 73) 3 20 := ⟨by decide +kernel, rfl⟩
theorem md_Stands_settle_20 : mz_d mb_Stands_settle 20 (.aload_n 0) 1 21 := ⟨by decide +kernel, rfl⟩
theorem md_Stands_settle_21 : mz_d mb_Stands_settle 21 (.invokevirtual 76) 3 24 := ⟨by decide +kernel, rfl⟩
theorem md_Stands_settle_24 : mz_d mb_Stands_settle 24 (.ifCond .ne 4) 3 27 := ⟨by decide +kernel, rfl⟩
theorem md_Stands_settle_27 : mz_d mb_Stands_settle 27 (.return_) 1 28 := ⟨by decide +kernel, rfl⟩
theorem md_Stands_settle_28 : mz_d mb_Stands_settle 28 (.iinc 1 1) 3 31 := ⟨by decide +kernel, rfl⟩
theorem md_Stands_settle_31 : mz_d mb_Stands_settle 31 (.goto (-21)) 3 34 := ⟨by decide +kernel, rfl⟩
theorem md_Stands_settle_34 : mz_d mb_Stands_settle 34 (.return_) 1 35 := ⟨by decide +kernel, rfl⟩
/-- ValueMill$Stands.isNumber(I)Z: what it does, as a transformer of what must hold behind it -/
def mw_Stands_isNumber (K : Int32 → mz_St → Prop) (a0 : Int32) (s0 : mz_St) : Prop :=
  vp_in a0 221 ∧
  ((¬ (mz_rd s0 37 a0) = 2 →
   K 0 s0) ∧
  ((mz_rd s0 37 a0) = 2 →
   K 1 s0))
set_option maxRecDepth 100000 in
set_option maxHeartbeats 4000000 in
theorem ms_Stands_isNumber (l : Launch) (E : mz_En) (hI : mz_Inj E) (K : Int32 → mz_St → Prop) (a0 : Int32) (s0 : mz_St) (h : mw_Stands_isNumber K a0 s0) : mz_Ci l E my_Stands_isNumber mb_Stands_isNumber 2 (some .boolean) (0) (0) [.ref (E.2.1 5), .int a0] s0 K := by
  refine mz_cti hI (by decide +kernel) (Nat.le_of_ble_eq_true rfl) (fun X C R => ?_)
  show mz_G E X 2 0 [(0, .ref (E.2.1 5)), (1, .int a0)] [] s0
  unfold mw_Stands_isNumber at h
  refine mr_aload_n C 0 md_Stands_isNumber_0 rfl rfl ?_
  refine mr_get C 5 4 mc_Stands_cls ml_224 rfl (by decide) (by decide) (fun _ => rfl) rfl md_Stands_isNumber_1 ?_
  refine mr_iload_n C 1 md_Stands_isNumber_4 rfl rfl ?_
  refine mr_iald C 37 221 (by decide) (fun _ => rfl) h.1 md_Stands_isNumber_5 ?_
  replace h := h.2
  refine mr_iconst C md_Stands_isNumber_6 mk_iconst_2 ?_
  refine mr_icmp_ne C md_Stands_isNumber_7 rfl (fun hc => ?_) (fun hc => ?_)
  · replace h := h.1 hc
    refine mr_iconst C md_Stands_isNumber_14 mk_iconst_0 ?_
    exact mr_zret C R mb_0 h md_Stands_isNumber_15
  replace h := h.2 hc
  refine mr_iconst C md_Stands_isNumber_10 mk_iconst_1 ?_
  refine mr_goto C md_Stands_isNumber_11 rfl ?_
  exact mr_zret C R mb_1 h md_Stands_isNumber_15
/-- ValueMill$Stands.isItself(I)Z: what it does, as a transformer of what must hold behind it -/
def mw_Stands_isItself (K : Int32 → mz_St → Prop) (a0 : Int32) (s0 : mz_St) : Prop :=
  vp_in a0 221 ∧
  ((¬ (mz_rd s0 37 a0) = 1 →
   K 0 s0) ∧
  ((mz_rd s0 37 a0) = 1 →
   vp_in a0 221 ∧
   ((¬ (mz_rd s0 38 a0) = a0 →
    K 0 s0) ∧
   ((mz_rd s0 38 a0) = a0 →
    K 1 s0))))
set_option maxRecDepth 100000 in
set_option maxHeartbeats 4000000 in
theorem ms_Stands_isItself (l : Launch) (E : mz_En) (hI : mz_Inj E) (K : Int32 → mz_St → Prop) (a0 : Int32) (s0 : mz_St) (h : mw_Stands_isItself K a0 s0) : mz_Ci l E my_Stands_isItself mb_Stands_isItself 2 (some .boolean) (0) (0) [.ref (E.2.1 5), .int a0] s0 K := by
  refine mz_cti hI (by decide +kernel) (Nat.le_of_ble_eq_true rfl) (fun X C R => ?_)
  show mz_G E X 2 0 [(0, .ref (E.2.1 5)), (1, .int a0)] [] s0
  unfold mw_Stands_isItself at h
  refine mr_aload_n C 0 md_Stands_isItself_0 rfl rfl ?_
  refine mr_get C 5 4 mc_Stands_cls ml_224 rfl (by decide) (by decide) (fun _ => rfl) rfl md_Stands_isItself_1 ?_
  refine mr_iload_n C 1 md_Stands_isItself_4 rfl rfl ?_
  refine mr_iald C 37 221 (by decide) (fun _ => rfl) h.1 md_Stands_isItself_5 ?_
  replace h := h.2
  refine mr_iconst C md_Stands_isItself_6 mk_iconst_1 ?_
  refine mr_icmp_ne C md_Stands_isItself_7 rfl (fun hc => ?_) (fun hc => ?_)
  · replace h := h.1 hc
    refine mr_iconst C md_Stands_isItself_24 mk_iconst_0 ?_
    exact mr_zret C R mb_0 h md_Stands_isItself_25
  replace h := h.2 hc
  refine mr_aload_n C 0 md_Stands_isItself_10 rfl rfl ?_
  refine mr_get C 5 5 mc_Stands_cls ml_225 rfl (by decide) (by decide) (fun _ => rfl) rfl md_Stands_isItself_11 ?_
  refine mr_iload_n C 1 md_Stands_isItself_14 rfl rfl ?_
  refine mr_iald C 38 221 (by decide) (fun _ => rfl) h.1 md_Stands_isItself_15 ?_
  replace h := h.2
  refine mr_iload_n C 1 md_Stands_isItself_16 rfl rfl ?_
  refine mr_icmp_ne C md_Stands_isItself_17 rfl (fun hc => ?_) (fun hc => ?_)
  · replace h := h.1 hc
    refine mr_iconst C md_Stands_isItself_24 mk_iconst_0 ?_
    exact mr_zret C R mb_0 h md_Stands_isItself_25
  replace h := h.2 hc
  refine mr_iconst C md_Stands_isItself_20 mk_iconst_1 ?_
  refine mr_goto C md_Stands_isItself_21 rfl ?_
  exact mr_zret C R mb_1 h md_Stands_isItself_25
/-- ValueMill$Stands.nameFor(I)I: what it does, as a transformer of what must hold behind it -/
def mw_Stands_nameFor (K : Int32 → mz_St → Prop) (a0 : Int32) (s0 : mz_St) : Prop :=
  vp_in a0 221 ∧
  ((¬ (mz_rd s0 37 a0) = 1 →
   K (-1) s0) ∧
  ((mz_rd s0 37 a0) = 1 →
   vp_in a0 221 ∧
   K (mz_rd s0 38 a0) s0))
set_option maxRecDepth 100000 in
set_option maxHeartbeats 4000000 in
theorem ms_Stands_nameFor (l : Launch) (E : mz_En) (hI : mz_Inj E) (K : Int32 → mz_St → Prop) (a0 : Int32) (s0 : mz_St) (h : mw_Stands_nameFor K a0 s0) : mz_Ci l E my_Stands_nameFor mb_Stands_nameFor 2 (some .int) (0) (0) [.ref (E.2.1 5), .int a0] s0 K := by
  refine mz_cti hI (by decide +kernel) (Nat.le_of_ble_eq_true rfl) (fun X C R => ?_)
  show mz_G E X 2 0 [(0, .ref (E.2.1 5)), (1, .int a0)] [] s0
  unfold mw_Stands_nameFor at h
  refine mr_aload_n C 0 md_Stands_nameFor_0 rfl rfl ?_
  refine mr_get C 5 4 mc_Stands_cls ml_224 rfl (by decide) (by decide) (fun _ => rfl) rfl md_Stands_nameFor_1 ?_
  refine mr_iload_n C 1 md_Stands_nameFor_4 rfl rfl ?_
  refine mr_iald C 37 221 (by decide) (fun _ => rfl) h.1 md_Stands_nameFor_5 ?_
  replace h := h.2
  refine mr_iconst C md_Stands_nameFor_6 mk_iconst_1 ?_
  refine mr_icmp_ne C md_Stands_nameFor_7 rfl (fun hc => ?_) (fun hc => ?_)
  · replace h := h.1 hc
    refine mr_iconst C md_Stands_nameFor_19 mk_iconst_m1 ?_
    exact mr_iret C R h md_Stands_nameFor_20
  replace h := h.2 hc
  refine mr_aload_n C 0 md_Stands_nameFor_10 rfl rfl ?_
  refine mr_get C 5 5 mc_Stands_cls ml_225 rfl (by decide) (by decide) (fun _ => rfl) rfl md_Stands_nameFor_11 ?_
  refine mr_iload_n C 1 md_Stands_nameFor_14 rfl rfl ?_
  refine mr_iald C 38 221 (by decide) (fun _ => rfl) h.1 md_Stands_nameFor_15 ?_
  replace h := h.2
  refine mr_goto C md_Stands_nameFor_16 rfl ?_
  exact mr_iret C R h md_Stands_nameFor_20
/-- ValueMill$Stands.keepsPhi(II)Z: what it does, as a transformer of what must hold behind it -/
def mw_Stands_keepsPhi (K : Int32 → mz_St → Prop) (a0 : Int32) (a1 : Int32) (s0 : mz_St) : Prop :=
  vp_in a0 10 ∧
  mw_Mill_isIn (fun r1 u1 =>
   ((r1 = 0 →
    K 0 u1) ∧
   (¬ r1 = 0 →
    mw_Mill_phiName (fun r2 u2 =>
     mw_Stands_isItself (fun r3 u3 =>
      ((r3 = 0 →
       K 0 u3) ∧
      (¬ r3 = 0 →
       K 1 u3))) r2 u2) a0 a1 u1))) (mz_rd s0 32 a0) a1 s0
set_option maxRecDepth 100000 in
set_option maxHeartbeats 4000000 in
theorem ms_Stands_keepsPhi (l : Launch) (E : mz_En) (hI : mz_Inj E) (K : Int32 → mz_St → Prop) (a0 : Int32) (a1 : Int32) (s0 : mz_St) (h : mw_Stands_keepsPhi K a0 a1 s0) : mz_Ci l E my_Stands_keepsPhi mb_Stands_keepsPhi 3 (some .boolean) (1) (21) [.ref (E.2.1 5), .int a0, .int a1] s0 K := by
  refine mz_cti hI (by decide +kernel) (Nat.le_of_ble_eq_true rfl) (fun X C R => ?_)
  show mz_G E X 3 0 [(0, .ref (E.2.1 5)), (1, .int a0), (2, .int a1)] [] s0
  unfold mw_Stands_keepsPhi at h
  refine mr_aload_n C 0 md_Stands_keepsPhi_0 rfl rfl ?_
  refine mr_get C 5 2 mc_Stands_cls ml_222 rfl (by decide) (by decide) (fun _ => rfl) rfl md_Stands_keepsPhi_1 ?_
  refine mr_getN C 3 5 mc_Lives_cls ml_163 rfl (by decide) (by decide) (fun _ => rfl) rfl md_Stands_keepsPhi_4 ?_
  refine mr_iload_n C 1 md_Stands_keepsPhi_7 rfl rfl ?_
  refine mr_iald C 32 10 (by decide) (fun _ => rfl) h.1 md_Stands_keepsPhi_8 ?_
  replace h := h.2
  refine mr_iload_n C 2 md_Stands_keepsPhi_9 rfl rfl ?_
  refine mr_cSNi C (As := [.int (mz_rd s0 32 a0), .int a1]) (rest := []) (ms_Mill_isIn _ E hI _ (mz_rd s0 32 a0) a1 _ h) mo_Mill_isIn mt_Mill_isIn ml_707 rfl rfl (Nat.le_of_ble_eq_true rfl) (Nat.le_of_ble_eq_true rfl) (Nat.le_of_ble_eq_true rfl) md_Stands_keepsPhi_10 (fun r1 u1 h => ?_)
  refine mr_if_eq C md_Stands_keepsPhi_13 rfl (fun hc => ?_) (fun hc => ?_)
  · replace h := h.1 hc
    refine mr_iconst C md_Stands_keepsPhi_32 mk_iconst_0 ?_
    exact mr_zret C R mb_0 h md_Stands_keepsPhi_33
  replace h := h.2 hc
  refine mr_aload_n C 0 md_Stands_keepsPhi_16 rfl rfl ?_
  refine mr_iload_n C 1 md_Stands_keepsPhi_17 rfl rfl ?_
  refine mr_iload_n C 2 md_Stands_keepsPhi_18 rfl rfl ?_
  refine mr_cSNi C (As := [.int a0, .int a1]) (rest := [.ref (E.2.1 5)]) (ms_Mill_phiName _ E hI _ a0 a1 _ h) mo_Mill_phiName mt_Mill_phiName ml_728 rfl rfl (Nat.le_of_ble_eq_true rfl) (Nat.le_of_ble_eq_true rfl) (Nat.le_of_ble_eq_true rfl) md_Stands_keepsPhi_19 (fun r2 u2 h => ?_)
  refine mr_cVi C (As := [.int r2]) (rest := []) 5 (ms_Stands_isItself _ E hI _ r2 _ h) mo_Stands_isItself mi_Stands_isItself mc_Stands_cls ml_773 (by decide) (fun _ => rfl) rfl rfl (Nat.le_of_ble_eq_true rfl) (Nat.le_of_ble_eq_true rfl) (Nat.le_of_ble_eq_true rfl) md_Stands_keepsPhi_22 (fun r3 u3 h => ?_)
  refine mr_if_eq C md_Stands_keepsPhi_25 rfl (fun hc => ?_) (fun hc => ?_)
  · replace h := h.1 hc
    refine mr_iconst C md_Stands_keepsPhi_32 mk_iconst_0 ?_
    exact mr_zret C R mb_0 h md_Stands_keepsPhi_33
  replace h := h.2 hc
  refine mr_iconst C md_Stands_keepsPhi_28 mk_iconst_1 ?_
  refine mr_goto C md_Stands_keepsPhi_29 rfl ?_
  exact mr_zret C R mb_1 h md_Stands_keepsPhi_33
def mw_Stands_keepsOperation_22 (K : Int32 → mz_St → Prop) (s22 : mz_St) : Prop :=
  K 1 s22
/-- ValueMill$Stands.keepsOperation(I)Z: what it does, as a transformer of what must hold behind it -/
def mw_Stands_keepsOperation (K : Int32 → mz_St → Prop) (a0 : Int32) (s0 : mz_St) : Prop :=
  mw_Program_makesValue (fun r1 u1 =>
   (∀ P22 : mz_St → Prop, (∀ (s22 : mz_St), mw_Stands_keepsOperation_22 K s22 → P22 s22) →
   ((r1 = 0 →
    P22 u1) ∧
   (¬ r1 = 0 →
    mw_Mill_madeName (fun r2 u2 =>
     mw_Stands_isItself (fun r3 u3 =>
      ((r3 = 0 →
       K 0 u3) ∧
      (¬ r3 = 0 →
       P22 u3))) r2 u2) a0 u1)))) a0 s0
set_option maxRecDepth 100000 in
set_option maxHeartbeats 4000000 in
theorem ms_Stands_keepsOperation (l : Launch) (E : mz_En) (hI : mz_Inj E) (K : Int32 → mz_St → Prop) (a0 : Int32) (s0 : mz_St) (h : mw_Stands_keepsOperation K a0 s0) : mz_Ci l E my_Stands_keepsOperation mb_Stands_keepsOperation 2 (some .boolean) (1) (21) [.ref (E.2.1 5), .int a0] s0 K := by
  refine mz_cti hI (by decide +kernel) (Nat.le_of_ble_eq_true rfl) (fun X C R => ?_)
  show mz_G E X 2 0 [(0, .ref (E.2.1 5)), (1, .int a0)] [] s0
  unfold mw_Stands_keepsOperation at h
  refine mr_aload_n C 0 md_Stands_keepsOperation_0 rfl rfl ?_
  refine mr_get C 5 0 mc_Stands_cls ml_220 rfl (by decide) (by decide) (fun _ => rfl) rfl md_Stands_keepsOperation_1 ?_
  refine mr_iload_n C 1 md_Stands_keepsOperation_4 rfl rfl ?_
  refine mr_cVNi C (As := [.int a0]) (rest := []) 1 (ms_Program_makesValue _ E hI _ a0 _ h) mo_Program_makesValue mi_Program_makesValue mc_Program_cls ml_753 (by decide) (fun _ => rfl) rfl rfl (Nat.le_of_ble_eq_true rfl) (Nat.le_of_ble_eq_true rfl) (Nat.le_of_ble_eq_true rfl) md_Stands_keepsOperation_5 (fun r1 u1 h => ?_)
  refine mj (h (fun (s22 : mz_St) => mz_G E X 2 22 [] [] s22) (fun s22 h => ?_)) (fun h => ?_)
  · unfold mw_Stands_keepsOperation_22 at h
    refine mr_iconst C md_Stands_keepsOperation_22 mk_iconst_1 ?_
    refine mr_goto C md_Stands_keepsOperation_23 rfl ?_
    exact mr_zret C R mb_1 h md_Stands_keepsOperation_27
  refine mr_if_eq C md_Stands_keepsOperation_8 rfl (fun hc => ?_) (fun hc => ?_)
  · replace h := h.1 hc
    refine mr_sub [] rfl ?_
    exact h
  replace h := h.2 hc
  refine mr_aload_n C 0 md_Stands_keepsOperation_11 rfl rfl ?_
  refine mr_iload_n C 1 md_Stands_keepsOperation_12 rfl rfl ?_
  refine mr_cSNi C (As := [.int a0]) (rest := [.ref (E.2.1 5)]) (ms_Mill_madeName _ E hI _ a0 _ h) mo_Mill_madeName mt_Mill_madeName ml_737 rfl rfl (Nat.le_of_ble_eq_true rfl) (Nat.le_of_ble_eq_true rfl) (Nat.le_of_ble_eq_true rfl) md_Stands_keepsOperation_13 (fun r2 u2 h => ?_)
  refine mr_cVi C (As := [.int r2]) (rest := []) 5 (ms_Stands_isItself _ E hI _ r2 _ h) mo_Stands_isItself mi_Stands_isItself mc_Stands_cls ml_773 (by decide) (fun _ => rfl) rfl rfl (Nat.le_of_ble_eq_true rfl) (Nat.le_of_ble_eq_true rfl) (Nat.le_of_ble_eq_true rfl) md_Stands_keepsOperation_16 (fun r3 u3 h => ?_)
  refine mr_if_eq C md_Stands_keepsOperation_19 rfl (fun hc => ?_) (fun hc => ?_)
  · replace h := h.1 hc
    refine mr_iconst C md_Stands_keepsOperation_26 mk_iconst_0 ?_
    exact mr_zret C R mb_0 h md_Stands_keepsOperation_27
  replace h := h.2 hc
  refine mr_sub [] rfl ?_
  exact h
/-- ValueMill$Stands.letBe(I)V: what it does, as a transformer of what must hold behind it -/
def mw_Stands_letBe (K : mz_St → Prop) (a0 : Int32) (s0 : mz_St) : Prop :=
  vp_in a0 221 ∧
  vp_in a0 221 ∧
  K (mz_wr (mz_wr s0 37 a0 1) 38 a0 a0)
set_option maxRecDepth 100000 in
set_option maxHeartbeats 4000000 in
theorem ms_Stands_letBe (l : Launch) (E : mz_En) (hI : mz_Inj E) (K : mz_St → Prop) (a0 : Int32) (s0 : mz_St) (h : mw_Stands_letBe K a0 s0) : mz_Cv l E my_Stands_letBe mb_Stands_letBe 2 (0) (0) [.ref (E.2.1 5), .int a0] s0 K := by
  refine mz_ctv hI (by decide +kernel) (Nat.le_of_ble_eq_true rfl) (fun X C R => ?_)
  show mz_G E X 2 0 [(0, .ref (E.2.1 5)), (1, .int a0)] [] s0
  unfold mw_Stands_letBe at h
  refine mr_aload_n C 0 md_Stands_letBe_0 rfl rfl ?_
  refine mr_get C 5 4 mc_Stands_cls ml_224 rfl (by decide) (by decide) (fun _ => rfl) rfl md_Stands_letBe_1 ?_
  refine mr_iload_n C 1 md_Stands_letBe_4 rfl rfl ?_
  refine mr_iconst C md_Stands_letBe_5 mk_iconst_1 ?_
  refine mr_iast C 37 221 (by decide) (by decide) (fun _ _ => rfl) h.1 md_Stands_letBe_6 ?_
  replace h := h.2
  refine mr_aload_n C 0 md_Stands_letBe_7 rfl rfl ?_
  refine mr_get C 5 5 mc_Stands_cls ml_225 rfl (by decide) (by decide) (fun _ => rfl) rfl md_Stands_letBe_8 ?_
  refine mr_iload_n C 1 md_Stands_letBe_11 rfl rfl ?_
  refine mr_iload_n C 1 md_Stands_letBe_12 rfl rfl ?_
  refine mr_iast C 38 221 (by decide) (by decide) (fun _ _ => rfl) h.1 md_Stands_letBe_13 ?_
  replace h := h.2
  exact mr_vret C R h md_Stands_letBe_14
def mw_Stands_letAllBe_2 (K : mz_St → Prop) (P2 : Int32 → mz_St → Prop) (x1_2 : Int32) (s2 : mz_St) : Prop :=
  ((221 ≤ x1_2 →
   K s2) ∧
  (¬ 221 ≤ x1_2 →
   mw_Stands_letBe (fun u1 =>
    P2 (x1_2 + 1) u1) x1_2 s2))
/-- ValueMill$Stands.letAllBe()V: what it does, as a transformer of what must hold behind it -/
def mw_Stands_letAllBe (K : mz_St → Prop) (s0 : mz_St) : Prop :=
  (∀ P2 : Int32 → mz_St → Prop, (∀ (x1_2 : Int32) (s2 : mz_St), mw_Stands_letAllBe_2 K P2 x1_2 s2 → P2 x1_2 s2) →
  P2 0 s0)
set_option maxRecDepth 100000 in
set_option maxHeartbeats 4000000 in
theorem ms_Stands_letAllBe (l : Launch) (E : mz_En) (hI : mz_Inj E) (K : mz_St → Prop) (s0 : mz_St) (h : mw_Stands_letAllBe K s0) : mz_Cv l E my_Stands_letAllBe mb_Stands_letAllBe 2 (1) (21) [.ref (E.2.1 5)] s0 K := by
  refine mz_ctv hI (by decide +kernel) (Nat.le_of_ble_eq_true rfl) (fun X C R => ?_)
  show mz_G E X 2 0 [(0, .ref (E.2.1 5))] [] s0
  unfold mw_Stands_letAllBe at h
  refine mr_iconst C md_Stands_letAllBe_0 mk_iconst_0 ?_
  refine mr_istore_n C (L' := [(1, .int 0), (0, .ref (E.2.1 5))]) md_Stands_letAllBe_1 rfl (Nat.le_of_ble_eq_true rfl) rfl ?_
  refine mr_sub [1, 0] rfl ?_
  refine h (fun (x1_2 : Int32) (s2 : mz_St) => mz_G E X 2 2 [(0, .ref (E.2.1 5)), (1, .int x1_2)] [] s2) (fun x1_2 s2 h => ?_)
  unfold mw_Stands_letAllBe_2 at h
  refine mr_iload_n C 1 md_Stands_letAllBe_2 rfl rfl ?_
  refine mr_sipush C md_Stands_letAllBe_3 mk_sipush_221 ?_
  refine mr_icmp_ge C md_Stands_letAllBe_6 rfl (fun hc => ?_) (fun hc => ?_)
  · replace h := h.1 hc
    exact mr_vret C R h md_Stands_letAllBe_20
  replace h := h.2 hc
  refine mr_aload_n C 0 md_Stands_letAllBe_9 rfl rfl ?_
  refine mr_iload_n C 1 md_Stands_letAllBe_10 rfl rfl ?_
  refine mr_cVv C (As := [.int x1_2]) (rest := []) 5 (ms_Stands_letBe _ E hI _ x1_2 _ h) mo_Stands_letBe mi_Stands_letBe mc_Stands_cls ml_690 (by decide) (fun _ => rfl) rfl rfl (Nat.le_of_ble_eq_true rfl) (Nat.le_of_ble_eq_true rfl) (Nat.le_of_ble_eq_true rfl) md_Stands_letAllBe_11 (fun u1 h => ?_)
  refine mr_iinc C (L' := [(1, .int (x1_2 + 1)), (0, .ref (E.2.1 5))]) 1 md_Stands_letAllBe_14 rfl (mk_inc mk_iconst_1) (Nat.le_of_ble_eq_true rfl) rfl ?_
  refine mr_goto C md_Stands_letAllBe_17 rfl ?_
  refine mr_sub [1, 0] rfl ?_
  exact h
/-- ValueMill$Stands.letBeNumber(II)V: what it does, as a transformer of what must hold behind it -/
def mw_Stands_letBeNumber (K : mz_St → Prop) (a0 : Int32) (a1 : Int32) (s0 : mz_St) : Prop :=
  vp_in a0 221 ∧
  vp_in a0 221 ∧
  K (mz_wr (mz_wr s0 37 a0 2) 38 a0 a1)
set_option maxRecDepth 100000 in
set_option maxHeartbeats 4000000 in
theorem ms_Stands_letBeNumber (l : Launch) (E : mz_En) (hI : mz_Inj E) (K : mz_St → Prop) (a0 : Int32) (a1 : Int32) (s0 : mz_St) (h : mw_Stands_letBeNumber K a0 a1 s0) : mz_Cv l E my_Stands_letBeNumber mb_Stands_letBeNumber 3 (0) (0) [.ref (E.2.1 5), .int a0, .int a1] s0 K := by
  refine mz_ctv hI (by decide +kernel) (Nat.le_of_ble_eq_true rfl) (fun X C R => ?_)
  show mz_G E X 3 0 [(0, .ref (E.2.1 5)), (1, .int a0), (2, .int a1)] [] s0
  unfold mw_Stands_letBeNumber at h
  refine mr_aload_n C 0 md_Stands_letBeNumber_0 rfl rfl ?_
  refine mr_get C 5 4 mc_Stands_cls ml_224 rfl (by decide) (by decide) (fun _ => rfl) rfl md_Stands_letBeNumber_1 ?_
  refine mr_iload_n C 1 md_Stands_letBeNumber_4 rfl rfl ?_
  refine mr_iconst C md_Stands_letBeNumber_5 mk_iconst_2 ?_
  refine mr_iast C 37 221 (by decide) (by decide) (fun _ _ => rfl) h.1 md_Stands_letBeNumber_6 ?_
  replace h := h.2
  refine mr_aload_n C 0 md_Stands_letBeNumber_7 rfl rfl ?_
  refine mr_get C 5 5 mc_Stands_cls ml_225 rfl (by decide) (by decide) (fun _ => rfl) rfl md_Stands_letBeNumber_8 ?_
  refine mr_iload_n C 1 md_Stands_letBeNumber_11 rfl rfl ?_
  refine mr_iload_n C 2 md_Stands_letBeNumber_12 rfl rfl ?_
  refine mr_iast C 38 221 (by decide) (by decide) (fun _ _ => rfl) h.1 md_Stands_letBeNumber_13 ?_
  replace h := h.2
  exact mr_vret C R h md_Stands_letBeNumber_14
def mw_Stands_firstKnown_62 (P8 : Int32 → mz_St → Prop) (x3_8 : Int32) (s62 : mz_St) : Prop :=
  P8 (x3_8 + 1) s62
def mw_Stands_firstKnown_8 (K : Int32 → mz_St → Prop) (a0 : Int32) (a1 : Int32) (P8 : Int32 → mz_St → Prop) (x3_8 : Int32) (s8 : mz_St) : Prop :=
  (((s8 1003 0) ≤ x3_8 →
   K (-1) s8) ∧
  (¬ (s8 1003 0) ≤ x3_8 →
   vp_in a0 10 ∧
   mw_Mill_isIn (fun r1 u1 =>
    (∀ P62 : mz_St → Prop, (∀ (s62 : mz_St), mw_Stands_firstKnown_62 P8 x3_8 s62 → P62 s62) →
    ((r1 = 0 →
     P62 u1) ∧
    (¬ r1 = 0 →
     mw_Names_along (fun r2 u2 =>
      vp_in r2 221 ∧
      (((mz_rd u2 37 r2) = 0 →
       P62 u2) ∧
      (¬ (mz_rd u2 37 r2) = 0 →
       mw_Names_along (fun r3 u3 =>
        K r3 u3) x3_8 a1 u2))) x3_8 a1 u1)))) (mz_rd s8 23 a0) x3_8 s8))
/-- ValueMill$Stands.firstKnown(II)I: what it does, as a transformer of what must hold behind it -/
def mw_Stands_firstKnown (K : Int32 → mz_St → Prop) (a0 : Int32) (a1 : Int32) (s0 : mz_St) : Prop :=
  ((¬ a0 = 0 →
   (∀ P8 : Int32 → mz_St → Prop, (∀ (x3_8 : Int32) (s8 : mz_St), mw_Stands_firstKnown_8 K a0 a1 P8 x3_8 s8 → P8 x3_8 s8) →
   P8 0 s0)) ∧
  (a0 = 0 →
   K 0 s0))
set_option maxRecDepth 100000 in
set_option maxHeartbeats 4000000 in
theorem ms_Stands_firstKnown (l : Launch) (E : mz_En) (hI : mz_Inj E) (K : Int32 → mz_St → Prop) (a0 : Int32) (a1 : Int32) (s0 : mz_St) (h : mw_Stands_firstKnown K a0 a1 s0) : mz_Ci l E my_Stands_firstKnown mb_Stands_firstKnown 4 (some .int) (1) (22) [.ref (E.2.1 5), .int a0, .int a1] s0 K := by
  refine mz_cti hI (by decide +kernel) (Nat.le_of_ble_eq_true rfl) (fun X C R => ?_)
  show mz_G E X 4 0 [(0, .ref (E.2.1 5)), (1, .int a0), (2, .int a1)] [] s0
  unfold mw_Stands_firstKnown at h
  refine mr_iload_n C 1 md_Stands_firstKnown_0 rfl rfl ?_
  refine mr_if_ne C md_Stands_firstKnown_1 rfl (fun hc => ?_) (fun hc => ?_)
  · replace h := h.1 hc
    refine mr_iconst C md_Stands_firstKnown_6 mk_iconst_0 ?_
    refine mr_istore_n C (L' := [(3, .int 0), (0, .ref (E.2.1 5)), (1, .int a0), (2, .int a1)]) md_Stands_firstKnown_7 rfl (Nat.le_of_ble_eq_true rfl) rfl ?_
    refine mr_sub [1, 2, 3, 0] rfl ?_
    refine h (fun (x3_8 : Int32) (s8 : mz_St) => mz_G E X 4 8 [(0, .ref (E.2.1 5)), (1, .int a0), (2, .int a1), (3, .int x3_8)] [] s8) (fun x3_8 s8 h => ?_)
    unfold mw_Stands_firstKnown_8 at h
    refine mr_iload_n C 3 md_Stands_firstKnown_8 rfl rfl ?_
    refine mr_aload_n C 0 md_Stands_firstKnown_9 rfl rfl ?_
    refine mr_get C 5 0 mc_Stands_cls ml_220 rfl (by decide) (by decide) (fun _ => rfl) rfl md_Stands_firstKnown_10 ?_
    refine mr_getN C 1 10 mc_Program_cls ml_65 rfl (by decide) (by decide) (fun _ => rfl) rfl md_Stands_firstKnown_13 ?_
    refine mr_icmp_ge C md_Stands_firstKnown_16 rfl (fun hc => ?_) (fun hc => ?_)
    · replace h := h.1 hc
      refine mr_iconst C md_Stands_firstKnown_68 mk_iconst_m1 ?_
      exact mr_iret C R h md_Stands_firstKnown_69
    replace h := h.2 hc
    refine mr_aload_n C 0 md_Stands_firstKnown_19 rfl rfl ?_
    refine mr_get C 5 1 mc_Stands_cls ml_221 rfl (by decide) (by decide) (fun _ => rfl) rfl md_Stands_firstKnown_20 ?_
    refine mr_getN C 2 2 mc_Flow_cls ml_99 rfl (by decide) (by decide) (fun _ => rfl) rfl md_Stands_firstKnown_23 ?_
    refine mr_iload_n C 1 md_Stands_firstKnown_26 rfl rfl ?_
    refine mr_iald C 23 10 (by decide) (fun _ => rfl) h.1 md_Stands_firstKnown_27 ?_
    replace h := h.2
    refine mr_iload_n C 3 md_Stands_firstKnown_28 rfl rfl ?_
    refine mr_cSNi C (As := [.int (mz_rd s8 23 a0), .int x3_8]) (rest := []) (ms_Mill_isIn _ E hI _ (mz_rd s8 23 a0) x3_8 _ h) mo_Mill_isIn mt_Mill_isIn ml_707 rfl rfl (Nat.le_of_ble_eq_true rfl) (Nat.le_of_ble_eq_true rfl) (Nat.le_of_ble_eq_true rfl) md_Stands_firstKnown_29 (fun r1 u1 h => ?_)
    refine mj (h (fun (s62 : mz_St) => mz_G E X 4 62 [(0, .ref (E.2.1 5)), (1, .int a0), (2, .int a1), (3, .int x3_8)] [] s62) (fun s62 h => ?_)) (fun h => ?_)
    · unfold mw_Stands_firstKnown_62 at h
      refine mr_iinc C (L' := [(3, .int (x3_8 + 1)), (0, .ref (E.2.1 5)), (1, .int a0), (2, .int a1)]) 3 md_Stands_firstKnown_62 rfl (mk_inc mk_iconst_1) (Nat.le_of_ble_eq_true rfl) rfl ?_
      refine mr_goto C md_Stands_firstKnown_65 rfl ?_
      refine mr_sub [1, 2, 3, 0] rfl ?_
      exact h
    refine mr_if_eq C md_Stands_firstKnown_32 rfl (fun hc => ?_) (fun hc => ?_)
    · replace h := h.1 hc
      exact h
    replace h := h.2 hc
    refine mr_aload_n C 0 md_Stands_firstKnown_35 rfl rfl ?_
    refine mr_get C 5 4 mc_Stands_cls ml_224 rfl (by decide) (by decide) (fun _ => rfl) rfl md_Stands_firstKnown_36 ?_
    refine mr_aload_n C 0 md_Stands_firstKnown_39 rfl rfl ?_
    refine mr_get C 5 3 mc_Stands_cls ml_223 rfl (by decide) (by decide) (fun _ => rfl) rfl md_Stands_firstKnown_40 ?_
    refine mr_iload_n C 3 md_Stands_firstKnown_43 rfl rfl ?_
    refine mr_iload_n C 2 md_Stands_firstKnown_44 rfl rfl ?_
    refine mr_cVNi C (As := [.int x3_8, .int a1]) (rest := [.ref (E.2.1 37)]) 4 (ms_Names_along _ E hI _ x3_8 a1 _ h) mo_Names_along mi_Names_along mc_Names_cls ml_716 (by decide) (fun _ => rfl) rfl rfl (Nat.le_of_ble_eq_true rfl) (Nat.le_of_ble_eq_true rfl) (Nat.le_of_ble_eq_true rfl) md_Stands_firstKnown_45 (fun r2 u2 h => ?_)
    refine mr_iald C 37 221 (by decide) (fun _ => rfl) h.1 md_Stands_firstKnown_48 ?_
    replace h := h.2
    refine mr_if_eq C md_Stands_firstKnown_49 rfl (fun hc => ?_) (fun hc => ?_)
    · replace h := h.1 hc
      exact h
    replace h := h.2 hc
    refine mr_aload_n C 0 md_Stands_firstKnown_52 rfl rfl ?_
    refine mr_get C 5 3 mc_Stands_cls ml_223 rfl (by decide) (by decide) (fun _ => rfl) rfl md_Stands_firstKnown_53 ?_
    refine mr_iload_n C 3 md_Stands_firstKnown_56 rfl rfl ?_
    refine mr_iload_n C 2 md_Stands_firstKnown_57 rfl rfl ?_
    refine mr_cVNi C (As := [.int x3_8, .int a1]) (rest := []) 4 (ms_Names_along _ E hI _ x3_8 a1 _ h) mo_Names_along mi_Names_along mc_Names_cls ml_716 (by decide) (fun _ => rfl) rfl rfl (Nat.le_of_ble_eq_true rfl) (Nat.le_of_ble_eq_true rfl) (Nat.le_of_ble_eq_true rfl) md_Stands_firstKnown_58 (fun r3 u3 h => ?_)
    exact mr_iret C R h md_Stands_firstKnown_61
  replace h := h.2 hc
  refine mr_iconst C md_Stands_firstKnown_4 mk_iconst_0 ?_
  exact mr_iret C R h md_Stands_firstKnown_5
def mw_Stands_differ_39 (K : Int32 → mz_St → Prop) (s39 : mz_St) : Prop :=
  K 1 s39
/-- ValueMill$Stands.differ(II)Z: what it does, as a transformer of what must hold behind it -/
def mw_Stands_differ (K : Int32 → mz_St → Prop) (a0 : Int32) (a1 : Int32) (s0 : mz_St) : Prop :=
  vp_in a1 221 ∧
  (((mz_rd s0 37 a1) = 0 →
   K 0 s0) ∧
  (¬ (mz_rd s0 37 a1) = 0 →
   vp_in a1 221 ∧
   vp_in a0 221 ∧
   (∀ P39 : mz_St → Prop, (∀ (s39 : mz_St), mw_Stands_differ_39 K s39 → P39 s39) →
   ((¬ (mz_rd s0 37 a1) = (mz_rd s0 37 a0) →
    P39 s0) ∧
   ((mz_rd s0 37 a1) = (mz_rd s0 37 a0) →
    vp_in a1 221 ∧
    vp_in a0 221 ∧
    (((mz_rd s0 38 a1) = (mz_rd s0 38 a0) →
     K 0 s0) ∧
    (¬ (mz_rd s0 38 a1) = (mz_rd s0 38 a0) →
     P39 s0)))))))
set_option maxRecDepth 100000 in
set_option maxHeartbeats 4000000 in
theorem ms_Stands_differ (l : Launch) (E : mz_En) (hI : mz_Inj E) (K : Int32 → mz_St → Prop) (a0 : Int32) (a1 : Int32) (s0 : mz_St) (h : mw_Stands_differ K a0 a1 s0) : mz_Ci l E my_Stands_differ mb_Stands_differ 3 (some .boolean) (0) (0) [.ref (E.2.1 5), .int a0, .int a1] s0 K := by
  refine mz_cti hI (by decide +kernel) (Nat.le_of_ble_eq_true rfl) (fun X C R => ?_)
  show mz_G E X 3 0 [(0, .ref (E.2.1 5)), (1, .int a0), (2, .int a1)] [] s0
  unfold mw_Stands_differ at h
  refine mr_aload_n C 0 md_Stands_differ_0 rfl rfl ?_
  refine mr_get C 5 4 mc_Stands_cls ml_224 rfl (by decide) (by decide) (fun _ => rfl) rfl md_Stands_differ_1 ?_
  refine mr_iload_n C 2 md_Stands_differ_4 rfl rfl ?_
  refine mr_iald C 37 221 (by decide) (fun _ => rfl) h.1 md_Stands_differ_5 ?_
  replace h := h.2
  refine mr_if_eq C md_Stands_differ_6 rfl (fun hc => ?_) (fun hc => ?_)
  · replace h := h.1 hc
    refine mr_iconst C md_Stands_differ_43 mk_iconst_0 ?_
    exact mr_zret C R mb_0 h md_Stands_differ_44
  replace h := h.2 hc
  refine mr_aload_n C 0 md_Stands_differ_9 rfl rfl ?_
  refine mr_get C 5 4 mc_Stands_cls ml_224 rfl (by decide) (by decide) (fun _ => rfl) rfl md_Stands_differ_10 ?_
  refine mr_iload_n C 2 md_Stands_differ_13 rfl rfl ?_
  refine mr_iald C 37 221 (by decide) (fun _ => rfl) h.1 md_Stands_differ_14 ?_
  replace h := h.2
  refine mr_aload_n C 0 md_Stands_differ_15 rfl rfl ?_
  refine mr_get C 5 4 mc_Stands_cls ml_224 rfl (by decide) (by decide) (fun _ => rfl) rfl md_Stands_differ_16 ?_
  refine mr_iload_n C 1 md_Stands_differ_19 rfl rfl ?_
  refine mr_iald C 37 221 (by decide) (fun _ => rfl) h.1 md_Stands_differ_20 ?_
  replace h := h.2
  refine mj (h (fun (s39 : mz_St) => mz_G E X 3 39 [] [] s39) (fun s39 h => ?_)) (fun h => ?_)
  · unfold mw_Stands_differ_39 at h
    refine mr_iconst C md_Stands_differ_39 mk_iconst_1 ?_
    refine mr_goto C md_Stands_differ_40 rfl ?_
    exact mr_zret C R mb_1 h md_Stands_differ_44
  refine mr_icmp_ne C md_Stands_differ_21 rfl (fun hc => ?_) (fun hc => ?_)
  · replace h := h.1 hc
    refine mr_sub [] rfl ?_
    exact h
  replace h := h.2 hc
  refine mr_aload_n C 0 md_Stands_differ_24 rfl rfl ?_
  refine mr_get C 5 5 mc_Stands_cls ml_225 rfl (by decide) (by decide) (fun _ => rfl) rfl md_Stands_differ_25 ?_
  refine mr_iload_n C 2 md_Stands_differ_28 rfl rfl ?_
  refine mr_iald C 38 221 (by decide) (fun _ => rfl) h.1 md_Stands_differ_29 ?_
  replace h := h.2
  refine mr_aload_n C 0 md_Stands_differ_30 rfl rfl ?_
  refine mr_get C 5 5 mc_Stands_cls ml_225 rfl (by decide) (by decide) (fun _ => rfl) rfl md_Stands_differ_31 ?_
  refine mr_iload_n C 1 md_Stands_differ_34 rfl rfl ?_
  refine mr_iald C 38 221 (by decide) (fun _ => rfl) h.1 md_Stands_differ_35 ?_
  replace h := h.2
  refine mr_icmp_eq C md_Stands_differ_36 rfl (fun hc => ?_) (fun hc => ?_)
  · replace h := h.1 hc
    refine mr_iconst C md_Stands_differ_43 mk_iconst_0 ?_
    exact mr_zret C R mb_0 h md_Stands_differ_44
  replace h := h.2 hc
  refine mr_sub [] rfl ?_
  exact h
def mw_Stands_takesOtherThan_52 (P3 : Int32 → mz_St → Prop) (x4_3 : Int32) (s52 : mz_St) : Prop :=
  P3 (x4_3 + 1) s52
def mw_Stands_takesOtherThan_3 (K : Int32 → mz_St → Prop) (a0 : Int32) (a1 : Int32) (a2 : Int32) (P3 : Int32 → mz_St → Prop) (x4_3 : Int32) (s3 : mz_St) : Prop :=
  (((s3 1003 0) ≤ x4_3 →
   K 0 s3) ∧
  (¬ (s3 1003 0) ≤ x4_3 →
   vp_in a1 10 ∧
   mw_Mill_isIn (fun r1 u1 =>
    (∀ P52 : mz_St → Prop, (∀ (s52 : mz_St), mw_Stands_takesOtherThan_52 P3 x4_3 s52 → P52 s52) →
    ((r1 = 0 →
     P52 u1) ∧
    (¬ r1 = 0 →
     mw_Names_along (fun r2 u2 =>
      mw_Stands_differ (fun r3 u3 =>
       ((r3 = 0 →
        P52 u3) ∧
       (¬ r3 = 0 →
        K 1 u3))) a0 r2 u2) x4_3 a2 u1)))) (mz_rd s3 23 a1) x4_3 s3))
/-- ValueMill$Stands.takesOtherThan(III)Z: what it does, as a transformer of what must hold behind it -/
def mw_Stands_takesOtherThan (K : Int32 → mz_St → Prop) (a0 : Int32) (a1 : Int32) (a2 : Int32) (s0 : mz_St) : Prop :=
  (∀ P3 : Int32 → mz_St → Prop, (∀ (x4_3 : Int32) (s3 : mz_St), mw_Stands_takesOtherThan_3 K a0 a1 a2 P3 x4_3 s3 → P3 x4_3 s3) →
  P3 0 s0)
set_option maxRecDepth 100000 in
set_option maxHeartbeats 4000000 in
theorem ms_Stands_takesOtherThan (l : Launch) (E : mz_En) (hI : mz_Inj E) (K : Int32 → mz_St → Prop) (a0 : Int32) (a1 : Int32) (a2 : Int32) (s0 : mz_St) (h : mw_Stands_takesOtherThan K a0 a1 a2 s0) : mz_Ci l E my_Stands_takesOtherThan mb_Stands_takesOtherThan 5 (some .boolean) (1) (22) [.ref (E.2.1 5), .int a0, .int a1, .int a2] s0 K := by
  refine mz_cti hI (by decide +kernel) (Nat.le_of_ble_eq_true rfl) (fun X C R => ?_)
  show mz_G E X 5 0 [(0, .ref (E.2.1 5)), (1, .int a0), (2, .int a1), (3, .int a2)] [] s0
  unfold mw_Stands_takesOtherThan at h
  refine mr_iconst C md_Stands_takesOtherThan_0 mk_iconst_0 ?_
  refine mr_istore C (L' := [(4, .int 0), (0, .ref (E.2.1 5)), (1, .int a0), (2, .int a1), (3, .int a2)]) md_Stands_takesOtherThan_1 (Nat.le_of_ble_eq_true rfl) rfl ?_
  refine mr_sub [1, 2, 3, 4, 0] rfl ?_
  refine h (fun (x4_3 : Int32) (s3 : mz_St) => mz_G E X 5 3 [(0, .ref (E.2.1 5)), (1, .int a0), (2, .int a1), (3, .int a2), (4, .int x4_3)] [] s3) (fun x4_3 s3 h => ?_)
  unfold mw_Stands_takesOtherThan_3 at h
  refine mr_iload C 4 md_Stands_takesOtherThan_3 rfl ?_
  refine mr_aload_n C 0 md_Stands_takesOtherThan_5 rfl rfl ?_
  refine mr_get C 5 0 mc_Stands_cls ml_220 rfl (by decide) (by decide) (fun _ => rfl) rfl md_Stands_takesOtherThan_6 ?_
  refine mr_getN C 1 10 mc_Program_cls ml_65 rfl (by decide) (by decide) (fun _ => rfl) rfl md_Stands_takesOtherThan_9 ?_
  refine mr_icmp_ge C md_Stands_takesOtherThan_12 rfl (fun hc => ?_) (fun hc => ?_)
  · replace h := h.1 hc
    refine mr_iconst C md_Stands_takesOtherThan_58 mk_iconst_0 ?_
    exact mr_zret C R mb_0 h md_Stands_takesOtherThan_59
  replace h := h.2 hc
  refine mr_aload_n C 0 md_Stands_takesOtherThan_15 rfl rfl ?_
  refine mr_get C 5 1 mc_Stands_cls ml_221 rfl (by decide) (by decide) (fun _ => rfl) rfl md_Stands_takesOtherThan_16 ?_
  refine mr_getN C 2 2 mc_Flow_cls ml_99 rfl (by decide) (by decide) (fun _ => rfl) rfl md_Stands_takesOtherThan_19 ?_
  refine mr_iload_n C 2 md_Stands_takesOtherThan_22 rfl rfl ?_
  refine mr_iald C 23 10 (by decide) (fun _ => rfl) h.1 md_Stands_takesOtherThan_23 ?_
  replace h := h.2
  refine mr_iload C 4 md_Stands_takesOtherThan_24 rfl ?_
  refine mr_cSNi C (As := [.int (mz_rd s3 23 a1), .int x4_3]) (rest := []) (ms_Mill_isIn _ E hI _ (mz_rd s3 23 a1) x4_3 _ h) mo_Mill_isIn mt_Mill_isIn ml_707 rfl rfl (Nat.le_of_ble_eq_true rfl) (Nat.le_of_ble_eq_true rfl) (Nat.le_of_ble_eq_true rfl) md_Stands_takesOtherThan_26 (fun r1 u1 h => ?_)
  refine mj (h (fun (s52 : mz_St) => mz_G E X 5 52 [(0, .ref (E.2.1 5)), (1, .int a0), (2, .int a1), (3, .int a2), (4, .int x4_3)] [] s52) (fun s52 h => ?_)) (fun h => ?_)
  · unfold mw_Stands_takesOtherThan_52 at h
    refine mr_iinc C (L' := [(4, .int (x4_3 + 1)), (0, .ref (E.2.1 5)), (1, .int a0), (2, .int a1), (3, .int a2)]) 4 md_Stands_takesOtherThan_52 rfl (mk_inc mk_iconst_1) (Nat.le_of_ble_eq_true rfl) rfl ?_
    refine mr_goto C md_Stands_takesOtherThan_55 rfl ?_
    refine mr_sub [1, 2, 3, 4, 0] rfl ?_
    exact h
  refine mr_if_eq C md_Stands_takesOtherThan_29 rfl (fun hc => ?_) (fun hc => ?_)
  · replace h := h.1 hc
    exact h
  replace h := h.2 hc
  refine mr_aload_n C 0 md_Stands_takesOtherThan_32 rfl rfl ?_
  refine mr_iload_n C 1 md_Stands_takesOtherThan_33 rfl rfl ?_
  refine mr_aload_n C 0 md_Stands_takesOtherThan_34 rfl rfl ?_
  refine mr_get C 5 3 mc_Stands_cls ml_223 rfl (by decide) (by decide) (fun _ => rfl) rfl md_Stands_takesOtherThan_35 ?_
  refine mr_iload C 4 md_Stands_takesOtherThan_38 rfl ?_
  refine mr_iload_n C 3 md_Stands_takesOtherThan_40 rfl rfl ?_
  refine mr_cVNi C (As := [.int x4_3, .int a2]) (rest := [.int a0, .ref (E.2.1 5)]) 4 (ms_Names_along _ E hI _ x4_3 a2 _ h) mo_Names_along mi_Names_along mc_Names_cls ml_716 (by decide) (fun _ => rfl) rfl rfl (Nat.le_of_ble_eq_true rfl) (Nat.le_of_ble_eq_true rfl) (Nat.le_of_ble_eq_true rfl) md_Stands_takesOtherThan_41 (fun r2 u2 h => ?_)
  refine mr_cVi C (As := [.int a0, .int r2]) (rest := []) 5 (ms_Stands_differ _ E hI _ a0 r2 _ h) mo_Stands_differ mi_Stands_differ mc_Stands_cls ml_724 (by decide) (fun _ => rfl) rfl rfl (Nat.le_of_ble_eq_true rfl) (Nat.le_of_ble_eq_true rfl) (Nat.le_of_ble_eq_true rfl) md_Stands_takesOtherThan_44 (fun r3 u3 h => ?_)
  refine mr_if_eq C md_Stands_takesOtherThan_47 rfl (fun hc => ?_) (fun hc => ?_)
  · replace h := h.1 hc
    exact h
  replace h := h.2 hc
  refine mr_iconst C md_Stands_takesOtherThan_50 mk_iconst_1 ?_
  exact mr_zret C R mb_1 h md_Stands_takesOtherThan_51
/-- ValueMill$Stands.standLike(II)V: what it does, as a transformer of what must hold behind it -/
def mw_Stands_standLike (K : mz_St → Prop) (a0 : Int32) (a1 : Int32) (s0 : mz_St) : Prop :=
  vp_in a1 221 ∧
  vp_in a0 221 ∧
  vp_in a1 221 ∧
  vp_in a0 221 ∧
  K (mz_wr (mz_wr s0 37 a0 (mz_rd s0 37 a1)) 38 a0 (mz_rd (mz_wr s0 37 a0 (mz_rd s0 37 a1)) 38 a1))
set_option maxRecDepth 100000 in
set_option maxHeartbeats 4000000 in
theorem ms_Stands_standLike (l : Launch) (E : mz_En) (hI : mz_Inj E) (K : mz_St → Prop) (a0 : Int32) (a1 : Int32) (s0 : mz_St) (h : mw_Stands_standLike K a0 a1 s0) : mz_Cv l E my_Stands_standLike mb_Stands_standLike 3 (0) (0) [.ref (E.2.1 5), .int a0, .int a1] s0 K := by
  refine mz_ctv hI (by decide +kernel) (Nat.le_of_ble_eq_true rfl) (fun X C R => ?_)
  show mz_G E X 3 0 [(0, .ref (E.2.1 5)), (1, .int a0), (2, .int a1)] [] s0
  unfold mw_Stands_standLike at h
  refine mr_aload_n C 0 md_Stands_standLike_0 rfl rfl ?_
  refine mr_get C 5 4 mc_Stands_cls ml_224 rfl (by decide) (by decide) (fun _ => rfl) rfl md_Stands_standLike_1 ?_
  refine mr_iload_n C 1 md_Stands_standLike_4 rfl rfl ?_
  refine mr_aload_n C 0 md_Stands_standLike_5 rfl rfl ?_
  refine mr_get C 5 4 mc_Stands_cls ml_224 rfl (by decide) (by decide) (fun _ => rfl) rfl md_Stands_standLike_6 ?_
  refine mr_iload_n C 2 md_Stands_standLike_9 rfl rfl ?_
  refine mr_iald C 37 221 (by decide) (fun _ => rfl) h.1 md_Stands_standLike_10 ?_
  replace h := h.2
  refine mr_iast C 37 221 (by decide) (by decide) (fun _ _ => rfl) h.1 md_Stands_standLike_11 ?_
  replace h := h.2
  refine mr_aload_n C 0 md_Stands_standLike_12 rfl rfl ?_
  refine mr_get C 5 5 mc_Stands_cls ml_225 rfl (by decide) (by decide) (fun _ => rfl) rfl md_Stands_standLike_13 ?_
  refine mr_iload_n C 1 md_Stands_standLike_16 rfl rfl ?_
  refine mr_aload_n C 0 md_Stands_standLike_17 rfl rfl ?_
  refine mr_get C 5 5 mc_Stands_cls ml_225 rfl (by decide) (by decide) (fun _ => rfl) rfl md_Stands_standLike_18 ?_
  refine mr_iload_n C 2 md_Stands_standLike_21 rfl rfl ?_
  refine mr_iald C 38 221 (by decide) (fun _ => rfl) h.1 md_Stands_standLike_22 ?_
  replace h := h.2
  refine mr_iast C 38 221 (by decide) (by decide) (fun _ _ => rfl) h.1 md_Stands_standLike_23 ?_
  replace h := h.2
  exact mr_vret C R h md_Stands_standLike_24
def mw_Stands_guessPhi_34 (K : mz_St → Prop) (a0 : Int32) (a1 : Int32) (r1 : Int32) (s34 : mz_St) : Prop :=
  vp_in a0 10 ∧
  mw_Mill_isIn (fun r2 u2 =>
   ((r2 = 0 →
    mw_Mill_phiName (fun r3 u3 =>
     mw_Stands_standLike (fun u4 =>
      K u4) r3 r1 u3) a0 a1 u2) ∧
   (¬ r2 = 0 →
    mw_Mill_phiName (fun r4 u5 =>
     mw_Stands_letBe (fun u6 =>
      K u6) r4 u5) a0 a1 u2))) (mz_rd s34 39 a0) a1 s34
def mw_Stands_guessPhi_22 (a0 : Int32) (a1 : Int32) (P34 : mz_St → Prop) (s22 : mz_St) : Prop :=
  vp_in a0 10 ∧
  vp_in a0 10 ∧
  P34 (mz_wr s22 39 a0 ((mz_rd s22 39 a0) ||| ((1 : Int32) <<< (a1 &&& 31))))
/-- ValueMill$Stands.guessPhi(II)V: what it does, as a transformer of what must hold behind it -/
def mw_Stands_guessPhi (K : mz_St → Prop) (a0 : Int32) (a1 : Int32) (s0 : mz_St) : Prop :=
  mw_Stands_firstKnown (fun r1 u1 =>
   (∀ P34 : mz_St → Prop, (∀ (s34 : mz_St), mw_Stands_guessPhi_34 K a0 a1 r1 s34 → P34 s34) →
   (∀ P22 : mz_St → Prop, (∀ (s22 : mz_St), mw_Stands_guessPhi_22 a0 a1 P34 s22 → P22 s22) →
   ((r1 = (-1) →
    P22 u1) ∧
   (¬ r1 = (-1) →
    mw_Stands_takesOtherThan (fun r5 u7 =>
     ((r5 = 0 →
      P34 u7) ∧
     (¬ r5 = 0 →
      P22 u7))) r1 a0 a1 u1))))) a0 a1 s0
set_option maxRecDepth 100000 in
set_option maxHeartbeats 4000000 in
theorem ms_Stands_guessPhi (l : Launch) (E : mz_En) (hI : mz_Inj E) (K : mz_St → Prop) (a0 : Int32) (a1 : Int32) (s0 : mz_St) (h : mw_Stands_guessPhi K a0 a1 s0) : mz_Cv l E my_Stands_guessPhi mb_Stands_guessPhi 4 (2) (46) [.ref (E.2.1 5), .int a0, .int a1] s0 K := by
  refine mz_ctv hI (by decide +kernel) (Nat.le_of_ble_eq_true rfl) (fun X C R => ?_)
  show mz_G E X 4 0 [(0, .ref (E.2.1 5)), (1, .int a0), (2, .int a1)] [] s0
  unfold mw_Stands_guessPhi at h
  refine mr_aload_n C 0 md_Stands_guessPhi_0 rfl rfl ?_
  refine mr_iload_n C 1 md_Stands_guessPhi_1 rfl rfl ?_
  refine mr_iload_n C 2 md_Stands_guessPhi_2 rfl rfl ?_
  refine mr_cVi C (As := [.int a0, .int a1]) (rest := []) 5 (ms_Stands_firstKnown _ E hI _ a0 a1 _ h) mo_Stands_firstKnown mi_Stands_firstKnown mc_Stands_cls ml_712 (by decide) (fun _ => rfl) rfl rfl (Nat.le_of_ble_eq_true rfl) (Nat.le_of_ble_eq_true rfl) (Nat.le_of_ble_eq_true rfl) md_Stands_guessPhi_3 (fun r1 u1 h => ?_)
  refine mr_istore_n C (L' := [(3, .int r1), (0, .ref (E.2.1 5)), (1, .int a0), (2, .int a1)]) md_Stands_guessPhi_6 rfl (Nat.le_of_ble_eq_true rfl) rfl ?_
  refine mr_iload_n C 0 md_Stands_guessPhi_7 rfl rfl ?_
  refine mr_iconst C md_Stands_guessPhi_8 mk_iconst_m1 ?_
  refine mj (h (fun (s34 : mz_St) => mz_G E X 4 34 [(0, .ref (E.2.1 5)), (1, .int a0), (2, .int a1), (3, .int r1)] [] s34) (fun s34 h => ?_)) (fun h => ?_)
  · unfold mw_Stands_guessPhi_34 at h
    refine mr_aload_n C 0 md_Stands_guessPhi_34 rfl rfl ?_
    refine mr_get C 5 6 mc_Stands_cls ml_228 rfl (by decide) (by decide) (fun _ => rfl) rfl md_Stands_guessPhi_35 ?_
    refine mr_iload_n C 1 md_Stands_guessPhi_38 rfl rfl ?_
    refine mr_iald C 39 10 (by decide) (fun _ => rfl) h.1 md_Stands_guessPhi_39 ?_
    replace h := h.2
    refine mr_iload_n C 2 md_Stands_guessPhi_40 rfl rfl ?_
    refine mr_cSNi C (As := [.int (mz_rd s34 39 a0), .int a1]) (rest := []) (ms_Mill_isIn _ E hI _ (mz_rd s34 39 a0) a1 _ h) mo_Mill_isIn mt_Mill_isIn ml_707 rfl rfl (Nat.le_of_ble_eq_true rfl) (Nat.le_of_ble_eq_true rfl) (Nat.le_of_ble_eq_true rfl) md_Stands_guessPhi_41 (fun r2 u2 h => ?_)
    refine mr_if_eq C md_Stands_guessPhi_44 rfl (fun hc => ?_) (fun hc => ?_)
    · replace h := h.1 hc
      refine mr_aload_n C 0 md_Stands_guessPhi_59 rfl rfl ?_
      refine mr_iload_n C 1 md_Stands_guessPhi_60 rfl rfl ?_
      refine mr_iload_n C 2 md_Stands_guessPhi_61 rfl rfl ?_
      refine mr_cSNi C (As := [.int a0, .int a1]) (rest := [.ref (E.2.1 5)]) (ms_Mill_phiName _ E hI _ a0 a1 _ h) mo_Mill_phiName mt_Mill_phiName ml_728 rfl rfl (Nat.le_of_ble_eq_true rfl) (Nat.le_of_ble_eq_true rfl) (Nat.le_of_ble_eq_true rfl) md_Stands_guessPhi_62 (fun r3 u3 h => ?_)
      refine mr_iload_n C 3 md_Stands_guessPhi_65 rfl rfl ?_
      refine mr_cVv C (As := [.int r3, .int r1]) (rest := []) 5 (ms_Stands_standLike _ E hI _ r3 r1 _ h) mo_Stands_standLike mi_Stands_standLike mc_Stands_cls ml_729 (by decide) (fun _ => rfl) rfl rfl (Nat.le_of_ble_eq_true rfl) (Nat.le_of_ble_eq_true rfl) (Nat.le_of_ble_eq_true rfl) md_Stands_guessPhi_66 (fun u4 h => ?_)
      exact mr_vret C R h md_Stands_guessPhi_69
    replace h := h.2 hc
    refine mr_aload_n C 0 md_Stands_guessPhi_47 rfl rfl ?_
    refine mr_iload_n C 1 md_Stands_guessPhi_48 rfl rfl ?_
    refine mr_iload_n C 2 md_Stands_guessPhi_49 rfl rfl ?_
    refine mr_cSNi C (As := [.int a0, .int a1]) (rest := [.ref (E.2.1 5)]) (ms_Mill_phiName _ E hI _ a0 a1 _ h) mo_Mill_phiName mt_Mill_phiName ml_728 rfl rfl (Nat.le_of_ble_eq_true rfl) (Nat.le_of_ble_eq_true rfl) (Nat.le_of_ble_eq_true rfl) md_Stands_guessPhi_50 (fun r4 u5 h => ?_)
    refine mr_cVv C (As := [.int r4]) (rest := []) 5 (ms_Stands_letBe _ E hI _ r4 _ h) mo_Stands_letBe mi_Stands_letBe mc_Stands_cls ml_690 (by decide) (fun _ => rfl) rfl rfl (Nat.le_of_ble_eq_true rfl) (Nat.le_of_ble_eq_true rfl) (Nat.le_of_ble_eq_true rfl) md_Stands_guessPhi_53 (fun u6 h => ?_)
    refine mr_goto C md_Stands_guessPhi_56 rfl ?_
    exact mr_vret C R h md_Stands_guessPhi_69
  refine mj (h (fun (s22 : mz_St) => mz_G E X 4 22 [(0, .ref (E.2.1 5)), (1, .int a0), (2, .int a1), (3, .int r1)] [] s22) (fun s22 h => ?_)) (fun h => ?_)
  · unfold mw_Stands_guessPhi_22 at h
    refine mr_aload_n C 0 md_Stands_guessPhi_22 rfl rfl ?_
    refine mr_get C 5 6 mc_Stands_cls ml_228 rfl (by decide) (by decide) (fun _ => rfl) rfl md_Stands_guessPhi_23 ?_
    refine mr_iload_n C 1 md_Stands_guessPhi_26 rfl rfl ?_
    refine mr_dup2 C md_Stands_guessPhi_27 rfl rfl ?_
    refine mr_iald C 39 10 (by decide) (fun _ => rfl) h.1 md_Stands_guessPhi_28 ?_
    replace h := h.2
    refine mr_iconst C md_Stands_guessPhi_29 mk_iconst_1 ?_
    refine mr_iload_n C 2 md_Stands_guessPhi_30 rfl rfl ?_
    refine mr_ishl C md_Stands_guessPhi_31 ?_
    refine mr_ior C md_Stands_guessPhi_32 ?_
    refine mr_iast C 39 10 (by decide) (by decide) (fun _ _ => rfl) h.1 md_Stands_guessPhi_33 ?_
    replace h := h.2
    exact h
  refine mr_icmp_eq C md_Stands_guessPhi_9 rfl (fun hc => ?_) (fun hc => ?_)
  · replace h := h.1 hc
    refine mr_sub [1, 2, 3, 0] rfl ?_
    exact h
  replace h := h.2 hc
  refine mr_aload_n C 1 md_Stands_guessPhi_12 rfl rfl ?_
  refine mr_iload_n C 0 md_Stands_guessPhi_13 rfl rfl ?_
  refine mr_iload_n C 2 md_Stands_guessPhi_14 rfl rfl ?_
  refine mr_iload_n C 3 md_Stands_guessPhi_15 rfl rfl ?_
  refine mr_cVi C (As := [.int r1, .int a0, .int a1]) (rest := []) 5 (ms_Stands_takesOtherThan _ E hI _ r1 a0 a1 _ h) mo_Stands_takesOtherThan mi_Stands_takesOtherThan mc_Stands_cls ml_720 (by decide) (fun _ => rfl) rfl rfl (Nat.le_of_ble_eq_true rfl) (Nat.le_of_ble_eq_true rfl) (Nat.le_of_ble_eq_true rfl) md_Stands_guessPhi_16 (fun r5 u7 h => ?_)
  refine mr_if_eq C md_Stands_guessPhi_19 rfl (fun hc => ?_) (fun hc => ?_)
  · replace h := h.1 hc
    refine mr_sub [1, 2, 3, 0] rfl ?_
    exact h
  replace h := h.2 hc
  refine mr_sub [1, 2, 3, 0] rfl ?_
  exact h
/-- ValueMill$Stands.givesNumber(I)Z: what it does, as a transformer of what must hold behind it -/
def mw_Stands_givesNumber (K : Int32 → mz_St → Prop) (a0 : Int32) (s0 : mz_St) : Prop :=
  vp_in a0 120 ∧
  vp_in a0 120 ∧
  mw_Stands_isNumber (fun r1 u1 =>
   ((r1 = 0 →
    K 0 u1) ∧
   (¬ r1 = 0 →
    mw_Stands_isNumber (fun r2 u2 =>
     ((r2 = 0 →
      K 0 u2) ∧
     (¬ r2 = 0 →
      vp_in a0 120 ∧
      vp_in (mz_rd s0 33 a0) 221 ∧
      vp_in (mz_rd s0 34 a0) 221 ∧
      mw_Mill_failsToDivide (fun r3 u3 =>
       ((¬ r3 = 0 →
        K 0 u3) ∧
       (r3 = 0 →
        K 1 u3))) (mz_rd u2 12 a0) (mz_rd u2 38 (mz_rd s0 33 a0)) (mz_rd u2 38 (mz_rd s0 34 a0)) u2))) (mz_rd s0 34 a0) u1))) (mz_rd s0 33 a0) s0
set_option maxRecDepth 100000 in
set_option maxHeartbeats 4000000 in
theorem ms_Stands_givesNumber (l : Launch) (E : mz_En) (hI : mz_Inj E) (K : Int32 → mz_St → Prop) (a0 : Int32) (s0 : mz_St) (h : mw_Stands_givesNumber K a0 s0) : mz_Ci l E my_Stands_givesNumber mb_Stands_givesNumber 4 (some .boolean) (1) (22) [.ref (E.2.1 5), .int a0] s0 K := by
  refine mz_cti hI (by decide +kernel) (Nat.le_of_ble_eq_true rfl) (fun X C R => ?_)
  show mz_G E X 4 0 [(0, .ref (E.2.1 5)), (1, .int a0)] [] s0
  unfold mw_Stands_givesNumber at h
  refine mr_aload_n C 0 md_Stands_givesNumber_0 rfl rfl ?_
  refine mr_get C 5 3 mc_Stands_cls ml_223 rfl (by decide) (by decide) (fun _ => rfl) rfl md_Stands_givesNumber_1 ?_
  refine mr_getN C 4 3 mc_Names_cls ml_190 rfl (by decide) (by decide) (fun _ => rfl) rfl md_Stands_givesNumber_4 ?_
  refine mr_iload_n C 1 md_Stands_givesNumber_7 rfl rfl ?_
  refine mr_iald C 33 120 (by decide) (fun _ => rfl) h.1 md_Stands_givesNumber_8 ?_
  replace h := h.2
  refine mr_istore_n C (L' := [(2, .int (mz_rd s0 33 a0)), (0, .ref (E.2.1 5)), (1, .int a0)]) md_Stands_givesNumber_9 rfl (Nat.le_of_ble_eq_true rfl) rfl ?_
  refine mr_aload_n C 1 md_Stands_givesNumber_10 rfl rfl ?_
  refine mr_get C 5 3 mc_Stands_cls ml_223 rfl (by decide) (by decide) (fun _ => rfl) rfl md_Stands_givesNumber_11 ?_
  refine mr_getN C 4 4 mc_Names_cls ml_194 rfl (by decide) (by decide) (fun _ => rfl) rfl md_Stands_givesNumber_14 ?_
  refine mr_iload_n C 2 md_Stands_givesNumber_17 rfl rfl ?_
  refine mr_iald C 34 120 (by decide) (fun _ => rfl) h.1 md_Stands_givesNumber_18 ?_
  replace h := h.2
  refine mr_istore_n C (L' := [(3, .int (mz_rd s0 34 a0)), (2, .int (mz_rd s0 33 a0)), (0, .ref (E.2.1 5)), (1, .int a0)]) md_Stands_givesNumber_19 rfl (Nat.le_of_ble_eq_true rfl) rfl ?_
  refine mr_aload_n C 2 md_Stands_givesNumber_20 rfl rfl ?_
  refine mr_iload_n C 1 md_Stands_givesNumber_21 rfl rfl ?_
  refine mr_cVi C (As := [.int (mz_rd s0 33 a0)]) (rest := []) 5 (ms_Stands_isNumber _ E hI _ (mz_rd s0 33 a0) _ h) mo_Stands_isNumber mi_Stands_isNumber mc_Stands_cls ml_742 (by decide) (fun _ => rfl) rfl rfl (Nat.le_of_ble_eq_true rfl) (Nat.le_of_ble_eq_true rfl) (Nat.le_of_ble_eq_true rfl) md_Stands_givesNumber_22 (fun r1 u1 h => ?_)
  refine mr_if_eq C md_Stands_givesNumber_25 rfl (fun hc => ?_) (fun hc => ?_)
  · replace h := h.1 hc
    refine mr_iconst C md_Stands_givesNumber_67 mk_iconst_0 ?_
    exact mr_zret C R mb_0 h md_Stands_givesNumber_68
  replace h := h.2 hc
  refine mr_aload_n C 2 md_Stands_givesNumber_28 rfl rfl ?_
  refine mr_iload_n C 0 md_Stands_givesNumber_29 rfl rfl ?_
  refine mr_cVi C (As := [.int (mz_rd s0 34 a0)]) (rest := []) 5 (ms_Stands_isNumber _ E hI _ (mz_rd s0 34 a0) _ h) mo_Stands_isNumber mi_Stands_isNumber mc_Stands_cls ml_742 (by decide) (fun _ => rfl) rfl rfl (Nat.le_of_ble_eq_true rfl) (Nat.le_of_ble_eq_true rfl) (Nat.le_of_ble_eq_true rfl) md_Stands_givesNumber_30 (fun r2 u2 h => ?_)
  refine mr_if_eq C md_Stands_givesNumber_33 rfl (fun hc => ?_) (fun hc => ?_)
  · replace h := h.1 hc
    refine mr_iconst C md_Stands_givesNumber_67 mk_iconst_0 ?_
    exact mr_zret C R mb_0 h md_Stands_givesNumber_68
  replace h := h.2 hc
  refine mr_aload_n C 2 md_Stands_givesNumber_36 rfl rfl ?_
  refine mr_get C 5 0 mc_Stands_cls ml_220 rfl (by decide) (by decide) (fun _ => rfl) rfl md_Stands_givesNumber_37 ?_
  refine mr_getN C 1 0 mc_Program_cls ml_31 rfl (by decide) (by decide) (fun _ => rfl) rfl md_Stands_givesNumber_40 ?_
  refine mr_iload_n C 3 md_Stands_givesNumber_43 rfl rfl ?_
  refine mr_iald C 12 120 (by decide) (fun _ => rfl) h.1 md_Stands_givesNumber_44 ?_
  replace h := h.2
  refine mr_aload_n C 2 md_Stands_givesNumber_45 rfl rfl ?_
  refine mr_get C 5 5 mc_Stands_cls ml_225 rfl (by decide) (by decide) (fun _ => rfl) rfl md_Stands_givesNumber_46 ?_
  refine mr_iload_n C 1 md_Stands_givesNumber_49 rfl rfl ?_
  refine mr_iald C 38 221 (by decide) (fun _ => rfl) h.1 md_Stands_givesNumber_50 ?_
  replace h := h.2
  refine mr_aload_n C 2 md_Stands_givesNumber_51 rfl rfl ?_
  refine mr_get C 5 5 mc_Stands_cls ml_225 rfl (by decide) (by decide) (fun _ => rfl) rfl md_Stands_givesNumber_52 ?_
  refine mr_iload_n C 0 md_Stands_givesNumber_55 rfl rfl ?_
  refine mr_iald C 38 221 (by decide) (fun _ => rfl) h.1 md_Stands_givesNumber_56 ?_
  replace h := h.2
  refine mr_cSNi C (As := [.int (mz_rd u2 12 a0), .int (mz_rd u2 38 (mz_rd s0 33 a0)), .int (mz_rd u2 38 (mz_rd s0 34 a0))]) (rest := []) (ms_Mill_failsToDivide _ E hI _ (mz_rd u2 12 a0) (mz_rd u2 38 (mz_rd s0 33 a0)) (mz_rd u2 38 (mz_rd s0 34 a0)) _ h) mo_Mill_failsToDivide mt_Mill_failsToDivide ml_746 rfl rfl (Nat.le_of_ble_eq_true rfl) (Nat.le_of_ble_eq_true rfl) (Nat.le_of_ble_eq_true rfl) md_Stands_givesNumber_57 (fun r3 u3 h => ?_)
  refine mr_if_ne C md_Stands_givesNumber_60 rfl (fun hc => ?_) (fun hc => ?_)
  · replace h := h.1 hc
    refine mr_iconst C md_Stands_givesNumber_67 mk_iconst_0 ?_
    exact mr_zret C R mb_0 h md_Stands_givesNumber_68
  replace h := h.2 hc
  refine mr_iconst C md_Stands_givesNumber_63 mk_iconst_1 ?_
  refine mr_goto C md_Stands_givesNumber_64 rfl ?_
  exact mr_zret C R mb_1 h md_Stands_givesNumber_68
def mw_Stands_guessOperation_112 (K : mz_St → Prop) (a0 : Int32) (r1 : Int32) (s112 : mz_St) : Prop :=
  mw_Program_makesValue (fun r2 u2 =>
   ((r2 = 0 →
    K u2) ∧
   (¬ r2 = 0 →
    mw_Stands_letBe (fun u3 =>
     K u3) r1 u2))) a0 s112
/-- ValueMill$Stands.guessOperation(I)V: what it does, as a transformer of what must hold behind it -/
def mw_Stands_guessOperation (K : mz_St → Prop) (a0 : Int32) (s0 : mz_St) : Prop :=
  vp_in a0 120 ∧
  mw_Mill_madeName (fun r1 u1 =>
   ((¬ (mz_rd s0 12 a0) = 0 →
    ((¬ (mz_rd s0 12 a0) = 1 →
     (∀ P112 : mz_St → Prop, (∀ (s112 : mz_St), mw_Stands_guessOperation_112 K a0 r1 s112 → P112 s112) →
     ((16 ≤ (mz_rd s0 12 a0) →
      P112 u1) ∧
     (¬ 16 ≤ (mz_rd s0 12 a0) →
      mw_Stands_givesNumber (fun r3 u4 =>
       ((r3 = 0 →
        P112 u4) ∧
       (¬ r3 = 0 →
        vp_in a0 120 ∧
        vp_in (mz_rd u4 33 a0) 221 ∧
        vp_in a0 120 ∧
        vp_in (mz_rd u4 34 a0) 221 ∧
        mw_Mill_reckon (fun r4 u5 =>
         mw_Stands_letBeNumber (fun u6 =>
          K u6) r1 r4 u5) (mz_rd s0 12 a0) (mz_rd u4 38 (mz_rd u4 33 a0)) (mz_rd u4 38 (mz_rd u4 34 a0)) u4))) a0 u1)))) ∧
    ((mz_rd s0 12 a0) = 1 →
     vp_in a0 120 ∧
     mw_Stands_standLike (fun u7 =>
      K u7) r1 (mz_rd u1 33 a0) u1))) ∧
   ((mz_rd s0 12 a0) = 0 →
    vp_in a0 120 ∧
    mw_Stands_letBeNumber (fun u8 =>
     K u8) r1 (mz_rd u1 14 a0) u1))) a0 s0
set_option maxRecDepth 100000 in
set_option maxHeartbeats 4000000 in
theorem ms_Stands_guessOperation (l : Launch) (E : mz_En) (hI : mz_Inj E) (K : mz_St → Prop) (a0 : Int32) (s0 : mz_St) (h : mw_Stands_guessOperation K a0 s0) : mz_Cv l E my_Stands_guessOperation mb_Stands_guessOperation 4 (2) (45) [.ref (E.2.1 5), .int a0] s0 K := by
  refine mz_ctv hI (by decide +kernel) (Nat.le_of_ble_eq_true rfl) (fun X C R => ?_)
  show mz_G E X 4 0 [(0, .ref (E.2.1 5)), (1, .int a0)] [] s0
  unfold mw_Stands_guessOperation at h
  refine mr_aload_n C 0 md_Stands_guessOperation_0 rfl rfl ?_
  refine mr_get C 5 0 mc_Stands_cls ml_220 rfl (by decide) (by decide) (fun _ => rfl) rfl md_Stands_guessOperation_1 ?_
  refine mr_getN C 1 0 mc_Program_cls ml_31 rfl (by decide) (by decide) (fun _ => rfl) rfl md_Stands_guessOperation_4 ?_
  refine mr_iload_n C 1 md_Stands_guessOperation_7 rfl rfl ?_
  refine mr_iald C 12 120 (by decide) (fun _ => rfl) h.1 md_Stands_guessOperation_8 ?_
  replace h := h.2
  refine mr_istore_n C (L' := [(2, .int (mz_rd s0 12 a0)), (0, .ref (E.2.1 5)), (1, .int a0)]) md_Stands_guessOperation_9 rfl (Nat.le_of_ble_eq_true rfl) rfl ?_
  refine mr_iload_n C 2 md_Stands_guessOperation_10 rfl rfl ?_
  refine mr_cSNi C (As := [.int a0]) (rest := []) (ms_Mill_madeName _ E hI _ a0 _ h) mo_Mill_madeName mt_Mill_madeName ml_737 rfl rfl (Nat.le_of_ble_eq_true rfl) (Nat.le_of_ble_eq_true rfl) (Nat.le_of_ble_eq_true rfl) md_Stands_guessOperation_11 (fun r1 u1 h => ?_)
  refine mr_istore_n C (L' := [(3, .int r1), (2, .int (mz_rd s0 12 a0)), (0, .ref (E.2.1 5)), (1, .int a0)]) md_Stands_guessOperation_14 rfl (Nat.le_of_ble_eq_true rfl) rfl ?_
  refine mr_iload_n C 1 md_Stands_guessOperation_15 rfl rfl ?_
  refine mr_if_ne C md_Stands_guessOperation_16 rfl (fun hc => ?_) (fun hc => ?_)
  · replace h := h.1 hc
    refine mr_iload_n C 1 md_Stands_guessOperation_36 rfl rfl ?_
    refine mr_iconst C md_Stands_guessOperation_37 mk_iconst_1 ?_
    refine mr_icmp_ne C md_Stands_guessOperation_38 rfl (fun hc => ?_) (fun hc => ?_)
    · replace h := h.1 hc
      refine mr_iload_n C 1 md_Stands_guessOperation_58 rfl rfl ?_
      refine mr_bipush C md_Stands_guessOperation_59 mk_bipush_16 ?_
      refine mj (h (fun (s112 : mz_St) => mz_G E X 4 112 [(0, .ref (E.2.1 5)), (1, .int a0), (3, .int r1)] [] s112) (fun s112 h => ?_)) (fun h => ?_)
      · unfold mw_Stands_guessOperation_112 at h
        refine mr_aload_n C 0 md_Stands_guessOperation_112 rfl rfl ?_
        refine mr_get C 5 0 mc_Stands_cls ml_220 rfl (by decide) (by decide) (fun _ => rfl) rfl md_Stands_guessOperation_113 ?_
        refine mr_iload_n C 1 md_Stands_guessOperation_116 rfl rfl ?_
        refine mr_cVNi C (As := [.int a0]) (rest := []) 1 (ms_Program_makesValue _ E hI _ a0 _ h) mo_Program_makesValue mi_Program_makesValue mc_Program_cls ml_753 (by decide) (fun _ => rfl) rfl rfl (Nat.le_of_ble_eq_true rfl) (Nat.le_of_ble_eq_true rfl) (Nat.le_of_ble_eq_true rfl) md_Stands_guessOperation_117 (fun r2 u2 h => ?_)
        refine mr_if_eq C md_Stands_guessOperation_120 rfl (fun hc => ?_) (fun hc => ?_)
        · replace h := h.1 hc
          exact mr_vret C R h md_Stands_guessOperation_128
        replace h := h.2 hc
        refine mr_aload_n C 0 md_Stands_guessOperation_123 rfl rfl ?_
        refine mr_iload_n C 2 md_Stands_guessOperation_124 rfl rfl ?_
        refine mr_cVv C (As := [.int r1]) (rest := []) 5 (ms_Stands_letBe _ E hI _ r1 _ h) mo_Stands_letBe mi_Stands_letBe mc_Stands_cls ml_690 (by decide) (fun _ => rfl) rfl rfl (Nat.le_of_ble_eq_true rfl) (Nat.le_of_ble_eq_true rfl) (Nat.le_of_ble_eq_true rfl) md_Stands_guessOperation_125 (fun u3 h => ?_)
        exact mr_vret C R h md_Stands_guessOperation_128
      refine mr_icmp_ge C md_Stands_guessOperation_61 rfl (fun hc => ?_) (fun hc => ?_)
      · replace h := h.1 hc
        refine mr_sub [2, 3, 0] rfl ?_
        exact h
      replace h := h.2 hc
      refine mr_aload_n C 2 md_Stands_guessOperation_64 rfl rfl ?_
      refine mr_iload_n C 3 md_Stands_guessOperation_65 rfl rfl ?_
      refine mr_cVi C (As := [.int a0]) (rest := []) 5 (ms_Stands_givesNumber _ E hI _ a0 _ h) mo_Stands_givesNumber mi_Stands_givesNumber mc_Stands_cls ml_738 (by decide) (fun _ => rfl) rfl rfl (Nat.le_of_ble_eq_true rfl) (Nat.le_of_ble_eq_true rfl) (Nat.le_of_ble_eq_true rfl) md_Stands_guessOperation_66 (fun r3 u4 h => ?_)
      refine mr_if_eq C md_Stands_guessOperation_69 rfl (fun hc => ?_) (fun hc => ?_)
      · replace h := h.1 hc
        refine mr_sub [2, 3, 0] rfl ?_
        exact h
      replace h := h.2 hc
      refine mr_aload_n C 2 md_Stands_guessOperation_72 rfl rfl ?_
      refine mr_iload_n C 0 md_Stands_guessOperation_73 rfl rfl ?_
      refine mr_iload_n C 1 md_Stands_guessOperation_74 rfl rfl ?_
      refine mr_aload_n C 2 md_Stands_guessOperation_75 rfl rfl ?_
      refine mr_get C 5 5 mc_Stands_cls ml_225 rfl (by decide) (by decide) (fun _ => rfl) rfl md_Stands_guessOperation_76 ?_
      refine mr_aload_n C 2 md_Stands_guessOperation_79 rfl rfl ?_
      refine mr_get C 5 3 mc_Stands_cls ml_223 rfl (by decide) (by decide) (fun _ => rfl) rfl md_Stands_guessOperation_80 ?_
      refine mr_getN C 4 3 mc_Names_cls ml_190 rfl (by decide) (by decide) (fun _ => rfl) rfl md_Stands_guessOperation_83 ?_
      refine mr_iload_n C 3 md_Stands_guessOperation_86 rfl rfl ?_
      refine mr_iald C 33 120 (by decide) (fun _ => rfl) h.1 md_Stands_guessOperation_87 ?_
      replace h := h.2
      refine mr_iald C 38 221 (by decide) (fun _ => rfl) h.1 md_Stands_guessOperation_88 ?_
      replace h := h.2
      refine mr_aload_n C 2 md_Stands_guessOperation_89 rfl rfl ?_
      refine mr_get C 5 5 mc_Stands_cls ml_225 rfl (by decide) (by decide) (fun _ => rfl) rfl md_Stands_guessOperation_90 ?_
      refine mr_aload_n C 2 md_Stands_guessOperation_93 rfl rfl ?_
      refine mr_get C 5 3 mc_Stands_cls ml_223 rfl (by decide) (by decide) (fun _ => rfl) rfl md_Stands_guessOperation_94 ?_
      refine mr_getN C 4 4 mc_Names_cls ml_194 rfl (by decide) (by decide) (fun _ => rfl) rfl md_Stands_guessOperation_97 ?_
      refine mr_iload_n C 3 md_Stands_guessOperation_100 rfl rfl ?_
      refine mr_iald C 34 120 (by decide) (fun _ => rfl) h.1 md_Stands_guessOperation_101 ?_
      replace h := h.2
      refine mr_iald C 38 221 (by decide) (fun _ => rfl) h.1 md_Stands_guessOperation_102 ?_
      replace h := h.2
      refine mr_cSNi C (As := [.int (mz_rd s0 12 a0), .int (mz_rd u4 38 (mz_rd u4 33 a0)), .int (mz_rd u4 38 (mz_rd u4 34 a0))]) (rest := [.int r1, .ref (E.2.1 5)]) (ms_Mill_reckon _ E hI _ (mz_rd s0 12 a0) (mz_rd u4 38 (mz_rd u4 33 a0)) (mz_rd u4 38 (mz_rd u4 34 a0)) _ h) mo_Mill_reckon mt_Mill_reckon ml_750 rfl rfl (Nat.le_of_ble_eq_true rfl) (Nat.le_of_ble_eq_true rfl) (Nat.le_of_ble_eq_true rfl) md_Stands_guessOperation_103 (fun r4 u5 h => ?_)
      refine mr_cVv C (As := [.int r1, .int r4]) (rest := []) 5 (ms_Stands_letBeNumber _ E hI _ r1 r4 _ h) mo_Stands_letBeNumber mi_Stands_letBeNumber mc_Stands_cls ml_703 (by decide) (fun _ => rfl) rfl rfl (Nat.le_of_ble_eq_true rfl) (Nat.le_of_ble_eq_true rfl) (Nat.le_of_ble_eq_true rfl) md_Stands_guessOperation_106 (fun u6 h => ?_)
      refine mr_goto C md_Stands_guessOperation_109 rfl ?_
      exact mr_vret C R h md_Stands_guessOperation_128
    replace h := h.2 hc
    refine mr_aload_n C 2 md_Stands_guessOperation_41 rfl rfl ?_
    refine mr_iload_n C 0 md_Stands_guessOperation_42 rfl rfl ?_
    refine mr_aload_n C 2 md_Stands_guessOperation_43 rfl rfl ?_
    refine mr_get C 5 3 mc_Stands_cls ml_223 rfl (by decide) (by decide) (fun _ => rfl) rfl md_Stands_guessOperation_44 ?_
    refine mr_getN C 4 3 mc_Names_cls ml_190 rfl (by decide) (by decide) (fun _ => rfl) rfl md_Stands_guessOperation_47 ?_
    refine mr_iload_n C 3 md_Stands_guessOperation_50 rfl rfl ?_
    refine mr_iald C 33 120 (by decide) (fun _ => rfl) h.1 md_Stands_guessOperation_51 ?_
    replace h := h.2
    refine mr_cVv C (As := [.int r1, .int (mz_rd u1 33 a0)]) (rest := []) 5 (ms_Stands_standLike _ E hI _ r1 (mz_rd u1 33 a0) _ h) mo_Stands_standLike mi_Stands_standLike mc_Stands_cls ml_729 (by decide) (fun _ => rfl) rfl rfl (Nat.le_of_ble_eq_true rfl) (Nat.le_of_ble_eq_true rfl) (Nat.le_of_ble_eq_true rfl) md_Stands_guessOperation_52 (fun u7 h => ?_)
    refine mr_goto C md_Stands_guessOperation_55 rfl ?_
    exact mr_vret C R h md_Stands_guessOperation_128
  replace h := h.2 hc
  refine mr_aload_n C 2 md_Stands_guessOperation_19 rfl rfl ?_
  refine mr_iload_n C 0 md_Stands_guessOperation_20 rfl rfl ?_
  refine mr_aload_n C 2 md_Stands_guessOperation_21 rfl rfl ?_
  refine mr_get C 5 0 mc_Stands_cls ml_220 rfl (by decide) (by decide) (fun _ => rfl) rfl md_Stands_guessOperation_22 ?_
  refine mr_getN C 1 2 mc_Program_cls ml_39 rfl (by decide) (by decide) (fun _ => rfl) rfl md_Stands_guessOperation_25 ?_
  refine mr_iload_n C 3 md_Stands_guessOperation_28 rfl rfl ?_
  refine mr_iald C 14 120 (by decide) (fun _ => rfl) h.1 md_Stands_guessOperation_29 ?_
  replace h := h.2
  refine mr_cVv C (As := [.int r1, .int (mz_rd u1 14 a0)]) (rest := []) 5 (ms_Stands_letBeNumber _ E hI _ r1 (mz_rd u1 14 a0) _ h) mo_Stands_letBeNumber mi_Stands_letBeNumber mc_Stands_cls ml_703 (by decide) (fun _ => rfl) rfl rfl (Nat.le_of_ble_eq_true rfl) (Nat.le_of_ble_eq_true rfl) (Nat.le_of_ble_eq_true rfl) md_Stands_guessOperation_30 (fun u8 h => ?_)
  refine mr_goto C md_Stands_guessOperation_33 rfl ?_
  exact mr_vret C R h md_Stands_guessOperation_128
def mw_Stands_guess_78 (P16 : Int32 → mz_St → Prop) (x1_16 : Int32) (s16 : mz_St) (P78 : Int32 → mz_St → Prop) (x3_78 : Int32) (s78 : mz_St) : Prop :=
  vp_in (mz_rd s16 24 x1_16) 10 ∧
  (((((mz_rd s16 24 x1_16) * 12) + (mz_rd s78 16 (mz_rd s16 24 x1_16))) ≤ x3_78 →
   P16 (x1_16 + 1) s78) ∧
  (¬ (((mz_rd s16 24 x1_16) * 12) + (mz_rd s78 16 (mz_rd s16 24 x1_16))) ≤ x3_78 →
   mw_Stands_guessOperation (fun u2 =>
    P78 (x3_78 + 1) u2) x3_78 s78))
def mw_Stands_guess_67 (P39 : Int32 → mz_St → Prop) (x3_39 : Int32) (s67 : mz_St) : Prop :=
  P39 (x3_39 + 1) s67
def mw_Stands_guess_39 (P16 : Int32 → mz_St → Prop) (x1_16 : Int32) (s16 : mz_St) (P39 : Int32 → mz_St → Prop) (x3_39 : Int32) (s39 : mz_St) : Prop :=
  ((10 ≤ x3_39 →
   (∀ P78 : Int32 → mz_St → Prop, (∀ (x3_78 : Int32) (s78 : mz_St), mw_Stands_guess_78 P16 x1_16 s16 P78 x3_78 s78 → P78 x3_78 s78) →
   P78 ((mz_rd s16 24 x1_16) * 12) s39)) ∧
  (¬ 10 ≤ x3_39 →
   vp_in (mz_rd s16 24 x1_16) 10 ∧
   mw_Mill_isIn (fun r1 u3 =>
    (∀ P67 : mz_St → Prop, (∀ (s67 : mz_St), mw_Stands_guess_67 P39 x3_39 s67 → P67 s67) →
    ((r1 = 0 →
     P67 u3) ∧
    (¬ r1 = 0 →
     mw_Stands_guessPhi (fun u4 =>
      P67 u4) (mz_rd s16 24 x1_16) x3_39 u3)))) (mz_rd s39 32 (mz_rd s16 24 x1_16)) x3_39 s39))
def mw_Stands_guess_16 (K : mz_St → Prop) (P16 : Int32 → mz_St → Prop) (x1_16 : Int32) (s16 : mz_St) : Prop :=
  (((s16 1006 0) ≤ x1_16 →
   K s16) ∧
  (¬ (s16 1006 0) ≤ x1_16 →
   vp_in x1_16 10 ∧
   (∀ P39 : Int32 → mz_St → Prop, (∀ (x3_39 : Int32) (s39 : mz_St), mw_Stands_guess_39 P16 x1_16 s16 P39 x3_39 s39 → P39 x3_39 s39) →
   P39 0 s16)))
/-- ValueMill$Stands.guess()V: what it does, as a transformer of what must hold behind it -/
def mw_Stands_guess (K : mz_St → Prop) (s0 : mz_St) : Prop :=
  mw_Stands_letBeNumber (fun u1 =>
   (∀ P16 : Int32 → mz_St → Prop, (∀ (x1_16 : Int32) (s16 : mz_St), mw_Stands_guess_16 K P16 x1_16 s16 → P16 x1_16 s16) →
   P16 0 u1)) 0 0 (mz_fl s0 37 221 0)
set_option maxRecDepth 100000 in
set_option maxHeartbeats 4000000 in
theorem ms_Stands_guess (l : Launch) (E : mz_En) (hI : mz_Inj E) (K : mz_St → Prop) (s0 : mz_St) (h : mw_Stands_guess K s0) : mz_Cv l E my_Stands_guess mb_Stands_guess 4 (3) (69) [.ref (E.2.1 5)] s0 K := by
  refine mz_ctv hI (by decide +kernel) (Nat.le_of_ble_eq_true rfl) (fun X C R => ?_)
  show mz_G E X 4 0 [(0, .ref (E.2.1 5))] [] s0
  unfold mw_Stands_guess at h
  refine mr_aload_n C 0 md_Stands_guess_0 rfl rfl ?_
  refine mr_get C 5 4 mc_Stands_cls ml_224 rfl (by decide) (by decide) (fun _ => rfl) rfl md_Stands_guess_1 ?_
  refine mr_iconst C md_Stands_guess_4 mk_iconst_0 ?_
  refine mr_fill C 37 221 (by decide) (by decide) (by decide) (fun _ _ => rfl) (Nat.le_of_ble_eq_true rfl) (Nat.le_of_ble_eq_true rfl) ml_698 md_Stands_guess_5 ?_
  refine mr_aload_n C 0 md_Stands_guess_8 rfl rfl ?_
  refine mr_iconst C md_Stands_guess_9 mk_iconst_0 ?_
  refine mr_iconst C md_Stands_guess_10 mk_iconst_0 ?_
  refine mr_cVv C (As := [.int 0, .int 0]) (rest := []) 5 (ms_Stands_letBeNumber _ E hI _ 0 0 _ h) mo_Stands_letBeNumber mi_Stands_letBeNumber mc_Stands_cls ml_703 (by decide) (fun _ => rfl) rfl rfl (Nat.le_of_ble_eq_true rfl) (Nat.le_of_ble_eq_true rfl) (Nat.le_of_ble_eq_true rfl) md_Stands_guess_11 (fun u1 h => ?_)
  refine mr_iconst C md_Stands_guess_14 mk_iconst_0 ?_
  refine mr_istore_n C (L' := [(1, .int 0), (0, .ref (E.2.1 5))]) md_Stands_guess_15 rfl (Nat.le_of_ble_eq_true rfl) rfl ?_
  refine mr_sub [1, 0] rfl ?_
  refine h (fun (x1_16 : Int32) (s16 : mz_St) => mz_G E X 4 16 [(0, .ref (E.2.1 5)), (1, .int x1_16)] [] s16) (fun x1_16 s16 h => ?_)
  unfold mw_Stands_guess_16 at h
  refine mr_iload_n C 1 md_Stands_guess_16 rfl rfl ?_
  refine mr_aload_n C 0 md_Stands_guess_17 rfl rfl ?_
  refine mr_get C 5 1 mc_Stands_cls ml_221 rfl (by decide) (by decide) (fun _ => rfl) rfl md_Stands_guess_18 ?_
  refine mr_getN C 2 10 mc_Flow_cls ml_123 rfl (by decide) (by decide) (fun _ => rfl) rfl md_Stands_guess_21 ?_
  refine mr_icmp_ge C md_Stands_guess_24 rfl (fun hc => ?_) (fun hc => ?_)
  · replace h := h.1 hc
    exact mr_vret C R h md_Stands_guess_113
  replace h := h.2 hc
  refine mr_aload_n C 0 md_Stands_guess_27 rfl rfl ?_
  refine mr_get C 5 1 mc_Stands_cls ml_221 rfl (by decide) (by decide) (fun _ => rfl) rfl md_Stands_guess_28 ?_
  refine mr_getN C 2 3 mc_Flow_cls ml_104 rfl (by decide) (by decide) (fun _ => rfl) rfl md_Stands_guess_31 ?_
  refine mr_iload_n C 1 md_Stands_guess_34 rfl rfl ?_
  refine mr_iald C 24 10 (by decide) (fun _ => rfl) h.1 md_Stands_guess_35 ?_
  replace h := h.2
  refine mr_istore_n C (L' := [(2, .int (mz_rd s16 24 x1_16)), (0, .ref (E.2.1 5)), (1, .int x1_16)]) md_Stands_guess_36 rfl (Nat.le_of_ble_eq_true rfl) rfl ?_
  refine mr_iconst C md_Stands_guess_37 mk_iconst_0 ?_
  refine mr_istore_n C (L' := [(3, .int 0), (2, .int (mz_rd s16 24 x1_16)), (0, .ref (E.2.1 5)), (1, .int x1_16)]) md_Stands_guess_38 rfl (Nat.le_of_ble_eq_true rfl) rfl ?_
  refine mr_sub [2, 3, 1, 0] rfl ?_
  refine h (fun (x3_39 : Int32) (s39 : mz_St) => mz_G E X 4 39 [(0, .ref (E.2.1 5)), (1, .int x1_16), (2, .int (mz_rd s16 24 x1_16)), (3, .int x3_39)] [] s39) (fun x3_39 s39 h => ?_)
  unfold mw_Stands_guess_39 at h
  refine mr_iload_n C 3 md_Stands_guess_39 rfl rfl ?_
  refine mr_bipush C md_Stands_guess_40 mk_bipush_10 ?_
  refine mr_icmp_ge C md_Stands_guess_42 rfl (fun hc => ?_) (fun hc => ?_)
  · replace h := h.1 hc
    refine mr_iload_n C 2 md_Stands_guess_73 rfl rfl ?_
    refine mr_bipush C md_Stands_guess_74 mk_bipush_12 ?_
    refine mr_imul C md_Stands_guess_76 ?_
    refine mr_istore_n C (L' := [(3, .int ((mz_rd s16 24 x1_16) * 12)), (0, .ref (E.2.1 5)), (1, .int x1_16), (2, .int (mz_rd s16 24 x1_16))]) md_Stands_guess_77 rfl (Nat.le_of_ble_eq_true rfl) rfl ?_
    refine mr_sub [1, 2, 3, 0] rfl ?_
    refine h (fun (x3_78 : Int32) (s78 : mz_St) => mz_G E X 4 78 [(0, .ref (E.2.1 5)), (1, .int x1_16), (2, .int (mz_rd s16 24 x1_16)), (3, .int x3_78)] [] s78) (fun x3_78 s78 h => ?_)
    unfold mw_Stands_guess_78 at h
    refine mr_iload_n C 3 md_Stands_guess_78 rfl rfl ?_
    refine mr_iload_n C 2 md_Stands_guess_79 rfl rfl ?_
    refine mr_bipush C md_Stands_guess_80 mk_bipush_12 ?_
    refine mr_imul C md_Stands_guess_82 ?_
    refine mr_aload_n C 0 md_Stands_guess_83 rfl rfl ?_
    refine mr_get C 5 0 mc_Stands_cls ml_220 rfl (by decide) (by decide) (fun _ => rfl) rfl md_Stands_guess_84 ?_
    refine mr_getN C 1 4 mc_Program_cls ml_49 rfl (by decide) (by decide) (fun _ => rfl) rfl md_Stands_guess_87 ?_
    refine mr_iload_n C 2 md_Stands_guess_90 rfl rfl ?_
    refine mr_iald C 16 10 (by decide) (fun _ => rfl) h.1 md_Stands_guess_91 ?_
    replace h := h.2
    refine mr_iadd C md_Stands_guess_92 ?_
    refine mr_icmp_ge C md_Stands_guess_93 rfl (fun hc => ?_) (fun hc => ?_)
    · replace h := h.1 hc
      refine mr_iinc C (L' := [(1, .int (x1_16 + 1)), (0, .ref (E.2.1 5)), (2, .int (mz_rd s16 24 x1_16)), (3, .int x3_78)]) 1 md_Stands_guess_107 rfl (mk_inc mk_iconst_1) (Nat.le_of_ble_eq_true rfl) rfl ?_
      refine mr_goto C md_Stands_guess_110 rfl ?_
      refine mr_sub [1, 0] rfl ?_
      exact h
    replace h := h.2 hc
    refine mr_aload_n C 0 md_Stands_guess_96 rfl rfl ?_
    refine mr_iload_n C 3 md_Stands_guess_97 rfl rfl ?_
    refine mr_cVv C (As := [.int x3_78]) (rest := []) 5 (ms_Stands_guessOperation _ E hI _ x3_78 _ h) mo_Stands_guessOperation mi_Stands_guessOperation mc_Stands_cls ml_733 (by decide) (fun _ => rfl) rfl rfl (Nat.le_of_ble_eq_true rfl) (Nat.le_of_ble_eq_true rfl) (Nat.le_of_ble_eq_true rfl) md_Stands_guess_98 (fun u2 h => ?_)
    refine mr_iinc C (L' := [(3, .int (x3_78 + 1)), (0, .ref (E.2.1 5)), (1, .int x1_16), (2, .int (mz_rd s16 24 x1_16))]) 3 md_Stands_guess_101 rfl (mk_inc mk_iconst_1) (Nat.le_of_ble_eq_true rfl) rfl ?_
    refine mr_goto C md_Stands_guess_104 rfl ?_
    refine mr_sub [1, 2, 3, 0] rfl ?_
    exact h
  replace h := h.2 hc
  refine mr_aload_n C 0 md_Stands_guess_45 rfl rfl ?_
  refine mr_get C 5 2 mc_Stands_cls ml_222 rfl (by decide) (by decide) (fun _ => rfl) rfl md_Stands_guess_46 ?_
  refine mr_getN C 3 5 mc_Lives_cls ml_163 rfl (by decide) (by decide) (fun _ => rfl) rfl md_Stands_guess_49 ?_
  refine mr_iload_n C 2 md_Stands_guess_52 rfl rfl ?_
  refine mr_iald C 32 10 (by decide) (fun _ => rfl) h.1 md_Stands_guess_53 ?_
  replace h := h.2
  refine mr_iload_n C 3 md_Stands_guess_54 rfl rfl ?_
  refine mr_cSNi C (As := [.int (mz_rd s39 32 (mz_rd s16 24 x1_16)), .int x3_39]) (rest := []) (ms_Mill_isIn _ E hI _ (mz_rd s39 32 (mz_rd s16 24 x1_16)) x3_39 _ h) mo_Mill_isIn mt_Mill_isIn ml_707 rfl rfl (Nat.le_of_ble_eq_true rfl) (Nat.le_of_ble_eq_true rfl) (Nat.le_of_ble_eq_true rfl) md_Stands_guess_55 (fun r1 u3 h => ?_)
  refine mj (h (fun (s67 : mz_St) => mz_G E X 4 67 [(0, .ref (E.2.1 5)), (1, .int x1_16), (2, .int (mz_rd s16 24 x1_16)), (3, .int x3_39)] [] s67) (fun s67 h => ?_)) (fun h => ?_)
  · unfold mw_Stands_guess_67 at h
    refine mr_iinc C (L' := [(3, .int (x3_39 + 1)), (0, .ref (E.2.1 5)), (1, .int x1_16), (2, .int (mz_rd s16 24 x1_16))]) 3 md_Stands_guess_67 rfl (mk_inc mk_iconst_1) (Nat.le_of_ble_eq_true rfl) rfl ?_
    refine mr_goto C md_Stands_guess_70 rfl ?_
    refine mr_sub [1, 2, 3, 0] rfl ?_
    exact h
  refine mr_if_eq C md_Stands_guess_58 rfl (fun hc => ?_) (fun hc => ?_)
  · replace h := h.1 hc
    exact h
  replace h := h.2 hc
  refine mr_aload_n C 0 md_Stands_guess_61 rfl rfl ?_
  refine mr_iload_n C 2 md_Stands_guess_62 rfl rfl ?_
  refine mr_iload_n C 3 md_Stands_guess_63 rfl rfl ?_
  refine mr_cVv C (As := [.int (mz_rd s16 24 x1_16), .int x3_39]) (rest := []) 5 (ms_Stands_guessPhi _ E hI _ (mz_rd s16 24 x1_16) x3_39 _ h) mo_Stands_guessPhi mi_Stands_guessPhi mc_Stands_cls ml_708 (by decide) (fun _ => rfl) rfl rfl (Nat.le_of_ble_eq_true rfl) (Nat.le_of_ble_eq_true rfl) (Nat.le_of_ble_eq_true rfl) md_Stands_guess_64 (fun u4 h => ?_)
  exact h
def mw_Stands_findWrongGuesses_96 (P28 : Int32 → Int32 → mz_St → Prop) (x4_28 : Int32) (x1_96 : Int32) (s96 : mz_St) : Prop :=
  P28 x1_96 (x4_28 + 1) s96
def mw_Stands_findWrongGuesses_28 (P4 : Int32 → Int32 → mz_St → Prop) (x2_4 : Int32) (s4 : mz_St) (P28 : Int32 → Int32 → mz_St → Prop) (x1_28 : Int32) (x4_28 : Int32) (s28 : mz_St) : Prop :=
  ((10 ≤ x4_28 →
   P4 x1_28 (x2_4 + 1) s28) ∧
  (¬ 10 ≤ x4_28 →
   vp_in (mz_rd s4 24 x2_4) 10 ∧
   vp_in (mz_rd s4 24 x2_4) 10 ∧
   mw_Mill_isIn (fun r1 u1 =>
    (∀ P96 : Int32 → mz_St → Prop, (∀ (x1_96 : Int32) (s96 : mz_St), mw_Stands_findWrongGuesses_96 P28 x4_28 x1_96 s96 → P96 x1_96 s96) →
    ((r1 = 0 →
     P96 x1_28 u1) ∧
    (¬ r1 = 0 →
     mw_Mill_phiName (fun r2 u2 =>
      mw_Stands_takesOtherThan (fun r3 u3 =>
       ((r3 = 0 →
        P96 x1_28 u3) ∧
       (¬ r3 = 0 →
        vp_in (mz_rd s4 24 x2_4) 10 ∧
        vp_in (mz_rd s4 24 x2_4) 10 ∧
        P96 1 (mz_wr u3 39 (mz_rd s4 24 x2_4) ((mz_rd u3 39 (mz_rd s4 24 x2_4)) ||| ((1 : Int32) <<< (x4_28 &&& 31))))))) r2 (mz_rd s4 24 x2_4) x4_28 u2) (mz_rd s4 24 x2_4) x4_28 u1)))) ((mz_rd s28 32 (mz_rd s4 24 x2_4)) &&& ((mz_rd s28 39 (mz_rd s4 24 x2_4)) ^^^ (-1))) x4_28 s28))
def mw_Stands_findWrongGuesses_4 (K : Int32 → mz_St → Prop) (P4 : Int32 → Int32 → mz_St → Prop) (x1_4 : Int32) (x2_4 : Int32) (s4 : mz_St) : Prop :=
  (((s4 1006 0) ≤ x2_4 →
   (x1_4 = 0 ∨ x1_4 = 1) ∧ K x1_4 s4) ∧
  (¬ (s4 1006 0) ≤ x2_4 →
   vp_in x2_4 10 ∧
   (∀ P28 : Int32 → Int32 → mz_St → Prop, (∀ (x1_28 : Int32) (x4_28 : Int32) (s28 : mz_St), mw_Stands_findWrongGuesses_28 P4 x2_4 s4 P28 x1_28 x4_28 s28 → P28 x1_28 x4_28 s28) →
   P28 x1_4 0 s4)))
/-- ValueMill$Stands.findWrongGuesses()Z: what it does, as a transformer of what must hold behind it -/
def mw_Stands_findWrongGuesses (K : Int32 → mz_St → Prop) (s0 : mz_St) : Prop :=
  (∀ P4 : Int32 → Int32 → mz_St → Prop, (∀ (x1_4 : Int32) (x2_4 : Int32) (s4 : mz_St), mw_Stands_findWrongGuesses_4 K P4 x1_4 x2_4 s4 → P4 x1_4 x2_4 s4) →
  P4 0 0 s0)
set_option maxRecDepth 100000 in
set_option maxHeartbeats 4000000 in
theorem ms_Stands_findWrongGuesses (l : Launch) (E : mz_En) (hI : mz_Inj E) (K : Int32 → mz_St → Prop) (s0 : mz_St) (h : mw_Stands_findWrongGuesses K s0) : mz_Ci l E my_Stands_findWrongGuesses mb_Stands_findWrongGuesses 6 (some .boolean) (2) (46) [.ref (E.2.1 5)] s0 K := by
  refine mz_cti hI (by decide +kernel) (Nat.le_of_ble_eq_true rfl) (fun X C R => ?_)
  show mz_G E X 6 0 [(0, .ref (E.2.1 5))] [] s0
  unfold mw_Stands_findWrongGuesses at h
  refine mr_iconst C md_Stands_findWrongGuesses_0 mk_iconst_0 ?_
  refine mr_istore_n C (L' := [(1, .int 0), (0, .ref (E.2.1 5))]) md_Stands_findWrongGuesses_1 rfl (Nat.le_of_ble_eq_true rfl) rfl ?_
  refine mr_iconst C md_Stands_findWrongGuesses_2 mk_iconst_0 ?_
  refine mr_istore_n C (L' := [(2, .int 0), (1, .int 0), (0, .ref (E.2.1 5))]) md_Stands_findWrongGuesses_3 rfl (Nat.le_of_ble_eq_true rfl) rfl ?_
  refine mr_sub [2, 1, 0] rfl ?_
  refine h (fun (x1_4 : Int32) (x2_4 : Int32) (s4 : mz_St) => mz_G E X 6 4 [(0, .ref (E.2.1 5)), (1, .int x1_4), (2, .int x2_4)] [] s4) (fun x1_4 x2_4 s4 h => ?_)
  unfold mw_Stands_findWrongGuesses_4 at h
  refine mr_iload_n C 2 md_Stands_findWrongGuesses_4 rfl rfl ?_
  refine mr_aload_n C 0 md_Stands_findWrongGuesses_5 rfl rfl ?_
  refine mr_get C 5 1 mc_Stands_cls ml_221 rfl (by decide) (by decide) (fun _ => rfl) rfl md_Stands_findWrongGuesses_6 ?_
  refine mr_getN C 2 10 mc_Flow_cls ml_123 rfl (by decide) (by decide) (fun _ => rfl) rfl md_Stands_findWrongGuesses_9 ?_
  refine mr_icmp_ge C md_Stands_findWrongGuesses_12 rfl (fun hc => ?_) (fun hc => ?_)
  · replace h := h.1 hc
    refine mr_iload_n C 1 md_Stands_findWrongGuesses_108 rfl rfl ?_
    exact mr_zret C R h.1 h.2 md_Stands_findWrongGuesses_109
  replace h := h.2 hc
  refine mr_aload_n C 0 md_Stands_findWrongGuesses_15 rfl rfl ?_
  refine mr_get C 5 1 mc_Stands_cls ml_221 rfl (by decide) (by decide) (fun _ => rfl) rfl md_Stands_findWrongGuesses_16 ?_
  refine mr_getN C 2 3 mc_Flow_cls ml_104 rfl (by decide) (by decide) (fun _ => rfl) rfl md_Stands_findWrongGuesses_19 ?_
  refine mr_iload_n C 2 md_Stands_findWrongGuesses_22 rfl rfl ?_
  refine mr_iald C 24 10 (by decide) (fun _ => rfl) h.1 md_Stands_findWrongGuesses_23 ?_
  replace h := h.2
  refine mr_istore_n C (L' := [(3, .int (mz_rd s4 24 x2_4)), (0, .ref (E.2.1 5)), (1, .int x1_4), (2, .int x2_4)]) md_Stands_findWrongGuesses_24 rfl (Nat.le_of_ble_eq_true rfl) rfl ?_
  refine mr_iconst C md_Stands_findWrongGuesses_25 mk_iconst_0 ?_
  refine mr_istore C (L' := [(4, .int 0), (3, .int (mz_rd s4 24 x2_4)), (0, .ref (E.2.1 5)), (1, .int x1_4), (2, .int x2_4)]) md_Stands_findWrongGuesses_26 (Nat.le_of_ble_eq_true rfl) rfl ?_
  refine mr_sub [2, 3, 4, 1, 0] rfl ?_
  refine h (fun (x1_28 : Int32) (x4_28 : Int32) (s28 : mz_St) => mz_G E X 6 28 [(0, .ref (E.2.1 5)), (1, .int x1_28), (2, .int x2_4), (3, .int (mz_rd s4 24 x2_4)), (4, .int x4_28)] [] s28) (fun x1_28 x4_28 s28 h => ?_)
  unfold mw_Stands_findWrongGuesses_28 at h
  refine mr_iload C 4 md_Stands_findWrongGuesses_28 rfl ?_
  refine mr_bipush C md_Stands_findWrongGuesses_30 mk_bipush_10 ?_
  refine mr_icmp_ge C md_Stands_findWrongGuesses_32 rfl (fun hc => ?_) (fun hc => ?_)
  · replace h := h.1 hc
    refine mr_iinc C (L' := [(2, .int (x2_4 + 1)), (0, .ref (E.2.1 5)), (1, .int x1_28), (3, .int (mz_rd s4 24 x2_4)), (4, .int x4_28)]) 2 md_Stands_findWrongGuesses_102 rfl (mk_inc mk_iconst_1) (Nat.le_of_ble_eq_true rfl) rfl ?_
    refine mr_goto C md_Stands_findWrongGuesses_105 rfl ?_
    refine mr_sub [1, 2, 0] rfl ?_
    exact h
  replace h := h.2 hc
  refine mr_aload_n C 0 md_Stands_findWrongGuesses_35 rfl rfl ?_
  refine mr_get C 5 2 mc_Stands_cls ml_222 rfl (by decide) (by decide) (fun _ => rfl) rfl md_Stands_findWrongGuesses_36 ?_
  refine mr_getN C 3 5 mc_Lives_cls ml_163 rfl (by decide) (by decide) (fun _ => rfl) rfl md_Stands_findWrongGuesses_39 ?_
  refine mr_iload_n C 3 md_Stands_findWrongGuesses_42 rfl rfl ?_
  refine mr_iald C 32 10 (by decide) (fun _ => rfl) h.1 md_Stands_findWrongGuesses_43 ?_
  replace h := h.2
  refine mr_aload_n C 0 md_Stands_findWrongGuesses_44 rfl rfl ?_
  refine mr_get C 5 6 mc_Stands_cls ml_228 rfl (by decide) (by decide) (fun _ => rfl) rfl md_Stands_findWrongGuesses_45 ?_
  refine mr_iload_n C 3 md_Stands_findWrongGuesses_48 rfl rfl ?_
  refine mr_iald C 39 10 (by decide) (fun _ => rfl) h.1 md_Stands_findWrongGuesses_49 ?_
  replace h := h.2
  refine mr_iconst C md_Stands_findWrongGuesses_50 mk_iconst_m1 ?_
  refine mr_ixor C md_Stands_findWrongGuesses_51 ?_
  refine mr_iand C md_Stands_findWrongGuesses_52 ?_
  refine mr_iload C 4 md_Stands_findWrongGuesses_53 rfl ?_
  refine mr_cSNi C (As := [.int ((mz_rd s28 32 (mz_rd s4 24 x2_4)) &&& ((mz_rd s28 39 (mz_rd s4 24 x2_4)) ^^^ (-1))), .int x4_28]) (rest := []) (ms_Mill_isIn _ E hI _ ((mz_rd s28 32 (mz_rd s4 24 x2_4)) &&& ((mz_rd s28 39 (mz_rd s4 24 x2_4)) ^^^ (-1))) x4_28 _ h) mo_Mill_isIn mt_Mill_isIn ml_707 rfl rfl (Nat.le_of_ble_eq_true rfl) (Nat.le_of_ble_eq_true rfl) (Nat.le_of_ble_eq_true rfl) md_Stands_findWrongGuesses_55 (fun r1 u1 h => ?_)
  refine mr_istore C (L' := [(5, .int r1), (0, .ref (E.2.1 5)), (1, .int x1_28), (2, .int x2_4), (3, .int (mz_rd s4 24 x2_4)), (4, .int x4_28)]) md_Stands_findWrongGuesses_58 (Nat.le_of_ble_eq_true rfl) rfl ?_
  refine mr_iload C 0 md_Stands_findWrongGuesses_60 rfl ?_
  refine mj (h (fun (x1_96 : Int32) (s96 : mz_St) => mz_G E X 6 96 [(0, .ref (E.2.1 5)), (1, .int x1_96), (2, .int x2_4), (3, .int (mz_rd s4 24 x2_4)), (4, .int x4_28)] [] s96) (fun x1_96 s96 h => ?_)) (fun h => ?_)
  · unfold mw_Stands_findWrongGuesses_96 at h
    refine mr_iinc C (L' := [(4, .int (x4_28 + 1)), (0, .ref (E.2.1 5)), (1, .int x1_96), (2, .int x2_4), (3, .int (mz_rd s4 24 x2_4))]) 4 md_Stands_findWrongGuesses_96 rfl (mk_inc mk_iconst_1) (Nat.le_of_ble_eq_true rfl) rfl ?_
    refine mr_goto C md_Stands_findWrongGuesses_99 rfl ?_
    refine mr_sub [1, 2, 3, 4, 0] rfl ?_
    exact h
  refine mr_if_eq C md_Stands_findWrongGuesses_62 rfl (fun hc => ?_) (fun hc => ?_)
  · replace h := h.1 hc
    refine mr_sub [1, 2, 3, 4, 5] rfl ?_
    exact h
  replace h := h.2 hc
  refine mr_aload_n C 1 md_Stands_findWrongGuesses_65 rfl rfl ?_
  refine mr_iload_n C 4 md_Stands_findWrongGuesses_66 rfl rfl ?_
  refine mr_iload C 5 md_Stands_findWrongGuesses_67 rfl ?_
  refine mr_cSNi C (As := [.int (mz_rd s4 24 x2_4), .int x4_28]) (rest := [.ref (E.2.1 5)]) (ms_Mill_phiName _ E hI _ (mz_rd s4 24 x2_4) x4_28 _ h) mo_Mill_phiName mt_Mill_phiName ml_728 rfl rfl (Nat.le_of_ble_eq_true rfl) (Nat.le_of_ble_eq_true rfl) (Nat.le_of_ble_eq_true rfl) md_Stands_findWrongGuesses_69 (fun r2 u2 h => ?_)
  refine mr_iload_n C 4 md_Stands_findWrongGuesses_72 rfl rfl ?_
  refine mr_iload C 5 md_Stands_findWrongGuesses_73 rfl ?_
  refine mr_cVi C (As := [.int r2, .int (mz_rd s4 24 x2_4), .int x4_28]) (rest := []) 5 (ms_Stands_takesOtherThan _ E hI _ r2 (mz_rd s4 24 x2_4) x4_28 _ h) mo_Stands_takesOtherThan mi_Stands_takesOtherThan mc_Stands_cls ml_720 (by decide) (fun _ => rfl) rfl rfl (Nat.le_of_ble_eq_true rfl) (Nat.le_of_ble_eq_true rfl) (Nat.le_of_ble_eq_true rfl) md_Stands_findWrongGuesses_75 (fun r3 u3 h => ?_)
  refine mr_if_eq C md_Stands_findWrongGuesses_78 rfl (fun hc => ?_) (fun hc => ?_)
  · replace h := h.1 hc
    refine mr_sub [1, 2, 3, 4, 5] rfl ?_
    exact h
  replace h := h.2 hc
  refine mr_aload_n C 1 md_Stands_findWrongGuesses_81 rfl rfl ?_
  refine mr_get C 5 6 mc_Stands_cls ml_228 rfl (by decide) (by decide) (fun _ => rfl) rfl md_Stands_findWrongGuesses_82 ?_
  refine mr_iload_n C 4 md_Stands_findWrongGuesses_85 rfl rfl ?_
  refine mr_dup2 C md_Stands_findWrongGuesses_86 rfl rfl ?_
  refine mr_iald C 39 10 (by decide) (fun _ => rfl) h.1 md_Stands_findWrongGuesses_87 ?_
  replace h := h.2
  refine mr_iconst C md_Stands_findWrongGuesses_88 mk_iconst_1 ?_
  refine mr_iload C 5 md_Stands_findWrongGuesses_89 rfl ?_
  refine mr_ishl C md_Stands_findWrongGuesses_91 ?_
  refine mr_ior C md_Stands_findWrongGuesses_92 ?_
  refine mr_iast C 39 10 (by decide) (by decide) (fun _ _ => rfl) h.1 md_Stands_findWrongGuesses_93 ?_
  replace h := h.2
  refine mr_iconst C md_Stands_findWrongGuesses_94 mk_iconst_1 ?_
  refine mr_istore_n C (L' := [(1, .int 1), (5, .int r1), (0, .ref (E.2.1 5)), (2, .int x2_4), (3, .int (mz_rd s4 24 x2_4)), (4, .int x4_28)]) md_Stands_findWrongGuesses_95 rfl (Nat.le_of_ble_eq_true rfl) rfl ?_
  refine mr_sub [2, 0, 3, 4, 5] rfl ?_
  exact h
def mw_Stands_settle_10 (K : mz_St → Prop) (P10 : Int32 → mz_St → Prop) (x1_10 : Int32) (s10 : mz_St) : Prop :=
  ((100 < x1_10 →
   K s10) ∧
  (¬ 100 < x1_10 →
   mw_Stands_guess (fun u1 =>
    mw_Stands_findWrongGuesses (fun r1 u2 =>
     ((¬ r1 = 0 →
      P10 (x1_10 + 1) u2) ∧
     (r1 = 0 →
      K u2))) u1) s10))
/-- ValueMill$Stands.settle()V: what it does, as a transformer of what must hold behind it -/
def mw_Stands_settle (K : mz_St → Prop) (s0 : mz_St) : Prop :=
  (∀ P10 : Int32 → mz_St → Prop, (∀ (x1_10 : Int32) (s10 : mz_St), mw_Stands_settle_10 K P10 x1_10 s10 → P10 x1_10 s10) →
  P10 0 (mz_fl s0 39 10 0))
set_option maxRecDepth 100000 in
set_option maxHeartbeats 4000000 in
theorem ms_Stands_settle (l : Launch) (E : mz_En) (hI : mz_Inj E) (K : mz_St → Prop) (s0 : mz_St) (h : mw_Stands_settle K s0) : mz_Cv l E my_Stands_settle mb_Stands_settle 2 (4) (92) [.ref (E.2.1 5)] s0 K := by
  refine mz_ctv hI (by decide +kernel) (Nat.le_of_ble_eq_true rfl) (fun X C R => ?_)
  show mz_G E X 2 0 [(0, .ref (E.2.1 5))] [] s0
  unfold mw_Stands_settle at h
  refine mr_aload_n C 0 md_Stands_settle_0 rfl rfl ?_
  refine mr_get C 5 6 mc_Stands_cls ml_228 rfl (by decide) (by decide) (fun _ => rfl) rfl md_Stands_settle_1 ?_
  refine mr_iconst C md_Stands_settle_4 mk_iconst_0 ?_
  refine mr_fill C 39 10 (by decide) (by decide) (by decide) (fun _ _ => rfl) (Nat.le_of_ble_eq_true rfl) (Nat.le_of_ble_eq_true rfl) ml_698 md_Stands_settle_5 ?_
  refine mr_iconst C md_Stands_settle_8 mk_iconst_0 ?_
  refine mr_istore_n C (L' := [(1, .int 0), (0, .ref (E.2.1 5))]) md_Stands_settle_9 rfl (Nat.le_of_ble_eq_true rfl) rfl ?_
  refine mr_sub [1, 0] rfl ?_
  refine h (fun (x1_10 : Int32) (s10 : mz_St) => mz_G E X 2 10 [(0, .ref (E.2.1 5)), (1, .int x1_10)] [] s10) (fun x1_10 s10 h => ?_)
  unfold mw_Stands_settle_10 at h
  refine mr_iload_n C 1 md_Stands_settle_10 rfl rfl ?_
  refine mr_bipush C md_Stands_settle_11 mk_bipush_100 ?_
  refine mr_icmp_gt C md_Stands_settle_13 rfl (fun hc => ?_) (fun hc => ?_)
  · replace h := h.1 hc
    exact mr_vret C R h md_Stands_settle_34
  replace h := h.2 hc
  refine mr_aload_n C 0 md_Stands_settle_16 rfl rfl ?_
  refine mr_cVv C (As := []) (rest := []) 5 (ms_Stands_guess _ E hI _  _ h) mo_Stands_guess mi_Stands_guess mc_Stands_cls ml_699 (by decide) (fun _ => rfl) rfl rfl (Nat.le_of_ble_eq_true rfl) (Nat.le_of_ble_eq_true rfl) (Nat.le_of_ble_eq_true rfl) md_Stands_settle_17 (fun u1 h => ?_)
  refine mr_aload_n C 0 md_Stands_settle_20 rfl rfl ?_
  refine mr_cVi C (As := []) (rest := []) 5 (ms_Stands_findWrongGuesses _ E hI _  _ h) mo_Stands_findWrongGuesses mi_Stands_findWrongGuesses mc_Stands_cls ml_754 (by decide) (fun _ => rfl) rfl rfl (Nat.le_of_ble_eq_true rfl) (Nat.le_of_ble_eq_true rfl) (Nat.le_of_ble_eq_true rfl) md_Stands_settle_21 (fun r1 u2 h => ?_)
  refine mr_if_ne C md_Stands_settle_24 rfl (fun hc => ?_) (fun hc => ?_)
  · replace h := h.1 hc
    refine mr_iinc C (L' := [(1, .int (x1_10 + 1)), (0, .ref (E.2.1 5))]) 1 md_Stands_settle_28 rfl (mk_inc mk_iconst_1) (Nat.le_of_ble_eq_true rfl) rfl ?_
    refine mr_goto C md_Stands_settle_31 rfl ?_
    refine mr_sub [1, 0] rfl ?_
    exact h
  replace h := h.2 hc
  exact mr_vret C R h md_Stands_settle_27

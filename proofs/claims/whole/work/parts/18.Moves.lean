/-! BEGIN Moves: its instructions, what each method does (mw_), that its bytecode does it (ms_): printed -/
theorem md_Moves_add_0 : mz_d mb_Moves_add 0 (.iload_n 3) 1 1 := ⟨by decide +kernel, rfl⟩
theorem md_Moves_add_1 : mz_d mb_Moves_add 1 (.ifCond .ne 12) 3 4 := ⟨by decide +kernel, rfl⟩
theorem md_Moves_add_4 : mz_d mb_Moves_add 4 (.iload_n 1) 1 5 := ⟨by decide +kernel, rfl⟩
theorem md_Moves_add_5 : mz_d mb_Moves_add 5 (.iload_n 2) 1 6 := ⟨by decide +kernel, rfl⟩
theorem md_Moves_add_6 : mz_d mb_Moves_add 6 (.if_icmp .ne 7) 3 9 := ⟨by decide +kernel, rfl⟩
theorem md_Moves_add_9 : mz_d mb_Moves_add 9 (.iconst 1) 1 10 := ⟨by decide +kernel, rfl⟩
theorem md_Moves_add_10 : mz_d mb_Moves_add 10 (.goto 4) 3 13 := ⟨by decide +kernel, rfl⟩
theorem md_Moves_add_13 : mz_d mb_Moves_add 13 (.iconst 0) 1 14 := ⟨by decide +kernel, rfl⟩
theorem md_Moves_add_14 : mz_d mb_Moves_add 14 (.istore 4) 2 16 := ⟨by decide +kernel, rfl⟩
theorem md_Moves_add_16 : mz_d mb_Moves_add 16 (.iload 4) 2 18 := ⟨by decide +kernel, rfl⟩
theorem md_Moves_add_18 : mz_d mb_Moves_add 18 (.ifCond .ne 12) 3 21 := ⟨by decide +kernel, rfl⟩
theorem md_Moves_add_21 : mz_d mb_Moves_add 21 (.aload_n 0) 1 22 := ⟨by decide +kernel, rfl⟩
theorem md_Moves_add_22 : mz_d mb_Moves_add 22 (.getfield 30) 3 25 := ⟨by decide +kernel, rfl⟩
theorem md_Moves_add_25 : mz_d mb_Moves_add 25 (.bipush 10) 2 27 := ⟨by decide +kernel, rfl⟩
theorem md_Moves_add_27 : mz_d mb_Moves_add 27 (.if_icmp .ne 4) 3 30 := ⟨by decide +kernel, rfl⟩
theorem md_Moves_add_30 : mz_d mb_Moves_add 30 (.return_) 1 31 := ⟨by decide +kernel, rfl⟩
theorem md_Moves_add_31 : mz_d mb_Moves_add 31 (.aload_n 0) 1 32 := ⟨by decide +kernel, rfl⟩
theorem md_Moves_add_32 : mz_d mb_Moves_add 32 (.getfield 9) 3 35 := ⟨by decide +kernel, rfl⟩
theorem md_Moves_add_35 : mz_d mb_Moves_add 35 (.aload_n 0) 1 36 := ⟨by decide +kernel, rfl⟩
theorem md_Moves_add_36 : mz_d mb_Moves_add 36 (.getfield 30) 3 39 := ⟨by decide +kernel, rfl⟩
theorem md_Moves_add_39 : mz_d mb_Moves_add 39 (.iload_n 1) 1 40 := ⟨by decide +kernel, rfl⟩
theorem md_Moves_add_40 : mz_d mb_Moves_add 40 (.iastore) 1 41 := ⟨by decide +kernel, rfl⟩
theorem md_Moves_add_41 : mz_d mb_Moves_add 41 (.aload_n 0) 1 42 := ⟨by decide +kernel, rfl⟩
theorem md_Moves_add_42 : mz_d mb_Moves_add 42 (.getfield 15) 3 45 := ⟨by decide +kernel, rfl⟩
theorem md_Moves_add_45 : mz_d mb_Moves_add 45 (.aload_n 0) 1 46 := ⟨by decide +kernel, rfl⟩
theorem md_Moves_add_46 : mz_d mb_Moves_add 46 (.getfield 30) 3 49 := ⟨by decide +kernel, rfl⟩
theorem md_Moves_add_49 : mz_d mb_Moves_add 49 (.iload_n 2) 1 50 := ⟨by decide +kernel, rfl⟩
theorem md_Moves_add_50 : mz_d mb_Moves_add 50 (.iastore) 1 51 := ⟨by decide +kernel, rfl⟩
theorem md_Moves_add_51 : mz_d mb_Moves_add 51 (.aload_n 0) 1 52 := ⟨by decide +kernel, rfl⟩
theorem md_Moves_add_52 : mz_d mb_Moves_add 52 (.getfield 18) 3 55 := ⟨by decide +kernel, rfl⟩
theorem md_Moves_add_55 : mz_d mb_Moves_add 55 (.aload_n 0) 1 56 := ⟨by decide +kernel, rfl⟩
theorem md_Moves_add_56 : mz_d mb_Moves_add 56 (.getfield 30) 3 59 := ⟨by decide +kernel, rfl⟩
theorem md_Moves_add_59 : mz_d mb_Moves_add 59 (.iload_n 3) 1 60 := ⟨by decide +kernel, rfl⟩
theorem md_Moves_add_60 : mz_d mb_Moves_add 60 (.bastore) 1 61 := ⟨by decide +kernel, rfl⟩
theorem md_Moves_add_61 : mz_d mb_Moves_add 61 (.aload_n 0) 1 62 := ⟨by decide +kernel, rfl⟩
theorem md_Moves_add_62 : mz_d mb_Moves_add 62 (.dup) 1 63 := ⟨by decide +kernel, rfl⟩
theorem md_Moves_add_63 : mz_d mb_Moves_add 63 (.getfield 30) 3 66 := ⟨by decide +kernel, rfl⟩
theorem md_Moves_add_66 : mz_d mb_Moves_add 66 (.iconst 1) 1 67 := ⟨by decide +kernel, rfl⟩
theorem md_Moves_add_67 : mz_d mb_Moves_add 67 (.iadd) 1 68 := ⟨by decide +kernel, rfl⟩
theorem md_Moves_add_68 : mz_d mb_Moves_add 68 (.putfield 30) 3 71 := ⟨by decide +kernel, rfl⟩
theorem md_Moves_add_71 : mz_d mb_Moves_add 71 (.return_) 1 72 := ⟨by decide +kernel, rfl⟩
theorem md_Moves_isStillRead_0 : mz_d mb_Moves_isStillRead 0 (.iconst 0) 1 1 := ⟨by decide +kernel, rfl⟩
theorem md_Moves_isStillRead_1 : mz_d mb_Moves_isStillRead 1 (.istore_n 2) 1 2 := ⟨by decide +kernel, rfl⟩
theorem md_Moves_isStillRead_2 : mz_d mb_Moves_isStillRead 2 (.iload_n 2) 1 3 := ⟨by decide +kernel, rfl⟩
theorem md_Moves_isStillRead_3 : mz_d mb_Moves_isStillRead 3 (.aload_n 0) 1 4 := ⟨by decide +kernel, rfl⟩
theorem md_Moves_isStillRead_4 : mz_d mb_Moves_isStillRead 4 (.getfield 30) 3 7 := ⟨by decide +kernel, rfl⟩
theorem md_Moves_isStillRead_7 : mz_d mb_Moves_isStillRead 7 (.if_icmp .ge 30) 3 10 := ⟨by decide +kernel, rfl⟩
theorem md_Moves_isStillRead_10 : mz_d mb_Moves_isStillRead 10 (.aload_n 0) 1 11 := ⟨by decide +kernel, rfl⟩
theorem md_Moves_isStillRead_11 : mz_d mb_Moves_isStillRead 11 (.getfield 18) 3 14 := ⟨by decide +kernel, rfl⟩
theorem md_Moves_isStillRead_14 : mz_d mb_Moves_isStillRead 14 (.iload_n 2) 1 15 := ⟨by decide +kernel, rfl⟩
theorem md_Moves_isStillRead_15 : mz_d mb_Moves_isStillRead 15 (.baload) 1 16 := ⟨by decide +kernel, rfl⟩
theorem md_Moves_isStillRead_16 : mz_d mb_Moves_isStillRead 16 (.ifCond .ne 15) 3 19 := ⟨by decide +kernel, rfl⟩
theorem md_Moves_isStillRead_19 : mz_d mb_Moves_isStillRead 19 (.aload_n 0) 1 20 := ⟨by decide +kernel, rfl⟩
theorem md_Moves_isStillRead_20 : mz_d mb_Moves_isStillRead 20 (.getfield 15) 3 23 := ⟨by decide +kernel, rfl⟩
theorem md_Moves_isStillRead_23 : mz_d mb_Moves_isStillRead 23 (.iload_n 2) 1 24 := ⟨by decide +kernel, rfl⟩
theorem md_Moves_isStillRead_24 : mz_d mb_Moves_isStillRead 24 (.iaload) 1 25 := ⟨by decide +kernel, rfl⟩
theorem md_Moves_isStillRead_25 : mz_d mb_Moves_isStillRead 25 (.iload_n 1) 1 26 := ⟨by decide +kernel, rfl⟩
theorem md_Moves_isStillRead_26 : mz_d mb_Moves_isStillRead 26 (.if_icmp .ne 5) 3 29 := ⟨by decide +kernel, rfl⟩
theorem md_Moves_isStillRead_29 : mz_d mb_Moves_isStillRead 29 (.iconst 1) 1 30 := ⟨by decide +kernel, rfl⟩
theorem md_Moves_isStillRead_30 : mz_d mb_Moves_isStillRead 30 (.ireturn) 1 31 := ⟨by decide +kernel, rfl⟩
theorem md_Moves_isStillRead_31 : mz_d mb_Moves_isStillRead 31 (.iinc 2 1) 3 34 := ⟨by decide +kernel, rfl⟩
theorem md_Moves_isStillRead_34 : mz_d mb_Moves_isStillRead 34 (.goto (-32)) 3 37 := ⟨by decide +kernel, rfl⟩
theorem md_Moves_isStillRead_37 : mz_d mb_Moves_isStillRead 37 (.iconst 0) 1 38 := ⟨by decide +kernel, rfl⟩
theorem md_Moves_isStillRead_38 : mz_d mb_Moves_isStillRead 38 (.ireturn) 1 39 := ⟨by decide +kernel, rfl⟩
theorem md_Moves_firstReady_0 : mz_d mb_Moves_firstReady 0 (.iconst 0) 1 1 := ⟨by decide +kernel, rfl⟩
theorem md_Moves_firstReady_1 : mz_d mb_Moves_firstReady 1 (.istore_n 1) 1 2 := ⟨by decide +kernel, rfl⟩
theorem md_Moves_firstReady_2 : mz_d mb_Moves_firstReady 2 (.iload_n 1) 1 3 := ⟨by decide +kernel, rfl⟩
theorem md_Moves_firstReady_3 : mz_d mb_Moves_firstReady 3 (.aload_n 0) 1 4 := ⟨by decide +kernel, rfl⟩
theorem md_Moves_firstReady_4 : mz_d mb_Moves_firstReady 4 (.getfield 30) 3 7 := ⟨by decide +kernel, rfl⟩
theorem md_Moves_firstReady_7 : mz_d mb_Moves_firstReady 7 (.if_icmp .ge 24) 3 10 := ⟨by decide +kernel, rfl⟩
theorem md_Moves_firstReady_10 : mz_d mb_Moves_firstReady 10 (.aload_n 0) 1 11 := ⟨by decide +kernel, rfl⟩
theorem md_Moves_firstReady_11 : mz_d mb_Moves_firstReady 11 (.aload_n 0) 1 12 := ⟨by decide +kernel, rfl⟩
theorem md_Moves_firstReady_12 : mz_d mb_Moves_firstReady 12 (.getfield 9) 3 15 := ⟨by decide +kernel, rfl⟩
theorem md_Moves_firstReady_15 : mz_d mb_Moves_firstReady 15 (.iload_n 1) 1 16 := ⟨by decide +kernel, rfl⟩
theorem md_Moves_firstReady_16 : mz_d mb_Moves_firstReady 16 (.iaload) 1 17 := ⟨by decide +kernel, rfl⟩
theorem md_Moves_firstReady_17 : mz_d mb_Moves_firstReady 17 (.invokevirtual 49) 3 20 := ⟨by decide +kernel, rfl⟩
theorem md_Moves_firstReady_20 : mz_d mb_Moves_firstReady 20 (.ifCond .ne 5) 3 23 := ⟨by decide +kernel, rfl⟩
theorem md_Moves_firstReady_23 : mz_d mb_Moves_firstReady 23 (.iload_n 1) 1 24 := ⟨by decide +kernel, rfl⟩
theorem md_Moves_firstReady_24 : mz_d mb_Moves_firstReady 24 (.ireturn) 1 25 := ⟨by decide +kernel, rfl⟩
theorem md_Moves_firstReady_25 : mz_d mb_Moves_firstReady 25 (.iinc 1 1) 3 28 := ⟨by decide +kernel, rfl⟩
theorem md_Moves_firstReady_28 : mz_d mb_Moves_firstReady 28 (.goto (-26)) 3 31 := ⟨by decide +kernel, rfl⟩
theorem md_Moves_firstReady_31 : mz_d mb_Moves_firstReady 31 (.iconst (-1)) 1 32 := ⟨by decide +kernel, rfl⟩
theorem md_Moves_firstReady_32 : mz_d mb_Moves_firstReady 32 (.ireturn) 1 33 := ⟨by decide +kernel, rfl⟩
theorem md_Moves_writeMove_0 : mz_d mb_Moves_writeMove 0 (.aload_n 0) 1 1 := ⟨by decide +kernel, rfl⟩
theorem md_Moves_writeMove_1 : mz_d mb_Moves_writeMove 1 (.getfield 22) 3 4 := ⟨by decide +kernel, rfl⟩
theorem md_Moves_writeMove_4 : mz_d mb_Moves_writeMove 4 (.iload_n 1) 1 5 := ⟨by decide +kernel, rfl⟩
theorem md_Moves_writeMove_5 : mz_d mb_Moves_writeMove 5 (.invokevirtual 53) 3 8 := ⟨by decide +kernel, rfl⟩
theorem md_Moves_writeMove_8 : mz_d mb_Moves_writeMove 8 (.ifCond .eq 53) 3 11 := ⟨by decide +kernel, rfl⟩
theorem md_Moves_writeMove_11 : mz_d mb_Moves_writeMove 11 (.iload_n 3) 1 12 := ⟨by decide +kernel, rfl⟩
theorem md_Moves_writeMove_12 : mz_d mb_Moves_writeMove 12 (.ifCond .ne 14) 3 15 := ⟨by decide +kernel, rfl⟩
theorem md_Moves_writeMove_15 : mz_d mb_Moves_writeMove 15 (.aload_n 0) 1 16 := ⟨by decide +kernel, rfl⟩
theorem md_Moves_writeMove_16 : mz_d mb_Moves_writeMove 16 (.getfield 22) 3 19 := ⟨by decide +kernel, rfl⟩
theorem md_Moves_writeMove_19 : mz_d mb_Moves_writeMove 19 (.iload_n 2) 1 20 := ⟨by decide +kernel, rfl⟩
theorem md_Moves_writeMove_20 : mz_d mb_Moves_writeMove 20 (.invokevirtual 53) 3 23 := ⟨by decide +kernel, rfl⟩
theorem md_Moves_writeMove_23 : mz_d mb_Moves_writeMove 23 (.ifCond .eq 38) 3 26 := ⟨by decide +kernel, rfl⟩
theorem md_Moves_writeMove_26 : mz_d mb_Moves_writeMove 26 (.aload_n 0) 1 27 := ⟨by decide +kernel, rfl⟩
theorem md_Moves_writeMove_27 : mz_d mb_Moves_writeMove 27 (.getfield 26) 3 30 := ⟨by decide +kernel, rfl⟩
theorem md_Moves_writeMove_30 : mz_d mb_Moves_writeMove 30 (.aload_n 0) 1 31 := ⟨by decide +kernel, rfl⟩
theorem md_Moves_writeMove_31 : mz_d mb_Moves_writeMove 31 (.getfield 22) 3 34 := ⟨by decide +kernel, rfl⟩
theorem md_Moves_writeMove_34 : mz_d mb_Moves_writeMove 34 (.getfield 58) 3 37 := ⟨by decide +kernel, rfl⟩
theorem md_Moves_writeMove_37 : mz_d mb_Moves_writeMove 37 (.iload_n 2) 1 38 := ⟨by decide +kernel, rfl⟩
theorem md_Moves_writeMove_38 : mz_d mb_Moves_writeMove 38 (.iload_n 3) 1 39 := ⟨by decide +kernel, rfl⟩
theorem md_Moves_writeMove_39 : mz_d mb_Moves_writeMove 39 (.invokevirtual 61) 3 42 := ⟨by decide +kernel, rfl⟩
theorem md_Moves_writeMove_42 : mz_d mb_Moves_writeMove 42 (.aload_n 0) 1 43 := ⟨by decide +kernel, rfl⟩
theorem md_Moves_writeMove_43 : mz_d mb_Moves_writeMove 43 (.getfield 26) 3 46 := ⟨by decide +kernel, rfl⟩
theorem md_Moves_writeMove_46 : mz_d mb_Moves_writeMove 46 (.iload_n 1) 1 47 := ⟨by decide +kernel, rfl⟩
theorem md_Moves_writeMove_47 : mz_d mb_Moves_writeMove 47 (.aload_n 0) 1 48 := ⟨by decide +kernel, rfl⟩
theorem md_Moves_writeMove_48 : mz_d mb_Moves_writeMove 48 (.getfield 22) 3 51 := ⟨by decide +kernel, rfl⟩
theorem md_Moves_writeMove_51 : mz_d mb_Moves_writeMove 51 (.getfield 58) 3 54 := ⟨by decide +kernel, rfl⟩
theorem md_Moves_writeMove_54 : mz_d mb_Moves_writeMove 54 (.iconst 0) 1 55 := ⟨by decide +kernel, rfl⟩
theorem md_Moves_writeMove_55 : mz_d mb_Moves_writeMove 55 (.invokevirtual 61) 3 58 := ⟨by decide +kernel, rfl⟩
theorem md_Moves_writeMove_58 : mz_d mb_Moves_writeMove 58 (.goto 13) 3 61 := ⟨by decide +kernel, rfl⟩
theorem md_Moves_writeMove_61 : mz_d mb_Moves_writeMove 61 (.aload_n 0) 1 62 := ⟨by decide +kernel, rfl⟩
theorem md_Moves_writeMove_62 : mz_d mb_Moves_writeMove 62 (.getfield 26) 3 65 := ⟨by decide +kernel, rfl⟩
theorem md_Moves_writeMove_65 : mz_d mb_Moves_writeMove 65 (.iload_n 1) 1 66 := ⟨by decide +kernel, rfl⟩
theorem md_Moves_writeMove_66 : mz_d mb_Moves_writeMove 66 (.iload_n 2) 1 67 := ⟨by decide +kernel, rfl⟩
theorem md_Moves_writeMove_67 : mz_d mb_Moves_writeMove 67 (.iload_n 3) 1 68 := ⟨by decide +kernel, rfl⟩
theorem md_Moves_writeMove_68 : mz_d mb_Moves_writeMove 68 (.invokevirtual 61) 3 71 := ⟨by decide +kernel, rfl⟩
theorem md_Moves_writeMove_71 : mz_d mb_Moves_writeMove 71 (.return_) 1 72 := ⟨by decide +kernel, rfl⟩
theorem md_Moves_readFromSpare_0 : mz_d mb_Moves_readFromSpare 0 (.iconst 0) 1 1 := ⟨by decide +kernel, rfl⟩
theorem md_Moves_readFromSpare_1 : mz_d mb_Moves_readFromSpare 1 (.istore_n 2) 1 2 := ⟨by decide +kernel, rfl⟩
theorem md_Moves_readFromSpare_2 : mz_d mb_Moves_readFromSpare 2 (.iload_n 2) 1 3 := ⟨by decide +kernel, rfl⟩
theorem md_Moves_readFromSpare_3 : mz_d mb_Moves_readFromSpare 3 (.aload_n 0) 1 4 := ⟨by decide +kernel, rfl⟩
theorem md_Moves_readFromSpare_4 : mz_d mb_Moves_readFromSpare 4 (.getfield 30) 3 7 := ⟨by decide +kernel, rfl⟩
theorem md_Moves_readFromSpare_7 : mz_d mb_Moves_readFromSpare 7 (.if_icmp .ge 37) 3 10 := ⟨by decide +kernel, rfl⟩
theorem md_Moves_readFromSpare_10 : mz_d mb_Moves_readFromSpare 10 (.aload_n 0) 1 11 := ⟨by decide +kernel, rfl⟩
theorem md_Moves_readFromSpare_11 : mz_d mb_Moves_readFromSpare 11 (.getfield 18) 3 14 := ⟨by decide +kernel, rfl⟩
theorem md_Moves_readFromSpare_14 : mz_d mb_Moves_readFromSpare 14 (.iload_n 2) 1 15 := ⟨by decide +kernel, rfl⟩
theorem md_Moves_readFromSpare_15 : mz_d mb_Moves_readFromSpare 15 (.baload) 1 16 := ⟨by decide +kernel, rfl⟩
theorem md_Moves_readFromSpare_16 : mz_d mb_Moves_readFromSpare 16 (.ifCond .ne 22) 3 19 := ⟨by decide +kernel, rfl⟩
theorem md_Moves_readFromSpare_19 : mz_d mb_Moves_readFromSpare 19 (.aload_n 0) 1 20 := ⟨by decide +kernel, rfl⟩
theorem md_Moves_readFromSpare_20 : mz_d mb_Moves_readFromSpare 20 (.getfield 15) 3 23 := ⟨by decide +kernel, rfl⟩
theorem md_Moves_readFromSpare_23 : mz_d mb_Moves_readFromSpare 23 (.iload_n 2) 1 24 := ⟨by decide +kernel, rfl⟩
theorem md_Moves_readFromSpare_24 : mz_d mb_Moves_readFromSpare 24 (.iaload) 1 25 := ⟨by decide +kernel, rfl⟩
theorem md_Moves_readFromSpare_25 : mz_d mb_Moves_readFromSpare 25 (.iload_n 1) 1 26 := ⟨by decide +kernel, rfl⟩
theorem md_Moves_readFromSpare_26 : mz_d mb_Moves_readFromSpare 26 (.if_icmp .ne 12) 3 29 := ⟨by decide +kernel, rfl⟩
theorem md_Moves_readFromSpare_29 : mz_d mb_Moves_readFromSpare 29 (.aload_n 0) 1 30 := ⟨by decide +kernel, rfl⟩
theorem md_Moves_readFromSpare_30 : mz_d mb_Moves_readFromSpare 30 (.getfield 15) 3 33 := ⟨by decide +kernel, rfl⟩
theorem md_Moves_readFromSpare_33 : mz_d mb_Moves_readFromSpare 33 (.iload_n 2) 1 34 := ⟨by decide +kernel, rfl⟩
theorem md_Moves_readFromSpare_34 : mz_d mb_Moves_readFromSpare 34 (.sipush 229) 3 37 := ⟨by decide +kernel, rfl⟩
theorem md_Moves_readFromSpare_37 : mz_d mb_Moves_readFromSpare 37 (.iastore) 1 38 := ⟨by decide +kernel, rfl⟩
theorem md_Moves_readFromSpare_38 : mz_d mb_Moves_readFromSpare 38 (.iinc 2 1) 3 41 := ⟨by decide +kernel, rfl⟩
theorem md_Moves_readFromSpare_41 : mz_d mb_Moves_readFromSpare 41 (.goto (-39)) 3 44 := ⟨by decide +kernel, rfl⟩
theorem md_Moves_readFromSpare_44 : mz_d mb_Moves_readFromSpare 44 (.return_) 1 45 := ⟨by decide +kernel, rfl⟩
theorem md_Moves_takeOut_0 : mz_d mb_Moves_takeOut 0 (.aload_n 0) 1 1 := ⟨by decide +kernel, rfl⟩
theorem md_Moves_takeOut_1 : mz_d mb_Moves_takeOut 1 (.dup) 1 2 := ⟨by decide +kernel, rfl⟩
theorem md_Moves_takeOut_2 : mz_d mb_Moves_takeOut 2 (.getfield 30) 3 5 := ⟨by decide +kernel, rfl⟩
theorem md_Moves_takeOut_5 : mz_d mb_Moves_takeOut 5 (.iconst 1) 1 6 := ⟨by decide +kernel, rfl⟩
theorem md_Moves_takeOut_6 : mz_d mb_Moves_takeOut 6 (.isub) 1 7 := ⟨by decide +kernel, rfl⟩
theorem md_Moves_takeOut_7 : mz_d mb_Moves_takeOut 7 (.putfield 30) 3 10 := ⟨by decide +kernel, rfl⟩
theorem md_Moves_takeOut_10 : mz_d mb_Moves_takeOut 10 (.aload_n 0) 1 11 := ⟨by decide +kernel, rfl⟩
theorem md_Moves_takeOut_11 : mz_d mb_Moves_takeOut 11 (.getfield 9) 3 14 := ⟨by decide +kernel, rfl⟩
theorem md_Moves_takeOut_14 : mz_d mb_Moves_takeOut 14 (.iload_n 1) 1 15 := ⟨by decide +kernel, rfl⟩
theorem md_Moves_takeOut_15 : mz_d mb_Moves_takeOut 15 (.aload_n 0) 1 16 := ⟨by decide +kernel, rfl⟩
theorem md_Moves_takeOut_16 : mz_d mb_Moves_takeOut 16 (.getfield 9) 3 19 := ⟨by decide +kernel, rfl⟩
theorem md_Moves_takeOut_19 : mz_d mb_Moves_takeOut 19 (.aload_n 0) 1 20 := ⟨by decide +kernel, rfl⟩
theorem md_Moves_takeOut_20 : mz_d mb_Moves_takeOut 20 (.getfield 30) 3 23 := ⟨by decide +kernel, rfl⟩
theorem md_Moves_takeOut_23 : mz_d mb_Moves_takeOut 23 (.iaload) 1 24 := ⟨by decide +kernel, rfl⟩
theorem md_Moves_takeOut_24 : mz_d mb_Moves_takeOut 24 (.iastore) 1 25 := ⟨by decide +kernel, rfl⟩
theorem md_Moves_takeOut_25 : mz_d mb_Moves_takeOut 25 (.aload_n 0) 1 26 := ⟨by decide +kernel, rfl⟩
theorem md_Moves_takeOut_26 : mz_d mb_Moves_takeOut 26 (.getfield 15) 3 29 := ⟨by decide +kernel, rfl⟩
theorem md_Moves_takeOut_29 : mz_d mb_Moves_takeOut 29 (.iload_n 1) 1 30 := ⟨by decide +kernel, rfl⟩
theorem md_Moves_takeOut_30 : mz_d mb_Moves_takeOut 30 (.aload_n 0) 1 31 := ⟨by decide +kernel, rfl⟩
theorem md_Moves_takeOut_31 : mz_d mb_Moves_takeOut 31 (.getfield 15) 3 34 := ⟨by decide +kernel, rfl⟩
theorem md_Moves_takeOut_34 : mz_d mb_Moves_takeOut 34 (.aload_n 0) 1 35 := ⟨by decide +kernel, rfl⟩
theorem md_Moves_takeOut_35 : mz_d mb_Moves_takeOut 35 (.getfield 30) 3 38 := ⟨by decide +kernel, rfl⟩
theorem md_Moves_takeOut_38 : mz_d mb_Moves_takeOut 38 (.iaload) 1 39 := ⟨by decide +kernel, rfl⟩
theorem md_Moves_takeOut_39 : mz_d mb_Moves_takeOut 39 (.iastore) 1 40 := ⟨by decide +kernel, rfl⟩
theorem md_Moves_takeOut_40 : mz_d mb_Moves_takeOut 40 (.aload_n 0) 1 41 := ⟨by decide +kernel, rfl⟩
theorem md_Moves_takeOut_41 : mz_d mb_Moves_takeOut 41 (.getfield 18) 3 44 := ⟨by decide +kernel, rfl⟩
theorem md_Moves_takeOut_44 : mz_d mb_Moves_takeOut 44 (.iload_n 1) 1 45 := ⟨by decide +kernel, rfl⟩
theorem md_Moves_takeOut_45 : mz_d mb_Moves_takeOut 45 (.aload_n 0) 1 46 := ⟨by decide +kernel, rfl⟩
theorem md_Moves_takeOut_46 : mz_d mb_Moves_takeOut 46 (.getfield 18) 3 49 := ⟨by decide +kernel, rfl⟩
theorem md_Moves_takeOut_49 : mz_d mb_Moves_takeOut 49 (.aload_n 0) 1 50 := ⟨by decide +kernel, rfl⟩
theorem md_Moves_takeOut_50 : mz_d mb_Moves_takeOut 50 (.getfield 30) 3 53 := ⟨by decide +kernel, rfl⟩
theorem md_Moves_takeOut_53 : mz_d mb_Moves_takeOut 53 (.baload) 1 54 := ⟨by decide +kernel, rfl⟩
theorem md_Moves_takeOut_54 : mz_d mb_Moves_takeOut 54 (.bastore) 1 55 := ⟨by decide +kernel, rfl⟩
theorem md_Moves_takeOut_55 : mz_d mb_Moves_takeOut 55 (.return_) 1 56 := ⟨by decide +kernel, rfl⟩
theorem md_Moves_write_0 : mz_d mb_Moves_write 0 (.iconst 0) 1 1 := ⟨by decide +kernel, rfl⟩
theorem md_Moves_write_1 : mz_d mb_Moves_write 1 (.istore_n 1) 1 2 := ⟨by decide +kernel, rfl⟩
theorem md_Moves_write_2 : mz_d mb_Moves_write 2 (.iload_n 1) 1 3 := ⟨by decide +kernel, rfl⟩
theorem md_Moves_write_3 : mz_d mb_Moves_write 3 (.bipush 20) 2 5 := ⟨by decide +kernel, rfl⟩
theorem md_Moves_write_5 : mz_d mb_Moves_write 5 (.if_icmp .ge 80) 3 8 := ⟨by decide +kernel, rfl⟩
theorem md_Moves_write_8 : mz_d mb_Moves_write 8 (.aload_n 0) 1 9 := ⟨by decide +kernel, rfl⟩
theorem md_Moves_write_9 : mz_d mb_Moves_write 9 (.getfield 30) 3 12 := ⟨by decide +kernel, rfl⟩
theorem md_Moves_write_12 : mz_d mb_Moves_write 12 (.ifCond .le 73) 3 15 := ⟨by decide +kernel, rfl⟩
theorem md_Moves_write_15 : mz_d mb_Moves_write 15 (.aload_n 0) 1 16 := ⟨by decide +kernel, rfl⟩
theorem md_Moves_write_16 : mz_d mb_Moves_write 16 (.invokevirtual 34) 3 19 := ⟨by decide +kernel, rfl⟩
theorem md_Moves_write_19 : mz_d mb_Moves_write 19 (.istore_n 2) 1 20 := ⟨by decide +kernel, rfl⟩
theorem md_Moves_write_20 : mz_d mb_Moves_write 20 (.iload_n 2) 1 21 := ⟨by decide +kernel, rfl⟩
theorem md_Moves_write_21 : mz_d mb_Moves_write 21 (.iconst (-1)) 1 22 := ⟨by decide +kernel, rfl⟩
theorem md_Moves_write_22 : mz_d mb_Moves_write 22 (.if_icmp .ne 30) 3 25 := ⟨by decide +kernel, rfl⟩
theorem md_Moves_write_25 : mz_d mb_Moves_write 25 (.aload_n 0) 1 26 := ⟨by decide +kernel, rfl⟩
theorem md_Moves_write_26 : mz_d mb_Moves_write 26 (.sipush 229) 3 29 := ⟨by decide +kernel, rfl⟩
theorem md_Moves_write_29 : mz_d mb_Moves_write 29 (.aload_n 0) 1 30 := ⟨by decide +kernel, rfl⟩
theorem md_Moves_write_30 : mz_d mb_Moves_write 30 (.getfield 9) 3 33 := ⟨by decide +kernel, rfl⟩
theorem md_Moves_write_33 : mz_d mb_Moves_write 33 (.iconst 0) 1 34 := ⟨by decide +kernel, rfl⟩
theorem md_Moves_write_34 : mz_d mb_Moves_write 34 (.iaload) 1 35 := ⟨by decide +kernel, rfl⟩
theorem md_Moves_write_35 : mz_d mb_Moves_write 35 (.iconst 0) 1 36 := ⟨by decide +kernel, rfl⟩
theorem md_Moves_write_36 : mz_d mb_Moves_write 36 (.invokevirtual 38) 3 39 := ⟨by decide +kernel, rfl⟩
theorem md_Moves_write_39 : mz_d mb_Moves_write 39 (.aload_n 0) 1 40 := ⟨by decide +kernel, rfl⟩
theorem md_Moves_write_40 : mz_d mb_Moves_write 40 (.aload_n 0) 1 41 := ⟨by decide +kernel, rfl⟩
theorem md_Moves_write_41 : mz_d mb_Moves_write 41 (.getfield 9) 3 44 := ⟨by decide +kernel, rfl⟩
theorem md_Moves_write_44 : mz_d mb_Moves_write 44 (.iconst 0) 1 45 := ⟨by decide +kernel, rfl⟩
theorem md_Moves_write_45 : mz_d mb_Moves_write 45 (.iaload) 1 46 := ⟨by decide +kernel, rfl⟩
theorem md_Moves_write_46 : mz_d mb_Moves_write 46 (.invokevirtual 42) 3 49 := ⟨by decide +kernel, rfl⟩
theorem md_Moves_write_49 : mz_d mb_Moves_write 49 (.goto 30) 3 52 := ⟨by decide +kernel, rfl⟩
theorem md_Moves_write_52 : mz_d mb_Moves_write 52 (.aload_n 0) 1 53 := ⟨by decide +kernel, rfl⟩
theorem md_Moves_write_53 : mz_d mb_Moves_write 53 (.aload_n 0) 1 54 := ⟨by decide +kernel, rfl⟩
theorem md_Moves_write_54 : mz_d mb_Moves_write 54 (.getfield 9) 3 57 := ⟨by decide +kernel, rfl⟩
theorem md_Moves_write_57 : mz_d mb_Moves_write 57 (.iload_n 2) 1 58 := ⟨by decide +kernel, rfl⟩
theorem md_Moves_write_58 : mz_d mb_Moves_write 58 (.iaload) 1 59 := ⟨by decide +kernel, rfl⟩
theorem md_Moves_write_59 : mz_d mb_Moves_write 59 (.aload_n 0) 1 60 := ⟨by decide +kernel, rfl⟩
theorem md_Moves_write_60 : mz_d mb_Moves_write 60 (.getfield 15) 3 63 := ⟨by decide +kernel, rfl⟩
theorem md_Moves_write_63 : mz_d mb_Moves_write 63 (.iload_n 2) 1 64 := ⟨by decide +kernel, rfl⟩
theorem md_Moves_write_64 : mz_d mb_Moves_write 64 (.iaload) 1 65 := ⟨by decide +kernel, rfl⟩
theorem md_Moves_write_65 : mz_d mb_Moves_write 65 (.aload_n 0) 1 66 := ⟨by decide +kernel, rfl⟩
theorem md_Moves_write_66 : mz_d mb_Moves_write 66 (.getfield 18) 3 69 := ⟨by decide +kernel, rfl⟩
theorem md_Moves_write_69 : mz_d mb_Moves_write 69 (.iload_n 2) 1 70 := ⟨by decide +kernel, rfl⟩
theorem md_Moves_write_70 : mz_d mb_Moves_write 70 (.baload) 1 71 := ⟨by decide +kernel, rfl⟩
theorem md_Moves_write_71 : mz_d mb_Moves_write 71 (.invokevirtual 38) 3 74 := ⟨by decide +kernel, rfl⟩
theorem md_Moves_write_74 : mz_d mb_Moves_write 74 (.aload_n 0) 1 75 := ⟨by decide +kernel, rfl⟩
theorem md_Moves_write_75 : mz_d mb_Moves_write 75 (.iload_n 2) 1 76 := ⟨by decide +kernel, rfl⟩
theorem md_Moves_write_76 : mz_d mb_Moves_write 76 (.invokevirtual 46) 3 79 := ⟨by decide +kernel, rfl⟩
theorem md_Moves_write_79 : mz_d mb_Moves_write 79 (.iinc 1 1) 3 82 := ⟨by decide +kernel, rfl⟩
theorem md_Moves_write_82 : mz_d mb_Moves_write 82 (.goto (-80)) 3 85 := ⟨by decide +kernel, rfl⟩
theorem md_Moves_write_85 : mz_d mb_Moves_write 85 (.return_) 1 86 := ⟨by decide +kernel, rfl⟩
def mw_Moves_add_14 (K : mz_St → Prop) (a0 : Int32) (a1 : Int32) (a2 : Int32) (y0_14 : Int32) (s14 : mz_St) : Prop :=
  ((¬ y0_14 = 0 →
   K s14) ∧
  (y0_14 = 0 →
   ((¬ (s14 1012 0) = 10 →
    vp_in (s14 1012 0) 10 ∧
    vp_in ((mz_wr s14 54 (s14 1012 0) a0) 1012 0) 10 ∧
    (vp_in ((mz_wr (mz_wr s14 54 (s14 1012 0) a0) 55 ((mz_wr s14 54 (s14 1012 0) a0) 1012 0) a1) 1012 0) 10 ∧ (a2 = 0 ∨ a2 = 1)) ∧
    K (mz_up (mz_wr (mz_wr (mz_wr s14 54 (s14 1012 0) a0) 55 ((mz_wr s14 54 (s14 1012 0) a0) 1012 0) a1) 56 ((mz_wr (mz_wr s14 54 (s14 1012 0) a0) 55 ((mz_wr s14 54 (s14 1012 0) a0) 1012 0) a1) 1012 0) a2) 1012 0 (((mz_wr (mz_wr (mz_wr s14 54 (s14 1012 0) a0) 55 ((mz_wr s14 54 (s14 1012 0) a0) 1012 0) a1) 56 ((mz_wr (mz_wr s14 54 (s14 1012 0) a0) 55 ((mz_wr s14 54 (s14 1012 0) a0) 1012 0) a1) 1012 0) a2) 1012 0) + 1))) ∧
   ((s14 1012 0) = 10 →
    K s14))))
def mw_Moves_add_13 (P14 : Int32 → mz_St → Prop) (s13 : mz_St) : Prop :=
  P14 0 s13
/-- ValueMill$Moves.add(IIZ)V: what it does, as a transformer of what must hold behind it -/
def mw_Moves_add (K : mz_St → Prop) (a0 : Int32) (a1 : Int32) (a2 : Int32) (s0 : mz_St) : Prop :=
  (∀ P14 : Int32 → mz_St → Prop, (∀ (y0_14 : Int32) (s14 : mz_St), mw_Moves_add_14 K a0 a1 a2 y0_14 s14 → P14 y0_14 s14) →
  (∀ P13 : mz_St → Prop, (∀ (s13 : mz_St), mw_Moves_add_13 P14 s13 → P13 s13) →
  ((¬ a2 = 0 →
   P13 s0) ∧
  (a2 = 0 →
   ((¬ a0 = a1 →
    P13 s0) ∧
   (a0 = a1 →
    P14 1 s0))))))
set_option maxRecDepth 100000 in
set_option maxHeartbeats 4000000 in
theorem ms_Moves_add (l : Launch) (E : mz_En) (hI : mz_Inj E) (K : mz_St → Prop) (a0 : Int32) (a1 : Int32) (a2 : Int32) (s0 : mz_St) (h : mw_Moves_add K a0 a1 a2 s0) : mz_Cv l E my_Moves_add mb_Moves_add 5 (0) (0) [.ref (E.2.1 8), .int a0, .int a1, .int a2] s0 K := by
  refine mz_ctv hI (by decide +kernel) (Nat.le_of_ble_eq_true rfl) (fun X C R => ?_)
  show mz_G E X 5 0 [(0, .ref (E.2.1 8)), (1, .int a0), (2, .int a1), (3, .int a2)] [] s0
  unfold mw_Moves_add at h
  refine mr_iload_n C 3 md_Moves_add_0 rfl rfl ?_
  refine mj (h (fun (y0_14 : Int32) (s14 : mz_St) => mz_G E X 5 14 [(0, .ref (E.2.1 8)), (1, .int a0), (2, .int a1), (3, .int a2)] [.int y0_14] s14) (fun y0_14 s14 h => ?_)) (fun h => ?_)
  · unfold mw_Moves_add_14 at h
    refine mr_istore C (L' := [(4, .int y0_14), (0, .ref (E.2.1 8)), (1, .int a0), (2, .int a1), (3, .int a2)]) md_Moves_add_14 (Nat.le_of_ble_eq_true rfl) rfl ?_
    refine mr_iload C 0 md_Moves_add_16 rfl ?_
    refine mr_if_ne C md_Moves_add_18 rfl (fun hc => ?_) (fun hc => ?_)
    · replace h := h.1 hc
      exact mr_vret C R h md_Moves_add_30
    replace h := h.2 hc
    refine mr_aload_n C 1 md_Moves_add_21 rfl rfl ?_
    refine mr_get C 8 5 mc_Moves_cls ml_361 rfl (by decide) (by decide) (fun _ => rfl) rfl md_Moves_add_22 ?_
    refine mr_bipush C md_Moves_add_25 mk_bipush_10 ?_
    refine mr_icmp_ne C md_Moves_add_27 rfl (fun hc => ?_) (fun hc => ?_)
    · replace h := h.1 hc
      refine mr_aload_n C 1 md_Moves_add_31 rfl rfl ?_
      refine mr_get C 8 2 mc_Moves_cls ml_358 rfl (by decide) (by decide) (fun _ => rfl) rfl md_Moves_add_32 ?_
      refine mr_aload_n C 1 md_Moves_add_35 rfl rfl ?_
      refine mr_get C 8 5 mc_Moves_cls ml_361 rfl (by decide) (by decide) (fun _ => rfl) rfl md_Moves_add_36 ?_
      refine mr_iload_n C 2 md_Moves_add_39 rfl rfl ?_
      refine mr_iast C 54 10 (by decide) (by decide) (fun _ _ => rfl) h.1 md_Moves_add_40 ?_
      replace h := h.2
      refine mr_aload_n C 1 md_Moves_add_41 rfl rfl ?_
      refine mr_get C 8 3 mc_Moves_cls ml_359 rfl (by decide) (by decide) (fun _ => rfl) rfl md_Moves_add_42 ?_
      refine mr_aload_n C 1 md_Moves_add_45 rfl rfl ?_
      refine mr_get C 8 5 mc_Moves_cls ml_361 rfl (by decide) (by decide) (fun _ => rfl) rfl md_Moves_add_46 ?_
      refine mr_iload_n C 3 md_Moves_add_49 rfl rfl ?_
      refine mr_iast C 55 10 (by decide) (by decide) (fun _ _ => rfl) h.1 md_Moves_add_50 ?_
      replace h := h.2
      refine mr_aload_n C 1 md_Moves_add_51 rfl rfl ?_
      refine mr_get C 8 4 mc_Moves_cls ml_360 rfl (by decide) (by decide) (fun _ => rfl) rfl md_Moves_add_52 ?_
      refine mr_aload_n C 1 md_Moves_add_55 rfl rfl ?_
      refine mr_get C 8 5 mc_Moves_cls ml_361 rfl (by decide) (by decide) (fun _ => rfl) rfl md_Moves_add_56 ?_
      refine mr_iload_n C 4 md_Moves_add_59 rfl rfl ?_
      refine mr_zast C 56 10 (by decide) (by decide) (fun _ _ => rfl) h.1.1 h.1.2 md_Moves_add_60 ?_
      replace h := h.2
      refine mr_aload_n C 1 md_Moves_add_61 rfl rfl ?_
      refine mr_dup C md_Moves_add_62 rfl ?_
      refine mr_get C 8 5 mc_Moves_cls ml_361 rfl (by decide) (by decide) (fun _ => rfl) rfl md_Moves_add_63 ?_
      refine mr_iconst C md_Moves_add_66 mk_iconst_1 ?_
      refine mr_iadd C md_Moves_add_67 ?_
      refine mr_put C (t0 := .int) 8 5 1012 mc_Moves_cls ml_361 rfl (by decide) (by decide) (fun _ => rfl) rfl (by decide +kernel) rfl rfl (Nat.le_of_ble_eq_true rfl) (fun _ => rfl) (mp_1012 E _) md_Moves_add_68 ?_
      exact mr_vret C R h md_Moves_add_71
    replace h := h.2 hc
    exact mr_vret C R h md_Moves_add_30
  refine mj (h (fun (s13 : mz_St) => mz_G E X 5 13 [(0, .ref (E.2.1 8)), (1, .int a0), (2, .int a1), (3, .int a2)] [] s13) (fun s13 h => ?_)) (fun h => ?_)
  · unfold mw_Moves_add_13 at h
    refine mr_iconst C md_Moves_add_13 mk_iconst_0 ?_
    exact h
  refine mr_if_ne C md_Moves_add_1 rfl (fun hc => ?_) (fun hc => ?_)
  · replace h := h.1 hc
    exact h
  replace h := h.2 hc
  refine mr_iload_n C 1 md_Moves_add_4 rfl rfl ?_
  refine mr_iload_n C 2 md_Moves_add_5 rfl rfl ?_
  refine mr_icmp_ne C md_Moves_add_6 rfl (fun hc => ?_) (fun hc => ?_)
  · replace h := h.1 hc
    exact h
  replace h := h.2 hc
  refine mr_iconst C md_Moves_add_9 mk_iconst_1 ?_
  refine mr_goto C md_Moves_add_10 rfl ?_
  exact h
def mw_Moves_isStillRead_31 (P2 : Int32 → mz_St → Prop) (x2_2 : Int32) (s31 : mz_St) : Prop :=
  P2 (x2_2 + 1) s31
def mw_Moves_isStillRead_2 (K : Int32 → mz_St → Prop) (a0 : Int32) (P2 : Int32 → mz_St → Prop) (x2_2 : Int32) (s2 : mz_St) : Prop :=
  (((s2 1012 0) ≤ x2_2 →
   K 0 s2) ∧
  (¬ (s2 1012 0) ≤ x2_2 →
   vp_in x2_2 10 ∧
   (∀ P31 : mz_St → Prop, (∀ (s31 : mz_St), mw_Moves_isStillRead_31 P2 x2_2 s31 → P31 s31) →
   ((¬ (mz_rd s2 56 x2_2) = 0 →
    P31 s2) ∧
   ((mz_rd s2 56 x2_2) = 0 →
    vp_in x2_2 10 ∧
    ((¬ (mz_rd s2 55 x2_2) = a0 →
     P31 s2) ∧
    ((mz_rd s2 55 x2_2) = a0 →
     K 1 s2)))))))
/-- ValueMill$Moves.isStillRead(I)Z: what it does, as a transformer of what must hold behind it -/
def mw_Moves_isStillRead (K : Int32 → mz_St → Prop) (a0 : Int32) (s0 : mz_St) : Prop :=
  (∀ P2 : Int32 → mz_St → Prop, (∀ (x2_2 : Int32) (s2 : mz_St), mw_Moves_isStillRead_2 K a0 P2 x2_2 s2 → P2 x2_2 s2) →
  P2 0 s0)
set_option maxRecDepth 100000 in
set_option maxHeartbeats 4000000 in
theorem ms_Moves_isStillRead (l : Launch) (E : mz_En) (hI : mz_Inj E) (K : Int32 → mz_St → Prop) (a0 : Int32) (s0 : mz_St) (h : mw_Moves_isStillRead K a0 s0) : mz_Ci l E my_Moves_isStillRead mb_Moves_isStillRead 3 (some .boolean) (0) (0) [.ref (E.2.1 8), .int a0] s0 K := by
  refine mz_cti hI (by decide +kernel) (Nat.le_of_ble_eq_true rfl) (fun X C R => ?_)
  show mz_G E X 3 0 [(0, .ref (E.2.1 8)), (1, .int a0)] [] s0
  unfold mw_Moves_isStillRead at h
  refine mr_iconst C md_Moves_isStillRead_0 mk_iconst_0 ?_
  refine mr_istore_n C (L' := [(2, .int 0), (0, .ref (E.2.1 8)), (1, .int a0)]) md_Moves_isStillRead_1 rfl (Nat.le_of_ble_eq_true rfl) rfl ?_
  refine mr_sub [1, 2, 0] rfl ?_
  refine h (fun (x2_2 : Int32) (s2 : mz_St) => mz_G E X 3 2 [(0, .ref (E.2.1 8)), (1, .int a0), (2, .int x2_2)] [] s2) (fun x2_2 s2 h => ?_)
  unfold mw_Moves_isStillRead_2 at h
  refine mr_iload_n C 2 md_Moves_isStillRead_2 rfl rfl ?_
  refine mr_aload_n C 0 md_Moves_isStillRead_3 rfl rfl ?_
  refine mr_get C 8 5 mc_Moves_cls ml_361 rfl (by decide) (by decide) (fun _ => rfl) rfl md_Moves_isStillRead_4 ?_
  refine mr_icmp_ge C md_Moves_isStillRead_7 rfl (fun hc => ?_) (fun hc => ?_)
  · replace h := h.1 hc
    refine mr_iconst C md_Moves_isStillRead_37 mk_iconst_0 ?_
    exact mr_zret C R mb_0 h md_Moves_isStillRead_38
  replace h := h.2 hc
  refine mr_aload_n C 0 md_Moves_isStillRead_10 rfl rfl ?_
  refine mr_get C 8 4 mc_Moves_cls ml_360 rfl (by decide) (by decide) (fun _ => rfl) rfl md_Moves_isStillRead_11 ?_
  refine mr_iload_n C 2 md_Moves_isStillRead_14 rfl rfl ?_
  refine mr_zald C 56 10 (by decide) (fun _ => rfl) h.1 md_Moves_isStillRead_15 ?_
  replace h := h.2
  refine mj (h (fun (s31 : mz_St) => mz_G E X 3 31 [(0, .ref (E.2.1 8)), (1, .int a0), (2, .int x2_2)] [] s31) (fun s31 h => ?_)) (fun h => ?_)
  · unfold mw_Moves_isStillRead_31 at h
    refine mr_iinc C (L' := [(2, .int (x2_2 + 1)), (0, .ref (E.2.1 8)), (1, .int a0)]) 2 md_Moves_isStillRead_31 rfl (mk_inc mk_iconst_1) (Nat.le_of_ble_eq_true rfl) rfl ?_
    refine mr_goto C md_Moves_isStillRead_34 rfl ?_
    refine mr_sub [1, 2, 0] rfl ?_
    exact h
  refine mr_if_ne C md_Moves_isStillRead_16 rfl (fun hc => ?_) (fun hc => ?_)
  · replace h := h.1 hc
    exact h
  replace h := h.2 hc
  refine mr_aload_n C 0 md_Moves_isStillRead_19 rfl rfl ?_
  refine mr_get C 8 3 mc_Moves_cls ml_359 rfl (by decide) (by decide) (fun _ => rfl) rfl md_Moves_isStillRead_20 ?_
  refine mr_iload_n C 2 md_Moves_isStillRead_23 rfl rfl ?_
  refine mr_iald C 55 10 (by decide) (fun _ => rfl) h.1 md_Moves_isStillRead_24 ?_
  replace h := h.2
  refine mr_iload_n C 1 md_Moves_isStillRead_25 rfl rfl ?_
  refine mr_icmp_ne C md_Moves_isStillRead_26 rfl (fun hc => ?_) (fun hc => ?_)
  · replace h := h.1 hc
    exact h
  replace h := h.2 hc
  refine mr_iconst C md_Moves_isStillRead_29 mk_iconst_1 ?_
  exact mr_zret C R mb_1 h md_Moves_isStillRead_30
def mw_Moves_firstReady_2 (K : Int32 → mz_St → Prop) (P2 : Int32 → mz_St → Prop) (x1_2 : Int32) (s2 : mz_St) : Prop :=
  (((s2 1012 0) ≤ x1_2 →
   K (-1) s2) ∧
  (¬ (s2 1012 0) ≤ x1_2 →
   vp_in x1_2 10 ∧
   mw_Moves_isStillRead (fun r1 u1 =>
    ((¬ r1 = 0 →
     P2 (x1_2 + 1) u1) ∧
    (r1 = 0 →
     K x1_2 u1))) (mz_rd s2 54 x1_2) s2))
/-- ValueMill$Moves.firstReady()I: what it does, as a transformer of what must hold behind it -/
def mw_Moves_firstReady (K : Int32 → mz_St → Prop) (s0 : mz_St) : Prop :=
  (∀ P2 : Int32 → mz_St → Prop, (∀ (x1_2 : Int32) (s2 : mz_St), mw_Moves_firstReady_2 K P2 x1_2 s2 → P2 x1_2 s2) →
  P2 0 s0)
set_option maxRecDepth 100000 in
set_option maxHeartbeats 4000000 in
theorem ms_Moves_firstReady (l : Launch) (E : mz_En) (hI : mz_Inj E) (K : Int32 → mz_St → Prop) (s0 : mz_St) (h : mw_Moves_firstReady K s0) : mz_Ci l E my_Moves_firstReady mb_Moves_firstReady 2 (some .int) (1) (22) [.ref (E.2.1 8)] s0 K := by
  refine mz_cti hI (by decide +kernel) (Nat.le_of_ble_eq_true rfl) (fun X C R => ?_)
  show mz_G E X 2 0 [(0, .ref (E.2.1 8))] [] s0
  unfold mw_Moves_firstReady at h
  refine mr_iconst C md_Moves_firstReady_0 mk_iconst_0 ?_
  refine mr_istore_n C (L' := [(1, .int 0), (0, .ref (E.2.1 8))]) md_Moves_firstReady_1 rfl (Nat.le_of_ble_eq_true rfl) rfl ?_
  refine mr_sub [1, 0] rfl ?_
  refine h (fun (x1_2 : Int32) (s2 : mz_St) => mz_G E X 2 2 [(0, .ref (E.2.1 8)), (1, .int x1_2)] [] s2) (fun x1_2 s2 h => ?_)
  unfold mw_Moves_firstReady_2 at h
  refine mr_iload_n C 1 md_Moves_firstReady_2 rfl rfl ?_
  refine mr_aload_n C 0 md_Moves_firstReady_3 rfl rfl ?_
  refine mr_get C 8 5 mc_Moves_cls ml_361 rfl (by decide) (by decide) (fun _ => rfl) rfl md_Moves_firstReady_4 ?_
  refine mr_icmp_ge C md_Moves_firstReady_7 rfl (fun hc => ?_) (fun hc => ?_)
  · replace h := h.1 hc
    refine mr_iconst C md_Moves_firstReady_31 mk_iconst_m1 ?_
    exact mr_iret C R h md_Moves_firstReady_32
  replace h := h.2 hc
  refine mr_aload_n C 0 md_Moves_firstReady_10 rfl rfl ?_
  refine mr_aload_n C 0 md_Moves_firstReady_11 rfl rfl ?_
  refine mr_get C 8 2 mc_Moves_cls ml_358 rfl (by decide) (by decide) (fun _ => rfl) rfl md_Moves_firstReady_12 ?_
  refine mr_iload_n C 1 md_Moves_firstReady_15 rfl rfl ?_
  refine mr_iald C 54 10 (by decide) (fun _ => rfl) h.1 md_Moves_firstReady_16 ?_
  replace h := h.2
  refine mr_cVi C (As := [.int (mz_rd s2 54 x1_2)]) (rest := []) 8 (ms_Moves_isStillRead _ E hI _ (mz_rd s2 54 x1_2) _ h) mo_Moves_isStillRead mi_Moves_isStillRead mc_Moves_cls ml_906 (by decide) (fun _ => rfl) rfl rfl (Nat.le_of_ble_eq_true rfl) (Nat.le_of_ble_eq_true rfl) (Nat.le_of_ble_eq_true rfl) md_Moves_firstReady_17 (fun r1 u1 h => ?_)
  refine mr_if_ne C md_Moves_firstReady_20 rfl (fun hc => ?_) (fun hc => ?_)
  · replace h := h.1 hc
    refine mr_iinc C (L' := [(1, .int (x1_2 + 1)), (0, .ref (E.2.1 8))]) 1 md_Moves_firstReady_25 rfl (mk_inc mk_iconst_1) (Nat.le_of_ble_eq_true rfl) rfl ?_
    refine mr_goto C md_Moves_firstReady_28 rfl ?_
    refine mr_sub [1, 0] rfl ?_
    exact h
  replace h := h.2 hc
  refine mr_iload_n C 1 md_Moves_firstReady_23 rfl rfl ?_
  exact mr_iret C R h md_Moves_firstReady_24
def mw_Moves_writeMove_61 (K : mz_St → Prop) (a0 : Int32) (a1 : Int32) (a2 : Int32) (s61 : mz_St) : Prop :=
  mw_Code_addMove (fun u2 =>
   K u2) a0 a1 a2 s61
def mw_Moves_writeMove_26 (K : mz_St → Prop) (a0 : Int32) (a1 : Int32) (a2 : Int32) (s26 : mz_St) : Prop :=
  mw_Code_addMove (fun u3 =>
   mw_Code_addMove (fun u4 =>
    K u4) a0 (u3 1008 0) 0 u3) (s26 1008 0) a1 a2 s26
/-- ValueMill$Moves.writeMove(IIZ)V: what it does, as a transformer of what must hold behind it -/
def mw_Moves_writeMove (K : mz_St → Prop) (a0 : Int32) (a1 : Int32) (a2 : Int32) (s0 : mz_St) : Prop :=
  mw_Homes_isSlot (fun r1 u1 =>
   (∀ P61 : mz_St → Prop, (∀ (s61 : mz_St), mw_Moves_writeMove_61 K a0 a1 a2 s61 → P61 s61) →
   ((r1 = 0 →
    P61 u1) ∧
   (¬ r1 = 0 →
    (∀ P26 : mz_St → Prop, (∀ (s26 : mz_St), mw_Moves_writeMove_26 K a0 a1 a2 s26 → P26 s26) →
    ((¬ a2 = 0 →
     P26 u1) ∧
    (a2 = 0 →
     mw_Homes_isSlot (fun r2 u5 =>
      ((r2 = 0 →
       P61 u5) ∧
      (¬ r2 = 0 →
       P26 u5))) a1 u1))))))) a0 s0
set_option maxRecDepth 100000 in
set_option maxHeartbeats 4000000 in
theorem ms_Moves_writeMove (l : Launch) (E : mz_En) (hI : mz_Inj E) (K : mz_St → Prop) (a0 : Int32) (a1 : Int32) (a2 : Int32) (s0 : mz_St) (h : mw_Moves_writeMove K a0 a1 a2 s0) : mz_Cv l E my_Moves_writeMove mb_Moves_writeMove 4 (2) (48) [.ref (E.2.1 8), .int a0, .int a1, .int a2] s0 K := by
  refine mz_ctv hI (by decide +kernel) (Nat.le_of_ble_eq_true rfl) (fun X C R => ?_)
  show mz_G E X 4 0 [(0, .ref (E.2.1 8)), (1, .int a0), (2, .int a1), (3, .int a2)] [] s0
  unfold mw_Moves_writeMove at h
  refine mr_aload_n C 0 md_Moves_writeMove_0 rfl rfl ?_
  refine mr_get C 8 0 mc_Moves_cls ml_356 rfl (by decide) (by decide) (fun _ => rfl) rfl md_Moves_writeMove_1 ?_
  refine mr_iload_n C 1 md_Moves_writeMove_4 rfl rfl ?_
  refine mr_cVNi C (As := [.int a0]) (rest := []) 6 (ms_Homes_isSlot _ E hI _ a0 _ h) mo_Homes_isSlot mi_Homes_isSlot mc_Homes_cls ml_914 (by decide) (fun _ => rfl) rfl rfl (Nat.le_of_ble_eq_true rfl) (Nat.le_of_ble_eq_true rfl) (Nat.le_of_ble_eq_true rfl) md_Moves_writeMove_5 (fun r1 u1 h => ?_)
  refine mj (h (fun (s61 : mz_St) => mz_G E X 4 61 [(0, .ref (E.2.1 8)), (1, .int a0), (2, .int a1), (3, .int a2)] [] s61) (fun s61 h => ?_)) (fun h => ?_)
  · unfold mw_Moves_writeMove_61 at h
    refine mr_aload_n C 0 md_Moves_writeMove_61 rfl rfl ?_
    refine mr_get C 8 1 mc_Moves_cls ml_357 rfl (by decide) (by decide) (fun _ => rfl) rfl md_Moves_writeMove_62 ?_
    refine mr_iload_n C 1 md_Moves_writeMove_65 rfl rfl ?_
    refine mr_iload_n C 2 md_Moves_writeMove_66 rfl rfl ?_
    refine mr_iload_n C 3 md_Moves_writeMove_67 rfl rfl ?_
    refine mr_cVNv C (As := [.int a0, .int a1, .int a2]) (rest := []) 7 (ms_Code_addMove _ E hI _ a0 a1 a2 _ h) mo_Code_addMove mi_Code_addMove mc_Code_cls ml_915 (by decide) (fun _ => rfl) rfl rfl (Nat.le_of_ble_eq_true rfl) (Nat.le_of_ble_eq_true rfl) (Nat.le_of_ble_eq_true rfl) md_Moves_writeMove_68 (fun u2 h => ?_)
    exact mr_vret C R h md_Moves_writeMove_71
  refine mr_if_eq C md_Moves_writeMove_8 rfl (fun hc => ?_) (fun hc => ?_)
  · replace h := h.1 hc
    exact h
  replace h := h.2 hc
  refine mr_iload_n C 3 md_Moves_writeMove_11 rfl rfl ?_
  refine mj (h (fun (s26 : mz_St) => mz_G E X 4 26 [(0, .ref (E.2.1 8)), (1, .int a0), (2, .int a1), (3, .int a2)] [] s26) (fun s26 h => ?_)) (fun h => ?_)
  · unfold mw_Moves_writeMove_26 at h
    refine mr_aload_n C 0 md_Moves_writeMove_26 rfl rfl ?_
    refine mr_get C 8 1 mc_Moves_cls ml_357 rfl (by decide) (by decide) (fun _ => rfl) rfl md_Moves_writeMove_27 ?_
    refine mr_aload_n C 0 md_Moves_writeMove_30 rfl rfl ?_
    refine mr_get C 8 0 mc_Moves_cls ml_356 rfl (by decide) (by decide) (fun _ => rfl) rfl md_Moves_writeMove_31 ?_
    refine mr_getN C 6 11 mc_Homes_cls ml_264 rfl (by decide) (by decide) (fun _ => rfl) rfl md_Moves_writeMove_34 ?_
    refine mr_iload_n C 2 md_Moves_writeMove_37 rfl rfl ?_
    refine mr_iload_n C 3 md_Moves_writeMove_38 rfl rfl ?_
    refine mr_cVNv C (As := [.int (s26 1008 0), .int a1, .int a2]) (rest := []) 7 (ms_Code_addMove _ E hI _ (s26 1008 0) a1 a2 _ h) mo_Code_addMove mi_Code_addMove mc_Code_cls ml_915 (by decide) (fun _ => rfl) rfl rfl (Nat.le_of_ble_eq_true rfl) (Nat.le_of_ble_eq_true rfl) (Nat.le_of_ble_eq_true rfl) md_Moves_writeMove_39 (fun u3 h => ?_)
    refine mr_aload_n C 0 md_Moves_writeMove_42 rfl rfl ?_
    refine mr_get C 8 1 mc_Moves_cls ml_357 rfl (by decide) (by decide) (fun _ => rfl) rfl md_Moves_writeMove_43 ?_
    refine mr_iload_n C 1 md_Moves_writeMove_46 rfl rfl ?_
    refine mr_aload_n C 0 md_Moves_writeMove_47 rfl rfl ?_
    refine mr_get C 8 0 mc_Moves_cls ml_356 rfl (by decide) (by decide) (fun _ => rfl) rfl md_Moves_writeMove_48 ?_
    refine mr_getN C 6 11 mc_Homes_cls ml_264 rfl (by decide) (by decide) (fun _ => rfl) rfl md_Moves_writeMove_51 ?_
    refine mr_iconst C md_Moves_writeMove_54 mk_iconst_0 ?_
    refine mr_cVNv C (As := [.int a0, .int (u3 1008 0), .int 0]) (rest := []) 7 (ms_Code_addMove _ E hI _ a0 (u3 1008 0) 0 _ h) mo_Code_addMove mi_Code_addMove mc_Code_cls ml_915 (by decide) (fun _ => rfl) rfl rfl (Nat.le_of_ble_eq_true rfl) (Nat.le_of_ble_eq_true rfl) (Nat.le_of_ble_eq_true rfl) md_Moves_writeMove_55 (fun u4 h => ?_)
    refine mr_goto C md_Moves_writeMove_58 rfl ?_
    exact mr_vret C R h md_Moves_writeMove_71
  refine mr_if_ne C md_Moves_writeMove_12 rfl (fun hc => ?_) (fun hc => ?_)
  · replace h := h.1 hc
    exact h
  replace h := h.2 hc
  refine mr_aload_n C 0 md_Moves_writeMove_15 rfl rfl ?_
  refine mr_get C 8 0 mc_Moves_cls ml_356 rfl (by decide) (by decide) (fun _ => rfl) rfl md_Moves_writeMove_16 ?_
  refine mr_iload_n C 2 md_Moves_writeMove_19 rfl rfl ?_
  refine mr_cVNi C (As := [.int a1]) (rest := []) 6 (ms_Homes_isSlot _ E hI _ a1 _ h) mo_Homes_isSlot mi_Homes_isSlot mc_Homes_cls ml_914 (by decide) (fun _ => rfl) rfl rfl (Nat.le_of_ble_eq_true rfl) (Nat.le_of_ble_eq_true rfl) (Nat.le_of_ble_eq_true rfl) md_Moves_writeMove_20 (fun r2 u5 h => ?_)
  refine mr_if_eq C md_Moves_writeMove_23 rfl (fun hc => ?_) (fun hc => ?_)
  · replace h := h.1 hc
    exact h
  replace h := h.2 hc
  exact h
def mw_Moves_readFromSpare_38 (P2 : Int32 → mz_St → Prop) (x2_2 : Int32) (s38 : mz_St) : Prop :=
  P2 (x2_2 + 1) s38
def mw_Moves_readFromSpare_2 (K : mz_St → Prop) (a0 : Int32) (P2 : Int32 → mz_St → Prop) (x2_2 : Int32) (s2 : mz_St) : Prop :=
  (((s2 1012 0) ≤ x2_2 →
   K s2) ∧
  (¬ (s2 1012 0) ≤ x2_2 →
   vp_in x2_2 10 ∧
   (∀ P38 : mz_St → Prop, (∀ (s38 : mz_St), mw_Moves_readFromSpare_38 P2 x2_2 s38 → P38 s38) →
   ((¬ (mz_rd s2 56 x2_2) = 0 →
    P38 s2) ∧
   ((mz_rd s2 56 x2_2) = 0 →
    vp_in x2_2 10 ∧
    ((¬ (mz_rd s2 55 x2_2) = a0 →
     P38 s2) ∧
    ((mz_rd s2 55 x2_2) = a0 →
     vp_in x2_2 10 ∧
     P38 (mz_wr s2 55 x2_2 229))))))))
/-- ValueMill$Moves.readFromSpare(I)V: what it does, as a transformer of what must hold behind it -/
def mw_Moves_readFromSpare (K : mz_St → Prop) (a0 : Int32) (s0 : mz_St) : Prop :=
  (∀ P2 : Int32 → mz_St → Prop, (∀ (x2_2 : Int32) (s2 : mz_St), mw_Moves_readFromSpare_2 K a0 P2 x2_2 s2 → P2 x2_2 s2) →
  P2 0 s0)
set_option maxRecDepth 100000 in
set_option maxHeartbeats 4000000 in
theorem ms_Moves_readFromSpare (l : Launch) (E : mz_En) (hI : mz_Inj E) (K : mz_St → Prop) (a0 : Int32) (s0 : mz_St) (h : mw_Moves_readFromSpare K a0 s0) : mz_Cv l E my_Moves_readFromSpare mb_Moves_readFromSpare 3 (0) (0) [.ref (E.2.1 8), .int a0] s0 K := by
  refine mz_ctv hI (by decide +kernel) (Nat.le_of_ble_eq_true rfl) (fun X C R => ?_)
  show mz_G E X 3 0 [(0, .ref (E.2.1 8)), (1, .int a0)] [] s0
  unfold mw_Moves_readFromSpare at h
  refine mr_iconst C md_Moves_readFromSpare_0 mk_iconst_0 ?_
  refine mr_istore_n C (L' := [(2, .int 0), (0, .ref (E.2.1 8)), (1, .int a0)]) md_Moves_readFromSpare_1 rfl (Nat.le_of_ble_eq_true rfl) rfl ?_
  refine mr_sub [1, 2, 0] rfl ?_
  refine h (fun (x2_2 : Int32) (s2 : mz_St) => mz_G E X 3 2 [(0, .ref (E.2.1 8)), (1, .int a0), (2, .int x2_2)] [] s2) (fun x2_2 s2 h => ?_)
  unfold mw_Moves_readFromSpare_2 at h
  refine mr_iload_n C 2 md_Moves_readFromSpare_2 rfl rfl ?_
  refine mr_aload_n C 0 md_Moves_readFromSpare_3 rfl rfl ?_
  refine mr_get C 8 5 mc_Moves_cls ml_361 rfl (by decide) (by decide) (fun _ => rfl) rfl md_Moves_readFromSpare_4 ?_
  refine mr_icmp_ge C md_Moves_readFromSpare_7 rfl (fun hc => ?_) (fun hc => ?_)
  · replace h := h.1 hc
    exact mr_vret C R h md_Moves_readFromSpare_44
  replace h := h.2 hc
  refine mr_aload_n C 0 md_Moves_readFromSpare_10 rfl rfl ?_
  refine mr_get C 8 4 mc_Moves_cls ml_360 rfl (by decide) (by decide) (fun _ => rfl) rfl md_Moves_readFromSpare_11 ?_
  refine mr_iload_n C 2 md_Moves_readFromSpare_14 rfl rfl ?_
  refine mr_zald C 56 10 (by decide) (fun _ => rfl) h.1 md_Moves_readFromSpare_15 ?_
  replace h := h.2
  refine mj (h (fun (s38 : mz_St) => mz_G E X 3 38 [(0, .ref (E.2.1 8)), (1, .int a0), (2, .int x2_2)] [] s38) (fun s38 h => ?_)) (fun h => ?_)
  · unfold mw_Moves_readFromSpare_38 at h
    refine mr_iinc C (L' := [(2, .int (x2_2 + 1)), (0, .ref (E.2.1 8)), (1, .int a0)]) 2 md_Moves_readFromSpare_38 rfl (mk_inc mk_iconst_1) (Nat.le_of_ble_eq_true rfl) rfl ?_
    refine mr_goto C md_Moves_readFromSpare_41 rfl ?_
    refine mr_sub [1, 2, 0] rfl ?_
    exact h
  refine mr_if_ne C md_Moves_readFromSpare_16 rfl (fun hc => ?_) (fun hc => ?_)
  · replace h := h.1 hc
    exact h
  replace h := h.2 hc
  refine mr_aload_n C 0 md_Moves_readFromSpare_19 rfl rfl ?_
  refine mr_get C 8 3 mc_Moves_cls ml_359 rfl (by decide) (by decide) (fun _ => rfl) rfl md_Moves_readFromSpare_20 ?_
  refine mr_iload_n C 2 md_Moves_readFromSpare_23 rfl rfl ?_
  refine mr_iald C 55 10 (by decide) (fun _ => rfl) h.1 md_Moves_readFromSpare_24 ?_
  replace h := h.2
  refine mr_iload_n C 1 md_Moves_readFromSpare_25 rfl rfl ?_
  refine mr_icmp_ne C md_Moves_readFromSpare_26 rfl (fun hc => ?_) (fun hc => ?_)
  · replace h := h.1 hc
    exact h
  replace h := h.2 hc
  refine mr_aload_n C 0 md_Moves_readFromSpare_29 rfl rfl ?_
  refine mr_get C 8 3 mc_Moves_cls ml_359 rfl (by decide) (by decide) (fun _ => rfl) rfl md_Moves_readFromSpare_30 ?_
  refine mr_iload_n C 2 md_Moves_readFromSpare_33 rfl rfl ?_
  refine mr_sipush C md_Moves_readFromSpare_34 mk_sipush_229 ?_
  refine mr_iast C 55 10 (by decide) (by decide) (fun _ _ => rfl) h.1 md_Moves_readFromSpare_37 ?_
  replace h := h.2
  exact h
/-- ValueMill$Moves.takeOut(I)V: what it does, as a transformer of what must hold behind it -/
def mw_Moves_takeOut (K : mz_St → Prop) (a0 : Int32) (s0 : mz_St) : Prop :=
  vp_in ((mz_up s0 1012 0 ((s0 1012 0) - 1)) 1012 0) 10 ∧
  vp_in a0 10 ∧
  vp_in ((mz_wr (mz_up s0 1012 0 ((s0 1012 0) - 1)) 54 a0 (mz_rd (mz_up s0 1012 0 ((s0 1012 0) - 1)) 54 ((mz_up s0 1012 0 ((s0 1012 0) - 1)) 1012 0))) 1012 0) 10 ∧
  vp_in a0 10 ∧
  vp_in ((mz_wr (mz_wr (mz_up s0 1012 0 ((s0 1012 0) - 1)) 54 a0 (mz_rd (mz_up s0 1012 0 ((s0 1012 0) - 1)) 54 ((mz_up s0 1012 0 ((s0 1012 0) - 1)) 1012 0))) 55 a0 (mz_rd (mz_wr (mz_up s0 1012 0 ((s0 1012 0) - 1)) 54 a0 (mz_rd (mz_up s0 1012 0 ((s0 1012 0) - 1)) 54 ((mz_up s0 1012 0 ((s0 1012 0) - 1)) 1012 0))) 55 ((mz_wr (mz_up s0 1012 0 ((s0 1012 0) - 1)) 54 a0 (mz_rd (mz_up s0 1012 0 ((s0 1012 0) - 1)) 54 ((mz_up s0 1012 0 ((s0 1012 0) - 1)) 1012 0))) 1012 0))) 1012 0) 10 ∧
  (vp_in a0 10 ∧ ((mz_rd (mz_wr (mz_wr (mz_up s0 1012 0 ((s0 1012 0) - 1)) 54 a0 (mz_rd (mz_up s0 1012 0 ((s0 1012 0) - 1)) 54 ((mz_up s0 1012 0 ((s0 1012 0) - 1)) 1012 0))) 55 a0 (mz_rd (mz_wr (mz_up s0 1012 0 ((s0 1012 0) - 1)) 54 a0 (mz_rd (mz_up s0 1012 0 ((s0 1012 0) - 1)) 54 ((mz_up s0 1012 0 ((s0 1012 0) - 1)) 1012 0))) 55 ((mz_wr (mz_up s0 1012 0 ((s0 1012 0) - 1)) 54 a0 (mz_rd (mz_up s0 1012 0 ((s0 1012 0) - 1)) 54 ((mz_up s0 1012 0 ((s0 1012 0) - 1)) 1012 0))) 1012 0))) 56 ((mz_wr (mz_wr (mz_up s0 1012 0 ((s0 1012 0) - 1)) 54 a0 (mz_rd (mz_up s0 1012 0 ((s0 1012 0) - 1)) 54 ((mz_up s0 1012 0 ((s0 1012 0) - 1)) 1012 0))) 55 a0 (mz_rd (mz_wr (mz_up s0 1012 0 ((s0 1012 0) - 1)) 54 a0 (mz_rd (mz_up s0 1012 0 ((s0 1012 0) - 1)) 54 ((mz_up s0 1012 0 ((s0 1012 0) - 1)) 1012 0))) 55 ((mz_wr (mz_up s0 1012 0 ((s0 1012 0) - 1)) 54 a0 (mz_rd (mz_up s0 1012 0 ((s0 1012 0) - 1)) 54 ((mz_up s0 1012 0 ((s0 1012 0) - 1)) 1012 0))) 1012 0))) 1012 0)) = 0 ∨ (mz_rd (mz_wr (mz_wr (mz_up s0 1012 0 ((s0 1012 0) - 1)) 54 a0 (mz_rd (mz_up s0 1012 0 ((s0 1012 0) - 1)) 54 ((mz_up s0 1012 0 ((s0 1012 0) - 1)) 1012 0))) 55 a0 (mz_rd (mz_wr (mz_up s0 1012 0 ((s0 1012 0) - 1)) 54 a0 (mz_rd (mz_up s0 1012 0 ((s0 1012 0) - 1)) 54 ((mz_up s0 1012 0 ((s0 1012 0) - 1)) 1012 0))) 55 ((mz_wr (mz_up s0 1012 0 ((s0 1012 0) - 1)) 54 a0 (mz_rd (mz_up s0 1012 0 ((s0 1012 0) - 1)) 54 ((mz_up s0 1012 0 ((s0 1012 0) - 1)) 1012 0))) 1012 0))) 56 ((mz_wr (mz_wr (mz_up s0 1012 0 ((s0 1012 0) - 1)) 54 a0 (mz_rd (mz_up s0 1012 0 ((s0 1012 0) - 1)) 54 ((mz_up s0 1012 0 ((s0 1012 0) - 1)) 1012 0))) 55 a0 (mz_rd (mz_wr (mz_up s0 1012 0 ((s0 1012 0) - 1)) 54 a0 (mz_rd (mz_up s0 1012 0 ((s0 1012 0) - 1)) 54 ((mz_up s0 1012 0 ((s0 1012 0) - 1)) 1012 0))) 55 ((mz_wr (mz_up s0 1012 0 ((s0 1012 0) - 1)) 54 a0 (mz_rd (mz_up s0 1012 0 ((s0 1012 0) - 1)) 54 ((mz_up s0 1012 0 ((s0 1012 0) - 1)) 1012 0))) 1012 0))) 1012 0)) = 1)) ∧
  K (mz_wr (mz_wr (mz_wr (mz_up s0 1012 0 ((s0 1012 0) - 1)) 54 a0 (mz_rd (mz_up s0 1012 0 ((s0 1012 0) - 1)) 54 ((mz_up s0 1012 0 ((s0 1012 0) - 1)) 1012 0))) 55 a0 (mz_rd (mz_wr (mz_up s0 1012 0 ((s0 1012 0) - 1)) 54 a0 (mz_rd (mz_up s0 1012 0 ((s0 1012 0) - 1)) 54 ((mz_up s0 1012 0 ((s0 1012 0) - 1)) 1012 0))) 55 ((mz_wr (mz_up s0 1012 0 ((s0 1012 0) - 1)) 54 a0 (mz_rd (mz_up s0 1012 0 ((s0 1012 0) - 1)) 54 ((mz_up s0 1012 0 ((s0 1012 0) - 1)) 1012 0))) 1012 0))) 56 a0 (mz_rd (mz_wr (mz_wr (mz_up s0 1012 0 ((s0 1012 0) - 1)) 54 a0 (mz_rd (mz_up s0 1012 0 ((s0 1012 0) - 1)) 54 ((mz_up s0 1012 0 ((s0 1012 0) - 1)) 1012 0))) 55 a0 (mz_rd (mz_wr (mz_up s0 1012 0 ((s0 1012 0) - 1)) 54 a0 (mz_rd (mz_up s0 1012 0 ((s0 1012 0) - 1)) 54 ((mz_up s0 1012 0 ((s0 1012 0) - 1)) 1012 0))) 55 ((mz_wr (mz_up s0 1012 0 ((s0 1012 0) - 1)) 54 a0 (mz_rd (mz_up s0 1012 0 ((s0 1012 0) - 1)) 54 ((mz_up s0 1012 0 ((s0 1012 0) - 1)) 1012 0))) 1012 0))) 56 ((mz_wr (mz_wr (mz_up s0 1012 0 ((s0 1012 0) - 1)) 54 a0 (mz_rd (mz_up s0 1012 0 ((s0 1012 0) - 1)) 54 ((mz_up s0 1012 0 ((s0 1012 0) - 1)) 1012 0))) 55 a0 (mz_rd (mz_wr (mz_up s0 1012 0 ((s0 1012 0) - 1)) 54 a0 (mz_rd (mz_up s0 1012 0 ((s0 1012 0) - 1)) 54 ((mz_up s0 1012 0 ((s0 1012 0) - 1)) 1012 0))) 55 ((mz_wr (mz_up s0 1012 0 ((s0 1012 0) - 1)) 54 a0 (mz_rd (mz_up s0 1012 0 ((s0 1012 0) - 1)) 54 ((mz_up s0 1012 0 ((s0 1012 0) - 1)) 1012 0))) 1012 0))) 1012 0)))
set_option maxRecDepth 100000 in
set_option maxHeartbeats 4000000 in
theorem ms_Moves_takeOut (l : Launch) (E : mz_En) (hI : mz_Inj E) (K : mz_St → Prop) (a0 : Int32) (s0 : mz_St) (h : mw_Moves_takeOut K a0 s0) : mz_Cv l E my_Moves_takeOut mb_Moves_takeOut 2 (0) (0) [.ref (E.2.1 8), .int a0] s0 K := by
  refine mz_ctv hI (by decide +kernel) (Nat.le_of_ble_eq_true rfl) (fun X C R => ?_)
  show mz_G E X 2 0 [(0, .ref (E.2.1 8)), (1, .int a0)] [] s0
  unfold mw_Moves_takeOut at h
  refine mr_aload_n C 0 md_Moves_takeOut_0 rfl rfl ?_
  refine mr_dup C md_Moves_takeOut_1 rfl ?_
  refine mr_get C 8 5 mc_Moves_cls ml_361 rfl (by decide) (by decide) (fun _ => rfl) rfl md_Moves_takeOut_2 ?_
  refine mr_iconst C md_Moves_takeOut_5 mk_iconst_1 ?_
  refine mr_isub C md_Moves_takeOut_6 ?_
  refine mr_put C (t0 := .int) 8 5 1012 mc_Moves_cls ml_361 rfl (by decide) (by decide) (fun _ => rfl) rfl (by decide +kernel) rfl rfl (Nat.le_of_ble_eq_true rfl) (fun _ => rfl) (mp_1012 E _) md_Moves_takeOut_7 ?_
  refine mr_aload_n C 0 md_Moves_takeOut_10 rfl rfl ?_
  refine mr_get C 8 2 mc_Moves_cls ml_358 rfl (by decide) (by decide) (fun _ => rfl) rfl md_Moves_takeOut_11 ?_
  refine mr_iload_n C 1 md_Moves_takeOut_14 rfl rfl ?_
  refine mr_aload_n C 0 md_Moves_takeOut_15 rfl rfl ?_
  refine mr_get C 8 2 mc_Moves_cls ml_358 rfl (by decide) (by decide) (fun _ => rfl) rfl md_Moves_takeOut_16 ?_
  refine mr_aload_n C 0 md_Moves_takeOut_19 rfl rfl ?_
  refine mr_get C 8 5 mc_Moves_cls ml_361 rfl (by decide) (by decide) (fun _ => rfl) rfl md_Moves_takeOut_20 ?_
  refine mr_iald C 54 10 (by decide) (fun _ => rfl) h.1 md_Moves_takeOut_23 ?_
  replace h := h.2
  refine mr_iast C 54 10 (by decide) (by decide) (fun _ _ => rfl) h.1 md_Moves_takeOut_24 ?_
  replace h := h.2
  refine mr_aload_n C 0 md_Moves_takeOut_25 rfl rfl ?_
  refine mr_get C 8 3 mc_Moves_cls ml_359 rfl (by decide) (by decide) (fun _ => rfl) rfl md_Moves_takeOut_26 ?_
  refine mr_iload_n C 1 md_Moves_takeOut_29 rfl rfl ?_
  refine mr_aload_n C 0 md_Moves_takeOut_30 rfl rfl ?_
  refine mr_get C 8 3 mc_Moves_cls ml_359 rfl (by decide) (by decide) (fun _ => rfl) rfl md_Moves_takeOut_31 ?_
  refine mr_aload_n C 0 md_Moves_takeOut_34 rfl rfl ?_
  refine mr_get C 8 5 mc_Moves_cls ml_361 rfl (by decide) (by decide) (fun _ => rfl) rfl md_Moves_takeOut_35 ?_
  refine mr_iald C 55 10 (by decide) (fun _ => rfl) h.1 md_Moves_takeOut_38 ?_
  replace h := h.2
  refine mr_iast C 55 10 (by decide) (by decide) (fun _ _ => rfl) h.1 md_Moves_takeOut_39 ?_
  replace h := h.2
  refine mr_aload_n C 0 md_Moves_takeOut_40 rfl rfl ?_
  refine mr_get C 8 4 mc_Moves_cls ml_360 rfl (by decide) (by decide) (fun _ => rfl) rfl md_Moves_takeOut_41 ?_
  refine mr_iload_n C 1 md_Moves_takeOut_44 rfl rfl ?_
  refine mr_aload_n C 0 md_Moves_takeOut_45 rfl rfl ?_
  refine mr_get C 8 4 mc_Moves_cls ml_360 rfl (by decide) (by decide) (fun _ => rfl) rfl md_Moves_takeOut_46 ?_
  refine mr_aload_n C 0 md_Moves_takeOut_49 rfl rfl ?_
  refine mr_get C 8 5 mc_Moves_cls ml_361 rfl (by decide) (by decide) (fun _ => rfl) rfl md_Moves_takeOut_50 ?_
  refine mr_zald C 56 10 (by decide) (fun _ => rfl) h.1 md_Moves_takeOut_53 ?_
  replace h := h.2
  refine mr_zast C 56 10 (by decide) (by decide) (fun _ _ => rfl) h.1.1 h.1.2 md_Moves_takeOut_54 ?_
  replace h := h.2
  exact mr_vret C R h md_Moves_takeOut_55
def mw_Moves_write_79 (P2 : Int32 → mz_St → Prop) (x1_2 : Int32) (s79 : mz_St) : Prop :=
  P2 (x1_2 + 1) s79
def mw_Moves_write_2 (K : mz_St → Prop) (P2 : Int32 → mz_St → Prop) (x1_2 : Int32) (s2 : mz_St) : Prop :=
  ((20 ≤ x1_2 →
   K s2) ∧
  (¬ 20 ≤ x1_2 →
   (((s2 1012 0) ≤ 0 →
    K s2) ∧
   (¬ (s2 1012 0) ≤ 0 →
    mw_Moves_firstReady (fun r1 u1 =>
     (∀ P79 : mz_St → Prop, (∀ (s79 : mz_St), mw_Moves_write_79 P2 x1_2 s79 → P79 s79) →
     ((¬ r1 = (-1) →
      vp_in r1 10 ∧
      vp_in r1 10 ∧
      vp_in r1 10 ∧
      mw_Moves_writeMove (fun u2 =>
       mw_Moves_takeOut (fun u3 =>
        P79 u3) r1 u2) (mz_rd u1 54 r1) (mz_rd u1 55 r1) (mz_rd u1 56 r1) u1) ∧
     (r1 = (-1) →
      vp_in 0 10 ∧
      mw_Moves_writeMove (fun u4 =>
       vp_in 0 10 ∧
       mw_Moves_readFromSpare (fun u5 =>
        P79 u5) (mz_rd u4 54 0) u4) 229 (mz_rd u1 54 0) 0 u1)))) s2))))
/-- ValueMill$Moves.write()V: what it does, as a transformer of what must hold behind it -/
def mw_Moves_write (K : mz_St → Prop) (s0 : mz_St) : Prop :=
  (∀ P2 : Int32 → mz_St → Prop, (∀ (x1_2 : Int32) (s2 : mz_St), mw_Moves_write_2 K P2 x1_2 s2 → P2 x1_2 s2) →
  P2 0 s0)
set_option maxRecDepth 100000 in
set_option maxHeartbeats 4000000 in
theorem ms_Moves_write (l : Launch) (E : mz_En) (hI : mz_Inj E) (K : mz_St → Prop) (s0 : mz_St) (h : mw_Moves_write K s0) : mz_Cv l E my_Moves_write mb_Moves_write 3 (3) (71) [.ref (E.2.1 8)] s0 K := by
  refine mz_ctv hI (by decide +kernel) (Nat.le_of_ble_eq_true rfl) (fun X C R => ?_)
  show mz_G E X 3 0 [(0, .ref (E.2.1 8))] [] s0
  unfold mw_Moves_write at h
  refine mr_iconst C md_Moves_write_0 mk_iconst_0 ?_
  refine mr_istore_n C (L' := [(1, .int 0), (0, .ref (E.2.1 8))]) md_Moves_write_1 rfl (Nat.le_of_ble_eq_true rfl) rfl ?_
  refine mr_sub [1, 0] rfl ?_
  refine h (fun (x1_2 : Int32) (s2 : mz_St) => mz_G E X 3 2 [(0, .ref (E.2.1 8)), (1, .int x1_2)] [] s2) (fun x1_2 s2 h => ?_)
  unfold mw_Moves_write_2 at h
  refine mr_iload_n C 1 md_Moves_write_2 rfl rfl ?_
  refine mr_bipush C md_Moves_write_3 mk_bipush_20 ?_
  refine mr_icmp_ge C md_Moves_write_5 rfl (fun hc => ?_) (fun hc => ?_)
  · replace h := h.1 hc
    exact mr_vret C R h md_Moves_write_85
  replace h := h.2 hc
  refine mr_aload_n C 0 md_Moves_write_8 rfl rfl ?_
  refine mr_get C 8 5 mc_Moves_cls ml_361 rfl (by decide) (by decide) (fun _ => rfl) rfl md_Moves_write_9 ?_
  refine mr_if_le C md_Moves_write_12 rfl (fun hc => ?_) (fun hc => ?_)
  · replace h := h.1 hc
    exact mr_vret C R h md_Moves_write_85
  replace h := h.2 hc
  refine mr_aload_n C 0 md_Moves_write_15 rfl rfl ?_
  refine mr_cVi C (As := []) (rest := []) 8 (ms_Moves_firstReady _ E hI _  _ h) mo_Moves_firstReady mi_Moves_firstReady mc_Moves_cls ml_902 (by decide) (fun _ => rfl) rfl rfl (Nat.le_of_ble_eq_true rfl) (Nat.le_of_ble_eq_true rfl) (Nat.le_of_ble_eq_true rfl) md_Moves_write_16 (fun r1 u1 h => ?_)
  refine mr_istore_n C (L' := [(2, .int r1), (0, .ref (E.2.1 8)), (1, .int x1_2)]) md_Moves_write_19 rfl (Nat.le_of_ble_eq_true rfl) rfl ?_
  refine mr_iload_n C 0 md_Moves_write_20 rfl rfl ?_
  refine mr_iconst C md_Moves_write_21 mk_iconst_m1 ?_
  refine mj (h (fun (s79 : mz_St) => mz_G E X 3 79 [(0, .ref (E.2.1 8)), (1, .int x1_2)] [] s79) (fun s79 h => ?_)) (fun h => ?_)
  · unfold mw_Moves_write_79 at h
    refine mr_iinc C (L' := [(1, .int (x1_2 + 1)), (0, .ref (E.2.1 8))]) 1 md_Moves_write_79 rfl (mk_inc mk_iconst_1) (Nat.le_of_ble_eq_true rfl) rfl ?_
    refine mr_goto C md_Moves_write_82 rfl ?_
    refine mr_sub [1, 0] rfl ?_
    exact h
  refine mr_icmp_ne C md_Moves_write_22 rfl (fun hc => ?_) (fun hc => ?_)
  · replace h := h.1 hc
    refine mr_aload_n C 1 md_Moves_write_52 rfl rfl ?_
    refine mr_aload_n C 1 md_Moves_write_53 rfl rfl ?_
    refine mr_get C 8 2 mc_Moves_cls ml_358 rfl (by decide) (by decide) (fun _ => rfl) rfl md_Moves_write_54 ?_
    refine mr_iload_n C 0 md_Moves_write_57 rfl rfl ?_
    refine mr_iald C 54 10 (by decide) (fun _ => rfl) h.1 md_Moves_write_58 ?_
    replace h := h.2
    refine mr_aload_n C 1 md_Moves_write_59 rfl rfl ?_
    refine mr_get C 8 3 mc_Moves_cls ml_359 rfl (by decide) (by decide) (fun _ => rfl) rfl md_Moves_write_60 ?_
    refine mr_iload_n C 0 md_Moves_write_63 rfl rfl ?_
    refine mr_iald C 55 10 (by decide) (fun _ => rfl) h.1 md_Moves_write_64 ?_
    replace h := h.2
    refine mr_aload_n C 1 md_Moves_write_65 rfl rfl ?_
    refine mr_get C 8 4 mc_Moves_cls ml_360 rfl (by decide) (by decide) (fun _ => rfl) rfl md_Moves_write_66 ?_
    refine mr_iload_n C 0 md_Moves_write_69 rfl rfl ?_
    refine mr_zald C 56 10 (by decide) (fun _ => rfl) h.1 md_Moves_write_70 ?_
    replace h := h.2
    refine mr_cVv C (As := [.int (mz_rd u1 54 r1), .int (mz_rd u1 55 r1), .int (mz_rd u1 56 r1)]) (rest := []) 8 (ms_Moves_writeMove _ E hI _ (mz_rd u1 54 r1) (mz_rd u1 55 r1) (mz_rd u1 56 r1) _ h) mo_Moves_writeMove mi_Moves_writeMove mc_Moves_cls ml_910 (by decide) (fun _ => rfl) rfl rfl (Nat.le_of_ble_eq_true rfl) (Nat.le_of_ble_eq_true rfl) (Nat.le_of_ble_eq_true rfl) md_Moves_write_71 (fun u2 h => ?_)
    refine mr_aload_n C 1 md_Moves_write_74 rfl rfl ?_
    refine mr_iload_n C 0 md_Moves_write_75 rfl rfl ?_
    refine mr_cVv C (As := [.int r1]) (rest := []) 8 (ms_Moves_takeOut _ E hI _ r1 _ h) mo_Moves_takeOut mi_Moves_takeOut mc_Moves_cls ml_920 (by decide) (fun _ => rfl) rfl rfl (Nat.le_of_ble_eq_true rfl) (Nat.le_of_ble_eq_true rfl) (Nat.le_of_ble_eq_true rfl) md_Moves_write_76 (fun u3 h => ?_)
    refine mr_sub [1, 2] rfl ?_
    exact h
  replace h := h.2 hc
  refine mr_aload_n C 1 md_Moves_write_25 rfl rfl ?_
  refine mr_sipush C md_Moves_write_26 mk_sipush_229 ?_
  refine mr_aload_n C 1 md_Moves_write_29 rfl rfl ?_
  refine mr_get C 8 2 mc_Moves_cls ml_358 rfl (by decide) (by decide) (fun _ => rfl) rfl md_Moves_write_30 ?_
  refine mr_iconst C md_Moves_write_33 mk_iconst_0 ?_
  refine mr_iald C 54 10 (by decide) (fun _ => rfl) h.1 md_Moves_write_34 ?_
  replace h := h.2
  refine mr_iconst C md_Moves_write_35 mk_iconst_0 ?_
  refine mr_cVv C (As := [.int 229, .int (mz_rd u1 54 0), .int 0]) (rest := []) 8 (ms_Moves_writeMove _ E hI _ 229 (mz_rd u1 54 0) 0 _ h) mo_Moves_writeMove mi_Moves_writeMove mc_Moves_cls ml_910 (by decide) (fun _ => rfl) rfl rfl (Nat.le_of_ble_eq_true rfl) (Nat.le_of_ble_eq_true rfl) (Nat.le_of_ble_eq_true rfl) md_Moves_write_36 (fun u4 h => ?_)
  refine mr_aload_n C 1 md_Moves_write_39 rfl rfl ?_
  refine mr_aload_n C 1 md_Moves_write_40 rfl rfl ?_
  refine mr_get C 8 2 mc_Moves_cls ml_358 rfl (by decide) (by decide) (fun _ => rfl) rfl md_Moves_write_41 ?_
  refine mr_iconst C md_Moves_write_44 mk_iconst_0 ?_
  refine mr_iald C 54 10 (by decide) (fun _ => rfl) h.1 md_Moves_write_45 ?_
  replace h := h.2
  refine mr_cVv C (As := [.int (mz_rd u4 54 0)]) (rest := []) 8 (ms_Moves_readFromSpare _ E hI _ (mz_rd u4 54 0) _ h) mo_Moves_readFromSpare mi_Moves_readFromSpare mc_Moves_cls ml_916 (by decide) (fun _ => rfl) rfl rfl (Nat.le_of_ble_eq_true rfl) (Nat.le_of_ble_eq_true rfl) (Nat.le_of_ble_eq_true rfl) md_Moves_write_46 (fun u5 h => ?_)
  refine mr_goto C md_Moves_write_49 rfl ?_
  refine mr_sub [1, 2] rfl ?_
  exact h

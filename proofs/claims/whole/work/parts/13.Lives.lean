/-! BEGIN Lives: its instructions, what each method does (mw_), that its bytecode does it (ms_): printed -/
theorem md_Lives_findReadsAndWrites_0 : mz_d mb_Lives_findReadsAndWrites 0 (.iconst 0) 1 1 := ⟨by decide +kernel, rfl⟩
theorem md_Lives_findReadsAndWrites_1 : mz_d mb_Lives_findReadsAndWrites 1 (.istore_n 2) 1 2 := ⟨by decide +kernel, rfl⟩
theorem md_Lives_findReadsAndWrites_2 : mz_d mb_Lives_findReadsAndWrites 2 (.iconst 0) 1 3 := ⟨by decide +kernel, rfl⟩
theorem md_Lives_findReadsAndWrites_3 : mz_d mb_Lives_findReadsAndWrites 3 (.istore_n 3) 1 4 := ⟨by decide +kernel, rfl⟩
theorem md_Lives_findReadsAndWrites_4 : mz_d mb_Lives_findReadsAndWrites 4 (.iload_n 1) 1 5 := ⟨by decide +kernel, rfl⟩
theorem md_Lives_findReadsAndWrites_5 : mz_d mb_Lives_findReadsAndWrites 5 (.bipush 12) 2 7 := ⟨by decide +kernel, rfl⟩
theorem md_Lives_findReadsAndWrites_7 : mz_d mb_Lives_findReadsAndWrites 7 (.imul) 1 8 := ⟨by decide +kernel, rfl⟩
theorem md_Lives_findReadsAndWrites_8 : mz_d mb_Lives_findReadsAndWrites 8 (.istore 4) 2 10 := ⟨by decide +kernel, rfl⟩
theorem md_Lives_findReadsAndWrites_10 : mz_d mb_Lives_findReadsAndWrites 10 (.iload 4) 2 12 := ⟨by decide +kernel, rfl⟩
theorem md_Lives_findReadsAndWrites_12 : mz_d mb_Lives_findReadsAndWrites 12 (.iload_n 1) 1 13 := ⟨by decide +kernel, rfl⟩
theorem md_Lives_findReadsAndWrites_13 : mz_d mb_Lives_findReadsAndWrites 13 (.bipush 12) 2 15 := ⟨by decide +kernel, rfl⟩
theorem md_Lives_findReadsAndWrites_15 : mz_d mb_Lives_findReadsAndWrites 15 (.imul) 1 16 := ⟨by decide +kernel, rfl⟩
theorem md_Lives_findReadsAndWrites_16 : mz_d mb_Lives_findReadsAndWrites 16 (.aload_n 0) 1 17 := ⟨by decide +kernel, rfl⟩
theorem md_Lives_findReadsAndWrites_17 : mz_d mb_Lives_findReadsAndWrites 17 (.getfield 24) 3 20 := ⟨by decide +kernel, rfl⟩
theorem md_Lives_findReadsAndWrites_20 : mz_d mb_Lives_findReadsAndWrites 20 (.getfield 49) 3 23 := ⟨by decide +kernel, rfl⟩
theorem md_Lives_findReadsAndWrites_23 : mz_d mb_Lives_findReadsAndWrites 23 (.iload_n 1) 1 24 := ⟨by decide +kernel, rfl⟩
theorem md_Lives_findReadsAndWrites_24 : mz_d mb_Lives_findReadsAndWrites 24 (.iaload) 1 25 := ⟨by decide +kernel, rfl⟩
theorem md_Lives_findReadsAndWrites_25 : mz_d mb_Lives_findReadsAndWrites 25 (.iadd) 1 26 := ⟨by decide +kernel, rfl⟩
theorem md_Lives_findReadsAndWrites_26 : mz_d mb_Lives_findReadsAndWrites 26 (.if_icmp .ge 37) 3 29 := ⟨by decide +kernel, rfl⟩
theorem md_Lives_findReadsAndWrites_29 : mz_d mb_Lives_findReadsAndWrites 29 (.iload_n 2) 1 30 := ⟨by decide +kernel, rfl⟩
theorem md_Lives_findReadsAndWrites_30 : mz_d mb_Lives_findReadsAndWrites 30 (.aload_n 0) 1 31 := ⟨by decide +kernel, rfl⟩
theorem md_Lives_findReadsAndWrites_31 : mz_d mb_Lives_findReadsAndWrites 31 (.getfield 24) 3 34 := ⟨by decide +kernel, rfl⟩
theorem md_Lives_findReadsAndWrites_34 : mz_d mb_Lives_findReadsAndWrites 34 (.iload 4) 2 36 := ⟨by decide +kernel, rfl⟩
theorem md_Lives_findReadsAndWrites_36 : mz_d mb_Lives_findReadsAndWrites 36 (.invokevirtual 52) 3 39 := ⟨by decide +kernel, rfl⟩
theorem md_Lives_findReadsAndWrites_39 : mz_d mb_Lives_findReadsAndWrites 39 (.iload_n 3) 1 40 := ⟨by decide +kernel, rfl⟩
theorem md_Lives_findReadsAndWrites_40 : mz_d mb_Lives_findReadsAndWrites 40 (.iconst (-1)) 1 41 := ⟨by decide +kernel, rfl⟩
theorem md_Lives_findReadsAndWrites_41 : mz_d mb_Lives_findReadsAndWrites 41 (.ixor) 1 42 := ⟨by decide +kernel, rfl⟩
theorem md_Lives_findReadsAndWrites_42 : mz_d mb_Lives_findReadsAndWrites 42 (.iand) 1 43 := ⟨by decide +kernel, rfl⟩
theorem md_Lives_findReadsAndWrites_43 : mz_d mb_Lives_findReadsAndWrites 43 (.ior) 1 44 := ⟨by decide +kernel, rfl⟩
theorem md_Lives_findReadsAndWrites_44 : mz_d mb_Lives_findReadsAndWrites 44 (.istore_n 2) 1 45 := ⟨by decide +kernel, rfl⟩
theorem md_Lives_findReadsAndWrites_45 : mz_d mb_Lives_findReadsAndWrites 45 (.iload_n 3) 1 46 := ⟨by decide +kernel, rfl⟩
theorem md_Lives_findReadsAndWrites_46 : mz_d mb_Lives_findReadsAndWrites 46 (.aload_n 0) 1 47 := ⟨by decide +kernel, rfl⟩
theorem md_Lives_findReadsAndWrites_47 : mz_d mb_Lives_findReadsAndWrites 47 (.getfield 24) 3 50 := ⟨by decide +kernel, rfl⟩
theorem md_Lives_findReadsAndWrites_50 : mz_d mb_Lives_findReadsAndWrites 50 (.iload 4) 2 52 := ⟨by decide +kernel, rfl⟩
theorem md_Lives_findReadsAndWrites_52 : mz_d mb_Lives_findReadsAndWrites 52 (.invokevirtual 55) 3 55 := ⟨by decide +kernel, rfl⟩
theorem md_Lives_findReadsAndWrites_55 : mz_d mb_Lives_findReadsAndWrites 55 (.ior) 1 56 := ⟨by decide +kernel, rfl⟩
theorem md_Lives_findReadsAndWrites_56 : mz_d mb_Lives_findReadsAndWrites 56 (.istore_n 3) 1 57 := ⟨by decide +kernel, rfl⟩
theorem md_Lives_findReadsAndWrites_57 : mz_d mb_Lives_findReadsAndWrites 57 (.iinc 4 1) 3 60 := ⟨by decide +kernel, rfl⟩
theorem md_Lives_findReadsAndWrites_60 : mz_d mb_Lives_findReadsAndWrites 60 (.goto (-50)) 3 63 := ⟨by decide +kernel, rfl⟩
theorem md_Lives_findReadsAndWrites_63 : mz_d mb_Lives_findReadsAndWrites 63 (.aload_n 0) 1 64 := ⟨by decide +kernel, rfl⟩
theorem md_Lives_findReadsAndWrites_64 : mz_d mb_Lives_findReadsAndWrites 64 (.getfield 9) 3 67 := ⟨by decide +kernel, rfl⟩
theorem md_Lives_findReadsAndWrites_67 : mz_d mb_Lives_findReadsAndWrites 67 (.iload_n 1) 1 68 := ⟨by decide +kernel, rfl⟩
theorem md_Lives_findReadsAndWrites_68 : mz_d mb_Lives_findReadsAndWrites 68 (.iload_n 2) 1 69 := ⟨by decide +kernel, rfl⟩
theorem md_Lives_findReadsAndWrites_69 : mz_d mb_Lives_findReadsAndWrites 69 (.aload_n 0) 1 70 := ⟨by decide +kernel, rfl⟩
theorem md_Lives_findReadsAndWrites_70 : mz_d mb_Lives_findReadsAndWrites 70 (.getfield 24) 3 73 := ⟨by decide +kernel, rfl⟩
theorem md_Lives_findReadsAndWrites_73 : mz_d mb_Lives_findReadsAndWrites 73 (.iload_n 1) 1 74 := ⟨by decide +kernel, rfl⟩
theorem md_Lives_findReadsAndWrites_74 : mz_d mb_Lives_findReadsAndWrites 74 (.invokevirtual 58) 3 77 := ⟨by decide +kernel, rfl⟩
theorem md_Lives_findReadsAndWrites_77 : mz_d mb_Lives_findReadsAndWrites 77 (.iload_n 3) 1 78 := ⟨by decide +kernel, rfl⟩
theorem md_Lives_findReadsAndWrites_78 : mz_d mb_Lives_findReadsAndWrites 78 (.iconst (-1)) 1 79 := ⟨by decide +kernel, rfl⟩
theorem md_Lives_findReadsAndWrites_79 : mz_d mb_Lives_findReadsAndWrites 79 (.ixor) 1 80 := ⟨by decide +kernel, rfl⟩
theorem md_Lives_findReadsAndWrites_80 : mz_d mb_Lives_findReadsAndWrites 80 (.iand) 1 81 := ⟨by decide +kernel, rfl⟩
theorem md_Lives_findReadsAndWrites_81 : mz_d mb_Lives_findReadsAndWrites 81 (.ior) 1 82 := ⟨by decide +kernel, rfl⟩
theorem md_Lives_findReadsAndWrites_82 : mz_d mb_Lives_findReadsAndWrites 82 (.iastore) 1 83 := ⟨by decide +kernel, rfl⟩
theorem md_Lives_findReadsAndWrites_83 : mz_d mb_Lives_findReadsAndWrites 83 (.aload_n 0) 1 84 := ⟨by decide +kernel, rfl⟩
theorem md_Lives_findReadsAndWrites_84 : mz_d mb_Lives_findReadsAndWrites 84 (.getfield 15) 3 87 := ⟨by decide +kernel, rfl⟩
theorem md_Lives_findReadsAndWrites_87 : mz_d mb_Lives_findReadsAndWrites 87 (.iload_n 1) 1 88 := ⟨by decide +kernel, rfl⟩
theorem md_Lives_findReadsAndWrites_88 : mz_d mb_Lives_findReadsAndWrites 88 (.iload_n 3) 1 89 := ⟨by decide +kernel, rfl⟩
theorem md_Lives_findReadsAndWrites_89 : mz_d mb_Lives_findReadsAndWrites 89 (.iastore) 1 90 := ⟨by decide +kernel, rfl⟩
theorem md_Lives_findReadsAndWrites_90 : mz_d mb_Lives_findReadsAndWrites 90 (.return_) 1 91 := ⟨by decide +kernel, rfl⟩
theorem md_Lives_liveBehind_0 : mz_d mb_Lives_liveBehind 0 (.iconst 0) 1 1 := ⟨by decide +kernel, rfl⟩
theorem md_Lives_liveBehind_1 : mz_d mb_Lives_liveBehind 1 (.istore_n 2) 1 2 := ⟨by decide +kernel, rfl⟩
theorem md_Lives_liveBehind_2 : mz_d mb_Lives_liveBehind 2 (.iconst 0) 1 3 := ⟨by decide +kernel, rfl⟩
theorem md_Lives_liveBehind_3 : mz_d mb_Lives_liveBehind 3 (.istore_n 3) 1 4 := ⟨by decide +kernel, rfl⟩
theorem md_Lives_liveBehind_4 : mz_d mb_Lives_liveBehind 4 (.iload_n 3) 1 5 := ⟨by decide +kernel, rfl⟩
theorem md_Lives_liveBehind_5 : mz_d mb_Lives_liveBehind 5 (.aload_n 0) 1 6 := ⟨by decide +kernel, rfl⟩
theorem md_Lives_liveBehind_6 : mz_d mb_Lives_liveBehind 6 (.getfield 24) 3 9 := ⟨by decide +kernel, rfl⟩
theorem md_Lives_liveBehind_9 : mz_d mb_Lives_liveBehind 9 (.iload_n 1) 1 10 := ⟨by decide +kernel, rfl⟩
theorem md_Lives_liveBehind_10 : mz_d mb_Lives_liveBehind 10 (.invokevirtual 61) 3 13 := ⟨by decide +kernel, rfl⟩
theorem md_Lives_liveBehind_13 : mz_d mb_Lives_liveBehind 13 (.if_icmp .ge 26) 3 16 := ⟨by decide +kernel, rfl⟩
theorem md_Lives_liveBehind_16 : mz_d mb_Lives_liveBehind 16 (.iload_n 2) 1 17 := ⟨by decide +kernel, rfl⟩
theorem md_Lives_liveBehind_17 : mz_d mb_Lives_liveBehind 17 (.aload_n 0) 1 18 := ⟨by decide +kernel, rfl⟩
theorem md_Lives_liveBehind_18 : mz_d mb_Lives_liveBehind 18 (.getfield 18) 3 21 := ⟨by decide +kernel, rfl⟩
theorem md_Lives_liveBehind_21 : mz_d mb_Lives_liveBehind 21 (.aload_n 0) 1 22 := ⟨by decide +kernel, rfl⟩
theorem md_Lives_liveBehind_22 : mz_d mb_Lives_liveBehind 22 (.getfield 24) 3 25 := ⟨by decide +kernel, rfl⟩
theorem md_Lives_liveBehind_25 : mz_d mb_Lives_liveBehind 25 (.iload_n 1) 1 26 := ⟨by decide +kernel, rfl⟩
theorem md_Lives_liveBehind_26 : mz_d mb_Lives_liveBehind 26 (.iload_n 3) 1 27 := ⟨by decide +kernel, rfl⟩
theorem md_Lives_liveBehind_27 : mz_d mb_Lives_liveBehind 27 (.invokevirtual 64) 3 30 := ⟨by decide +kernel, rfl⟩
theorem md_Lives_liveBehind_30 : mz_d mb_Lives_liveBehind 30 (.iaload) 1 31 := ⟨by decide +kernel, rfl⟩
theorem md_Lives_liveBehind_31 : mz_d mb_Lives_liveBehind 31 (.ior) 1 32 := ⟨by decide +kernel, rfl⟩
theorem md_Lives_liveBehind_32 : mz_d mb_Lives_liveBehind 32 (.istore_n 2) 1 33 := ⟨by decide +kernel, rfl⟩
theorem md_Lives_liveBehind_33 : mz_d mb_Lives_liveBehind 33 (.iinc 3 1) 3 36 := ⟨by decide +kernel, rfl⟩
theorem md_Lives_liveBehind_36 : mz_d mb_Lives_liveBehind 36 (.goto (-32)) 3 39 := ⟨by decide +kernel, rfl⟩
theorem md_Lives_liveBehind_39 : mz_d mb_Lives_liveBehind 39 (.iload_n 2) 1 40 := ⟨by decide +kernel, rfl⟩
theorem md_Lives_liveBehind_40 : mz_d mb_Lives_liveBehind 40 (.ireturn) 1 41 := ⟨by decide +kernel, rfl⟩
theorem md_Lives_frontiersOf_0 : mz_d mb_Lives_frontiersOf 0 (.iconst 0) 1 1 := ⟨by decide +kernel, rfl⟩
theorem md_Lives_frontiersOf_1 : mz_d mb_Lives_frontiersOf 1 (.istore_n 2) 1 2 := ⟨by decide +kernel, rfl⟩
theorem md_Lives_frontiersOf_2 : mz_d mb_Lives_frontiersOf 2 (.iconst 0) 1 3 := ⟨by decide +kernel, rfl⟩
theorem md_Lives_frontiersOf_3 : mz_d mb_Lives_frontiersOf 3 (.istore_n 3) 1 4 := ⟨by decide +kernel, rfl⟩
theorem md_Lives_frontiersOf_4 : mz_d mb_Lives_frontiersOf 4 (.iload_n 3) 1 5 := ⟨by decide +kernel, rfl⟩
theorem md_Lives_frontiersOf_5 : mz_d mb_Lives_frontiersOf 5 (.aload_n 0) 1 6 := ⟨by decide +kernel, rfl⟩
theorem md_Lives_frontiersOf_6 : mz_d mb_Lives_frontiersOf 6 (.getfield 24) 3 9 := ⟨by decide +kernel, rfl⟩
theorem md_Lives_frontiersOf_9 : mz_d mb_Lives_frontiersOf 9 (.getfield 32) 3 12 := ⟨by decide +kernel, rfl⟩
theorem md_Lives_frontiersOf_12 : mz_d mb_Lives_frontiersOf 12 (.if_icmp .ge 29) 3 15 := ⟨by decide +kernel, rfl⟩
theorem md_Lives_frontiersOf_15 : mz_d mb_Lives_frontiersOf 15 (.iload_n 1) 1 16 := ⟨by decide +kernel, rfl⟩
theorem md_Lives_frontiersOf_16 : mz_d mb_Lives_frontiersOf 16 (.iload_n 3) 1 17 := ⟨by decide +kernel, rfl⟩
theorem md_Lives_frontiersOf_17 : mz_d mb_Lives_frontiersOf 17 (.invokestatic 73) 3 20 := ⟨by decide +kernel, rfl⟩
theorem md_Lives_frontiersOf_20 : mz_d mb_Lives_frontiersOf 20 (.ifCond .eq 15) 3 23 := ⟨by decide +kernel, rfl⟩
theorem md_Lives_frontiersOf_23 : mz_d mb_Lives_frontiersOf 23 (.iload_n 2) 1 24 := ⟨by decide +kernel, rfl⟩
theorem md_Lives_frontiersOf_24 : mz_d mb_Lives_frontiersOf 24 (.aload_n 0) 1 25 := ⟨by decide +kernel, rfl⟩
theorem md_Lives_frontiersOf_25 : mz_d mb_Lives_frontiersOf 25 (.getfield 28) 3 28 := ⟨by decide +kernel, rfl⟩
theorem md_Lives_frontiersOf_28 : mz_d mb_Lives_frontiersOf 28 (.getfield 80) 3 31 := ⟨by decide +kernel, rfl⟩
theorem md_Lives_frontiersOf_31 : mz_d mb_Lives_frontiersOf 31 (.iload_n 3) 1 32 := ⟨by decide +kernel, rfl⟩
theorem md_Lives_frontiersOf_32 : mz_d mb_Lives_frontiersOf 32 (.iaload) 1 33 := ⟨by decide +kernel, rfl⟩
theorem md_Lives_frontiersOf_33 : mz_d mb_Lives_frontiersOf 33 (.ior) 1 34 := ⟨by decide +kernel, rfl⟩
theorem md_Lives_frontiersOf_34 : mz_d mb_Lives_frontiersOf 34 (.istore_n 2) 1 35 := ⟨by decide +kernel, rfl⟩
theorem md_Lives_frontiersOf_35 : mz_d mb_Lives_frontiersOf 35 (.iinc 3 1) 3 38 := ⟨by decide +kernel, rfl⟩
theorem md_Lives_frontiersOf_38 : mz_d mb_Lives_frontiersOf 38 (.goto (-34)) 3 41 := ⟨by decide +kernel, rfl⟩
theorem md_Lives_frontiersOf_41 : mz_d mb_Lives_frontiersOf 41 (.iload_n 2) 1 42 := ⟨by decide +kernel, rfl⟩
theorem md_Lives_frontiersOf_42 : mz_d mb_Lives_frontiersOf 42 (.ireturn) 1 43 := ⟨by decide +kernel, rfl⟩
theorem md_Lives_placePhis_0 : mz_d mb_Lives_placePhis 0 (.aload_n 0) 1 1 := ⟨by decide +kernel, rfl⟩
theorem md_Lives_placePhis_1 : mz_d mb_Lives_placePhis 1 (.getfield 28) 3 4 := ⟨by decide +kernel, rfl⟩
theorem md_Lives_placePhis_4 : mz_d mb_Lives_placePhis 4 (.getfield 68) 3 7 := ⟨by decide +kernel, rfl⟩
theorem md_Lives_placePhis_7 : mz_d mb_Lives_placePhis 7 (.iconst 1) 1 8 := ⟨by decide +kernel, rfl⟩
theorem md_Lives_placePhis_8 : mz_d mb_Lives_placePhis 8 (.iand) 1 9 := ⟨by decide +kernel, rfl⟩
theorem md_Lives_placePhis_9 : mz_d mb_Lives_placePhis 9 (.istore_n 2) 1 10 := ⟨by decide +kernel, rfl⟩
theorem md_Lives_placePhis_10 : mz_d mb_Lives_placePhis 10 (.iconst 0) 1 11 := ⟨by decide +kernel, rfl⟩
theorem md_Lives_placePhis_11 : mz_d mb_Lives_placePhis 11 (.istore_n 3) 1 12 := ⟨by decide +kernel, rfl⟩
theorem md_Lives_placePhis_12 : mz_d mb_Lives_placePhis 12 (.iload_n 3) 1 13 := ⟨by decide +kernel, rfl⟩
theorem md_Lives_placePhis_13 : mz_d mb_Lives_placePhis 13 (.aload_n 0) 1 14 := ⟨by decide +kernel, rfl⟩
theorem md_Lives_placePhis_14 : mz_d mb_Lives_placePhis 14 (.getfield 24) 3 17 := ⟨by decide +kernel, rfl⟩
theorem md_Lives_placePhis_17 : mz_d mb_Lives_placePhis 17 (.getfield 32) 3 20 := ⟨by decide +kernel, rfl⟩
theorem md_Lives_placePhis_20 : mz_d mb_Lives_placePhis 20 (.if_icmp .ge 42) 3 23 := ⟨by decide +kernel, rfl⟩
theorem md_Lives_placePhis_23 : mz_d mb_Lives_placePhis 23 (.aload_n 0) 1 24 := ⟨by decide +kernel, rfl⟩
theorem md_Lives_placePhis_24 : mz_d mb_Lives_placePhis 24 (.getfield 28) 3 27 := ⟨by decide +kernel, rfl⟩
theorem md_Lives_placePhis_27 : mz_d mb_Lives_placePhis 27 (.getfield 68) 3 30 := ⟨by decide +kernel, rfl⟩
theorem md_Lives_placePhis_30 : mz_d mb_Lives_placePhis 30 (.iload_n 3) 1 31 := ⟨by decide +kernel, rfl⟩
theorem md_Lives_placePhis_31 : mz_d mb_Lives_placePhis 31 (.invokestatic 73) 3 34 := ⟨by decide +kernel, rfl⟩
theorem md_Lives_placePhis_34 : mz_d mb_Lives_placePhis 34 (.ifCond .eq 22) 3 37 := ⟨by decide +kernel, rfl⟩
theorem md_Lives_placePhis_37 : mz_d mb_Lives_placePhis 37 (.aload_n 0) 1 38 := ⟨by decide +kernel, rfl⟩
theorem md_Lives_placePhis_38 : mz_d mb_Lives_placePhis 38 (.getfield 15) 3 41 := ⟨by decide +kernel, rfl⟩
theorem md_Lives_placePhis_41 : mz_d mb_Lives_placePhis 41 (.iload_n 3) 1 42 := ⟨by decide +kernel, rfl⟩
theorem md_Lives_placePhis_42 : mz_d mb_Lives_placePhis 42 (.iaload) 1 43 := ⟨by decide +kernel, rfl⟩
theorem md_Lives_placePhis_43 : mz_d mb_Lives_placePhis 43 (.iload_n 1) 1 44 := ⟨by decide +kernel, rfl⟩
theorem md_Lives_placePhis_44 : mz_d mb_Lives_placePhis 44 (.invokestatic 73) 3 47 := ⟨by decide +kernel, rfl⟩
theorem md_Lives_placePhis_47 : mz_d mb_Lives_placePhis 47 (.ifCond .eq 9) 3 50 := ⟨by decide +kernel, rfl⟩
theorem md_Lives_placePhis_50 : mz_d mb_Lives_placePhis 50 (.iload_n 2) 1 51 := ⟨by decide +kernel, rfl⟩
theorem md_Lives_placePhis_51 : mz_d mb_Lives_placePhis 51 (.iconst 1) 1 52 := ⟨by decide +kernel, rfl⟩
theorem md_Lives_placePhis_52 : mz_d mb_Lives_placePhis 52 (.iload_n 3) 1 53 := ⟨by decide +kernel, rfl⟩
theorem md_Lives_placePhis_53 : mz_d mb_Lives_placePhis 53 (.ishl) 1 54 := ⟨by decide +kernel, rfl⟩
theorem md_Lives_placePhis_54 : mz_d mb_Lives_placePhis 54 (.ior) 1 55 := ⟨by decide +kernel, rfl⟩
theorem md_Lives_placePhis_55 : mz_d mb_Lives_placePhis 55 (.istore_n 2) 1 56 := ⟨by decide +kernel, rfl⟩
theorem md_Lives_placePhis_56 : mz_d mb_Lives_placePhis 56 (.iinc 3 1) 3 59 := ⟨by decide +kernel, rfl⟩
theorem md_Lives_placePhis_59 : mz_d mb_Lives_placePhis 59 (.goto (-47)) 3 62 := ⟨by decide +kernel, rfl⟩
theorem md_Lives_placePhis_62 : mz_d mb_Lives_placePhis 62 (.iconst 0) 1 63 := ⟨by decide +kernel, rfl⟩
theorem md_Lives_placePhis_63 : mz_d mb_Lives_placePhis 63 (.istore_n 3) 1 64 := ⟨by decide +kernel, rfl⟩
theorem md_Lives_placePhis_64 : mz_d mb_Lives_placePhis 64 (.iconst 0) 1 65 := ⟨by decide +kernel, rfl⟩
theorem md_Lives_placePhis_65 : mz_d mb_Lives_placePhis 65 (.istore 4) 2 67 := ⟨by decide +kernel, rfl⟩
theorem md_Lives_placePhis_67 : mz_d mb_Lives_placePhis 67 (.iload 4) 2 69 := ⟨by decide +kernel, rfl⟩
theorem md_Lives_placePhis_69 : mz_d mb_Lives_placePhis 69 (.bipush 10) 2 71 := ⟨by decide +kernel, rfl⟩
theorem md_Lives_placePhis_71 : mz_d mb_Lives_placePhis 71 (.if_icmp .ge 19) 3 74 := ⟨by decide +kernel, rfl⟩
theorem md_Lives_placePhis_74 : mz_d mb_Lives_placePhis 74 (.iload_n 3) 1 75 := ⟨by decide +kernel, rfl⟩
theorem md_Lives_placePhis_75 : mz_d mb_Lives_placePhis 75 (.aload_n 0) 1 76 := ⟨by decide +kernel, rfl⟩
theorem md_Lives_placePhis_76 : mz_d mb_Lives_placePhis 76 (.iload_n 2) 1 77 := ⟨by decide +kernel, rfl⟩
theorem md_Lives_placePhis_77 : mz_d mb_Lives_placePhis 77 (.iload_n 3) 1 78 := ⟨by decide +kernel, rfl⟩
theorem md_Lives_placePhis_78 : mz_d mb_Lives_placePhis 78 (.ior) 1 79 := ⟨by decide +kernel, rfl⟩
theorem md_Lives_placePhis_79 : mz_d mb_Lives_placePhis 79 (.invokevirtual 77) 3 82 := ⟨by decide +kernel, rfl⟩
theorem md_Lives_placePhis_82 : mz_d mb_Lives_placePhis 82 (.ior) 1 83 := ⟨by decide +kernel, rfl⟩
theorem md_Lives_placePhis_83 : mz_d mb_Lives_placePhis 83 (.istore_n 3) 1 84 := ⟨by decide +kernel, rfl⟩
theorem md_Lives_placePhis_84 : mz_d mb_Lives_placePhis 84 (.iinc 4 1) 3 87 := ⟨by decide +kernel, rfl⟩
theorem md_Lives_placePhis_87 : mz_d mb_Lives_placePhis 87 (.goto (-20)) 3 90 := ⟨by decide +kernel, rfl⟩
theorem md_Lives_placePhis_90 : mz_d mb_Lives_placePhis 90 (.iconst 0) 1 91 := ⟨by decide +kernel, rfl⟩
theorem md_Lives_placePhis_91 : mz_d mb_Lives_placePhis 91 (.istore 4) 2 93 := ⟨by decide +kernel, rfl⟩
theorem md_Lives_placePhis_93 : mz_d mb_Lives_placePhis 93 (.iload 4) 2 95 := ⟨by decide +kernel, rfl⟩
theorem md_Lives_placePhis_95 : mz_d mb_Lives_placePhis 95 (.aload_n 0) 1 96 := ⟨by decide +kernel, rfl⟩
theorem md_Lives_placePhis_96 : mz_d mb_Lives_placePhis 96 (.getfield 24) 3 99 := ⟨by decide +kernel, rfl⟩
theorem md_Lives_placePhis_99 : mz_d mb_Lives_placePhis 99 (.getfield 32) 3 102 := ⟨by decide +kernel, rfl⟩
theorem md_Lives_placePhis_102 : mz_d mb_Lives_placePhis 102 (.if_icmp .ge 45) 3 105 := ⟨by decide +kernel, rfl⟩
theorem md_Lives_placePhis_105 : mz_d mb_Lives_placePhis 105 (.iload_n 3) 1 106 := ⟨by decide +kernel, rfl⟩
theorem md_Lives_placePhis_106 : mz_d mb_Lives_placePhis 106 (.iload 4) 2 108 := ⟨by decide +kernel, rfl⟩
theorem md_Lives_placePhis_108 : mz_d mb_Lives_placePhis 108 (.invokestatic 73) 3 111 := ⟨by decide +kernel, rfl⟩
theorem md_Lives_placePhis_111 : mz_d mb_Lives_placePhis 111 (.ifCond .eq 30) 3 114 := ⟨by decide +kernel, rfl⟩
theorem md_Lives_placePhis_114 : mz_d mb_Lives_placePhis 114 (.aload_n 0) 1 115 := ⟨by decide +kernel, rfl⟩
theorem md_Lives_placePhis_115 : mz_d mb_Lives_placePhis 115 (.getfield 18) 3 118 := ⟨by decide +kernel, rfl⟩
theorem md_Lives_placePhis_118 : mz_d mb_Lives_placePhis 118 (.iload 4) 2 120 := ⟨by decide +kernel, rfl⟩
theorem md_Lives_placePhis_120 : mz_d mb_Lives_placePhis 120 (.iaload) 1 121 := ⟨by decide +kernel, rfl⟩
theorem md_Lives_placePhis_121 : mz_d mb_Lives_placePhis 121 (.iload_n 1) 1 122 := ⟨by decide +kernel, rfl⟩
theorem md_Lives_placePhis_122 : mz_d mb_Lives_placePhis 122 (.invokestatic 73) 3 125 := ⟨by decide +kernel, rfl⟩
theorem md_Lives_placePhis_125 : mz_d mb_Lives_placePhis 125 (.ifCond .eq 16) 3 128 := ⟨by decide +kernel, rfl⟩
theorem md_Lives_placePhis_128 : mz_d mb_Lives_placePhis 128 (.aload_n 0) 1 129 := ⟨by decide +kernel, rfl⟩
theorem md_Lives_placePhis_129 : mz_d mb_Lives_placePhis 129 (.getfield 21) 3 132 := ⟨by decide +kernel, rfl⟩
theorem md_Lives_placePhis_132 : mz_d mb_Lives_placePhis 132 (.iload 4) 2 134 := ⟨by decide +kernel, rfl⟩
theorem md_Lives_placePhis_134 : mz_d mb_Lives_placePhis 134 (.dup2) 1 135 := ⟨by decide +kernel, rfl⟩
theorem md_Lives_placePhis_135 : mz_d mb_Lives_placePhis 135 (.iaload) 1 136 := ⟨by decide +kernel, rfl⟩
theorem md_Lives_placePhis_136 : mz_d mb_Lives_placePhis 136 (.iconst 1) 1 137 := ⟨by decide +kernel, rfl⟩
theorem md_Lives_placePhis_137 : mz_d mb_Lives_placePhis 137 (.iload_n 1) 1 138 := ⟨by decide +kernel, rfl⟩
theorem md_Lives_placePhis_138 : mz_d mb_Lives_placePhis 138 (.ishl) 1 139 := ⟨by decide +kernel, rfl⟩
theorem md_Lives_placePhis_139 : mz_d mb_Lives_placePhis 139 (.ior) 1 140 := ⟨by decide +kernel, rfl⟩
theorem md_Lives_placePhis_140 : mz_d mb_Lives_placePhis 140 (.iastore) 1 141 := ⟨by decide +kernel, rfl⟩
theorem md_Lives_placePhis_141 : mz_d mb_Lives_placePhis 141 (.iinc 4 1) 3 144 := ⟨by decide +kernel, rfl⟩
theorem md_Lives_placePhis_144 : mz_d mb_Lives_placePhis 144 (.goto (-51)) 3 147 := ⟨by decide +kernel, rfl⟩
theorem md_Lives_placePhis_147 : mz_d mb_Lives_placePhis 147 (.return_) 1 148 := ⟨by decide +kernel, rfl⟩
theorem md_Lives_lookAt_0 : mz_d mb_Lives_lookAt 0 (.iconst 0) 1 1 := ⟨by decide +kernel, rfl⟩
theorem md_Lives_lookAt_1 : mz_d mb_Lives_lookAt 1 (.istore_n 1) 1 2 := ⟨by decide +kernel, rfl⟩
theorem md_Lives_lookAt_2 : mz_d mb_Lives_lookAt 2 (.iload_n 1) 1 3 := ⟨by decide +kernel, rfl⟩
theorem md_Lives_lookAt_3 : mz_d mb_Lives_lookAt 3 (.aload_n 0) 1 4 := ⟨by decide +kernel, rfl⟩
theorem md_Lives_lookAt_4 : mz_d mb_Lives_lookAt 4 (.getfield 24) 3 7 := ⟨by decide +kernel, rfl⟩
theorem md_Lives_lookAt_7 : mz_d mb_Lives_lookAt 7 (.getfield 32) 3 10 := ⟨by decide +kernel, rfl⟩
theorem md_Lives_lookAt_10 : mz_d mb_Lives_lookAt 10 (.if_icmp .ge 33) 3 13 := ⟨by decide +kernel, rfl⟩
theorem md_Lives_lookAt_13 : mz_d mb_Lives_lookAt 13 (.aload_n 0) 1 14 := ⟨by decide +kernel, rfl⟩
theorem md_Lives_lookAt_14 : mz_d mb_Lives_lookAt 14 (.iload_n 1) 1 15 := ⟨by decide +kernel, rfl⟩
theorem md_Lives_lookAt_15 : mz_d mb_Lives_lookAt 15 (.invokevirtual 38) 3 18 := ⟨by decide +kernel, rfl⟩
theorem md_Lives_lookAt_18 : mz_d mb_Lives_lookAt 18 (.aload_n 0) 1 19 := ⟨by decide +kernel, rfl⟩
theorem md_Lives_lookAt_19 : mz_d mb_Lives_lookAt 19 (.getfield 18) 3 22 := ⟨by decide +kernel, rfl⟩
theorem md_Lives_lookAt_22 : mz_d mb_Lives_lookAt 22 (.iload_n 1) 1 23 := ⟨by decide +kernel, rfl⟩
theorem md_Lives_lookAt_23 : mz_d mb_Lives_lookAt 23 (.aload_n 0) 1 24 := ⟨by decide +kernel, rfl⟩
theorem md_Lives_lookAt_24 : mz_d mb_Lives_lookAt 24 (.getfield 9) 3 27 := ⟨by decide +kernel, rfl⟩
theorem md_Lives_lookAt_27 : mz_d mb_Lives_lookAt 27 (.iload_n 1) 1 28 := ⟨by decide +kernel, rfl⟩
theorem md_Lives_lookAt_28 : mz_d mb_Lives_lookAt 28 (.iaload) 1 29 := ⟨by decide +kernel, rfl⟩
theorem md_Lives_lookAt_29 : mz_d mb_Lives_lookAt 29 (.iastore) 1 30 := ⟨by decide +kernel, rfl⟩
theorem md_Lives_lookAt_30 : mz_d mb_Lives_lookAt 30 (.aload_n 0) 1 31 := ⟨by decide +kernel, rfl⟩
theorem md_Lives_lookAt_31 : mz_d mb_Lives_lookAt 31 (.getfield 21) 3 34 := ⟨by decide +kernel, rfl⟩
theorem md_Lives_lookAt_34 : mz_d mb_Lives_lookAt 34 (.iload_n 1) 1 35 := ⟨by decide +kernel, rfl⟩
theorem md_Lives_lookAt_35 : mz_d mb_Lives_lookAt 35 (.iconst 0) 1 36 := ⟨by decide +kernel, rfl⟩
theorem md_Lives_lookAt_36 : mz_d mb_Lives_lookAt 36 (.iastore) 1 37 := ⟨by decide +kernel, rfl⟩
theorem md_Lives_lookAt_37 : mz_d mb_Lives_lookAt 37 (.iinc 1 1) 3 40 := ⟨by decide +kernel, rfl⟩
theorem md_Lives_lookAt_40 : mz_d mb_Lives_lookAt 40 (.goto (-38)) 3 43 := ⟨by decide +kernel, rfl⟩
theorem md_Lives_lookAt_43 : mz_d mb_Lives_lookAt 43 (.iconst 0) 1 44 := ⟨by decide +kernel, rfl⟩
theorem md_Lives_lookAt_44 : mz_d mb_Lives_lookAt 44 (.istore_n 1) 1 45 := ⟨by decide +kernel, rfl⟩
theorem md_Lives_lookAt_45 : mz_d mb_Lives_lookAt 45 (.iload_n 1) 1 46 := ⟨by decide +kernel, rfl⟩
theorem md_Lives_lookAt_46 : mz_d mb_Lives_lookAt 46 (.bipush 10) 2 48 := ⟨by decide +kernel, rfl⟩
theorem md_Lives_lookAt_48 : mz_d mb_Lives_lookAt 48 (.if_icmp .ge 51) 3 51 := ⟨by decide +kernel, rfl⟩
theorem md_Lives_lookAt_51 : mz_d mb_Lives_lookAt 51 (.iconst 0) 1 52 := ⟨by decide +kernel, rfl⟩
theorem md_Lives_lookAt_52 : mz_d mb_Lives_lookAt 52 (.istore_n 2) 1 53 := ⟨by decide +kernel, rfl⟩
theorem md_Lives_lookAt_53 : mz_d mb_Lives_lookAt 53 (.iload_n 2) 1 54 := ⟨by decide +kernel, rfl⟩
theorem md_Lives_lookAt_54 : mz_d mb_Lives_lookAt 54 (.aload_n 0) 1 55 := ⟨by decide +kernel, rfl⟩
theorem md_Lives_lookAt_55 : mz_d mb_Lives_lookAt 55 (.getfield 24) 3 58 := ⟨by decide +kernel, rfl⟩
theorem md_Lives_lookAt_58 : mz_d mb_Lives_lookAt 58 (.getfield 32) 3 61 := ⟨by decide +kernel, rfl⟩
theorem md_Lives_lookAt_61 : mz_d mb_Lives_lookAt 61 (.if_icmp .ge 32) 3 64 := ⟨by decide +kernel, rfl⟩
theorem md_Lives_lookAt_64 : mz_d mb_Lives_lookAt 64 (.aload_n 0) 1 65 := ⟨by decide +kernel, rfl⟩
theorem md_Lives_lookAt_65 : mz_d mb_Lives_lookAt 65 (.getfield 18) 3 68 := ⟨by decide +kernel, rfl⟩
theorem md_Lives_lookAt_68 : mz_d mb_Lives_lookAt 68 (.iload_n 2) 1 69 := ⟨by decide +kernel, rfl⟩
theorem md_Lives_lookAt_69 : mz_d mb_Lives_lookAt 69 (.dup2) 1 70 := ⟨by decide +kernel, rfl⟩
theorem md_Lives_lookAt_70 : mz_d mb_Lives_lookAt 70 (.iaload) 1 71 := ⟨by decide +kernel, rfl⟩
theorem md_Lives_lookAt_71 : mz_d mb_Lives_lookAt 71 (.aload_n 0) 1 72 := ⟨by decide +kernel, rfl⟩
theorem md_Lives_lookAt_72 : mz_d mb_Lives_lookAt 72 (.iload_n 2) 1 73 := ⟨by decide +kernel, rfl⟩
theorem md_Lives_lookAt_73 : mz_d mb_Lives_lookAt 73 (.invokevirtual 42) 3 76 := ⟨by decide +kernel, rfl⟩
theorem md_Lives_lookAt_76 : mz_d mb_Lives_lookAt 76 (.aload_n 0) 1 77 := ⟨by decide +kernel, rfl⟩
theorem md_Lives_lookAt_77 : mz_d mb_Lives_lookAt 77 (.getfield 15) 3 80 := ⟨by decide +kernel, rfl⟩
theorem md_Lives_lookAt_80 : mz_d mb_Lives_lookAt 80 (.iload_n 2) 1 81 := ⟨by decide +kernel, rfl⟩
theorem md_Lives_lookAt_81 : mz_d mb_Lives_lookAt 81 (.iaload) 1 82 := ⟨by decide +kernel, rfl⟩
theorem md_Lives_lookAt_82 : mz_d mb_Lives_lookAt 82 (.iconst (-1)) 1 83 := ⟨by decide +kernel, rfl⟩
theorem md_Lives_lookAt_83 : mz_d mb_Lives_lookAt 83 (.ixor) 1 84 := ⟨by decide +kernel, rfl⟩
theorem md_Lives_lookAt_84 : mz_d mb_Lives_lookAt 84 (.iand) 1 85 := ⟨by decide +kernel, rfl⟩
theorem md_Lives_lookAt_85 : mz_d mb_Lives_lookAt 85 (.ior) 1 86 := ⟨by decide +kernel, rfl⟩
theorem md_Lives_lookAt_86 : mz_d mb_Lives_lookAt 86 (.iastore) 1 87 := ⟨by decide +kernel, rfl⟩
theorem md_Lives_lookAt_87 : mz_d mb_Lives_lookAt 87 (.iinc 2 1) 3 90 := ⟨by decide +kernel, rfl⟩
theorem md_Lives_lookAt_90 : mz_d mb_Lives_lookAt 90 (.goto (-37)) 3 93 := ⟨by decide +kernel, rfl⟩
theorem md_Lives_lookAt_93 : mz_d mb_Lives_lookAt 93 (.iinc 1 1) 3 96 := ⟨by decide +kernel, rfl⟩
theorem md_Lives_lookAt_96 : mz_d mb_Lives_lookAt 96 (.goto (-51)) 3 99 := ⟨by decide +kernel, rfl⟩
theorem md_Lives_lookAt_99 : mz_d mb_Lives_lookAt 99 (.iconst 0) 1 100 := ⟨by decide +kernel, rfl⟩
theorem md_Lives_lookAt_100 : mz_d mb_Lives_lookAt 100 (.istore_n 1) 1 101 := ⟨by decide +kernel, rfl⟩
theorem md_Lives_lookAt_101 : mz_d mb_Lives_lookAt 101 (.iload_n 1) 1 102 := ⟨by decide +kernel, rfl⟩
theorem md_Lives_lookAt_102 : mz_d mb_Lives_lookAt 102 (.bipush 10) 2 104 := ⟨by decide +kernel, rfl⟩
theorem md_Lives_lookAt_104 : mz_d mb_Lives_lookAt 104 (.if_icmp .ge 14) 3 107 := ⟨by decide +kernel, rfl⟩
theorem md_Lives_lookAt_107 : mz_d mb_Lives_lookAt 107 (.aload_n 0) 1 108 := ⟨by decide +kernel, rfl⟩
theorem md_Lives_lookAt_108 : mz_d mb_Lives_lookAt 108 (.iload_n 1) 1 109 := ⟨by decide +kernel, rfl⟩
theorem md_Lives_lookAt_109 : mz_d mb_Lives_lookAt 109 (.invokevirtual 46) 3 112 := ⟨by decide +kernel, rfl⟩
theorem md_Lives_lookAt_112 : mz_d mb_Lives_lookAt 112 (.iinc 1 1) 3 115 := ⟨by decide +kernel, rfl⟩
theorem md_Lives_lookAt_115 : mz_d mb_Lives_lookAt 115 (.goto (-14)) 3 118 := ⟨by decide +kernel, rfl⟩
theorem md_Lives_lookAt_118 : mz_d mb_Lives_lookAt 118 (.return_) 1 119 := ⟨by decide +kernel, rfl⟩
def mw_Lives_findReadsAndWrites_10 (K : mz_St → Prop) (a0 : Int32) (P10 : Int32 → Int32 → Int32 → mz_St → Prop) (x2_10 : Int32) (x3_10 : Int32) (x4_10 : Int32) (s10 : mz_St) : Prop :=
  vp_in a0 10 ∧
  ((((a0 * 12) + (mz_rd s10 16 a0)) ≤ x4_10 →
   mw_Program_usedAtEndSet (fun r1 u1 =>
    vp_in a0 10 ∧
    vp_in a0 10 ∧
    K (mz_wr (mz_wr u1 29 a0 (x2_10 ||| (r1 &&& (x3_10 ^^^ (-1))))) 30 a0 x3_10)) a0 s10) ∧
  (¬ ((a0 * 12) + (mz_rd s10 16 a0)) ≤ x4_10 →
   mw_Program_usedSet (fun r2 u2 =>
    mw_Program_madeSet (fun r3 u3 =>
     P10 (x2_10 ||| (r2 &&& (x3_10 ^^^ (-1)))) (x3_10 ||| r3) (x4_10 + 1) u3) x4_10 u2) x4_10 s10))
/-- ValueMill$Lives.findReadsAndWrites(I)V: what it does, as a transformer of what must hold behind it -/
def mw_Lives_findReadsAndWrites (K : mz_St → Prop) (a0 : Int32) (s0 : mz_St) : Prop :=
  (∀ P10 : Int32 → Int32 → Int32 → mz_St → Prop, (∀ (x2_10 : Int32) (x3_10 : Int32) (x4_10 : Int32) (s10 : mz_St), mw_Lives_findReadsAndWrites_10 K a0 P10 x2_10 x3_10 x4_10 s10 → P10 x2_10 x3_10 x4_10 s10) →
  P10 0 0 (a0 * 12) s0)
set_option maxRecDepth 100000 in
set_option maxHeartbeats 4000000 in
theorem ms_Lives_findReadsAndWrites (l : Launch) (E : mz_En) (hI : mz_Inj E) (K : mz_St → Prop) (a0 : Int32) (s0 : mz_St) (h : mw_Lives_findReadsAndWrites K a0 s0) : mz_Cv l E my_Lives_findReadsAndWrites mb_Lives_findReadsAndWrites 5 (2) (42) [.ref (E.2.1 3), .int a0] s0 K := by
  refine mz_ctv hI (by decide +kernel) (Nat.le_of_ble_eq_true rfl) (fun X C R => ?_)
  show mz_G E X 5 0 [(0, .ref (E.2.1 3)), (1, .int a0)] [] s0
  unfold mw_Lives_findReadsAndWrites at h
  refine mr_iconst C md_Lives_findReadsAndWrites_0 mk_iconst_0 ?_
  refine mr_istore_n C (L' := [(2, .int 0), (0, .ref (E.2.1 3)), (1, .int a0)]) md_Lives_findReadsAndWrites_1 rfl (Nat.le_of_ble_eq_true rfl) rfl ?_
  refine mr_iconst C md_Lives_findReadsAndWrites_2 mk_iconst_0 ?_
  refine mr_istore_n C (L' := [(3, .int 0), (2, .int 0), (0, .ref (E.2.1 3)), (1, .int a0)]) md_Lives_findReadsAndWrites_3 rfl (Nat.le_of_ble_eq_true rfl) rfl ?_
  refine mr_iload_n C 3 md_Lives_findReadsAndWrites_4 rfl rfl ?_
  refine mr_bipush C md_Lives_findReadsAndWrites_5 mk_bipush_12 ?_
  refine mr_imul C md_Lives_findReadsAndWrites_7 ?_
  refine mr_istore C (L' := [(4, .int (a0 * 12)), (3, .int 0), (2, .int 0), (0, .ref (E.2.1 3)), (1, .int a0)]) md_Lives_findReadsAndWrites_8 (Nat.le_of_ble_eq_true rfl) rfl ?_
  refine mr_sub [3, 4, 2, 1, 0] rfl ?_
  refine h (fun (x2_10 : Int32) (x3_10 : Int32) (x4_10 : Int32) (s10 : mz_St) => mz_G E X 5 10 [(0, .ref (E.2.1 3)), (1, .int a0), (2, .int x2_10), (3, .int x3_10), (4, .int x4_10)] [] s10) (fun x2_10 x3_10 x4_10 s10 h => ?_)
  unfold mw_Lives_findReadsAndWrites_10 at h
  refine mr_iload C 4 md_Lives_findReadsAndWrites_10 rfl ?_
  refine mr_iload_n C 1 md_Lives_findReadsAndWrites_12 rfl rfl ?_
  refine mr_bipush C md_Lives_findReadsAndWrites_13 mk_bipush_12 ?_
  refine mr_imul C md_Lives_findReadsAndWrites_15 ?_
  refine mr_aload_n C 0 md_Lives_findReadsAndWrites_16 rfl rfl ?_
  refine mr_get C 3 0 mc_Lives_cls ml_154 rfl (by decide) (by decide) (fun _ => rfl) rfl md_Lives_findReadsAndWrites_17 ?_
  refine mr_getN C 1 4 mc_Program_cls ml_46 rfl (by decide) (by decide) (fun _ => rfl) rfl md_Lives_findReadsAndWrites_20 ?_
  refine mr_iload_n C 1 md_Lives_findReadsAndWrites_23 rfl rfl ?_
  refine mr_iald C 16 10 (by decide) (fun _ => rfl) h.1 md_Lives_findReadsAndWrites_24 ?_
  replace h := h.2
  refine mr_iadd C md_Lives_findReadsAndWrites_25 ?_
  refine mr_icmp_ge C md_Lives_findReadsAndWrites_26 rfl (fun hc => ?_) (fun hc => ?_)
  · replace h := h.1 hc
    refine mr_aload_n C 0 md_Lives_findReadsAndWrites_63 rfl rfl ?_
    refine mr_get C 3 2 mc_Lives_cls ml_156 rfl (by decide) (by decide) (fun _ => rfl) rfl md_Lives_findReadsAndWrites_64 ?_
    refine mr_iload_n C 1 md_Lives_findReadsAndWrites_67 rfl rfl ?_
    refine mr_iload_n C 2 md_Lives_findReadsAndWrites_68 rfl rfl ?_
    refine mr_aload_n C 0 md_Lives_findReadsAndWrites_69 rfl rfl ?_
    refine mr_get C 3 0 mc_Lives_cls ml_154 rfl (by decide) (by decide) (fun _ => rfl) rfl md_Lives_findReadsAndWrites_70 ?_
    refine mr_iload_n C 1 md_Lives_findReadsAndWrites_73 rfl rfl ?_
    refine mr_cVNi C (As := [.int a0]) (rest := [.int x2_10, .int a0, .ref (E.2.1 29)]) 1 (ms_Program_usedAtEndSet _ E hI _ a0 _ h) mo_Program_usedAtEndSet mi_Program_usedAtEndSet mc_Program_cls ml_641 (by decide) (fun _ => rfl) rfl rfl (Nat.le_of_ble_eq_true rfl) (Nat.le_of_ble_eq_true rfl) (Nat.le_of_ble_eq_true rfl) md_Lives_findReadsAndWrites_74 (fun r1 u1 h => ?_)
    refine mr_iload_n C 3 md_Lives_findReadsAndWrites_77 rfl rfl ?_
    refine mr_iconst C md_Lives_findReadsAndWrites_78 mk_iconst_m1 ?_
    refine mr_ixor C md_Lives_findReadsAndWrites_79 ?_
    refine mr_iand C md_Lives_findReadsAndWrites_80 ?_
    refine mr_ior C md_Lives_findReadsAndWrites_81 ?_
    refine mr_iast C 29 10 (by decide) (by decide) (fun _ _ => rfl) h.1 md_Lives_findReadsAndWrites_82 ?_
    replace h := h.2
    refine mr_aload_n C 0 md_Lives_findReadsAndWrites_83 rfl rfl ?_
    refine mr_get C 3 3 mc_Lives_cls ml_157 rfl (by decide) (by decide) (fun _ => rfl) rfl md_Lives_findReadsAndWrites_84 ?_
    refine mr_iload_n C 1 md_Lives_findReadsAndWrites_87 rfl rfl ?_
    refine mr_iload_n C 3 md_Lives_findReadsAndWrites_88 rfl rfl ?_
    refine mr_iast C 30 10 (by decide) (by decide) (fun _ _ => rfl) h.1 md_Lives_findReadsAndWrites_89 ?_
    replace h := h.2
    exact mr_vret C R h md_Lives_findReadsAndWrites_90
  replace h := h.2 hc
  refine mr_iload_n C 2 md_Lives_findReadsAndWrites_29 rfl rfl ?_
  refine mr_aload_n C 0 md_Lives_findReadsAndWrites_30 rfl rfl ?_
  refine mr_get C 3 0 mc_Lives_cls ml_154 rfl (by decide) (by decide) (fun _ => rfl) rfl md_Lives_findReadsAndWrites_31 ?_
  refine mr_iload C 4 md_Lives_findReadsAndWrites_34 rfl ?_
  refine mr_cVNi C (As := [.int x4_10]) (rest := [.int x2_10]) 1 (ms_Program_usedSet _ E hI _ x4_10 _ h) mo_Program_usedSet mi_Program_usedSet mc_Program_cls ml_627 (by decide) (fun _ => rfl) rfl rfl (Nat.le_of_ble_eq_true rfl) (Nat.le_of_ble_eq_true rfl) (Nat.le_of_ble_eq_true rfl) md_Lives_findReadsAndWrites_36 (fun r2 u2 h => ?_)
  refine mr_iload_n C 3 md_Lives_findReadsAndWrites_39 rfl rfl ?_
  refine mr_iconst C md_Lives_findReadsAndWrites_40 mk_iconst_m1 ?_
  refine mr_ixor C md_Lives_findReadsAndWrites_41 ?_
  refine mr_iand C md_Lives_findReadsAndWrites_42 ?_
  refine mr_ior C md_Lives_findReadsAndWrites_43 ?_
  refine mr_istore_n C (L' := [(2, .int (x2_10 ||| (r2 &&& (x3_10 ^^^ (-1))))), (0, .ref (E.2.1 3)), (1, .int a0), (3, .int x3_10), (4, .int x4_10)]) md_Lives_findReadsAndWrites_44 rfl (Nat.le_of_ble_eq_true rfl) rfl ?_
  refine mr_iload_n C 3 md_Lives_findReadsAndWrites_45 rfl rfl ?_
  refine mr_aload_n C 1 md_Lives_findReadsAndWrites_46 rfl rfl ?_
  refine mr_get C 3 0 mc_Lives_cls ml_154 rfl (by decide) (by decide) (fun _ => rfl) rfl md_Lives_findReadsAndWrites_47 ?_
  refine mr_iload C 4 md_Lives_findReadsAndWrites_50 rfl ?_
  refine mr_cVNi C (As := [.int x4_10]) (rest := [.int x3_10]) 1 (ms_Program_madeSet _ E hI _ x4_10 _ h) mo_Program_madeSet mi_Program_madeSet mc_Program_cls ml_633 (by decide) (fun _ => rfl) rfl rfl (Nat.le_of_ble_eq_true rfl) (Nat.le_of_ble_eq_true rfl) (Nat.le_of_ble_eq_true rfl) md_Lives_findReadsAndWrites_52 (fun r3 u3 h => ?_)
  refine mr_ior C md_Lives_findReadsAndWrites_55 ?_
  refine mr_istore_n C (L' := [(3, .int (x3_10 ||| r3)), (2, .int (x2_10 ||| (r2 &&& (x3_10 ^^^ (-1))))), (0, .ref (E.2.1 3)), (1, .int a0), (4, .int x4_10)]) md_Lives_findReadsAndWrites_56 rfl (Nat.le_of_ble_eq_true rfl) rfl ?_
  refine mr_iinc C (L' := [(4, .int (x4_10 + 1)), (3, .int (x3_10 ||| r3)), (2, .int (x2_10 ||| (r2 &&& (x3_10 ^^^ (-1))))), (0, .ref (E.2.1 3)), (1, .int a0)]) 4 md_Lives_findReadsAndWrites_57 rfl (mk_inc mk_iconst_1) (Nat.le_of_ble_eq_true rfl) rfl ?_
  refine mr_goto C md_Lives_findReadsAndWrites_60 rfl ?_
  refine mr_sub [3, 4, 2, 1, 0] rfl ?_
  exact h
def mw_Lives_liveBehind_4 (K : Int32 → mz_St → Prop) (a0 : Int32) (P4 : Int32 → Int32 → mz_St → Prop) (x2_4 : Int32) (x3_4 : Int32) (s4 : mz_St) : Prop :=
  mw_Program_edges (fun r1 u1 =>
   ((r1 ≤ x3_4 →
    K x2_4 u1) ∧
   (¬ r1 ≤ x3_4 →
    mw_Program_target (fun r2 u2 =>
     vp_in r2 10 ∧
     P4 (x2_4 ||| (mz_rd u2 31 r2)) (x3_4 + 1) u2) a0 x3_4 u1))) a0 s4
/-- ValueMill$Lives.liveBehind(I)I: what it does, as a transformer of what must hold behind it -/
def mw_Lives_liveBehind (K : Int32 → mz_St → Prop) (a0 : Int32) (s0 : mz_St) : Prop :=
  (∀ P4 : Int32 → Int32 → mz_St → Prop, (∀ (x2_4 : Int32) (x3_4 : Int32) (s4 : mz_St), mw_Lives_liveBehind_4 K a0 P4 x2_4 x3_4 s4 → P4 x2_4 x3_4 s4) →
  P4 0 0 s0)
set_option maxRecDepth 100000 in
set_option maxHeartbeats 4000000 in
theorem ms_Lives_liveBehind (l : Launch) (E : mz_En) (hI : mz_Inj E) (K : Int32 → mz_St → Prop) (a0 : Int32) (s0 : mz_St) (h : mw_Lives_liveBehind K a0 s0) : mz_Ci l E my_Lives_liveBehind mb_Lives_liveBehind 4 (some .int) (1) (22) [.ref (E.2.1 3), .int a0] s0 K := by
  refine mz_cti hI (by decide +kernel) (Nat.le_of_ble_eq_true rfl) (fun X C R => ?_)
  show mz_G E X 4 0 [(0, .ref (E.2.1 3)), (1, .int a0)] [] s0
  unfold mw_Lives_liveBehind at h
  refine mr_iconst C md_Lives_liveBehind_0 mk_iconst_0 ?_
  refine mr_istore_n C (L' := [(2, .int 0), (0, .ref (E.2.1 3)), (1, .int a0)]) md_Lives_liveBehind_1 rfl (Nat.le_of_ble_eq_true rfl) rfl ?_
  refine mr_iconst C md_Lives_liveBehind_2 mk_iconst_0 ?_
  refine mr_istore_n C (L' := [(3, .int 0), (2, .int 0), (0, .ref (E.2.1 3)), (1, .int a0)]) md_Lives_liveBehind_3 rfl (Nat.le_of_ble_eq_true rfl) rfl ?_
  refine mr_sub [2, 3, 1, 0] rfl ?_
  refine h (fun (x2_4 : Int32) (x3_4 : Int32) (s4 : mz_St) => mz_G E X 4 4 [(0, .ref (E.2.1 3)), (1, .int a0), (2, .int x2_4), (3, .int x3_4)] [] s4) (fun x2_4 x3_4 s4 h => ?_)
  unfold mw_Lives_liveBehind_4 at h
  refine mr_iload_n C 3 md_Lives_liveBehind_4 rfl rfl ?_
  refine mr_aload_n C 0 md_Lives_liveBehind_5 rfl rfl ?_
  refine mr_get C 3 0 mc_Lives_cls ml_154 rfl (by decide) (by decide) (fun _ => rfl) rfl md_Lives_liveBehind_6 ?_
  refine mr_iload_n C 1 md_Lives_liveBehind_9 rfl rfl ?_
  refine mr_cVNi C (As := [.int a0]) (rest := [.int x3_4]) 1 (ms_Program_edges _ E hI _ a0 _ h) mo_Program_edges mi_Program_edges mc_Program_cls ml_653 (by decide) (fun _ => rfl) rfl rfl (Nat.le_of_ble_eq_true rfl) (Nat.le_of_ble_eq_true rfl) (Nat.le_of_ble_eq_true rfl) md_Lives_liveBehind_10 (fun r1 u1 h => ?_)
  refine mr_icmp_ge C md_Lives_liveBehind_13 rfl (fun hc => ?_) (fun hc => ?_)
  · replace h := h.1 hc
    refine mr_iload_n C 2 md_Lives_liveBehind_39 rfl rfl ?_
    exact mr_iret C R h md_Lives_liveBehind_40
  replace h := h.2 hc
  refine mr_iload_n C 2 md_Lives_liveBehind_16 rfl rfl ?_
  refine mr_aload_n C 0 md_Lives_liveBehind_17 rfl rfl ?_
  refine mr_get C 3 4 mc_Lives_cls ml_158 rfl (by decide) (by decide) (fun _ => rfl) rfl md_Lives_liveBehind_18 ?_
  refine mr_aload_n C 0 md_Lives_liveBehind_21 rfl rfl ?_
  refine mr_get C 3 0 mc_Lives_cls ml_154 rfl (by decide) (by decide) (fun _ => rfl) rfl md_Lives_liveBehind_22 ?_
  refine mr_iload_n C 1 md_Lives_liveBehind_25 rfl rfl ?_
  refine mr_iload_n C 3 md_Lives_liveBehind_26 rfl rfl ?_
  refine mr_cVNi C (As := [.int a0, .int x3_4]) (rest := [.ref (E.2.1 31), .int x2_4]) 1 (ms_Program_target _ E hI _ a0 x3_4 _ h) mo_Program_target mi_Program_target mc_Program_cls ml_654 (by decide) (fun _ => rfl) rfl rfl (Nat.le_of_ble_eq_true rfl) (Nat.le_of_ble_eq_true rfl) (Nat.le_of_ble_eq_true rfl) md_Lives_liveBehind_27 (fun r2 u2 h => ?_)
  refine mr_iald C 31 10 (by decide) (fun _ => rfl) h.1 md_Lives_liveBehind_30 ?_
  replace h := h.2
  refine mr_ior C md_Lives_liveBehind_31 ?_
  refine mr_istore_n C (L' := [(2, .int (x2_4 ||| (mz_rd u2 31 r2))), (0, .ref (E.2.1 3)), (1, .int a0), (3, .int x3_4)]) md_Lives_liveBehind_32 rfl (Nat.le_of_ble_eq_true rfl) rfl ?_
  refine mr_iinc C (L' := [(3, .int (x3_4 + 1)), (2, .int (x2_4 ||| (mz_rd u2 31 r2))), (0, .ref (E.2.1 3)), (1, .int a0)]) 3 md_Lives_liveBehind_33 rfl (mk_inc mk_iconst_1) (Nat.le_of_ble_eq_true rfl) rfl ?_
  refine mr_goto C md_Lives_liveBehind_36 rfl ?_
  refine mr_sub [2, 3, 1, 0] rfl ?_
  exact h
def mw_Lives_frontiersOf_35 (P4 : Int32 → Int32 → mz_St → Prop) (x3_4 : Int32) (x2_35 : Int32) (s35 : mz_St) : Prop :=
  P4 x2_35 (x3_4 + 1) s35
def mw_Lives_frontiersOf_4 (K : Int32 → mz_St → Prop) (a0 : Int32) (P4 : Int32 → Int32 → mz_St → Prop) (x2_4 : Int32) (x3_4 : Int32) (s4 : mz_St) : Prop :=
  (((s4 1003 0) ≤ x3_4 →
   K x2_4 s4) ∧
  (¬ (s4 1003 0) ≤ x3_4 →
   mw_Mill_isIn (fun r1 u1 =>
    (∀ P35 : Int32 → mz_St → Prop, (∀ (x2_35 : Int32) (s35 : mz_St), mw_Lives_frontiersOf_35 P4 x3_4 x2_35 s35 → P35 x2_35 s35) →
    ((r1 = 0 →
     P35 x2_4 u1) ∧
    (¬ r1 = 0 →
     vp_in x3_4 10 ∧
     P35 (x2_4 ||| (mz_rd u1 27 x3_4)) u1)))) a0 x3_4 s4))
/-- ValueMill$Lives.frontiersOf(I)I: what it does, as a transformer of what must hold behind it -/
def mw_Lives_frontiersOf (K : Int32 → mz_St → Prop) (a0 : Int32) (s0 : mz_St) : Prop :=
  (∀ P4 : Int32 → Int32 → mz_St → Prop, (∀ (x2_4 : Int32) (x3_4 : Int32) (s4 : mz_St), mw_Lives_frontiersOf_4 K a0 P4 x2_4 x3_4 s4 → P4 x2_4 x3_4 s4) →
  P4 0 0 s0)
set_option maxRecDepth 100000 in
set_option maxHeartbeats 4000000 in
theorem ms_Lives_frontiersOf (l : Launch) (E : mz_En) (hI : mz_Inj E) (K : Int32 → mz_St → Prop) (a0 : Int32) (s0 : mz_St) (h : mw_Lives_frontiersOf K a0 s0) : mz_Ci l E my_Lives_frontiersOf mb_Lives_frontiersOf 4 (some .int) (1) (21) [.ref (E.2.1 3), .int a0] s0 K := by
  refine mz_cti hI (by decide +kernel) (Nat.le_of_ble_eq_true rfl) (fun X C R => ?_)
  show mz_G E X 4 0 [(0, .ref (E.2.1 3)), (1, .int a0)] [] s0
  unfold mw_Lives_frontiersOf at h
  refine mr_iconst C md_Lives_frontiersOf_0 mk_iconst_0 ?_
  refine mr_istore_n C (L' := [(2, .int 0), (0, .ref (E.2.1 3)), (1, .int a0)]) md_Lives_frontiersOf_1 rfl (Nat.le_of_ble_eq_true rfl) rfl ?_
  refine mr_iconst C md_Lives_frontiersOf_2 mk_iconst_0 ?_
  refine mr_istore_n C (L' := [(3, .int 0), (2, .int 0), (0, .ref (E.2.1 3)), (1, .int a0)]) md_Lives_frontiersOf_3 rfl (Nat.le_of_ble_eq_true rfl) rfl ?_
  refine mr_sub [2, 3, 1, 0] rfl ?_
  refine h (fun (x2_4 : Int32) (x3_4 : Int32) (s4 : mz_St) => mz_G E X 4 4 [(0, .ref (E.2.1 3)), (1, .int a0), (2, .int x2_4), (3, .int x3_4)] [] s4) (fun x2_4 x3_4 s4 h => ?_)
  unfold mw_Lives_frontiersOf_4 at h
  refine mr_iload_n C 3 md_Lives_frontiersOf_4 rfl rfl ?_
  refine mr_aload_n C 0 md_Lives_frontiersOf_5 rfl rfl ?_
  refine mr_get C 3 0 mc_Lives_cls ml_154 rfl (by decide) (by decide) (fun _ => rfl) rfl md_Lives_frontiersOf_6 ?_
  refine mr_getN C 1 10 mc_Program_cls ml_62 rfl (by decide) (by decide) (fun _ => rfl) rfl md_Lives_frontiersOf_9 ?_
  refine mr_icmp_ge C md_Lives_frontiersOf_12 rfl (fun hc => ?_) (fun hc => ?_)
  · replace h := h.1 hc
    refine mr_iload_n C 2 md_Lives_frontiersOf_41 rfl rfl ?_
    exact mr_iret C R h md_Lives_frontiersOf_42
  replace h := h.2 hc
  refine mr_iload_n C 1 md_Lives_frontiersOf_15 rfl rfl ?_
  refine mr_iload_n C 3 md_Lives_frontiersOf_16 rfl rfl ?_
  refine mr_cSNi C (As := [.int a0, .int x3_4]) (rest := []) (ms_Mill_isIn _ E hI _ a0 x3_4 _ h) mo_Mill_isIn mt_Mill_isIn ml_659 rfl rfl (Nat.le_of_ble_eq_true rfl) (Nat.le_of_ble_eq_true rfl) (Nat.le_of_ble_eq_true rfl) md_Lives_frontiersOf_17 (fun r1 u1 h => ?_)
  refine mj (h (fun (x2_35 : Int32) (s35 : mz_St) => mz_G E X 4 35 [(0, .ref (E.2.1 3)), (1, .int a0), (2, .int x2_35), (3, .int x3_4)] [] s35) (fun x2_35 s35 h => ?_)) (fun h => ?_)
  · unfold mw_Lives_frontiersOf_35 at h
    refine mr_iinc C (L' := [(3, .int (x3_4 + 1)), (0, .ref (E.2.1 3)), (1, .int a0), (2, .int x2_35)]) 3 md_Lives_frontiersOf_35 rfl (mk_inc mk_iconst_1) (Nat.le_of_ble_eq_true rfl) rfl ?_
    refine mr_goto C md_Lives_frontiersOf_38 rfl ?_
    refine mr_sub [1, 2, 3, 0] rfl ?_
    exact h
  refine mr_if_eq C md_Lives_frontiersOf_20 rfl (fun hc => ?_) (fun hc => ?_)
  · replace h := h.1 hc
    exact h
  replace h := h.2 hc
  refine mr_iload_n C 2 md_Lives_frontiersOf_23 rfl rfl ?_
  refine mr_aload_n C 0 md_Lives_frontiersOf_24 rfl rfl ?_
  refine mr_get C 3 1 mc_Lives_cls ml_155 rfl (by decide) (by decide) (fun _ => rfl) rfl md_Lives_frontiersOf_25 ?_
  refine mr_getN C 2 6 mc_Flow_cls ml_111 rfl (by decide) (by decide) (fun _ => rfl) rfl md_Lives_frontiersOf_28 ?_
  refine mr_iload_n C 3 md_Lives_frontiersOf_31 rfl rfl ?_
  refine mr_iald C 27 10 (by decide) (fun _ => rfl) h.1 md_Lives_frontiersOf_32 ?_
  replace h := h.2
  refine mr_ior C md_Lives_frontiersOf_33 ?_
  refine mr_istore_n C (L' := [(2, .int (x2_4 ||| (mz_rd u1 27 x3_4))), (0, .ref (E.2.1 3)), (1, .int a0), (3, .int x3_4)]) md_Lives_frontiersOf_34 rfl (Nat.le_of_ble_eq_true rfl) rfl ?_
  refine mr_sub [1, 2, 0, 3] rfl ?_
  exact h
def mw_Lives_placePhis_141 (P93 : Int32 → mz_St → Prop) (x4_93 : Int32) (s141 : mz_St) : Prop :=
  P93 (x4_93 + 1) s141
def mw_Lives_placePhis_93 (K : mz_St → Prop) (a0 : Int32) (x3_67 : Int32) (P93 : Int32 → mz_St → Prop) (x4_93 : Int32) (s93 : mz_St) : Prop :=
  (((s93 1003 0) ≤ x4_93 →
   K s93) ∧
  (¬ (s93 1003 0) ≤ x4_93 →
   mw_Mill_isIn (fun r1 u1 =>
    (∀ P141 : mz_St → Prop, (∀ (s141 : mz_St), mw_Lives_placePhis_141 P93 x4_93 s141 → P141 s141) →
    ((r1 = 0 →
     P141 u1) ∧
    (¬ r1 = 0 →
     vp_in x4_93 10 ∧
     mw_Mill_isIn (fun r2 u2 =>
      ((r2 = 0 →
       P141 u2) ∧
      (¬ r2 = 0 →
       vp_in x4_93 10 ∧
       vp_in x4_93 10 ∧
       P141 (mz_wr u2 32 x4_93 ((mz_rd u2 32 x4_93) ||| ((1 : Int32) <<< (a0 &&& 31))))))) (mz_rd u1 31 x4_93) a0 u1)))) x3_67 x4_93 s93))
def mw_Lives_placePhis_67 (K : mz_St → Prop) (a0 : Int32) (x2_12 : Int32) (P67 : Int32 → Int32 → mz_St → Prop) (x3_67 : Int32) (x4_67 : Int32) (s67 : mz_St) : Prop :=
  ((10 ≤ x4_67 →
   (∀ P93 : Int32 → mz_St → Prop, (∀ (x4_93 : Int32) (s93 : mz_St), mw_Lives_placePhis_93 K a0 x3_67 P93 x4_93 s93 → P93 x4_93 s93) →
   P93 0 s67)) ∧
  (¬ 10 ≤ x4_67 →
   mw_Lives_frontiersOf (fun r3 u3 =>
    P67 (x3_67 ||| r3) (x4_67 + 1) u3) (x2_12 ||| x3_67) s67))
def mw_Lives_placePhis_56 (P12 : Int32 → Int32 → mz_St → Prop) (x3_12 : Int32) (x2_56 : Int32) (s56 : mz_St) : Prop :=
  P12 x2_56 (x3_12 + 1) s56
def mw_Lives_placePhis_12 (K : mz_St → Prop) (a0 : Int32) (P12 : Int32 → Int32 → mz_St → Prop) (x2_12 : Int32) (x3_12 : Int32) (s12 : mz_St) : Prop :=
  (((s12 1003 0) ≤ x3_12 →
   (∀ P67 : Int32 → Int32 → mz_St → Prop, (∀ (x3_67 : Int32) (x4_67 : Int32) (s67 : mz_St), mw_Lives_placePhis_67 K a0 x2_12 P67 x3_67 x4_67 s67 → P67 x3_67 x4_67 s67) →
   P67 0 0 s12)) ∧
  (¬ (s12 1003 0) ≤ x3_12 →
   mw_Mill_isIn (fun r4 u4 =>
    (∀ P56 : Int32 → mz_St → Prop, (∀ (x2_56 : Int32) (s56 : mz_St), mw_Lives_placePhis_56 P12 x3_12 x2_56 s56 → P56 x2_56 s56) →
    ((r4 = 0 →
     P56 x2_12 u4) ∧
    (¬ r4 = 0 →
     vp_in x3_12 10 ∧
     mw_Mill_isIn (fun r5 u5 =>
      ((r5 = 0 →
       P56 x2_12 u5) ∧
      (¬ r5 = 0 →
       P56 (x2_12 ||| ((1 : Int32) <<< (x3_12 &&& 31))) u5))) (mz_rd u4 30 x3_12) a0 u4)))) (s12 1004 0) x3_12 s12))
/-- ValueMill$Lives.placePhis(I)V: what it does, as a transformer of what must hold behind it -/
def mw_Lives_placePhis (K : mz_St → Prop) (a0 : Int32) (s0 : mz_St) : Prop :=
  (∀ P12 : Int32 → Int32 → mz_St → Prop, (∀ (x2_12 : Int32) (x3_12 : Int32) (s12 : mz_St), mw_Lives_placePhis_12 K a0 P12 x2_12 x3_12 s12 → P12 x2_12 x3_12 s12) →
  P12 ((s0 1004 0) &&& 1) 0 s0)
set_option maxRecDepth 100000 in
set_option maxHeartbeats 4000000 in
theorem ms_Lives_placePhis (l : Launch) (E : mz_En) (hI : mz_Inj E) (K : mz_St → Prop) (a0 : Int32) (s0 : mz_St) (h : mw_Lives_placePhis K a0 s0) : mz_Cv l E my_Lives_placePhis mb_Lives_placePhis 5 (2) (44) [.ref (E.2.1 3), .int a0] s0 K := by
  refine mz_ctv hI (by decide +kernel) (Nat.le_of_ble_eq_true rfl) (fun X C R => ?_)
  show mz_G E X 5 0 [(0, .ref (E.2.1 3)), (1, .int a0)] [] s0
  unfold mw_Lives_placePhis at h
  refine mr_aload_n C 0 md_Lives_placePhis_0 rfl rfl ?_
  refine mr_get C 3 1 mc_Lives_cls ml_155 rfl (by decide) (by decide) (fun _ => rfl) rfl md_Lives_placePhis_1 ?_
  refine mr_getN C 2 8 mc_Flow_cls ml_117 rfl (by decide) (by decide) (fun _ => rfl) rfl md_Lives_placePhis_4 ?_
  refine mr_iconst C md_Lives_placePhis_7 mk_iconst_1 ?_
  refine mr_iand C md_Lives_placePhis_8 ?_
  refine mr_istore_n C (L' := [(2, .int ((s0 1004 0) &&& 1)), (0, .ref (E.2.1 3)), (1, .int a0)]) md_Lives_placePhis_9 rfl (Nat.le_of_ble_eq_true rfl) rfl ?_
  refine mr_iconst C md_Lives_placePhis_10 mk_iconst_0 ?_
  refine mr_istore_n C (L' := [(3, .int 0), (2, .int ((s0 1004 0) &&& 1)), (0, .ref (E.2.1 3)), (1, .int a0)]) md_Lives_placePhis_11 rfl (Nat.le_of_ble_eq_true rfl) rfl ?_
  refine mr_sub [2, 3, 1, 0] rfl ?_
  refine h (fun (x2_12 : Int32) (x3_12 : Int32) (s12 : mz_St) => mz_G E X 5 12 [(0, .ref (E.2.1 3)), (1, .int a0), (2, .int x2_12), (3, .int x3_12)] [] s12) (fun x2_12 x3_12 s12 h => ?_)
  unfold mw_Lives_placePhis_12 at h
  refine mr_iload_n C 3 md_Lives_placePhis_12 rfl rfl ?_
  refine mr_aload_n C 0 md_Lives_placePhis_13 rfl rfl ?_
  refine mr_get C 3 0 mc_Lives_cls ml_154 rfl (by decide) (by decide) (fun _ => rfl) rfl md_Lives_placePhis_14 ?_
  refine mr_getN C 1 10 mc_Program_cls ml_62 rfl (by decide) (by decide) (fun _ => rfl) rfl md_Lives_placePhis_17 ?_
  refine mr_icmp_ge C md_Lives_placePhis_20 rfl (fun hc => ?_) (fun hc => ?_)
  · replace h := h.1 hc
    refine mr_iconst C md_Lives_placePhis_62 mk_iconst_0 ?_
    refine mr_istore_n C (L' := [(3, .int 0), (0, .ref (E.2.1 3)), (1, .int a0), (2, .int x2_12)]) md_Lives_placePhis_63 rfl (Nat.le_of_ble_eq_true rfl) rfl ?_
    refine mr_iconst C md_Lives_placePhis_64 mk_iconst_0 ?_
    refine mr_istore C (L' := [(4, .int 0), (3, .int 0), (0, .ref (E.2.1 3)), (1, .int a0), (2, .int x2_12)]) md_Lives_placePhis_65 (Nat.le_of_ble_eq_true rfl) rfl ?_
    refine mr_sub [2, 3, 4, 1, 0] rfl ?_
    refine h (fun (x3_67 : Int32) (x4_67 : Int32) (s67 : mz_St) => mz_G E X 5 67 [(0, .ref (E.2.1 3)), (1, .int a0), (2, .int x2_12), (3, .int x3_67), (4, .int x4_67)] [] s67) (fun x3_67 x4_67 s67 h => ?_)
    unfold mw_Lives_placePhis_67 at h
    refine mr_iload C 4 md_Lives_placePhis_67 rfl ?_
    refine mr_bipush C md_Lives_placePhis_69 mk_bipush_10 ?_
    refine mr_icmp_ge C md_Lives_placePhis_71 rfl (fun hc => ?_) (fun hc => ?_)
    · replace h := h.1 hc
      refine mr_iconst C md_Lives_placePhis_90 mk_iconst_0 ?_
      refine mr_istore C (L' := [(4, .int 0), (0, .ref (E.2.1 3)), (1, .int a0), (2, .int x2_12), (3, .int x3_67)]) md_Lives_placePhis_91 (Nat.le_of_ble_eq_true rfl) rfl ?_
      refine mr_sub [1, 2, 4, 0] rfl ?_
      refine h (fun (x4_93 : Int32) (s93 : mz_St) => mz_G E X 5 93 [(0, .ref (E.2.1 3)), (1, .int a0), (3, .int x3_67), (4, .int x4_93)] [] s93) (fun x4_93 s93 h => ?_)
      unfold mw_Lives_placePhis_93 at h
      refine mr_iload C 3 md_Lives_placePhis_93 rfl ?_
      refine mr_aload_n C 0 md_Lives_placePhis_95 rfl rfl ?_
      refine mr_get C 3 0 mc_Lives_cls ml_154 rfl (by decide) (by decide) (fun _ => rfl) rfl md_Lives_placePhis_96 ?_
      refine mr_getN C 1 10 mc_Program_cls ml_62 rfl (by decide) (by decide) (fun _ => rfl) rfl md_Lives_placePhis_99 ?_
      refine mr_icmp_ge C md_Lives_placePhis_102 rfl (fun hc => ?_) (fun hc => ?_)
      · replace h := h.1 hc
        exact mr_vret C R h md_Lives_placePhis_147
      replace h := h.2 hc
      refine mr_iload_n C 2 md_Lives_placePhis_105 rfl rfl ?_
      refine mr_iload C 3 md_Lives_placePhis_106 rfl ?_
      refine mr_cSNi C (As := [.int x3_67, .int x4_93]) (rest := []) (ms_Mill_isIn _ E hI _ x3_67 x4_93 _ h) mo_Mill_isIn mt_Mill_isIn ml_659 rfl rfl (Nat.le_of_ble_eq_true rfl) (Nat.le_of_ble_eq_true rfl) (Nat.le_of_ble_eq_true rfl) md_Lives_placePhis_108 (fun r1 u1 h => ?_)
      refine mj (h (fun (s141 : mz_St) => mz_G E X 5 141 [(0, .ref (E.2.1 3)), (1, .int a0), (3, .int x3_67), (4, .int x4_93)] [] s141) (fun s141 h => ?_)) (fun h => ?_)
      · unfold mw_Lives_placePhis_141 at h
        refine mr_iinc C (L' := [(4, .int (x4_93 + 1)), (0, .ref (E.2.1 3)), (1, .int a0), (3, .int x3_67)]) 3 md_Lives_placePhis_141 rfl (mk_inc mk_iconst_1) (Nat.le_of_ble_eq_true rfl) rfl ?_
        refine mr_goto C md_Lives_placePhis_144 rfl ?_
        refine mr_sub [1, 2, 3, 0] rfl ?_
        exact h
      refine mr_if_eq C md_Lives_placePhis_111 rfl (fun hc => ?_) (fun hc => ?_)
      · replace h := h.1 hc
        exact h
      replace h := h.2 hc
      refine mr_aload_n C 0 md_Lives_placePhis_114 rfl rfl ?_
      refine mr_get C 3 4 mc_Lives_cls ml_158 rfl (by decide) (by decide) (fun _ => rfl) rfl md_Lives_placePhis_115 ?_
      refine mr_iload C 3 md_Lives_placePhis_118 rfl ?_
      refine mr_iald C 31 10 (by decide) (fun _ => rfl) h.1 md_Lives_placePhis_120 ?_
      replace h := h.2
      refine mr_iload_n C 1 md_Lives_placePhis_121 rfl rfl ?_
      refine mr_cSNi C (As := [.int (mz_rd u1 31 x4_93), .int a0]) (rest := []) (ms_Mill_isIn _ E hI _ (mz_rd u1 31 x4_93) a0 _ h) mo_Mill_isIn mt_Mill_isIn ml_659 rfl rfl (Nat.le_of_ble_eq_true rfl) (Nat.le_of_ble_eq_true rfl) (Nat.le_of_ble_eq_true rfl) md_Lives_placePhis_122 (fun r2 u2 h => ?_)
      refine mr_if_eq C md_Lives_placePhis_125 rfl (fun hc => ?_) (fun hc => ?_)
      · replace h := h.1 hc
        exact h
      replace h := h.2 hc
      refine mr_aload_n C 0 md_Lives_placePhis_128 rfl rfl ?_
      refine mr_get C 3 5 mc_Lives_cls ml_161 rfl (by decide) (by decide) (fun _ => rfl) rfl md_Lives_placePhis_129 ?_
      refine mr_iload C 3 md_Lives_placePhis_132 rfl ?_
      refine mr_dup2 C md_Lives_placePhis_134 rfl rfl ?_
      refine mr_iald C 32 10 (by decide) (fun _ => rfl) h.1 md_Lives_placePhis_135 ?_
      replace h := h.2
      refine mr_iconst C md_Lives_placePhis_136 mk_iconst_1 ?_
      refine mr_iload_n C 1 md_Lives_placePhis_137 rfl rfl ?_
      refine mr_ishl C md_Lives_placePhis_138 ?_
      refine mr_ior C md_Lives_placePhis_139 ?_
      refine mr_iast C 32 10 (by decide) (by decide) (fun _ _ => rfl) h.1 md_Lives_placePhis_140 ?_
      replace h := h.2
      exact h
    replace h := h.2 hc
    refine mr_iload_n C 3 md_Lives_placePhis_74 rfl rfl ?_
    refine mr_aload_n C 0 md_Lives_placePhis_75 rfl rfl ?_
    refine mr_iload_n C 2 md_Lives_placePhis_76 rfl rfl ?_
    refine mr_iload_n C 3 md_Lives_placePhis_77 rfl rfl ?_
    refine mr_ior C md_Lives_placePhis_78 ?_
    refine mr_cVi C (As := [.int (x2_12 ||| x3_67)]) (rest := [.int x3_67]) 3 (ms_Lives_frontiersOf _ E hI _ (x2_12 ||| x3_67) _ h) mo_Lives_frontiersOf mi_Lives_frontiersOf mc_Lives_cls ml_660 (by decide) (fun _ => rfl) rfl rfl (Nat.le_of_ble_eq_true rfl) (Nat.le_of_ble_eq_true rfl) (Nat.le_of_ble_eq_true rfl) md_Lives_placePhis_79 (fun r3 u3 h => ?_)
    refine mr_ior C md_Lives_placePhis_82 ?_
    refine mr_istore_n C (L' := [(3, .int (x3_67 ||| r3)), (0, .ref (E.2.1 3)), (1, .int a0), (2, .int x2_12), (4, .int x4_67)]) md_Lives_placePhis_83 rfl (Nat.le_of_ble_eq_true rfl) rfl ?_
    refine mr_iinc C (L' := [(4, .int (x4_67 + 1)), (3, .int (x3_67 ||| r3)), (0, .ref (E.2.1 3)), (1, .int a0), (2, .int x2_12)]) 4 md_Lives_placePhis_84 rfl (mk_inc mk_iconst_1) (Nat.le_of_ble_eq_true rfl) rfl ?_
    refine mr_goto C md_Lives_placePhis_87 rfl ?_
    refine mr_sub [2, 3, 4, 1, 0] rfl ?_
    exact h
  replace h := h.2 hc
  refine mr_aload_n C 0 md_Lives_placePhis_23 rfl rfl ?_
  refine mr_get C 3 1 mc_Lives_cls ml_155 rfl (by decide) (by decide) (fun _ => rfl) rfl md_Lives_placePhis_24 ?_
  refine mr_getN C 2 8 mc_Flow_cls ml_117 rfl (by decide) (by decide) (fun _ => rfl) rfl md_Lives_placePhis_27 ?_
  refine mr_iload_n C 3 md_Lives_placePhis_30 rfl rfl ?_
  refine mr_cSNi C (As := [.int (s12 1004 0), .int x3_12]) (rest := []) (ms_Mill_isIn _ E hI _ (s12 1004 0) x3_12 _ h) mo_Mill_isIn mt_Mill_isIn ml_659 rfl rfl (Nat.le_of_ble_eq_true rfl) (Nat.le_of_ble_eq_true rfl) (Nat.le_of_ble_eq_true rfl) md_Lives_placePhis_31 (fun r4 u4 h => ?_)
  refine mj (h (fun (x2_56 : Int32) (s56 : mz_St) => mz_G E X 5 56 [(0, .ref (E.2.1 3)), (1, .int a0), (2, .int x2_56), (3, .int x3_12)] [] s56) (fun x2_56 s56 h => ?_)) (fun h => ?_)
  · unfold mw_Lives_placePhis_56 at h
    refine mr_iinc C (L' := [(3, .int (x3_12 + 1)), (0, .ref (E.2.1 3)), (1, .int a0), (2, .int x2_56)]) 3 md_Lives_placePhis_56 rfl (mk_inc mk_iconst_1) (Nat.le_of_ble_eq_true rfl) rfl ?_
    refine mr_goto C md_Lives_placePhis_59 rfl ?_
    refine mr_sub [1, 2, 3, 0] rfl ?_
    exact h
  refine mr_if_eq C md_Lives_placePhis_34 rfl (fun hc => ?_) (fun hc => ?_)
  · replace h := h.1 hc
    exact h
  replace h := h.2 hc
  refine mr_aload_n C 0 md_Lives_placePhis_37 rfl rfl ?_
  refine mr_get C 3 3 mc_Lives_cls ml_157 rfl (by decide) (by decide) (fun _ => rfl) rfl md_Lives_placePhis_38 ?_
  refine mr_iload_n C 3 md_Lives_placePhis_41 rfl rfl ?_
  refine mr_iald C 30 10 (by decide) (fun _ => rfl) h.1 md_Lives_placePhis_42 ?_
  replace h := h.2
  refine mr_iload_n C 1 md_Lives_placePhis_43 rfl rfl ?_
  refine mr_cSNi C (As := [.int (mz_rd u4 30 x3_12), .int a0]) (rest := []) (ms_Mill_isIn _ E hI _ (mz_rd u4 30 x3_12) a0 _ h) mo_Mill_isIn mt_Mill_isIn ml_659 rfl rfl (Nat.le_of_ble_eq_true rfl) (Nat.le_of_ble_eq_true rfl) (Nat.le_of_ble_eq_true rfl) md_Lives_placePhis_44 (fun r5 u5 h => ?_)
  refine mr_if_eq C md_Lives_placePhis_47 rfl (fun hc => ?_) (fun hc => ?_)
  · replace h := h.1 hc
    exact h
  replace h := h.2 hc
  refine mr_iload_n C 2 md_Lives_placePhis_50 rfl rfl ?_
  refine mr_iconst C md_Lives_placePhis_51 mk_iconst_1 ?_
  refine mr_iload_n C 3 md_Lives_placePhis_52 rfl rfl ?_
  refine mr_ishl C md_Lives_placePhis_53 ?_
  refine mr_ior C md_Lives_placePhis_54 ?_
  refine mr_istore_n C (L' := [(2, .int (x2_12 ||| ((1 : Int32) <<< (x3_12 &&& 31)))), (0, .ref (E.2.1 3)), (1, .int a0), (3, .int x3_12)]) md_Lives_placePhis_55 rfl (Nat.le_of_ble_eq_true rfl) rfl ?_
  refine mr_sub [1, 2, 0, 3] rfl ?_
  exact h
def mw_Lives_lookAt_101 (K : mz_St → Prop) (P101 : Int32 → mz_St → Prop) (x1_101 : Int32) (s101 : mz_St) : Prop :=
  ((10 ≤ x1_101 →
   K s101) ∧
  (¬ 10 ≤ x1_101 →
   mw_Lives_placePhis (fun u1 =>
    P101 (x1_101 + 1) u1) x1_101 s101))
def mw_Lives_lookAt_53 (P45 : Int32 → mz_St → Prop) (x1_45 : Int32) (P53 : Int32 → mz_St → Prop) (x2_53 : Int32) (s53 : mz_St) : Prop :=
  (((s53 1003 0) ≤ x2_53 →
   P45 (x1_45 + 1) s53) ∧
  (¬ (s53 1003 0) ≤ x2_53 →
   vp_in x2_53 10 ∧
   mw_Lives_liveBehind (fun r1 u2 =>
    vp_in x2_53 10 ∧
    vp_in x2_53 10 ∧
    P53 (x2_53 + 1) (mz_wr u2 31 x2_53 ((mz_rd s53 31 x2_53) ||| (r1 &&& ((mz_rd u2 30 x2_53) ^^^ (-1)))))) x2_53 s53))
def mw_Lives_lookAt_45 (K : mz_St → Prop) (P45 : Int32 → mz_St → Prop) (x1_45 : Int32) (s45 : mz_St) : Prop :=
  ((10 ≤ x1_45 →
   (∀ P101 : Int32 → mz_St → Prop, (∀ (x1_101 : Int32) (s101 : mz_St), mw_Lives_lookAt_101 K P101 x1_101 s101 → P101 x1_101 s101) →
   P101 0 s45)) ∧
  (¬ 10 ≤ x1_45 →
   (∀ P53 : Int32 → mz_St → Prop, (∀ (x2_53 : Int32) (s53 : mz_St), mw_Lives_lookAt_53 P45 x1_45 P53 x2_53 s53 → P53 x2_53 s53) →
   P53 0 s45)))
def mw_Lives_lookAt_2 (K : mz_St → Prop) (P2 : Int32 → mz_St → Prop) (x1_2 : Int32) (s2 : mz_St) : Prop :=
  (((s2 1003 0) ≤ x1_2 →
   (∀ P45 : Int32 → mz_St → Prop, (∀ (x1_45 : Int32) (s45 : mz_St), mw_Lives_lookAt_45 K P45 x1_45 s45 → P45 x1_45 s45) →
   P45 0 s2)) ∧
  (¬ (s2 1003 0) ≤ x1_2 →
   mw_Lives_findReadsAndWrites (fun u3 =>
    vp_in x1_2 10 ∧
    vp_in x1_2 10 ∧
    vp_in x1_2 10 ∧
    P2 (x1_2 + 1) (mz_wr (mz_wr u3 31 x1_2 (mz_rd u3 29 x1_2)) 32 x1_2 0)) x1_2 s2))
/-- ValueMill$Lives.lookAt()V: what it does, as a transformer of what must hold behind it -/
def mw_Lives_lookAt (K : mz_St → Prop) (s0 : mz_St) : Prop :=
  (∀ P2 : Int32 → mz_St → Prop, (∀ (x1_2 : Int32) (s2 : mz_St), mw_Lives_lookAt_2 K P2 x1_2 s2 → P2 x1_2 s2) →
  P2 0 s0)
set_option maxRecDepth 100000 in
set_option maxHeartbeats 4000000 in
theorem ms_Lives_lookAt (l : Launch) (E : mz_En) (hI : mz_Inj E) (K : mz_St → Prop) (s0 : mz_St) (h : mw_Lives_lookAt K s0) : mz_Cv l E my_Lives_lookAt mb_Lives_lookAt 3 (3) (68) [.ref (E.2.1 3)] s0 K := by
  refine mz_ctv hI (by decide +kernel) (Nat.le_of_ble_eq_true rfl) (fun X C R => ?_)
  show mz_G E X 3 0 [(0, .ref (E.2.1 3))] [] s0
  unfold mw_Lives_lookAt at h
  refine mr_iconst C md_Lives_lookAt_0 mk_iconst_0 ?_
  refine mr_istore_n C (L' := [(1, .int 0), (0, .ref (E.2.1 3))]) md_Lives_lookAt_1 rfl (Nat.le_of_ble_eq_true rfl) rfl ?_
  refine mr_sub [1, 0] rfl ?_
  refine h (fun (x1_2 : Int32) (s2 : mz_St) => mz_G E X 3 2 [(0, .ref (E.2.1 3)), (1, .int x1_2)] [] s2) (fun x1_2 s2 h => ?_)
  unfold mw_Lives_lookAt_2 at h
  refine mr_iload_n C 1 md_Lives_lookAt_2 rfl rfl ?_
  refine mr_aload_n C 0 md_Lives_lookAt_3 rfl rfl ?_
  refine mr_get C 3 0 mc_Lives_cls ml_154 rfl (by decide) (by decide) (fun _ => rfl) rfl md_Lives_lookAt_4 ?_
  refine mr_getN C 1 10 mc_Program_cls ml_62 rfl (by decide) (by decide) (fun _ => rfl) rfl md_Lives_lookAt_7 ?_
  refine mr_icmp_ge C md_Lives_lookAt_10 rfl (fun hc => ?_) (fun hc => ?_)
  · replace h := h.1 hc
    refine mr_iconst C md_Lives_lookAt_43 mk_iconst_0 ?_
    refine mr_istore_n C (L' := [(1, .int 0), (0, .ref (E.2.1 3))]) md_Lives_lookAt_44 rfl (Nat.le_of_ble_eq_true rfl) rfl ?_
    refine mr_sub [1, 0] rfl ?_
    refine h (fun (x1_45 : Int32) (s45 : mz_St) => mz_G E X 3 45 [(0, .ref (E.2.1 3)), (1, .int x1_45)] [] s45) (fun x1_45 s45 h => ?_)
    unfold mw_Lives_lookAt_45 at h
    refine mr_iload_n C 1 md_Lives_lookAt_45 rfl rfl ?_
    refine mr_bipush C md_Lives_lookAt_46 mk_bipush_10 ?_
    refine mr_icmp_ge C md_Lives_lookAt_48 rfl (fun hc => ?_) (fun hc => ?_)
    · replace h := h.1 hc
      refine mr_iconst C md_Lives_lookAt_99 mk_iconst_0 ?_
      refine mr_istore_n C (L' := [(1, .int 0), (0, .ref (E.2.1 3))]) md_Lives_lookAt_100 rfl (Nat.le_of_ble_eq_true rfl) rfl ?_
      refine mr_sub [1, 0] rfl ?_
      refine h (fun (x1_101 : Int32) (s101 : mz_St) => mz_G E X 3 101 [(0, .ref (E.2.1 3)), (1, .int x1_101)] [] s101) (fun x1_101 s101 h => ?_)
      unfold mw_Lives_lookAt_101 at h
      refine mr_iload_n C 1 md_Lives_lookAt_101 rfl rfl ?_
      refine mr_bipush C md_Lives_lookAt_102 mk_bipush_10 ?_
      refine mr_icmp_ge C md_Lives_lookAt_104 rfl (fun hc => ?_) (fun hc => ?_)
      · replace h := h.1 hc
        exact mr_vret C R h md_Lives_lookAt_118
      replace h := h.2 hc
      refine mr_aload_n C 0 md_Lives_lookAt_107 rfl rfl ?_
      refine mr_iload_n C 1 md_Lives_lookAt_108 rfl rfl ?_
      refine mr_cVv C (As := [.int x1_101]) (rest := []) 3 (ms_Lives_placePhis _ E hI _ x1_101 _ h) mo_Lives_placePhis mi_Lives_placePhis mc_Lives_cls ml_655 (by decide) (fun _ => rfl) rfl rfl (Nat.le_of_ble_eq_true rfl) (Nat.le_of_ble_eq_true rfl) (Nat.le_of_ble_eq_true rfl) md_Lives_lookAt_109 (fun u1 h => ?_)
      refine mr_iinc C (L' := [(1, .int (x1_101 + 1)), (0, .ref (E.2.1 3))]) 1 md_Lives_lookAt_112 rfl (mk_inc mk_iconst_1) (Nat.le_of_ble_eq_true rfl) rfl ?_
      refine mr_goto C md_Lives_lookAt_115 rfl ?_
      refine mr_sub [1, 0] rfl ?_
      exact h
    replace h := h.2 hc
    refine mr_iconst C md_Lives_lookAt_51 mk_iconst_0 ?_
    refine mr_istore_n C (L' := [(2, .int 0), (0, .ref (E.2.1 3)), (1, .int x1_45)]) md_Lives_lookAt_52 rfl (Nat.le_of_ble_eq_true rfl) rfl ?_
    refine mr_sub [1, 2, 0] rfl ?_
    refine h (fun (x2_53 : Int32) (s53 : mz_St) => mz_G E X 3 53 [(0, .ref (E.2.1 3)), (1, .int x1_45), (2, .int x2_53)] [] s53) (fun x2_53 s53 h => ?_)
    unfold mw_Lives_lookAt_53 at h
    refine mr_iload_n C 2 md_Lives_lookAt_53 rfl rfl ?_
    refine mr_aload_n C 0 md_Lives_lookAt_54 rfl rfl ?_
    refine mr_get C 3 0 mc_Lives_cls ml_154 rfl (by decide) (by decide) (fun _ => rfl) rfl md_Lives_lookAt_55 ?_
    refine mr_getN C 1 10 mc_Program_cls ml_62 rfl (by decide) (by decide) (fun _ => rfl) rfl md_Lives_lookAt_58 ?_
    refine mr_icmp_ge C md_Lives_lookAt_61 rfl (fun hc => ?_) (fun hc => ?_)
    · replace h := h.1 hc
      refine mr_iinc C (L' := [(1, .int (x1_45 + 1)), (0, .ref (E.2.1 3)), (2, .int x2_53)]) 1 md_Lives_lookAt_93 rfl (mk_inc mk_iconst_1) (Nat.le_of_ble_eq_true rfl) rfl ?_
      refine mr_goto C md_Lives_lookAt_96 rfl ?_
      refine mr_sub [1, 0] rfl ?_
      exact h
    replace h := h.2 hc
    refine mr_aload_n C 0 md_Lives_lookAt_64 rfl rfl ?_
    refine mr_get C 3 4 mc_Lives_cls ml_158 rfl (by decide) (by decide) (fun _ => rfl) rfl md_Lives_lookAt_65 ?_
    refine mr_iload_n C 2 md_Lives_lookAt_68 rfl rfl ?_
    refine mr_dup2 C md_Lives_lookAt_69 rfl rfl ?_
    refine mr_iald C 31 10 (by decide) (fun _ => rfl) h.1 md_Lives_lookAt_70 ?_
    replace h := h.2
    refine mr_aload_n C 0 md_Lives_lookAt_71 rfl rfl ?_
    refine mr_iload_n C 2 md_Lives_lookAt_72 rfl rfl ?_
    refine mr_cVi C (As := [.int x2_53]) (rest := [.int (mz_rd s53 31 x2_53), .int x2_53, .ref (E.2.1 31)]) 3 (ms_Lives_liveBehind _ E hI _ x2_53 _ h) mo_Lives_liveBehind mi_Lives_liveBehind mc_Lives_cls ml_649 (by decide) (fun _ => rfl) rfl rfl (Nat.le_of_ble_eq_true rfl) (Nat.le_of_ble_eq_true rfl) (Nat.le_of_ble_eq_true rfl) md_Lives_lookAt_73 (fun r1 u2 h => ?_)
    refine mr_aload_n C 0 md_Lives_lookAt_76 rfl rfl ?_
    refine mr_get C 3 3 mc_Lives_cls ml_157 rfl (by decide) (by decide) (fun _ => rfl) rfl md_Lives_lookAt_77 ?_
    refine mr_iload_n C 2 md_Lives_lookAt_80 rfl rfl ?_
    refine mr_iald C 30 10 (by decide) (fun _ => rfl) h.1 md_Lives_lookAt_81 ?_
    replace h := h.2
    refine mr_iconst C md_Lives_lookAt_82 mk_iconst_m1 ?_
    refine mr_ixor C md_Lives_lookAt_83 ?_
    refine mr_iand C md_Lives_lookAt_84 ?_
    refine mr_ior C md_Lives_lookAt_85 ?_
    refine mr_iast C 31 10 (by decide) (by decide) (fun _ _ => rfl) h.1 md_Lives_lookAt_86 ?_
    replace h := h.2
    refine mr_iinc C (L' := [(2, .int (x2_53 + 1)), (0, .ref (E.2.1 3)), (1, .int x1_45)]) 2 md_Lives_lookAt_87 rfl (mk_inc mk_iconst_1) (Nat.le_of_ble_eq_true rfl) rfl ?_
    refine mr_goto C md_Lives_lookAt_90 rfl ?_
    refine mr_sub [1, 2, 0] rfl ?_
    exact h
  replace h := h.2 hc
  refine mr_aload_n C 0 md_Lives_lookAt_13 rfl rfl ?_
  refine mr_iload_n C 1 md_Lives_lookAt_14 rfl rfl ?_
  refine mr_cVv C (As := [.int x1_2]) (rest := []) 3 (ms_Lives_findReadsAndWrites _ E hI _ x1_2 _ h) mo_Lives_findReadsAndWrites mi_Lives_findReadsAndWrites mc_Lives_cls ml_623 (by decide) (fun _ => rfl) rfl rfl (Nat.le_of_ble_eq_true rfl) (Nat.le_of_ble_eq_true rfl) (Nat.le_of_ble_eq_true rfl) md_Lives_lookAt_15 (fun u3 h => ?_)
  refine mr_aload_n C 0 md_Lives_lookAt_18 rfl rfl ?_
  refine mr_get C 3 4 mc_Lives_cls ml_158 rfl (by decide) (by decide) (fun _ => rfl) rfl md_Lives_lookAt_19 ?_
  refine mr_iload_n C 1 md_Lives_lookAt_22 rfl rfl ?_
  refine mr_aload_n C 0 md_Lives_lookAt_23 rfl rfl ?_
  refine mr_get C 3 2 mc_Lives_cls ml_156 rfl (by decide) (by decide) (fun _ => rfl) rfl md_Lives_lookAt_24 ?_
  refine mr_iload_n C 1 md_Lives_lookAt_27 rfl rfl ?_
  refine mr_iald C 29 10 (by decide) (fun _ => rfl) h.1 md_Lives_lookAt_28 ?_
  replace h := h.2
  refine mr_iast C 31 10 (by decide) (by decide) (fun _ _ => rfl) h.1 md_Lives_lookAt_29 ?_
  replace h := h.2
  refine mr_aload_n C 0 md_Lives_lookAt_30 rfl rfl ?_
  refine mr_get C 3 5 mc_Lives_cls ml_161 rfl (by decide) (by decide) (fun _ => rfl) rfl md_Lives_lookAt_31 ?_
  refine mr_iload_n C 1 md_Lives_lookAt_34 rfl rfl ?_
  refine mr_iconst C md_Lives_lookAt_35 mk_iconst_0 ?_
  refine mr_iast C 32 10 (by decide) (by decide) (fun _ _ => rfl) h.1 md_Lives_lookAt_36 ?_
  replace h := h.2
  refine mr_iinc C (L' := [(1, .int (x1_2 + 1)), (0, .ref (E.2.1 3))]) 1 md_Lives_lookAt_37 rfl (mk_inc mk_iconst_1) (Nat.le_of_ble_eq_true rfl) rfl ?_
  refine mr_goto C md_Lives_lookAt_40 rfl ?_
  refine mr_sub [1, 0] rfl ?_
  exact h

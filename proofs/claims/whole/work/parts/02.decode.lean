theorem dX0_init_0 : decode cX0_init 0 = .ok (.aload_n 0, 1) := by decide +kernel
theorem dX0_init_1 : decode cX0_init 1 = .ok (.invokespecial 3, 3) := by decide +kernel
theorem dX0_init_4 : decode cX0_init 4 = .ok (.aload_n 0, 1) := by decide +kernel
theorem dX0_init_5 : decode cX0_init 5 = .ok (.bipush 10, 2) := by decide +kernel
theorem dX0_init_7 : decode cX0_init 7 = .ok (.newarray .int, 2) := by decide +kernel
theorem dX0_init_9 : decode cX0_init 9 = .ok (.putfield 9, 3) := by decide +kernel
theorem dX0_init_12 : decode cX0_init 12 = .ok (.aload_n 0, 1) := by decide +kernel
theorem dX0_init_13 : decode cX0_init 13 = .ok (.bipush 10, 2) := by decide +kernel
theorem dX0_init_15 : decode cX0_init 15 = .ok (.newarray .int, 2) := by decide +kernel
theorem dX0_init_17 : decode cX0_init 17 = .ok (.putfield 15, 3) := by decide +kernel
theorem dX0_init_20 : decode cX0_init 20 = .ok (.aload_n 0, 1) := by decide +kernel
theorem dX0_init_21 : decode cX0_init 21 = .ok (.bipush 10, 2) := by decide +kernel
theorem dX0_init_23 : decode cX0_init 23 = .ok (.newarray .int, 2) := by decide +kernel
theorem dX0_init_25 : decode cX0_init 25 = .ok (.putfield 18, 3) := by decide +kernel
theorem dX0_init_28 : decode cX0_init 28 = .ok (.aload_n 0, 1) := by decide +kernel
theorem dX0_init_29 : decode cX0_init 29 = .ok (.bipush 10, 2) := by decide +kernel
theorem dX0_init_31 : decode cX0_init 31 = .ok (.newarray .int, 2) := by decide +kernel
theorem dX0_init_33 : decode cX0_init 33 = .ok (.putfield 21, 3) := by decide +kernel
theorem dX0_init_36 : decode cX0_init 36 = .ok (.aload_n 0, 1) := by decide +kernel
theorem dX0_init_37 : decode cX0_init 37 = .ok (.iconst 0, 1) := by decide +kernel
theorem dX0_init_38 : decode cX0_init 38 = .ok (.putfield 24, 3) := by decide +kernel
theorem dX0_init_41 : decode cX0_init 41 = .ok (.return_, 1) := by decide +kernel
theorem dX0_add_0 : decode cX0_add 0 = .ok (.aload_n 0, 1) := by decide +kernel
theorem dX0_add_1 : decode cX0_add 1 = .ok (.getfield 24, 3) := by decide +kernel
theorem dX0_add_4 : decode cX0_add 4 = .ok (.bipush 10, 2) := by decide +kernel
theorem dX0_add_6 : decode cX0_add 6 = .ok (.if_icmp .ge 62, 3) := by decide +kernel
theorem dX0_add_9 : decode cX0_add 9 = .ok (.aload_n 0, 1) := by decide +kernel
theorem dX0_add_10 : decode cX0_add 10 = .ok (.getfield 9, 3) := by decide +kernel
theorem dX0_add_13 : decode cX0_add 13 = .ok (.aload_n 0, 1) := by decide +kernel
theorem dX0_add_14 : decode cX0_add 14 = .ok (.getfield 24, 3) := by decide +kernel
theorem dX0_add_17 : decode cX0_add 17 = .ok (.iload_n 1, 1) := by decide +kernel
theorem dX0_add_18 : decode cX0_add 18 = .ok (.invokestatic 28, 3) := by decide +kernel
theorem dX0_add_21 : decode cX0_add 21 = .ok (.aload_n 0, 1) := by decide +kernel
theorem dX0_add_22 : decode cX0_add 22 = .ok (.getfield 15, 3) := by decide +kernel
theorem dX0_add_25 : decode cX0_add 25 = .ok (.aload_n 0, 1) := by decide +kernel
theorem dX0_add_26 : decode cX0_add 26 = .ok (.getfield 24, 3) := by decide +kernel
theorem dX0_add_29 : decode cX0_add 29 = .ok (.iload_n 2, 1) := by decide +kernel
theorem dX0_add_30 : decode cX0_add 30 = .ok (.invokestatic 28, 3) := by decide +kernel
theorem dX0_add_33 : decode cX0_add 33 = .ok (.aload_n 0, 1) := by decide +kernel
theorem dX0_add_34 : decode cX0_add 34 = .ok (.getfield 18, 3) := by decide +kernel
theorem dX0_add_37 : decode cX0_add 37 = .ok (.aload_n 0, 1) := by decide +kernel
theorem dX0_add_38 : decode cX0_add 38 = .ok (.getfield 24, 3) := by decide +kernel
theorem dX0_add_41 : decode cX0_add 41 = .ok (.iload_n 3, 1) := by decide +kernel
theorem dX0_add_42 : decode cX0_add 42 = .ok (.invokestatic 28, 3) := by decide +kernel
theorem dX0_add_45 : decode cX0_add 45 = .ok (.aload_n 0, 1) := by decide +kernel
theorem dX0_add_46 : decode cX0_add 46 = .ok (.getfield 21, 3) := by decide +kernel
theorem dX0_add_49 : decode cX0_add 49 = .ok (.aload_n 0, 1) := by decide +kernel
theorem dX0_add_50 : decode cX0_add 50 = .ok (.getfield 24, 3) := by decide +kernel
theorem dX0_add_53 : decode cX0_add 53 = .ok (.iload 4, 2) := by decide +kernel
theorem dX0_add_55 : decode cX0_add 55 = .ok (.invokestatic 28, 3) := by decide +kernel
theorem dX0_add_58 : decode cX0_add 58 = .ok (.aload_n 0, 1) := by decide +kernel
theorem dX0_add_59 : decode cX0_add 59 = .ok (.dup, 1) := by decide +kernel
theorem dX0_add_60 : decode cX0_add 60 = .ok (.getfield 24, 3) := by decide +kernel
theorem dX0_add_63 : decode cX0_add 63 = .ok (.iconst 1, 1) := by decide +kernel
theorem dX0_add_64 : decode cX0_add 64 = .ok (.iadd, 1) := by decide +kernel
theorem dX0_add_65 : decode cX0_add 65 = .ok (.putfield 24, 3) := by decide +kernel
theorem dX0_add_68 : decode cX0_add 68 = .ok (.return_, 1) := by decide +kernel
theorem dX0_become_0 : decode cX0_become 0 = .ok (.aload_n 1, 1) := by decide +kernel
theorem dX0_become_1 : decode cX0_become 1 = .ok (.getfield 9, 3) := by decide +kernel
theorem dX0_become_4 : decode cX0_become 4 = .ok (.aload_n 0, 1) := by decide +kernel
theorem dX0_become_5 : decode cX0_become 5 = .ok (.getfield 9, 3) := by decide +kernel
theorem dX0_become_8 : decode cX0_become 8 = .ok (.invokestatic 32, 3) := by decide +kernel
theorem dX0_become_11 : decode cX0_become 11 = .ok (.aload_n 1, 1) := by decide +kernel
theorem dX0_become_12 : decode cX0_become 12 = .ok (.getfield 15, 3) := by decide +kernel
theorem dX0_become_15 : decode cX0_become 15 = .ok (.aload_n 0, 1) := by decide +kernel
theorem dX0_become_16 : decode cX0_become 16 = .ok (.getfield 15, 3) := by decide +kernel
theorem dX0_become_19 : decode cX0_become 19 = .ok (.invokestatic 32, 3) := by decide +kernel
theorem dX0_become_22 : decode cX0_become 22 = .ok (.aload_n 1, 1) := by decide +kernel
theorem dX0_become_23 : decode cX0_become 23 = .ok (.getfield 18, 3) := by decide +kernel
theorem dX0_become_26 : decode cX0_become 26 = .ok (.aload_n 0, 1) := by decide +kernel
theorem dX0_become_27 : decode cX0_become 27 = .ok (.getfield 18, 3) := by decide +kernel
theorem dX0_become_30 : decode cX0_become 30 = .ok (.invokestatic 32, 3) := by decide +kernel
theorem dX0_become_33 : decode cX0_become 33 = .ok (.aload_n 1, 1) := by decide +kernel
theorem dX0_become_34 : decode cX0_become 34 = .ok (.getfield 21, 3) := by decide +kernel
theorem dX0_become_37 : decode cX0_become 37 = .ok (.aload_n 0, 1) := by decide +kernel
theorem dX0_become_38 : decode cX0_become 38 = .ok (.getfield 21, 3) := by decide +kernel
theorem dX0_become_41 : decode cX0_become 41 = .ok (.invokestatic 32, 3) := by decide +kernel
theorem dX0_become_44 : decode cX0_become 44 = .ok (.aload_n 0, 1) := by decide +kernel
theorem dX0_become_45 : decode cX0_become 45 = .ok (.aload_n 1, 1) := by decide +kernel
theorem dX0_become_46 : decode cX0_become 46 = .ok (.getfield 24, 3) := by decide +kernel
theorem dX0_become_49 : decode cX0_become 49 = .ok (.putfield 24, 3) := by decide +kernel
theorem dX0_become_52 : decode cX0_become 52 = .ok (.return_, 1) := by decide +kernel
theorem dX0_allAreSo_0 : decode cX0_allAreSo 0 = .ok (.iconst 0, 1) := by decide +kernel
theorem dX0_allAreSo_1 : decode cX0_allAreSo 1 = .ok (.istore_n 3, 1) := by decide +kernel
theorem dX0_allAreSo_2 : decode cX0_allAreSo 2 = .ok (.iload_n 3, 1) := by decide +kernel
theorem dX0_allAreSo_3 : decode cX0_allAreSo 3 = .ok (.aload_n 0, 1) := by decide +kernel
theorem dX0_allAreSo_4 : decode cX0_allAreSo 4 = .ok (.getfield 24, 3) := by decide +kernel
theorem dX0_allAreSo_7 : decode cX0_allAreSo 7 = .ok (.if_icmp .ge 72, 3) := by decide +kernel
theorem dX0_allAreSo_10 : decode cX0_allAreSo 10 = .ok (.aload_n 0, 1) := by decide +kernel
theorem dX0_allAreSo_11 : decode cX0_allAreSo 11 = .ok (.getfield 9, 3) := by decide +kernel
theorem dX0_allAreSo_14 : decode cX0_allAreSo 14 = .ok (.iload_n 3, 1) := by decide +kernel
theorem dX0_allAreSo_15 : decode cX0_allAreSo 15 = .ok (.invokestatic 36, 3) := by decide +kernel
theorem dX0_allAreSo_18 : decode cX0_allAreSo 18 = .ok (.iload_n 1, 1) := by decide +kernel
theorem dX0_allAreSo_19 : decode cX0_allAreSo 19 = .ok (.iload_n 2, 1) := by decide +kernel
theorem dX0_allAreSo_20 : decode cX0_allAreSo 20 = .ok (.aload_n 0, 1) := by decide +kernel
theorem dX0_allAreSo_21 : decode cX0_allAreSo 21 = .ok (.getfield 15, 3) := by decide +kernel
theorem dX0_allAreSo_24 : decode cX0_allAreSo 24 = .ok (.iload_n 3, 1) := by decide +kernel
theorem dX0_allAreSo_25 : decode cX0_allAreSo 25 = .ok (.invokestatic 36, 3) := by decide +kernel
theorem dX0_allAreSo_28 : decode cX0_allAreSo 28 = .ok (.aload_n 0, 1) := by decide +kernel
theorem dX0_allAreSo_29 : decode cX0_allAreSo 29 = .ok (.getfield 18, 3) := by decide +kernel
theorem dX0_allAreSo_32 : decode cX0_allAreSo 32 = .ok (.iload_n 3, 1) := by decide +kernel
theorem dX0_allAreSo_33 : decode cX0_allAreSo 33 = .ok (.invokestatic 36, 3) := by decide +kernel
theorem dX0_allAreSo_36 : decode cX0_allAreSo 36 = .ok (.invokestatic 40, 3) := by decide +kernel
theorem dX0_allAreSo_39 : decode cX0_allAreSo 39 = .ok (.if_icmp .gt 7, 3) := by decide +kernel
theorem dX0_allAreSo_42 : decode cX0_allAreSo 42 = .ok (.iconst 1, 1) := by decide +kernel
theorem dX0_allAreSo_43 : decode cX0_allAreSo 43 = .ok (.goto 4, 3) := by decide +kernel
theorem dX0_allAreSo_46 : decode cX0_allAreSo 46 = .ok (.iconst 0, 1) := by decide +kernel
theorem dX0_allAreSo_47 : decode cX0_allAreSo 47 = .ok (.istore 4, 2) := by decide +kernel
theorem dX0_allAreSo_49 : decode cX0_allAreSo 49 = .ok (.iload 4, 2) := by decide +kernel
theorem dX0_allAreSo_51 : decode cX0_allAreSo 51 = .ok (.aload_n 0, 1) := by decide +kernel
theorem dX0_allAreSo_52 : decode cX0_allAreSo 52 = .ok (.getfield 21, 3) := by decide +kernel
theorem dX0_allAreSo_55 : decode cX0_allAreSo 55 = .ok (.iload_n 3, 1) := by decide +kernel
theorem dX0_allAreSo_56 : decode cX0_allAreSo 56 = .ok (.invokestatic 36, 3) := by decide +kernel
theorem dX0_allAreSo_59 : decode cX0_allAreSo 59 = .ok (.iconst 1, 1) := by decide +kernel
theorem dX0_allAreSo_60 : decode cX0_allAreSo 60 = .ok (.if_icmp .ne 7, 3) := by decide +kernel
theorem dX0_allAreSo_63 : decode cX0_allAreSo 63 = .ok (.iconst 1, 1) := by decide +kernel
theorem dX0_allAreSo_64 : decode cX0_allAreSo 64 = .ok (.goto 4, 3) := by decide +kernel
theorem dX0_allAreSo_67 : decode cX0_allAreSo 67 = .ok (.iconst 0, 1) := by decide +kernel
theorem dX0_allAreSo_68 : decode cX0_allAreSo 68 = .ok (.if_icmp .eq 5, 3) := by decide +kernel
theorem dX0_allAreSo_71 : decode cX0_allAreSo 71 = .ok (.iconst 0, 1) := by decide +kernel
theorem dX0_allAreSo_72 : decode cX0_allAreSo 72 = .ok (.ireturn, 1) := by decide +kernel
theorem dX0_allAreSo_73 : decode cX0_allAreSo 73 = .ok (.iinc 3 1, 3) := by decide +kernel
theorem dX0_allAreSo_76 : decode cX0_allAreSo 76 = .ok (.goto (-74), 3) := by decide +kernel
theorem dX0_allAreSo_79 : decode cX0_allAreSo 79 = .ok (.iconst 1, 1) := by decide +kernel
theorem dX0_allAreSo_80 : decode cX0_allAreSo 80 = .ok (.ireturn, 1) := by decide +kernel
theorem dX1_init_0 : decode cX1_init 0 = .ok (.aload_n 0, 1) := by decide +kernel
theorem dX1_init_1 : decode cX1_init 1 = .ok (.invokespecial 3, 3) := by decide +kernel
theorem dX1_init_4 : decode cX1_init 4 = .ok (.aload_n 0, 1) := by decide +kernel
theorem dX1_init_5 : decode cX1_init 5 = .ok (.bipush 8, 2) := by decide +kernel
theorem dX1_init_7 : decode cX1_init 7 = .ok (.newarray .int, 2) := by decide +kernel
theorem dX1_init_9 : decode cX1_init 9 = .ok (.putfield 9, 3) := by decide +kernel
theorem dX1_init_12 : decode cX1_init 12 = .ok (.aload_n 0, 1) := by decide +kernel
theorem dX1_init_13 : decode cX1_init 13 = .ok (.bipush 8, 2) := by decide +kernel
theorem dX1_init_15 : decode cX1_init 15 = .ok (.newarray .int, 2) := by decide +kernel
theorem dX1_init_17 : decode cX1_init 17 = .ok (.putfield 15, 3) := by decide +kernel
theorem dX1_init_20 : decode cX1_init 20 = .ok (.aload_n 0, 1) := by decide +kernel
theorem dX1_init_21 : decode cX1_init 21 = .ok (.bipush 8, 2) := by decide +kernel
theorem dX1_init_23 : decode cX1_init 23 = .ok (.newarray .int, 2) := by decide +kernel
theorem dX1_init_25 : decode cX1_init 25 = .ok (.putfield 18, 3) := by decide +kernel
theorem dX1_init_28 : decode cX1_init 28 = .ok (.aload_n 0, 1) := by decide +kernel
theorem dX1_init_29 : decode cX1_init 29 = .ok (.bipush 8, 2) := by decide +kernel
theorem dX1_init_31 : decode cX1_init 31 = .ok (.newarray .int, 2) := by decide +kernel
theorem dX1_init_33 : decode cX1_init 33 = .ok (.putfield 21, 3) := by decide +kernel
theorem dX1_init_36 : decode cX1_init 36 = .ok (.aload_n 0, 1) := by decide +kernel
theorem dX1_init_37 : decode cX1_init 37 = .ok (.bipush 8, 2) := by decide +kernel
theorem dX1_init_39 : decode cX1_init 39 = .ok (.newarray .int, 2) := by decide +kernel
theorem dX1_init_41 : decode cX1_init 41 = .ok (.putfield 24, 3) := by decide +kernel
theorem dX1_init_44 : decode cX1_init 44 = .ok (.aload_n 0, 1) := by decide +kernel
theorem dX1_init_45 : decode cX1_init 45 = .ok (.bipush 8, 2) := by decide +kernel
theorem dX1_init_47 : decode cX1_init 47 = .ok (.newarray .int, 2) := by decide +kernel
theorem dX1_init_49 : decode cX1_init 49 = .ok (.putfield 27, 3) := by decide +kernel
theorem dX1_init_52 : decode cX1_init 52 = .ok (.aload_n 0, 1) := by decide +kernel
theorem dX1_init_53 : decode cX1_init 53 = .ok (.bipush 8, 2) := by decide +kernel
theorem dX1_init_55 : decode cX1_init 55 = .ok (.newarray .int, 2) := by decide +kernel
theorem dX1_init_57 : decode cX1_init 57 = .ok (.putfield 30, 3) := by decide +kernel
theorem dX1_init_60 : decode cX1_init 60 = .ok (.aload_n 0, 1) := by decide +kernel
theorem dX1_init_61 : decode cX1_init 61 = .ok (.bipush 8, 2) := by decide +kernel
theorem dX1_init_63 : decode cX1_init 63 = .ok (.newarray .int, 2) := by decide +kernel
theorem dX1_init_65 : decode cX1_init 65 = .ok (.putfield 33, 3) := by decide +kernel
theorem dX1_init_68 : decode cX1_init 68 = .ok (.aload_n 0, 1) := by decide +kernel
theorem dX1_init_69 : decode cX1_init 69 = .ok (.bipush 8, 2) := by decide +kernel
theorem dX1_init_71 : decode cX1_init 71 = .ok (.newarray .int, 2) := by decide +kernel
theorem dX1_init_73 : decode cX1_init 73 = .ok (.putfield 36, 3) := by decide +kernel
theorem dX1_init_76 : decode cX1_init 76 = .ok (.aload_n 0, 1) := by decide +kernel
theorem dX1_init_77 : decode cX1_init 77 = .ok (.bipush 8, 2) := by decide +kernel
theorem dX1_init_79 : decode cX1_init 79 = .ok (.newarray .int, 2) := by decide +kernel
theorem dX1_init_81 : decode cX1_init 81 = .ok (.putfield 39, 3) := by decide +kernel
theorem dX1_init_84 : decode cX1_init 84 = .ok (.aload_n 0, 1) := by decide +kernel
theorem dX1_init_85 : decode cX1_init 85 = .ok (.iconst 0, 1) := by decide +kernel
theorem dX1_init_86 : decode cX1_init 86 = .ok (.putfield 42, 3) := by decide +kernel
theorem dX1_init_89 : decode cX1_init 89 = .ok (.return_, 1) := by decide +kernel
theorem dX1_run_0 : decode cX1_run 0 = .ok (.aload_n 0, 1) := by decide +kernel
theorem dX1_run_1 : decode cX1_run 1 = .ok (.aload_n 1, 1) := by decide +kernel
theorem dX1_run_2 : decode cX1_run 2 = .ok (.getfield 46, 3) := by decide +kernel
theorem dX1_run_5 : decode cX1_run 5 = .ok (.putfield 42, 3) := by decide +kernel
theorem dX1_run_8 : decode cX1_run 8 = .ok (.iconst 0, 1) := by decide +kernel
theorem dX1_run_9 : decode cX1_run 9 = .ok (.istore_n 2, 1) := by decide +kernel
theorem dX1_run_10 : decode cX1_run 10 = .ok (.iload_n 2, 1) := by decide +kernel
theorem dX1_run_11 : decode cX1_run 11 = .ok (.aload_n 0, 1) := by decide +kernel
theorem dX1_run_12 : decode cX1_run 12 = .ok (.getfield 42, 3) := by decide +kernel
theorem dX1_run_15 : decode cX1_run 15 = .ok (.if_icmp .ge 31, 3) := by decide +kernel
theorem dX1_run_18 : decode cX1_run 18 = .ok (.aload_n 0, 1) := by decide +kernel
theorem dX1_run_19 : decode cX1_run 19 = .ok (.getfield 36, 3) := by decide +kernel
theorem dX1_run_22 : decode cX1_run 22 = .ok (.iload_n 2, 1) := by decide +kernel
theorem dX1_run_23 : decode cX1_run 23 = .ok (.aload_n 1, 1) := by decide +kernel
theorem dX1_run_24 : decode cX1_run 24 = .ok (.iload_n 2, 1) := by decide +kernel
theorem dX1_run_25 : decode cX1_run 25 = .ok (.invokevirtual 49, 3) := by decide +kernel
theorem dX1_run_28 : decode cX1_run 28 = .ok (.invokestatic 52, 3) := by decide +kernel
theorem dX1_run_31 : decode cX1_run 31 = .ok (.aload_n 0, 1) := by decide +kernel
theorem dX1_run_32 : decode cX1_run 32 = .ok (.getfield 39, 3) := by decide +kernel
theorem dX1_run_35 : decode cX1_run 35 = .ok (.iload_n 2, 1) := by decide +kernel
theorem dX1_run_36 : decode cX1_run 36 = .ok (.iconst 0, 1) := by decide +kernel
theorem dX1_run_37 : decode cX1_run 37 = .ok (.invokestatic 52, 3) := by decide +kernel
theorem dX1_run_40 : decode cX1_run 40 = .ok (.iinc 2 1, 3) := by decide +kernel
theorem dX1_run_43 : decode cX1_run 43 = .ok (.goto (-33), 3) := by decide +kernel
theorem dX1_run_46 : decode cX1_run 46 = .ok (.bipush (-9), 2) := by decide +kernel
theorem dX1_run_48 : decode cX1_run 48 = .ok (.istore_n 2, 1) := by decide +kernel
theorem dX1_run_49 : decode cX1_run 49 = .ok (.aload_n 0, 1) := by decide +kernel
theorem dX1_run_50 : decode cX1_run 50 = .ok (.invokevirtual 56, 3) := by decide +kernel
theorem dX1_run_53 : decode cX1_run 53 = .ok (.istore_n 3, 1) := by decide +kernel
theorem dX1_run_54 : decode cX1_run 54 = .ok (.iconst 0, 1) := by decide +kernel
theorem dX1_run_55 : decode cX1_run 55 = .ok (.istore 4, 2) := by decide +kernel
theorem dX1_run_57 : decode cX1_run 57 = .ok (.iload 4, 2) := by decide +kernel
theorem dX1_run_59 : decode cX1_run 59 = .ok (.aload_n 0, 1) := by decide +kernel
theorem dX1_run_60 : decode cX1_run 60 = .ok (.getfield 42, 3) := by decide +kernel
theorem dX1_run_63 : decode cX1_run 63 = .ok (.if_icmp .ge 118, 3) := by decide +kernel
theorem dX1_run_66 : decode cX1_run 66 = .ok (.iload_n 3, 1) := by decide +kernel
theorem dX1_run_67 : decode cX1_run 67 = .ok (.istore 5, 2) := by decide +kernel
theorem dX1_run_69 : decode cX1_run 69 = .ok (.aload_n 0, 1) := by decide +kernel
theorem dX1_run_70 : decode cX1_run 70 = .ok (.aload_n 1, 1) := by decide +kernel
theorem dX1_run_71 : decode cX1_run 71 = .ok (.iload_n 2, 1) := by decide +kernel
theorem dX1_run_72 : decode cX1_run 72 = .ok (.iload 5, 2) := by decide +kernel
theorem dX1_run_74 : decode cX1_run 74 = .ok (.invokevirtual 60, 3) := by decide +kernel
theorem dX1_run_77 : decode cX1_run 77 = .ok (.aload_n 0, 1) := by decide +kernel
theorem dX1_run_78 : decode cX1_run 78 = .ok (.getfield 9, 3) := by decide +kernel
theorem dX1_run_81 : decode cX1_run 81 = .ok (.iload 4, 2) := by decide +kernel
theorem dX1_run_83 : decode cX1_run 83 = .ok (.iload 5, 2) := by decide +kernel
theorem dX1_run_85 : decode cX1_run 85 = .ok (.invokestatic 52, 3) := by decide +kernel
theorem dX1_run_88 : decode cX1_run 88 = .ok (.aload_n 0, 1) := by decide +kernel
theorem dX1_run_89 : decode cX1_run 89 = .ok (.getfield 39, 3) := by decide +kernel
theorem dX1_run_92 : decode cX1_run 92 = .ok (.iload 5, 2) := by decide +kernel
theorem dX1_run_94 : decode cX1_run 94 = .ok (.iconst 1, 1) := by decide +kernel
theorem dX1_run_95 : decode cX1_run 95 = .ok (.invokestatic 52, 3) := by decide +kernel
theorem dX1_run_98 : decode cX1_run 98 = .ok (.aload_n 0, 1) := by decide +kernel
theorem dX1_run_99 : decode cX1_run 99 = .ok (.invokevirtual 56, 3) := by decide +kernel
theorem dX1_run_102 : decode cX1_run 102 = .ok (.istore_n 3, 1) := by decide +kernel
theorem dX1_run_103 : decode cX1_run 103 = .ok (.iload_n 3, 1) := by decide +kernel
theorem dX1_run_104 : decode cX1_run 104 = .ok (.ifCond .ge 7, 3) := by decide +kernel
theorem dX1_run_107 : decode cX1_run 107 = .ok (.iconst 0, 1) := by decide +kernel
theorem dX1_run_108 : decode cX1_run 108 = .ok (.goto 11, 3) := by decide +kernel
theorem dX1_run_111 : decode cX1_run 111 = .ok (.aload_n 0, 1) := by decide +kernel
theorem dX1_run_112 : decode cX1_run 112 = .ok (.aload_n 1, 1) := by decide +kernel
theorem dX1_run_113 : decode cX1_run 113 = .ok (.iload 5, 2) := by decide +kernel
theorem dX1_run_115 : decode cX1_run 115 = .ok (.iload_n 3, 1) := by decide +kernel
theorem dX1_run_116 : decode cX1_run 116 = .ok (.invokevirtual 64, 3) := by decide +kernel
theorem dX1_run_119 : decode cX1_run 119 = .ok (.istore 6, 2) := by decide +kernel
theorem dX1_run_121 : decode cX1_run 121 = .ok (.aload_n 0, 1) := by decide +kernel
theorem dX1_run_122 : decode cX1_run 122 = .ok (.getfield 24, 3) := by decide +kernel
theorem dX1_run_125 : decode cX1_run 125 = .ok (.iload 5, 2) := by decide +kernel
theorem dX1_run_127 : decode cX1_run 127 = .ok (.iload 6, 2) := by decide +kernel
theorem dX1_run_129 : decode cX1_run 129 = .ok (.invokestatic 52, 3) := by decide +kernel
theorem dX1_run_132 : decode cX1_run 132 = .ok (.aload_n 0, 1) := by decide +kernel
theorem dX1_run_133 : decode cX1_run 133 = .ok (.getfield 33, 3) := by decide +kernel
theorem dX1_run_136 : decode cX1_run 136 = .ok (.iload 5, 2) := by decide +kernel
theorem dX1_run_138 : decode cX1_run 138 = .ok (.aload_n 1, 1) := by decide +kernel
theorem dX1_run_139 : decode cX1_run 139 = .ok (.iload 5, 2) := by decide +kernel
theorem dX1_run_141 : decode cX1_run 141 = .ok (.bipush 6, 2) := by decide +kernel
theorem dX1_run_143 : decode cX1_run 143 = .ok (.invokevirtual 68, 3) := by decide +kernel
theorem dX1_run_146 : decode cX1_run 146 = .ok (.aload_n 0, 1) := by decide +kernel
theorem dX1_run_147 : decode cX1_run 147 = .ok (.getfield 21, 3) := by decide +kernel
theorem dX1_run_150 : decode cX1_run 150 = .ok (.iload 5, 2) := by decide +kernel
theorem dX1_run_152 : decode cX1_run 152 = .ok (.invokestatic 72, 3) := by decide +kernel
theorem dX1_run_155 : decode cX1_run 155 = .ok (.iload 6, 2) := by decide +kernel
theorem dX1_run_157 : decode cX1_run 157 = .ok (.iadd, 1) := by decide +kernel
theorem dX1_run_158 : decode cX1_run 158 = .ok (.imul, 1) := by decide +kernel
theorem dX1_run_159 : decode cX1_run 159 = .ok (.aload_n 0, 1) := by decide +kernel
theorem dX1_run_160 : decode cX1_run 160 = .ok (.getfield 30, 3) := by decide +kernel
theorem dX1_run_163 : decode cX1_run 163 = .ok (.iload 5, 2) := by decide +kernel
theorem dX1_run_165 : decode cX1_run 165 = .ok (.invokestatic 72, 3) := by decide +kernel
theorem dX1_run_168 : decode cX1_run 168 = .ok (.iadd, 1) := by decide +kernel
theorem dX1_run_169 : decode cX1_run 169 = .ok (.invokestatic 52, 3) := by decide +kernel
theorem dX1_run_172 : decode cX1_run 172 = .ok (.iload 5, 2) := by decide +kernel
theorem dX1_run_174 : decode cX1_run 174 = .ok (.istore_n 2, 1) := by decide +kernel
theorem dX1_run_175 : decode cX1_run 175 = .ok (.iinc 4 1, 3) := by decide +kernel
theorem dX1_run_178 : decode cX1_run 178 = .ok (.goto (-121), 3) := by decide +kernel
theorem dX1_run_181 : decode cX1_run 181 = .ok (.return_, 1) := by decide +kernel
theorem dX1_findNext_0 : decode cX1_findNext 0 = .ok (.bipush (-9), 2) := by decide +kernel
theorem dX1_findNext_2 : decode cX1_findNext 2 = .ok (.istore_n 1, 1) := by decide +kernel
theorem dX1_findNext_3 : decode cX1_findNext 3 = .ok (.iconst 0, 1) := by decide +kernel
theorem dX1_findNext_4 : decode cX1_findNext 4 = .ok (.istore_n 2, 1) := by decide +kernel
theorem dX1_findNext_5 : decode cX1_findNext 5 = .ok (.iconst 0, 1) := by decide +kernel
theorem dX1_findNext_6 : decode cX1_findNext 6 = .ok (.istore_n 3, 1) := by decide +kernel
theorem dX1_findNext_7 : decode cX1_findNext 7 = .ok (.iload_n 3, 1) := by decide +kernel
theorem dX1_findNext_8 : decode cX1_findNext 8 = .ok (.aload_n 0, 1) := by decide +kernel
theorem dX1_findNext_9 : decode cX1_findNext 9 = .ok (.getfield 42, 3) := by decide +kernel
theorem dX1_findNext_12 : decode cX1_findNext 12 = .ok (.if_icmp .ge 59, 3) := by decide +kernel
theorem dX1_findNext_15 : decode cX1_findNext 15 = .ok (.iload_n 1, 1) := by decide +kernel
theorem dX1_findNext_16 : decode cX1_findNext 16 = .ok (.ifCond .lt 15, 3) := by decide +kernel
theorem dX1_findNext_19 : decode cX1_findNext 19 = .ok (.aload_n 0, 1) := by decide +kernel
theorem dX1_findNext_20 : decode cX1_findNext 20 = .ok (.getfield 36, 3) := by decide +kernel
theorem dX1_findNext_23 : decode cX1_findNext 23 = .ok (.iload_n 3, 1) := by decide +kernel
theorem dX1_findNext_24 : decode cX1_findNext 24 = .ok (.invokestatic 72, 3) := by decide +kernel
theorem dX1_findNext_27 : decode cX1_findNext 27 = .ok (.iload_n 2, 1) := by decide +kernel
theorem dX1_findNext_28 : decode cX1_findNext 28 = .ok (.if_icmp .ge 7, 3) := by decide +kernel
theorem dX1_findNext_31 : decode cX1_findNext 31 = .ok (.iconst 1, 1) := by decide +kernel
theorem dX1_findNext_32 : decode cX1_findNext 32 = .ok (.goto 4, 3) := by decide +kernel
theorem dX1_findNext_35 : decode cX1_findNext 35 = .ok (.iconst 0, 1) := by decide +kernel
theorem dX1_findNext_36 : decode cX1_findNext 36 = .ok (.istore 4, 2) := by decide +kernel
theorem dX1_findNext_38 : decode cX1_findNext 38 = .ok (.aload_n 0, 1) := by decide +kernel
theorem dX1_findNext_39 : decode cX1_findNext 39 = .ok (.getfield 39, 3) := by decide +kernel
theorem dX1_findNext_42 : decode cX1_findNext 42 = .ok (.iload_n 3, 1) := by decide +kernel
theorem dX1_findNext_43 : decode cX1_findNext 43 = .ok (.invokestatic 72, 3) := by decide +kernel
theorem dX1_findNext_46 : decode cX1_findNext 46 = .ok (.ifCond .ne 19, 3) := by decide +kernel
theorem dX1_findNext_49 : decode cX1_findNext 49 = .ok (.iload 4, 2) := by decide +kernel
theorem dX1_findNext_51 : decode cX1_findNext 51 = .ok (.ifCond .eq 14, 3) := by decide +kernel
theorem dX1_findNext_54 : decode cX1_findNext 54 = .ok (.iload_n 3, 1) := by decide +kernel
theorem dX1_findNext_55 : decode cX1_findNext 55 = .ok (.istore_n 1, 1) := by decide +kernel
theorem dX1_findNext_56 : decode cX1_findNext 56 = .ok (.aload_n 0, 1) := by decide +kernel
theorem dX1_findNext_57 : decode cX1_findNext 57 = .ok (.getfield 36, 3) := by decide +kernel
theorem dX1_findNext_60 : decode cX1_findNext 60 = .ok (.iload_n 3, 1) := by decide +kernel
theorem dX1_findNext_61 : decode cX1_findNext 61 = .ok (.invokestatic 72, 3) := by decide +kernel
theorem dX1_findNext_64 : decode cX1_findNext 64 = .ok (.istore_n 2, 1) := by decide +kernel
theorem dX1_findNext_65 : decode cX1_findNext 65 = .ok (.iinc 3 1, 3) := by decide +kernel
theorem dX1_findNext_68 : decode cX1_findNext 68 = .ok (.goto (-61), 3) := by decide +kernel
theorem dX1_findNext_71 : decode cX1_findNext 71 = .ok (.iload_n 1, 1) := by decide +kernel
theorem dX1_findNext_72 : decode cX1_findNext 72 = .ok (.ireturn, 1) := by decide +kernel
theorem dX1_comeThrough_0 : decode cX1_comeThrough 0 = .ok (.iload_n 2, 1) := by decide +kernel
theorem dX1_comeThrough_1 : decode cX1_comeThrough 1 = .ok (.ifCond .ge 7, 3) := by decide +kernel
theorem dX1_comeThrough_4 : decode cX1_comeThrough 4 = .ok (.iconst 0, 1) := by decide +kernel
theorem dX1_comeThrough_5 : decode cX1_comeThrough 5 = .ok (.goto 8, 3) := by decide +kernel
theorem dX1_comeThrough_8 : decode cX1_comeThrough 8 = .ok (.aload_n 0, 1) := by decide +kernel
theorem dX1_comeThrough_9 : decode cX1_comeThrough 9 = .ok (.iload_n 2, 1) := by decide +kernel
theorem dX1_comeThrough_10 : decode cX1_comeThrough 10 = .ok (.invokevirtual 76, 3) := by decide +kernel
theorem dX1_comeThrough_13 : decode cX1_comeThrough 13 = .ok (.istore 4, 2) := by decide +kernel
theorem dX1_comeThrough_15 : decode cX1_comeThrough 15 = .ok (.iload_n 2, 1) := by decide +kernel
theorem dX1_comeThrough_16 : decode cX1_comeThrough 16 = .ok (.ifCond .lt 18, 3) := by decide +kernel
theorem dX1_comeThrough_19 : decode cX1_comeThrough 19 = .ok (.aload_n 0, 1) := by decide +kernel
theorem dX1_comeThrough_20 : decode cX1_comeThrough 20 = .ok (.getfield 24, 3) := by decide +kernel
theorem dX1_comeThrough_23 : decode cX1_comeThrough 23 = .ok (.iload_n 2, 1) := by decide +kernel
theorem dX1_comeThrough_24 : decode cX1_comeThrough 24 = .ok (.invokestatic 72, 3) := by decide +kernel
theorem dX1_comeThrough_27 : decode cX1_comeThrough 27 = .ok (.ifCond .le 7, 3) := by decide +kernel
theorem dX1_comeThrough_30 : decode cX1_comeThrough 30 = .ok (.iconst 1, 1) := by decide +kernel
theorem dX1_comeThrough_31 : decode cX1_comeThrough 31 = .ok (.goto 4, 3) := by decide +kernel
theorem dX1_comeThrough_34 : decode cX1_comeThrough 34 = .ok (.iconst 0, 1) := by decide +kernel
theorem dX1_comeThrough_35 : decode cX1_comeThrough 35 = .ok (.istore 5, 2) := by decide +kernel
theorem dX1_comeThrough_37 : decode cX1_comeThrough 37 = .ok (.iload 5, 2) := by decide +kernel
theorem dX1_comeThrough_39 : decode cX1_comeThrough 39 = .ok (.ifCond .eq 8, 3) := by decide +kernel
theorem dX1_comeThrough_42 : decode cX1_comeThrough 42 = .ok (.iload 4, 2) := by decide +kernel
theorem dX1_comeThrough_44 : decode cX1_comeThrough 44 = .ok (.goto 16, 3) := by decide +kernel
theorem dX1_comeThrough_47 : decode cX1_comeThrough 47 = .ok (.aload_n 0, 1) := by decide +kernel
theorem dX1_comeThrough_48 : decode cX1_comeThrough 48 = .ok (.getfield 36, 3) := by decide +kernel
theorem dX1_comeThrough_51 : decode cX1_comeThrough 51 = .ok (.iload_n 3, 1) := by decide +kernel
theorem dX1_comeThrough_52 : decode cX1_comeThrough 52 = .ok (.invokestatic 72, 3) := by decide +kernel
theorem dX1_comeThrough_55 : decode cX1_comeThrough 55 = .ok (.iload 4, 2) := by decide +kernel
theorem dX1_comeThrough_57 : decode cX1_comeThrough 57 = .ok (.invokestatic 79, 3) := by decide +kernel
theorem dX1_comeThrough_60 : decode cX1_comeThrough 60 = .ok (.istore 6, 2) := by decide +kernel
theorem dX1_comeThrough_62 : decode cX1_comeThrough 62 = .ok (.iload_n 2, 1) := by decide +kernel
theorem dX1_comeThrough_63 : decode cX1_comeThrough 63 = .ok (.ifCond .lt 20, 3) := by decide +kernel
theorem dX1_comeThrough_66 : decode cX1_comeThrough 66 = .ok (.iload 6, 2) := by decide +kernel
theorem dX1_comeThrough_68 : decode cX1_comeThrough 68 = .ok (.iload 4, 2) := by decide +kernel
theorem dX1_comeThrough_70 : decode cX1_comeThrough 70 = .ok (.isub, 1) := by decide +kernel
theorem dX1_comeThrough_71 : decode cX1_comeThrough 71 = .ok (.aload_n 1, 1) := by decide +kernel
theorem dX1_comeThrough_72 : decode cX1_comeThrough 72 = .ok (.iconst 0, 1) := by decide +kernel
theorem dX1_comeThrough_73 : decode cX1_comeThrough 73 = .ok (.invokevirtual 84, 3) := by decide +kernel
theorem dX1_comeThrough_76 : decode cX1_comeThrough 76 = .ok (.if_icmp .ge 7, 3) := by decide +kernel
theorem dX1_comeThrough_79 : decode cX1_comeThrough 79 = .ok (.iconst 1, 1) := by decide +kernel
theorem dX1_comeThrough_80 : decode cX1_comeThrough 80 = .ok (.goto 4, 3) := by decide +kernel
theorem dX1_comeThrough_83 : decode cX1_comeThrough 83 = .ok (.iconst 0, 1) := by decide +kernel
theorem dX1_comeThrough_84 : decode cX1_comeThrough 84 = .ok (.istore 7, 2) := by decide +kernel
theorem dX1_comeThrough_86 : decode cX1_comeThrough 86 = .ok (.iload 7, 2) := by decide +kernel
theorem dX1_comeThrough_88 : decode cX1_comeThrough 88 = .ok (.ifCond .eq 7, 3) := by decide +kernel
theorem dX1_comeThrough_91 : decode cX1_comeThrough 91 = .ok (.iconst 0, 1) := by decide +kernel
theorem dX1_comeThrough_92 : decode cX1_comeThrough 92 = .ok (.goto 8, 3) := by decide +kernel
theorem dX1_comeThrough_95 : decode cX1_comeThrough 95 = .ok (.aload_n 1, 1) := by decide +kernel
theorem dX1_comeThrough_96 : decode cX1_comeThrough 96 = .ok (.iload_n 3, 1) := by decide +kernel
theorem dX1_comeThrough_97 : decode cX1_comeThrough 97 = .ok (.invokevirtual 87, 3) := by decide +kernel
theorem dX1_comeThrough_100 : decode cX1_comeThrough 100 = .ok (.istore 8, 2) := by decide +kernel
theorem dX1_comeThrough_102 : decode cX1_comeThrough 102 = .ok (.iload 5, 2) := by decide +kernel
theorem dX1_comeThrough_104 : decode cX1_comeThrough 104 = .ok (.ifCond .eq 21, 3) := by decide +kernel
theorem dX1_comeThrough_107 : decode cX1_comeThrough 107 = .ok (.aload_n 1, 1) := by decide +kernel
theorem dX1_comeThrough_108 : decode cX1_comeThrough 108 = .ok (.iload_n 3, 1) := by decide +kernel
theorem dX1_comeThrough_109 : decode cX1_comeThrough 109 = .ok (.invokevirtual 90, 3) := by decide +kernel
theorem dX1_comeThrough_112 : decode cX1_comeThrough 112 = .ok (.aload_n 1, 1) := by decide +kernel
theorem dX1_comeThrough_113 : decode cX1_comeThrough 113 = .ok (.iload_n 3, 1) := by decide +kernel
theorem dX1_comeThrough_114 : decode cX1_comeThrough 114 = .ok (.iconst 3, 1) := by decide +kernel
theorem dX1_comeThrough_115 : decode cX1_comeThrough 115 = .ok (.invokevirtual 68, 3) := by decide +kernel
theorem dX1_comeThrough_118 : decode cX1_comeThrough 118 = .ok (.if_icmp .le 7, 3) := by decide +kernel
theorem dX1_comeThrough_121 : decode cX1_comeThrough 121 = .ok (.iconst 1, 1) := by decide +kernel
theorem dX1_comeThrough_122 : decode cX1_comeThrough 122 = .ok (.goto 4, 3) := by decide +kernel
theorem dX1_comeThrough_125 : decode cX1_comeThrough 125 = .ok (.iconst 0, 1) := by decide +kernel
theorem dX1_comeThrough_126 : decode cX1_comeThrough 126 = .ok (.istore 9, 2) := by decide +kernel
theorem dX1_comeThrough_128 : decode cX1_comeThrough 128 = .ok (.aload_n 0, 1) := by decide +kernel
theorem dX1_comeThrough_129 : decode cX1_comeThrough 129 = .ok (.getfield 15, 3) := by decide +kernel
theorem dX1_comeThrough_132 : decode cX1_comeThrough 132 = .ok (.iload_n 3, 1) := by decide +kernel
theorem dX1_comeThrough_133 : decode cX1_comeThrough 133 = .ok (.iload 6, 2) := by decide +kernel
theorem dX1_comeThrough_135 : decode cX1_comeThrough 135 = .ok (.invokestatic 52, 3) := by decide +kernel
theorem dX1_comeThrough_138 : decode cX1_comeThrough 138 = .ok (.aload_n 0, 1) := by decide +kernel
theorem dX1_comeThrough_139 : decode cX1_comeThrough 139 = .ok (.getfield 21, 3) := by decide +kernel
theorem dX1_comeThrough_142 : decode cX1_comeThrough 142 = .ok (.iload_n 3, 1) := by decide +kernel
theorem dX1_comeThrough_143 : decode cX1_comeThrough 143 = .ok (.iload 8, 2) := by decide +kernel
theorem dX1_comeThrough_145 : decode cX1_comeThrough 145 = .ok (.invokestatic 52, 3) := by decide +kernel
theorem dX1_comeThrough_148 : decode cX1_comeThrough 148 = .ok (.aload_n 0, 1) := by decide +kernel
theorem dX1_comeThrough_149 : decode cX1_comeThrough 149 = .ok (.getfield 18, 3) := by decide +kernel
theorem dX1_comeThrough_152 : decode cX1_comeThrough 152 = .ok (.iload_n 3, 1) := by decide +kernel
theorem dX1_comeThrough_153 : decode cX1_comeThrough 153 = .ok (.iload 6, 2) := by decide +kernel
theorem dX1_comeThrough_155 : decode cX1_comeThrough 155 = .ok (.iload 8, 2) := by decide +kernel
theorem dX1_comeThrough_157 : decode cX1_comeThrough 157 = .ok (.iadd, 1) := by decide +kernel
theorem dX1_comeThrough_158 : decode cX1_comeThrough 158 = .ok (.invokestatic 52, 3) := by decide +kernel
theorem dX1_comeThrough_161 : decode cX1_comeThrough 161 = .ok (.aload_n 0, 1) := by decide +kernel
theorem dX1_comeThrough_162 : decode cX1_comeThrough 162 = .ok (.getfield 27, 3) := by decide +kernel
theorem dX1_comeThrough_165 : decode cX1_comeThrough 165 = .ok (.iload_n 3, 1) := by decide +kernel
theorem dX1_comeThrough_166 : decode cX1_comeThrough 166 = .ok (.iload 5, 2) := by decide +kernel
theorem dX1_comeThrough_168 : decode cX1_comeThrough 168 = .ok (.ifCond .eq 7, 3) := by decide +kernel
theorem dX1_comeThrough_171 : decode cX1_comeThrough 171 = .ok (.iload_n 2, 1) := by decide +kernel
theorem dX1_comeThrough_172 : decode cX1_comeThrough 172 = .ok (.goto 5, 3) := by decide +kernel
theorem dX1_comeThrough_175 : decode cX1_comeThrough 175 = .ok (.bipush (-9), 2) := by decide +kernel
theorem dX1_comeThrough_177 : decode cX1_comeThrough 177 = .ok (.invokestatic 52, 3) := by decide +kernel
theorem dX1_comeThrough_180 : decode cX1_comeThrough 180 = .ok (.aload_n 0, 1) := by decide +kernel
theorem dX1_comeThrough_181 : decode cX1_comeThrough 181 = .ok (.getfield 30, 3) := by decide +kernel
theorem dX1_comeThrough_184 : decode cX1_comeThrough 184 = .ok (.iload_n 3, 1) := by decide +kernel
theorem dX1_comeThrough_185 : decode cX1_comeThrough 185 = .ok (.iload 9, 2) := by decide +kernel
theorem dX1_comeThrough_187 : decode cX1_comeThrough 187 = .ok (.ifCond .eq 14, 3) := by decide +kernel
theorem dX1_comeThrough_190 : decode cX1_comeThrough 190 = .ok (.aload_n 0, 1) := by decide +kernel
theorem dX1_comeThrough_191 : decode cX1_comeThrough 191 = .ok (.getfield 24, 3) := by decide +kernel
theorem dX1_comeThrough_194 : decode cX1_comeThrough 194 = .ok (.iload_n 2, 1) := by decide +kernel
theorem dX1_comeThrough_195 : decode cX1_comeThrough 195 = .ok (.invokestatic 72, 3) := by decide +kernel
theorem dX1_comeThrough_198 : decode cX1_comeThrough 198 = .ok (.goto 4, 3) := by decide +kernel
theorem dX1_comeThrough_201 : decode cX1_comeThrough 201 = .ok (.iconst 0, 1) := by decide +kernel
theorem dX1_comeThrough_202 : decode cX1_comeThrough 202 = .ok (.invokestatic 52, 3) := by decide +kernel
theorem dX1_comeThrough_205 : decode cX1_comeThrough 205 = .ok (.return_, 1) := by decide +kernel
theorem dX1_secondsHeldFor_0 : decode cX1_secondsHeldFor 0 = .ok (.aload_n 0, 1) := by decide +kernel
theorem dX1_secondsHeldFor_1 : decode cX1_secondsHeldFor 1 = .ok (.getfield 18, 3) := by decide +kernel
theorem dX1_secondsHeldFor_4 : decode cX1_secondsHeldFor 4 = .ok (.iload_n 2, 1) := by decide +kernel
theorem dX1_secondsHeldFor_5 : decode cX1_secondsHeldFor 5 = .ok (.invokestatic 72, 3) := by decide +kernel
theorem dX1_secondsHeldFor_8 : decode cX1_secondsHeldFor 8 = .ok (.istore 4, 2) := by decide +kernel
theorem dX1_secondsHeldFor_10 : decode cX1_secondsHeldFor 10 = .ok (.aload_n 1, 1) := by decide +kernel
theorem dX1_secondsHeldFor_11 : decode cX1_secondsHeldFor 11 = .ok (.iload_n 3, 1) := by decide +kernel
theorem dX1_secondsHeldFor_12 : decode cX1_secondsHeldFor 12 = .ok (.iload 4, 2) := by decide +kernel
theorem dX1_secondsHeldFor_14 : decode cX1_secondsHeldFor 14 = .ok (.invokevirtual 93, 3) := by decide +kernel
theorem dX1_secondsHeldFor_17 : decode cX1_secondsHeldFor 17 = .ok (.istore 5, 2) := by decide +kernel
theorem dX1_secondsHeldFor_19 : decode cX1_secondsHeldFor 19 = .ok (.aload_n 1, 1) := by decide +kernel
theorem dX1_secondsHeldFor_20 : decode cX1_secondsHeldFor 20 = .ok (.iload_n 3, 1) := by decide +kernel
theorem dX1_secondsHeldFor_21 : decode cX1_secondsHeldFor 21 = .ok (.iconst 1, 1) := by decide +kernel
theorem dX1_secondsHeldFor_22 : decode cX1_secondsHeldFor 22 = .ok (.invokevirtual 68, 3) := by decide +kernel
theorem dX1_secondsHeldFor_25 : decode cX1_secondsHeldFor 25 = .ok (.iload 4, 2) := by decide +kernel
theorem dX1_secondsHeldFor_27 : decode cX1_secondsHeldFor 27 = .ok (.if_icmp .gt 8, 3) := by decide +kernel
theorem dX1_secondsHeldFor_30 : decode cX1_secondsHeldFor 30 = .ok (.iload 5, 2) := by decide +kernel
theorem dX1_secondsHeldFor_32 : decode cX1_secondsHeldFor 32 = .ok (.ifCond .gt 5, 3) := by decide +kernel
theorem dX1_secondsHeldFor_35 : decode cX1_secondsHeldFor 35 = .ok (.iconst 0, 1) := by decide +kernel
theorem dX1_secondsHeldFor_36 : decode cX1_secondsHeldFor 36 = .ok (.ireturn, 1) := by decide +kernel
theorem dX1_secondsHeldFor_37 : decode cX1_secondsHeldFor 37 = .ok (.iload 5, 2) := by decide +kernel
theorem dX1_secondsHeldFor_39 : decode cX1_secondsHeldFor 39 = .ok (.aload_n 1, 1) := by decide +kernel
theorem dX1_secondsHeldFor_40 : decode cX1_secondsHeldFor 40 = .ok (.iload_n 2, 1) := by decide +kernel
theorem dX1_secondsHeldFor_41 : decode cX1_secondsHeldFor 41 = .ok (.iload_n 3, 1) := by decide +kernel
theorem dX1_secondsHeldFor_42 : decode cX1_secondsHeldFor 42 = .ok (.aload_n 0, 1) := by decide +kernel
theorem dX1_secondsHeldFor_43 : decode cX1_secondsHeldFor 43 = .ok (.getfield 27, 3) := by decide +kernel
theorem dX1_secondsHeldFor_46 : decode cX1_secondsHeldFor 46 = .ok (.iload_n 2, 1) := by decide +kernel
theorem dX1_secondsHeldFor_47 : decode cX1_secondsHeldFor 47 = .ok (.invokestatic 72, 3) := by decide +kernel
theorem dX1_secondsHeldFor_50 : decode cX1_secondsHeldFor 50 = .ok (.ifCond .lt 7, 3) := by decide +kernel
theorem dX1_secondsHeldFor_53 : decode cX1_secondsHeldFor 53 = .ok (.iconst 1, 1) := by decide +kernel
theorem dX1_secondsHeldFor_54 : decode cX1_secondsHeldFor 54 = .ok (.goto 4, 3) := by decide +kernel
theorem dX1_secondsHeldFor_57 : decode cX1_secondsHeldFor 57 = .ok (.iconst 0, 1) := by decide +kernel
theorem dX1_secondsHeldFor_58 : decode cX1_secondsHeldFor 58 = .ok (.invokevirtual 96, 3) := by decide +kernel
theorem dX1_secondsHeldFor_61 : decode cX1_secondsHeldFor 61 = .ok (.if_icmp .le 5, 3) := by decide +kernel
theorem dX1_secondsHeldFor_64 : decode cX1_secondsHeldFor 64 = .ok (.iconst 0, 1) := by decide +kernel
theorem dX1_secondsHeldFor_65 : decode cX1_secondsHeldFor 65 = .ok (.ireturn, 1) := by decide +kernel
theorem dX1_secondsHeldFor_66 : decode cX1_secondsHeldFor 66 = .ok (.iload 5, 2) := by decide +kernel
theorem dX1_secondsHeldFor_68 : decode cX1_secondsHeldFor 68 = .ok (.aload_n 1, 1) := by decide +kernel
theorem dX1_secondsHeldFor_69 : decode cX1_secondsHeldFor 69 = .ok (.iload_n 3, 1) := by decide +kernel
theorem dX1_secondsHeldFor_70 : decode cX1_secondsHeldFor 70 = .ok (.invokevirtual 90, 3) := by decide +kernel
theorem dX1_secondsHeldFor_73 : decode cX1_secondsHeldFor 73 = .ok (.invokestatic 100, 3) := by decide +kernel
theorem dX1_secondsHeldFor_76 : decode cX1_secondsHeldFor 76 = .ok (.ireturn, 1) := by decide +kernel
theorem dX1_goneAt_0 : decode cX1_goneAt 0 = .ok (.aload_n 0, 1) := by decide +kernel
theorem dX1_goneAt_1 : decode cX1_goneAt 1 = .ok (.getfield 18, 3) := by decide +kernel
theorem dX1_goneAt_4 : decode cX1_goneAt 4 = .ok (.iload_n 1, 1) := by decide +kernel
theorem dX1_goneAt_5 : decode cX1_goneAt 5 = .ok (.invokestatic 72, 3) := by decide +kernel
theorem dX1_goneAt_8 : decode cX1_goneAt 8 = .ok (.aload_n 0, 1) := by decide +kernel
theorem dX1_goneAt_9 : decode cX1_goneAt 9 = .ok (.getfield 24, 3) := by decide +kernel
theorem dX1_goneAt_12 : decode cX1_goneAt 12 = .ok (.iload_n 1, 1) := by decide +kernel
theorem dX1_goneAt_13 : decode cX1_goneAt 13 = .ok (.invokestatic 72, 3) := by decide +kernel
theorem dX1_goneAt_16 : decode cX1_goneAt 16 = .ok (.iadd, 1) := by decide +kernel
theorem dX1_goneAt_17 : decode cX1_goneAt 17 = .ok (.ireturn, 1) := by decide +kernel
theorem dX1_lossOfAll_0 : decode cX1_lossOfAll 0 = .ok (.iconst 0, 1) := by decide +kernel
theorem dX1_lossOfAll_1 : decode cX1_lossOfAll 1 = .ok (.istore_n 1, 1) := by decide +kernel
theorem dX1_lossOfAll_2 : decode cX1_lossOfAll 2 = .ok (.iconst 0, 1) := by decide +kernel
theorem dX1_lossOfAll_3 : decode cX1_lossOfAll 3 = .ok (.istore_n 2, 1) := by decide +kernel
theorem dX1_lossOfAll_4 : decode cX1_lossOfAll 4 = .ok (.iload_n 2, 1) := by decide +kernel
theorem dX1_lossOfAll_5 : decode cX1_lossOfAll 5 = .ok (.aload_n 0, 1) := by decide +kernel
theorem dX1_lossOfAll_6 : decode cX1_lossOfAll 6 = .ok (.getfield 42, 3) := by decide +kernel
theorem dX1_lossOfAll_9 : decode cX1_lossOfAll 9 = .ok (.if_icmp .ge 20, 3) := by decide +kernel
theorem dX1_lossOfAll_12 : decode cX1_lossOfAll 12 = .ok (.iload_n 1, 1) := by decide +kernel
theorem dX1_lossOfAll_13 : decode cX1_lossOfAll 13 = .ok (.aload_n 0, 1) := by decide +kernel
theorem dX1_lossOfAll_14 : decode cX1_lossOfAll 14 = .ok (.getfield 33, 3) := by decide +kernel
theorem dX1_lossOfAll_17 : decode cX1_lossOfAll 17 = .ok (.iload_n 2, 1) := by decide +kernel
theorem dX1_lossOfAll_18 : decode cX1_lossOfAll 18 = .ok (.invokestatic 72, 3) := by decide +kernel
theorem dX1_lossOfAll_21 : decode cX1_lossOfAll 21 = .ok (.iadd, 1) := by decide +kernel
theorem dX1_lossOfAll_22 : decode cX1_lossOfAll 22 = .ok (.istore_n 1, 1) := by decide +kernel
theorem dX1_lossOfAll_23 : decode cX1_lossOfAll 23 = .ok (.iinc 2 1, 3) := by decide +kernel
theorem dX1_lossOfAll_26 : decode cX1_lossOfAll 26 = .ok (.goto (-22), 3) := by decide +kernel
theorem dX1_lossOfAll_29 : decode cX1_lossOfAll 29 = .ok (.iload_n 1, 1) := by decide +kernel
theorem dX1_lossOfAll_30 : decode cX1_lossOfAll 30 = .ok (.ireturn, 1) := by decide +kernel
theorem dX1_countHeldFor_0 : decode cX1_countHeldFor 0 = .ok (.iconst 0, 1) := by decide +kernel
theorem dX1_countHeldFor_1 : decode cX1_countHeldFor 1 = .ok (.istore_n 1, 1) := by decide +kernel
theorem dX1_countHeldFor_2 : decode cX1_countHeldFor 2 = .ok (.iconst 0, 1) := by decide +kernel
theorem dX1_countHeldFor_3 : decode cX1_countHeldFor 3 = .ok (.istore_n 2, 1) := by decide +kernel
theorem dX1_countHeldFor_4 : decode cX1_countHeldFor 4 = .ok (.iload_n 2, 1) := by decide +kernel
theorem dX1_countHeldFor_5 : decode cX1_countHeldFor 5 = .ok (.aload_n 0, 1) := by decide +kernel
theorem dX1_countHeldFor_6 : decode cX1_countHeldFor 6 = .ok (.getfield 42, 3) := by decide +kernel
theorem dX1_countHeldFor_9 : decode cX1_countHeldFor 9 = .ok (.if_icmp .ge 28, 3) := by decide +kernel
theorem dX1_countHeldFor_12 : decode cX1_countHeldFor 12 = .ok (.iload_n 1, 1) := by decide +kernel
theorem dX1_countHeldFor_13 : decode cX1_countHeldFor 13 = .ok (.aload_n 0, 1) := by decide +kernel
theorem dX1_countHeldFor_14 : decode cX1_countHeldFor 14 = .ok (.getfield 27, 3) := by decide +kernel
theorem dX1_countHeldFor_17 : decode cX1_countHeldFor 17 = .ok (.iload_n 2, 1) := by decide +kernel
theorem dX1_countHeldFor_18 : decode cX1_countHeldFor 18 = .ok (.invokestatic 72, 3) := by decide +kernel
theorem dX1_countHeldFor_21 : decode cX1_countHeldFor 21 = .ok (.ifCond .lt 7, 3) := by decide +kernel
theorem dX1_countHeldFor_24 : decode cX1_countHeldFor 24 = .ok (.iconst 1, 1) := by decide +kernel
theorem dX1_countHeldFor_25 : decode cX1_countHeldFor 25 = .ok (.goto 4, 3) := by decide +kernel
theorem dX1_countHeldFor_28 : decode cX1_countHeldFor 28 = .ok (.iconst 0, 1) := by decide +kernel
theorem dX1_countHeldFor_29 : decode cX1_countHeldFor 29 = .ok (.iadd, 1) := by decide +kernel
theorem dX1_countHeldFor_30 : decode cX1_countHeldFor 30 = .ok (.istore_n 1, 1) := by decide +kernel
theorem dX1_countHeldFor_31 : decode cX1_countHeldFor 31 = .ok (.iinc 2 1, 3) := by decide +kernel
theorem dX1_countHeldFor_34 : decode cX1_countHeldFor 34 = .ok (.goto (-30), 3) := by decide +kernel
theorem dX1_countHeldFor_37 : decode cX1_countHeldFor 37 = .ok (.iload_n 1, 1) := by decide +kernel
theorem dX1_countHeldFor_38 : decode cX1_countHeldFor 38 = .ok (.ireturn, 1) := by decide +kernel
theorem dX1_longestStand_0 : decode cX1_longestStand 0 = .ok (.iconst 0, 1) := by decide +kernel
theorem dX1_longestStand_1 : decode cX1_longestStand 1 = .ok (.istore_n 1, 1) := by decide +kernel
theorem dX1_longestStand_2 : decode cX1_longestStand 2 = .ok (.iconst 0, 1) := by decide +kernel
theorem dX1_longestStand_3 : decode cX1_longestStand 3 = .ok (.istore_n 2, 1) := by decide +kernel
theorem dX1_longestStand_4 : decode cX1_longestStand 4 = .ok (.iload_n 2, 1) := by decide +kernel
theorem dX1_longestStand_5 : decode cX1_longestStand 5 = .ok (.aload_n 0, 1) := by decide +kernel
theorem dX1_longestStand_6 : decode cX1_longestStand 6 = .ok (.getfield 42, 3) := by decide +kernel
theorem dX1_longestStand_9 : decode cX1_longestStand 9 = .ok (.if_icmp .ge 22, 3) := by decide +kernel
theorem dX1_longestStand_12 : decode cX1_longestStand 12 = .ok (.iload_n 1, 1) := by decide +kernel
theorem dX1_longestStand_13 : decode cX1_longestStand 13 = .ok (.aload_n 0, 1) := by decide +kernel
theorem dX1_longestStand_14 : decode cX1_longestStand 14 = .ok (.getfield 24, 3) := by decide +kernel
theorem dX1_longestStand_17 : decode cX1_longestStand 17 = .ok (.iload_n 2, 1) := by decide +kernel
theorem dX1_longestStand_18 : decode cX1_longestStand 18 = .ok (.invokestatic 72, 3) := by decide +kernel
theorem dX1_longestStand_21 : decode cX1_longestStand 21 = .ok (.invokestatic 79, 3) := by decide +kernel
theorem dX1_longestStand_24 : decode cX1_longestStand 24 = .ok (.istore_n 1, 1) := by decide +kernel
theorem dX1_longestStand_25 : decode cX1_longestStand 25 = .ok (.iinc 2 1, 3) := by decide +kernel
theorem dX1_longestStand_28 : decode cX1_longestStand 28 = .ok (.goto (-24), 3) := by decide +kernel
theorem dX1_longestStand_31 : decode cX1_longestStand 31 = .ok (.iload_n 1, 1) := by decide +kernel
theorem dX1_longestStand_32 : decode cX1_longestStand 32 = .ok (.ireturn, 1) := by decide +kernel
theorem dX1_openSeconds_0 : decode cX1_openSeconds 0 = .ok (.iconst 0, 1) := by decide +kernel
theorem dX1_openSeconds_1 : decode cX1_openSeconds 1 = .ok (.istore_n 2, 1) := by decide +kernel
theorem dX1_openSeconds_2 : decode cX1_openSeconds 2 = .ok (.iconst 0, 1) := by decide +kernel
theorem dX1_openSeconds_3 : decode cX1_openSeconds 3 = .ok (.istore_n 3, 1) := by decide +kernel
theorem dX1_openSeconds_4 : decode cX1_openSeconds 4 = .ok (.iconst 0, 1) := by decide +kernel
theorem dX1_openSeconds_5 : decode cX1_openSeconds 5 = .ok (.istore 4, 2) := by decide +kernel
theorem dX1_openSeconds_7 : decode cX1_openSeconds 7 = .ok (.iload 4, 2) := by decide +kernel
theorem dX1_openSeconds_9 : decode cX1_openSeconds 9 = .ok (.aload_n 0, 1) := by decide +kernel
theorem dX1_openSeconds_10 : decode cX1_openSeconds 10 = .ok (.getfield 42, 3) := by decide +kernel
theorem dX1_openSeconds_13 : decode cX1_openSeconds 13 = .ok (.if_icmp .ge 51, 3) := by decide +kernel
theorem dX1_openSeconds_16 : decode cX1_openSeconds 16 = .ok (.aload_n 0, 1) := by decide +kernel
theorem dX1_openSeconds_17 : decode cX1_openSeconds 17 = .ok (.getfield 9, 3) := by decide +kernel
theorem dX1_openSeconds_20 : decode cX1_openSeconds 20 = .ok (.iload 4, 2) := by decide +kernel
theorem dX1_openSeconds_22 : decode cX1_openSeconds 22 = .ok (.invokestatic 72, 3) := by decide +kernel
theorem dX1_openSeconds_25 : decode cX1_openSeconds 25 = .ok (.istore 5, 2) := by decide +kernel
theorem dX1_openSeconds_27 : decode cX1_openSeconds 27 = .ok (.aload_n 0, 1) := by decide +kernel
theorem dX1_openSeconds_28 : decode cX1_openSeconds 28 = .ok (.getfield 15, 3) := by decide +kernel
theorem dX1_openSeconds_31 : decode cX1_openSeconds 31 = .ok (.iload 5, 2) := by decide +kernel
theorem dX1_openSeconds_33 : decode cX1_openSeconds 33 = .ok (.invokestatic 72, 3) := by decide +kernel
theorem dX1_openSeconds_36 : decode cX1_openSeconds 36 = .ok (.iload_n 3, 1) := by decide +kernel
theorem dX1_openSeconds_37 : decode cX1_openSeconds 37 = .ok (.invokestatic 79, 3) := by decide +kernel
theorem dX1_openSeconds_40 : decode cX1_openSeconds 40 = .ok (.istore 6, 2) := by decide +kernel
theorem dX1_openSeconds_42 : decode cX1_openSeconds 42 = .ok (.aload_n 0, 1) := by decide +kernel
theorem dX1_openSeconds_43 : decode cX1_openSeconds 43 = .ok (.iload 5, 2) := by decide +kernel
theorem dX1_openSeconds_45 : decode cX1_openSeconds 45 = .ok (.invokevirtual 76, 3) := by decide +kernel
theorem dX1_openSeconds_48 : decode cX1_openSeconds 48 = .ok (.iload_n 1, 1) := by decide +kernel
theorem dX1_openSeconds_49 : decode cX1_openSeconds 49 = .ok (.iadd, 1) := by decide +kernel
theorem dX1_openSeconds_50 : decode cX1_openSeconds 50 = .ok (.istore_n 3, 1) := by decide +kernel
theorem dX1_openSeconds_51 : decode cX1_openSeconds 51 = .ok (.iload_n 2, 1) := by decide +kernel
theorem dX1_openSeconds_52 : decode cX1_openSeconds 52 = .ok (.iload_n 3, 1) := by decide +kernel
theorem dX1_openSeconds_53 : decode cX1_openSeconds 53 = .ok (.iload 6, 2) := by decide +kernel
theorem dX1_openSeconds_55 : decode cX1_openSeconds 55 = .ok (.isub, 1) := by decide +kernel
theorem dX1_openSeconds_56 : decode cX1_openSeconds 56 = .ok (.iadd, 1) := by decide +kernel
theorem dX1_openSeconds_57 : decode cX1_openSeconds 57 = .ok (.istore_n 2, 1) := by decide +kernel
theorem dX1_openSeconds_58 : decode cX1_openSeconds 58 = .ok (.iinc 4 1, 3) := by decide +kernel
theorem dX1_openSeconds_61 : decode cX1_openSeconds 61 = .ok (.goto (-54), 3) := by decide +kernel
theorem dX1_openSeconds_64 : decode cX1_openSeconds 64 = .ok (.iload_n 2, 1) := by decide +kernel
theorem dX1_openSeconds_65 : decode cX1_openSeconds 65 = .ok (.ireturn, 1) := by decide +kernel
theorem dX2_init_0 : decode cX2_init 0 = .ok (.aload_n 0, 1) := by decide +kernel
theorem dX2_init_1 : decode cX2_init 1 = .ok (.invokespecial 3, 3) := by decide +kernel
theorem dX2_init_4 : decode cX2_init 4 = .ok (.aload_n 0, 1) := by decide +kernel
theorem dX2_init_5 : decode cX2_init 5 = .ok (.bipush 80, 2) := by decide +kernel
theorem dX2_init_7 : decode cX2_init 7 = .ok (.newarray .int, 2) := by decide +kernel
theorem dX2_init_9 : decode cX2_init 9 = .ok (.putfield 9, 3) := by decide +kernel
theorem dX2_init_12 : decode cX2_init 12 = .ok (.aload_n 0, 1) := by decide +kernel
theorem dX2_init_13 : decode cX2_init 13 = .ok (.iconst 0, 1) := by decide +kernel
theorem dX2_init_14 : decode cX2_init 14 = .ok (.putfield 15, 3) := by decide +kernel
theorem dX2_init_17 : decode cX2_init 17 = .ok (.aload_n 0, 1) := by decide +kernel
theorem dX2_init_18 : decode cX2_init 18 = .ok (.iconst 0, 1) := by decide +kernel
theorem dX2_init_19 : decode cX2_init 19 = .ok (.putfield 19, 3) := by decide +kernel
theorem dX2_init_22 : decode cX2_init 22 = .ok (.aload_n 0, 1) := by decide +kernel
theorem dX2_init_23 : decode cX2_init 23 = .ok (.iconst 0, 1) := by decide +kernel
theorem dX2_init_24 : decode cX2_init 24 = .ok (.putfield 22, 3) := by decide +kernel
theorem dX2_init_27 : decode cX2_init 27 = .ok (.aload_n 0, 1) := by decide +kernel
theorem dX2_init_28 : decode cX2_init 28 = .ok (.bipush 7, 2) := by decide +kernel
theorem dX2_init_30 : decode cX2_init 30 = .ok (.newarray .int, 2) := by decide +kernel
theorem dX2_init_32 : decode cX2_init 32 = .ok (.putfield 26, 3) := by decide +kernel
theorem dX2_init_35 : decode cX2_init 35 = .ok (.return_, 1) := by decide +kernel
theorem dX2_add_0 : decode cX2_add 0 = .ok (.aload_n 0, 1) := by decide +kernel
theorem dX2_add_1 : decode cX2_add 1 = .ok (.getfield 9, 3) := by decide +kernel
theorem dX2_add_4 : decode cX2_add 4 = .ok (.aload_n 0, 1) := by decide +kernel
theorem dX2_add_5 : decode cX2_add 5 = .ok (.getfield 15, 3) := by decide +kernel
theorem dX2_add_8 : decode cX2_add 8 = .ok (.iload_n 1, 1) := by decide +kernel
theorem dX2_add_9 : decode cX2_add 9 = .ok (.invokestatic 29, 3) := by decide +kernel
theorem dX2_add_12 : decode cX2_add 12 = .ok (.aload_n 0, 1) := by decide +kernel
theorem dX2_add_13 : decode cX2_add 13 = .ok (.dup, 1) := by decide +kernel
theorem dX2_add_14 : decode cX2_add 14 = .ok (.getfield 15, 3) := by decide +kernel
theorem dX2_add_17 : decode cX2_add 17 = .ok (.iconst 1, 1) := by decide +kernel
theorem dX2_add_18 : decode cX2_add 18 = .ok (.iadd, 1) := by decide +kernel
theorem dX2_add_19 : decode cX2_add 19 = .ok (.putfield 15, 3) := by decide +kernel
theorem dX2_add_22 : decode cX2_add 22 = .ok (.return_, 1) := by decide +kernel
theorem dX2_findFault_0 : decode cX2_findFault 0 = .ok (.aload_n 0, 1) := by decide +kernel
theorem dX2_findFault_1 : decode cX2_findFault 1 = .ok (.invokevirtual 33, 3) := by decide +kernel
theorem dX2_findFault_4 : decode cX2_findFault 4 = .ok (.aload_n 1, 1) := by decide +kernel
theorem dX2_findFault_5 : decode cX2_findFault 5 = .ok (.getfield 36, 3) := by decide +kernel
theorem dX2_findFault_8 : decode cX2_findFault 8 = .ok (.istore_n 2, 1) := by decide +kernel
theorem dX2_findFault_9 : decode cX2_findFault 9 = .ok (.bipush (-9), 2) := by decide +kernel
theorem dX2_findFault_11 : decode cX2_findFault 11 = .ok (.istore_n 3, 1) := by decide +kernel
theorem dX2_findFault_12 : decode cX2_findFault 12 = .ok (.iconst 0, 1) := by decide +kernel
theorem dX2_findFault_13 : decode cX2_findFault 13 = .ok (.istore 4, 2) := by decide +kernel
theorem dX2_findFault_15 : decode cX2_findFault 15 = .ok (.iload 4, 2) := by decide +kernel
theorem dX2_findFault_17 : decode cX2_findFault 17 = .ok (.bipush 80, 2) := by decide +kernel
theorem dX2_findFault_19 : decode cX2_findFault 19 = .ok (.if_icmp .ge 76, 3) := by decide +kernel
theorem dX2_findFault_22 : decode cX2_findFault 22 = .ok (.aload_n 0, 1) := by decide +kernel
theorem dX2_findFault_23 : decode cX2_findFault 23 = .ok (.getfield 22, 3) := by decide +kernel
theorem dX2_findFault_26 : decode cX2_findFault 26 = .ok (.ifCond .ne 69, 3) := by decide +kernel
theorem dX2_findFault_29 : decode cX2_findFault 29 = .ok (.iload 4, 2) := by decide +kernel
theorem dX2_findFault_31 : decode cX2_findFault 31 = .ok (.ifCond .eq 14, 3) := by decide +kernel
theorem dX2_findFault_34 : decode cX2_findFault 34 = .ok (.aload_n 0, 1) := by decide +kernel
theorem dX2_findFault_35 : decode cX2_findFault 35 = .ok (.getfield 19, 3) := by decide +kernel
theorem dX2_findFault_38 : decode cX2_findFault 38 = .ok (.aload_n 0, 1) := by decide +kernel
theorem dX2_findFault_39 : decode cX2_findFault 39 = .ok (.getfield 15, 3) := by decide +kernel
theorem dX2_findFault_42 : decode cX2_findFault 42 = .ok (.if_icmp .ge 53, 3) := by decide +kernel
theorem dX2_findFault_45 : decode cX2_findFault 45 = .ok (.aload_n 0, 1) := by decide +kernel
theorem dX2_findFault_46 : decode cX2_findFault 46 = .ok (.getfield 19, 3) := by decide +kernel
theorem dX2_findFault_49 : decode cX2_findFault 49 = .ok (.istore 5, 2) := by decide +kernel
theorem dX2_findFault_51 : decode cX2_findFault 51 = .ok (.aload_n 0, 1) := by decide +kernel
theorem dX2_findFault_52 : decode cX2_findFault 52 = .ok (.invokevirtual 41, 3) := by decide +kernel
theorem dX2_findFault_55 : decode cX2_findFault 55 = .ok (.istore 6, 2) := by decide +kernel
theorem dX2_findFault_57 : decode cX2_findFault 57 = .ok (.iload_n 3, 1) := by decide +kernel
theorem dX2_findFault_58 : decode cX2_findFault 58 = .ok (.ifCond .ge 16, 3) := by decide +kernel
theorem dX2_findFault_61 : decode cX2_findFault 61 = .ok (.aload_n 0, 1) := by decide +kernel
theorem dX2_findFault_62 : decode cX2_findFault 62 = .ok (.iload 6, 2) := by decide +kernel
theorem dX2_findFault_64 : decode cX2_findFault 64 = .ok (.iload_n 2, 1) := by decide +kernel
theorem dX2_findFault_65 : decode cX2_findFault 65 = .ok (.invokevirtual 45, 3) := by decide +kernel
theorem dX2_findFault_68 : decode cX2_findFault 68 = .ok (.ifCond .ne 6, 3) := by decide +kernel
theorem dX2_findFault_71 : decode cX2_findFault 71 = .ok (.iload 5, 2) := by decide +kernel
theorem dX2_findFault_73 : decode cX2_findFault 73 = .ok (.istore_n 3, 1) := by decide +kernel
theorem dX2_findFault_74 : decode cX2_findFault 74 = .ok (.iload_n 2, 1) := by decide +kernel
theorem dX2_findFault_75 : decode cX2_findFault 75 = .ok (.iload 6, 2) := by decide +kernel
theorem dX2_findFault_77 : decode cX2_findFault 77 = .ok (.bipush 119, 2) := by decide +kernel
theorem dX2_findFault_79 : decode cX2_findFault 79 = .ok (.if_icmp .ne 7, 3) := by decide +kernel
theorem dX2_findFault_82 : decode cX2_findFault 82 = .ok (.iconst 1, 1) := by decide +kernel
theorem dX2_findFault_83 : decode cX2_findFault 83 = .ok (.goto 4, 3) := by decide +kernel
theorem dX2_findFault_86 : decode cX2_findFault 86 = .ok (.iconst 0, 1) := by decide +kernel
theorem dX2_findFault_87 : decode cX2_findFault 87 = .ok (.iadd, 1) := by decide +kernel
theorem dX2_findFault_88 : decode cX2_findFault 88 = .ok (.istore_n 2, 1) := by decide +kernel
theorem dX2_findFault_89 : decode cX2_findFault 89 = .ok (.iinc 4 1, 3) := by decide +kernel
theorem dX2_findFault_92 : decode cX2_findFault 92 = .ok (.goto (-77), 3) := by decide +kernel
theorem dX2_findFault_95 : decode cX2_findFault 95 = .ok (.aload_n 0, 1) := by decide +kernel
theorem dX2_findFault_96 : decode cX2_findFault 96 = .ok (.getfield 22, 3) := by decide +kernel
theorem dX2_findFault_99 : decode cX2_findFault 99 = .ok (.ifCond .eq 12, 3) := by decide +kernel
theorem dX2_findFault_102 : decode cX2_findFault 102 = .ok (.sipush (-1000), 3) := by decide +kernel
theorem dX2_findFault_105 : decode cX2_findFault 105 = .ok (.aload_n 0, 1) := by decide +kernel
theorem dX2_findFault_106 : decode cX2_findFault 106 = .ok (.getfield 19, 3) := by decide +kernel
theorem dX2_findFault_109 : decode cX2_findFault 109 = .ok (.isub, 1) := by decide +kernel
theorem dX2_findFault_110 : decode cX2_findFault 110 = .ok (.ireturn, 1) := by decide +kernel
theorem dX2_findFault_111 : decode cX2_findFault 111 = .ok (.iload_n 3, 1) := by decide +kernel
theorem dX2_findFault_112 : decode cX2_findFault 112 = .ok (.ifCond .ge 7, 3) := by decide +kernel
theorem dX2_findFault_115 : decode cX2_findFault 115 = .ok (.iconst 0, 1) := by decide +kernel
theorem dX2_findFault_116 : decode cX2_findFault 116 = .ok (.goto 8, 3) := by decide +kernel
theorem dX2_findFault_119 : decode cX2_findFault 119 = .ok (.sipush (-2000), 3) := by decide +kernel
theorem dX2_findFault_122 : decode cX2_findFault 122 = .ok (.iload_n 3, 1) := by decide +kernel
theorem dX2_findFault_123 : decode cX2_findFault 123 = .ok (.isub, 1) := by decide +kernel
theorem dX2_findFault_124 : decode cX2_findFault 124 = .ok (.ireturn, 1) := by decide +kernel
theorem dX2_bringInto_0 : decode cX2_bringInto 0 = .ok (.aload_n 0, 1) := by decide +kernel
theorem dX2_bringInto_1 : decode cX2_bringInto 1 = .ok (.invokevirtual 33, 3) := by decide +kernel
theorem dX2_bringInto_4 : decode cX2_bringInto 4 = .ok (.iconst 0, 1) := by decide +kernel
theorem dX2_bringInto_5 : decode cX2_bringInto 5 = .ok (.istore_n 2, 1) := by decide +kernel
theorem dX2_bringInto_6 : decode cX2_bringInto 6 = .ok (.iconst 0, 1) := by decide +kernel
theorem dX2_bringInto_7 : decode cX2_bringInto 7 = .ok (.istore_n 3, 1) := by decide +kernel
theorem dX2_bringInto_8 : decode cX2_bringInto 8 = .ok (.iload_n 3, 1) := by decide +kernel
theorem dX2_bringInto_9 : decode cX2_bringInto 9 = .ok (.bipush 80, 2) := by decide +kernel
theorem dX2_bringInto_11 : decode cX2_bringInto 11 = .ok (.if_icmp .ge 39, 3) := by decide +kernel
theorem dX2_bringInto_14 : decode cX2_bringInto 14 = .ok (.aload_n 0, 1) := by decide +kernel
theorem dX2_bringInto_15 : decode cX2_bringInto 15 = .ok (.getfield 22, 3) := by decide +kernel
theorem dX2_bringInto_18 : decode cX2_bringInto 18 = .ok (.ifCond .ne 32, 3) := by decide +kernel
theorem dX2_bringInto_21 : decode cX2_bringInto 21 = .ok (.aload_n 0, 1) := by decide +kernel
theorem dX2_bringInto_22 : decode cX2_bringInto 22 = .ok (.getfield 19, 3) := by decide +kernel
theorem dX2_bringInto_25 : decode cX2_bringInto 25 = .ok (.aload_n 0, 1) := by decide +kernel
theorem dX2_bringInto_26 : decode cX2_bringInto 26 = .ok (.getfield 15, 3) := by decide +kernel
theorem dX2_bringInto_29 : decode cX2_bringInto 29 = .ok (.if_icmp .ge 21, 3) := by decide +kernel
theorem dX2_bringInto_32 : decode cX2_bringInto 32 = .ok (.aload_n 0, 1) := by decide +kernel
theorem dX2_bringInto_33 : decode cX2_bringInto 33 = .ok (.aload_n 1, 1) := by decide +kernel
theorem dX2_bringInto_34 : decode cX2_bringInto 34 = .ok (.aload_n 0, 1) := by decide +kernel
theorem dX2_bringInto_35 : decode cX2_bringInto 35 = .ok (.invokevirtual 41, 3) := by decide +kernel
theorem dX2_bringInto_38 : decode cX2_bringInto 38 = .ok (.invokevirtual 49, 3) := by decide +kernel
theorem dX2_bringInto_41 : decode cX2_bringInto 41 = .ok (.iinc 2 1, 3) := by decide +kernel
theorem dX2_bringInto_44 : decode cX2_bringInto 44 = .ok (.iinc 3 1, 3) := by decide +kernel
theorem dX2_bringInto_47 : decode cX2_bringInto 47 = .ok (.goto (-39), 3) := by decide +kernel
theorem dX2_bringInto_50 : decode cX2_bringInto 50 = .ok (.iload_n 2, 1) := by decide +kernel
theorem dX2_bringInto_51 : decode cX2_bringInto 51 = .ok (.ireturn, 1) := by decide +kernel
theorem dX2_begin_0 : decode cX2_begin 0 = .ok (.aload_n 0, 1) := by decide +kernel
theorem dX2_begin_1 : decode cX2_begin 1 = .ok (.iconst 0, 1) := by decide +kernel
theorem dX2_begin_2 : decode cX2_begin 2 = .ok (.putfield 19, 3) := by decide +kernel
theorem dX2_begin_5 : decode cX2_begin 5 = .ok (.aload_n 0, 1) := by decide +kernel
theorem dX2_begin_6 : decode cX2_begin 6 = .ok (.iconst 0, 1) := by decide +kernel
theorem dX2_begin_7 : decode cX2_begin 7 = .ok (.putfield 22, 3) := by decide +kernel
theorem dX2_begin_10 : decode cX2_begin 10 = .ok (.return_, 1) := by decide +kernel
theorem dX2_bringStatement_0 : decode cX2_bringStatement 0 = .ok (.iload_n 2, 1) := by decide +kernel
theorem dX2_bringStatement_1 : decode cX2_bringStatement 1 = .ok (.bipush 100, 2) := by decide +kernel
theorem dX2_bringStatement_3 : decode cX2_bringStatement 3 = .ok (.if_icmp .ne 48, 3) := by decide +kernel
theorem dX2_bringStatement_6 : decode cX2_bringStatement 6 = .ok (.aload_n 1, 1) := by decide +kernel
theorem dX2_bringStatement_7 : decode cX2_bringStatement 7 = .ok (.iconst 0, 1) := by decide +kernel
theorem dX2_bringStatement_8 : decode cX2_bringStatement 8 = .ok (.aload_n 0, 1) := by decide +kernel
theorem dX2_bringStatement_9 : decode cX2_bringStatement 9 = .ok (.getfield 26, 3) := by decide +kernel
theorem dX2_bringStatement_12 : decode cX2_bringStatement 12 = .ok (.iconst 0, 1) := by decide +kernel
theorem dX2_bringStatement_13 : decode cX2_bringStatement 13 = .ok (.invokestatic 53, 3) := by decide +kernel
theorem dX2_bringStatement_16 : decode cX2_bringStatement 16 = .ok (.invokevirtual 57, 3) := by decide +kernel
theorem dX2_bringStatement_19 : decode cX2_bringStatement 19 = .ok (.pop, 1) := by decide +kernel
theorem dX2_bringStatement_20 : decode cX2_bringStatement 20 = .ok (.aload_n 1, 1) := by decide +kernel
theorem dX2_bringStatement_21 : decode cX2_bringStatement 21 = .ok (.iconst 1, 1) := by decide +kernel
theorem dX2_bringStatement_22 : decode cX2_bringStatement 22 = .ok (.aload_n 0, 1) := by decide +kernel
theorem dX2_bringStatement_23 : decode cX2_bringStatement 23 = .ok (.getfield 26, 3) := by decide +kernel
theorem dX2_bringStatement_26 : decode cX2_bringStatement 26 = .ok (.iconst 1, 1) := by decide +kernel
theorem dX2_bringStatement_27 : decode cX2_bringStatement 27 = .ok (.invokestatic 53, 3) := by decide +kernel
theorem dX2_bringStatement_30 : decode cX2_bringStatement 30 = .ok (.invokevirtual 57, 3) := by decide +kernel
theorem dX2_bringStatement_33 : decode cX2_bringStatement 33 = .ok (.pop, 1) := by decide +kernel
theorem dX2_bringStatement_34 : decode cX2_bringStatement 34 = .ok (.aload_n 1, 1) := by decide +kernel
theorem dX2_bringStatement_35 : decode cX2_bringStatement 35 = .ok (.iconst 2, 1) := by decide +kernel
theorem dX2_bringStatement_36 : decode cX2_bringStatement 36 = .ok (.aload_n 0, 1) := by decide +kernel
theorem dX2_bringStatement_37 : decode cX2_bringStatement 37 = .ok (.getfield 26, 3) := by decide +kernel
theorem dX2_bringStatement_40 : decode cX2_bringStatement 40 = .ok (.iconst 2, 1) := by decide +kernel
theorem dX2_bringStatement_41 : decode cX2_bringStatement 41 = .ok (.invokestatic 53, 3) := by decide +kernel
theorem dX2_bringStatement_44 : decode cX2_bringStatement 44 = .ok (.invokevirtual 57, 3) := by decide +kernel
theorem dX2_bringStatement_47 : decode cX2_bringStatement 47 = .ok (.pop, 1) := by decide +kernel
theorem dX2_bringStatement_48 : decode cX2_bringStatement 48 = .ok (.goto 48, 3) := by decide +kernel
theorem dX2_bringStatement_51 : decode cX2_bringStatement 51 = .ok (.iload_n 2, 1) := by decide +kernel
theorem dX2_bringStatement_52 : decode cX2_bringStatement 52 = .ok (.bipush 99, 2) := by decide +kernel
theorem dX2_bringStatement_54 : decode cX2_bringStatement 54 = .ok (.if_icmp .ne 34, 3) := by decide +kernel
theorem dX2_bringStatement_57 : decode cX2_bringStatement 57 = .ok (.aload_n 1, 1) := by decide +kernel
theorem dX2_bringStatement_58 : decode cX2_bringStatement 58 = .ok (.iconst 4, 1) := by decide +kernel
theorem dX2_bringStatement_59 : decode cX2_bringStatement 59 = .ok (.aload_n 0, 1) := by decide +kernel
theorem dX2_bringStatement_60 : decode cX2_bringStatement 60 = .ok (.getfield 26, 3) := by decide +kernel
theorem dX2_bringStatement_63 : decode cX2_bringStatement 63 = .ok (.iconst 0, 1) := by decide +kernel
theorem dX2_bringStatement_64 : decode cX2_bringStatement 64 = .ok (.invokestatic 53, 3) := by decide +kernel
theorem dX2_bringStatement_67 : decode cX2_bringStatement 67 = .ok (.invokevirtual 57, 3) := by decide +kernel
theorem dX2_bringStatement_70 : decode cX2_bringStatement 70 = .ok (.pop, 1) := by decide +kernel
theorem dX2_bringStatement_71 : decode cX2_bringStatement 71 = .ok (.aload_n 1, 1) := by decide +kernel
theorem dX2_bringStatement_72 : decode cX2_bringStatement 72 = .ok (.iconst 3, 1) := by decide +kernel
theorem dX2_bringStatement_73 : decode cX2_bringStatement 73 = .ok (.aload_n 0, 1) := by decide +kernel
theorem dX2_bringStatement_74 : decode cX2_bringStatement 74 = .ok (.getfield 26, 3) := by decide +kernel
theorem dX2_bringStatement_77 : decode cX2_bringStatement 77 = .ok (.iconst 1, 1) := by decide +kernel
theorem dX2_bringStatement_78 : decode cX2_bringStatement 78 = .ok (.invokestatic 53, 3) := by decide +kernel
theorem dX2_bringStatement_81 : decode cX2_bringStatement 81 = .ok (.invokevirtual 57, 3) := by decide +kernel
theorem dX2_bringStatement_84 : decode cX2_bringStatement 84 = .ok (.pop, 1) := by decide +kernel
theorem dX2_bringStatement_85 : decode cX2_bringStatement 85 = .ok (.goto 11, 3) := by decide +kernel
theorem dX2_bringStatement_88 : decode cX2_bringStatement 88 = .ok (.aload_n 1, 1) := by decide +kernel
theorem dX2_bringStatement_89 : decode cX2_bringStatement 89 = .ok (.aload_n 0, 1) := by decide +kernel
theorem dX2_bringStatement_90 : decode cX2_bringStatement 90 = .ok (.getfield 26, 3) := by decide +kernel
theorem dX2_bringStatement_93 : decode cX2_bringStatement 93 = .ok (.invokevirtual 61, 3) := by decide +kernel
theorem dX2_bringStatement_96 : decode cX2_bringStatement 96 = .ok (.return_, 1) := by decide +kernel
theorem dX2_isAsItMustBe_0 : decode cX2_isAsItMustBe 0 = .ok (.iload_n 1, 1) := by decide +kernel
theorem dX2_isAsItMustBe_1 : decode cX2_isAsItMustBe 1 = .ok (.bipush 100, 2) := by decide +kernel
theorem dX2_isAsItMustBe_3 : decode cX2_isAsItMustBe 3 = .ok (.if_icmp .ne 21, 3) := by decide +kernel
theorem dX2_isAsItMustBe_6 : decode cX2_isAsItMustBe 6 = .ok (.aload_n 0, 1) := by decide +kernel
theorem dX2_isAsItMustBe_7 : decode cX2_isAsItMustBe 7 = .ok (.getfield 26, 3) := by decide +kernel
theorem dX2_isAsItMustBe_10 : decode cX2_isAsItMustBe 10 = .ok (.iconst 0, 1) := by decide +kernel
theorem dX2_isAsItMustBe_11 : decode cX2_isAsItMustBe 11 = .ok (.invokestatic 53, 3) := by decide +kernel
theorem dX2_isAsItMustBe_14 : decode cX2_isAsItMustBe 14 = .ok (.iconst 1, 1) := by decide +kernel
theorem dX2_isAsItMustBe_15 : decode cX2_isAsItMustBe 15 = .ok (.if_icmp .lt 7, 3) := by decide +kernel
theorem dX2_isAsItMustBe_18 : decode cX2_isAsItMustBe 18 = .ok (.iconst 1, 1) := by decide +kernel
theorem dX2_isAsItMustBe_19 : decode cX2_isAsItMustBe 19 = .ok (.goto 4, 3) := by decide +kernel
theorem dX2_isAsItMustBe_22 : decode cX2_isAsItMustBe 22 = .ok (.iconst 0, 1) := by decide +kernel
theorem dX2_isAsItMustBe_23 : decode cX2_isAsItMustBe 23 = .ok (.ireturn, 1) := by decide +kernel
theorem dX2_isAsItMustBe_24 : decode cX2_isAsItMustBe 24 = .ok (.iload_n 1, 1) := by decide +kernel
theorem dX2_isAsItMustBe_25 : decode cX2_isAsItMustBe 25 = .ok (.bipush 99, 2) := by decide +kernel
theorem dX2_isAsItMustBe_27 : decode cX2_isAsItMustBe 27 = .ok (.if_icmp .ne 36, 3) := by decide +kernel
theorem dX2_isAsItMustBe_30 : decode cX2_isAsItMustBe 30 = .ok (.aload_n 0, 1) := by decide +kernel
theorem dX2_isAsItMustBe_31 : decode cX2_isAsItMustBe 31 = .ok (.getfield 26, 3) := by decide +kernel
theorem dX2_isAsItMustBe_34 : decode cX2_isAsItMustBe 34 = .ok (.iconst 0, 1) := by decide +kernel
theorem dX2_isAsItMustBe_35 : decode cX2_isAsItMustBe 35 = .ok (.invokestatic 53, 3) := by decide +kernel
theorem dX2_isAsItMustBe_38 : decode cX2_isAsItMustBe 38 = .ok (.invokestatic 65, 3) := by decide +kernel
theorem dX2_isAsItMustBe_41 : decode cX2_isAsItMustBe 41 = .ok (.ifCond .eq 20, 3) := by decide +kernel
theorem dX2_isAsItMustBe_44 : decode cX2_isAsItMustBe 44 = .ok (.aload_n 0, 1) := by decide +kernel
theorem dX2_isAsItMustBe_45 : decode cX2_isAsItMustBe 45 = .ok (.getfield 26, 3) := by decide +kernel
theorem dX2_isAsItMustBe_48 : decode cX2_isAsItMustBe 48 = .ok (.iconst 1, 1) := by decide +kernel
theorem dX2_isAsItMustBe_49 : decode cX2_isAsItMustBe 49 = .ok (.invokestatic 53, 3) := by decide +kernel
theorem dX2_isAsItMustBe_52 : decode cX2_isAsItMustBe 52 = .ok (.bipush 40, 2) := by decide +kernel
theorem dX2_isAsItMustBe_54 : decode cX2_isAsItMustBe 54 = .ok (.if_icmp .gt 7, 3) := by decide +kernel
theorem dX2_isAsItMustBe_57 : decode cX2_isAsItMustBe 57 = .ok (.iconst 1, 1) := by decide +kernel
theorem dX2_isAsItMustBe_58 : decode cX2_isAsItMustBe 58 = .ok (.goto 4, 3) := by decide +kernel
theorem dX2_isAsItMustBe_61 : decode cX2_isAsItMustBe 61 = .ok (.iconst 0, 1) := by decide +kernel
theorem dX2_isAsItMustBe_62 : decode cX2_isAsItMustBe 62 = .ok (.ireturn, 1) := by decide +kernel
theorem dX2_isAsItMustBe_63 : decode cX2_isAsItMustBe 63 = .ok (.iload_n 2, 1) := by decide +kernel
theorem dX2_isAsItMustBe_64 : decode cX2_isAsItMustBe 64 = .ok (.bipush 8, 2) := by decide +kernel
theorem dX2_isAsItMustBe_66 : decode cX2_isAsItMustBe 66 = .ok (.if_icmp .ge 82, 3) := by decide +kernel
theorem dX2_isAsItMustBe_69 : decode cX2_isAsItMustBe 69 = .ok (.aload_n 0, 1) := by decide +kernel
theorem dX2_isAsItMustBe_70 : decode cX2_isAsItMustBe 70 = .ok (.getfield 26, 3) := by decide +kernel
theorem dX2_isAsItMustBe_73 : decode cX2_isAsItMustBe 73 = .ok (.iconst 2, 1) := by decide +kernel
theorem dX2_isAsItMustBe_74 : decode cX2_isAsItMustBe 74 = .ok (.invokestatic 53, 3) := by decide +kernel
theorem dX2_isAsItMustBe_77 : decode cX2_isAsItMustBe 77 = .ok (.iconst 1, 1) := by decide +kernel
theorem dX2_isAsItMustBe_78 : decode cX2_isAsItMustBe 78 = .ok (.if_icmp .lt 70, 3) := by decide +kernel
theorem dX2_isAsItMustBe_81 : decode cX2_isAsItMustBe 81 = .ok (.aload_n 0, 1) := by decide +kernel
theorem dX2_isAsItMustBe_82 : decode cX2_isAsItMustBe 82 = .ok (.getfield 26, 3) := by decide +kernel
theorem dX2_isAsItMustBe_85 : decode cX2_isAsItMustBe 85 = .ok (.iconst 2, 1) := by decide +kernel
theorem dX2_isAsItMustBe_86 : decode cX2_isAsItMustBe 86 = .ok (.invokestatic 53, 3) := by decide +kernel
theorem dX2_isAsItMustBe_89 : decode cX2_isAsItMustBe 89 = .ok (.bipush 40, 2) := by decide +kernel
theorem dX2_isAsItMustBe_91 : decode cX2_isAsItMustBe 91 = .ok (.if_icmp .gt 57, 3) := by decide +kernel
theorem dX2_isAsItMustBe_94 : decode cX2_isAsItMustBe 94 = .ok (.aload_n 0, 1) := by decide +kernel
theorem dX2_isAsItMustBe_95 : decode cX2_isAsItMustBe 95 = .ok (.getfield 26, 3) := by decide +kernel
theorem dX2_isAsItMustBe_98 : decode cX2_isAsItMustBe 98 = .ok (.iconst 3, 1) := by decide +kernel
theorem dX2_isAsItMustBe_99 : decode cX2_isAsItMustBe 99 = .ok (.invokestatic 53, 3) := by decide +kernel
theorem dX2_isAsItMustBe_102 : decode cX2_isAsItMustBe 102 = .ok (.iconst 1, 1) := by decide +kernel
theorem dX2_isAsItMustBe_103 : decode cX2_isAsItMustBe 103 = .ok (.if_icmp .lt 45, 3) := by decide +kernel
theorem dX2_isAsItMustBe_106 : decode cX2_isAsItMustBe 106 = .ok (.aload_n 0, 1) := by decide +kernel
theorem dX2_isAsItMustBe_107 : decode cX2_isAsItMustBe 107 = .ok (.getfield 26, 3) := by decide +kernel
theorem dX2_isAsItMustBe_110 : decode cX2_isAsItMustBe 110 = .ok (.iconst 3, 1) := by decide +kernel
theorem dX2_isAsItMustBe_111 : decode cX2_isAsItMustBe 111 = .ok (.invokestatic 53, 3) := by decide +kernel
theorem dX2_isAsItMustBe_114 : decode cX2_isAsItMustBe 114 = .ok (.iconst 4, 1) := by decide +kernel
theorem dX2_isAsItMustBe_115 : decode cX2_isAsItMustBe 115 = .ok (.if_icmp .gt 33, 3) := by decide +kernel
theorem dX2_isAsItMustBe_118 : decode cX2_isAsItMustBe 118 = .ok (.aload_n 0, 1) := by decide +kernel
theorem dX2_isAsItMustBe_119 : decode cX2_isAsItMustBe 119 = .ok (.getfield 26, 3) := by decide +kernel
theorem dX2_isAsItMustBe_122 : decode cX2_isAsItMustBe 122 = .ok (.iconst 4, 1) := by decide +kernel
theorem dX2_isAsItMustBe_123 : decode cX2_isAsItMustBe 123 = .ok (.invokestatic 53, 3) := by decide +kernel
theorem dX2_isAsItMustBe_126 : decode cX2_isAsItMustBe 126 = .ok (.iconst 2, 1) := by decide +kernel
theorem dX2_isAsItMustBe_127 : decode cX2_isAsItMustBe 127 = .ok (.if_icmp .gt 21, 3) := by decide +kernel
theorem dX2_isAsItMustBe_130 : decode cX2_isAsItMustBe 130 = .ok (.aload_n 0, 1) := by decide +kernel
theorem dX2_isAsItMustBe_131 : decode cX2_isAsItMustBe 131 = .ok (.getfield 26, 3) := by decide +kernel
theorem dX2_isAsItMustBe_134 : decode cX2_isAsItMustBe 134 = .ok (.iconst 5, 1) := by decide +kernel
theorem dX2_isAsItMustBe_135 : decode cX2_isAsItMustBe 135 = .ok (.invokestatic 53, 3) := by decide +kernel
theorem dX2_isAsItMustBe_138 : decode cX2_isAsItMustBe 138 = .ok (.invokestatic 69, 3) := by decide +kernel
theorem dX2_isAsItMustBe_141 : decode cX2_isAsItMustBe 141 = .ok (.ifCond .eq 7, 3) := by decide +kernel
theorem dX2_isAsItMustBe_144 : decode cX2_isAsItMustBe 144 = .ok (.iconst 1, 1) := by decide +kernel
theorem dX2_isAsItMustBe_145 : decode cX2_isAsItMustBe 145 = .ok (.goto 4, 3) := by decide +kernel
theorem dX2_isAsItMustBe_148 : decode cX2_isAsItMustBe 148 = .ok (.iconst 0, 1) := by decide +kernel
theorem dX2_isAsItMustBe_149 : decode cX2_isAsItMustBe 149 = .ok (.ireturn, 1) := by decide +kernel
theorem dX2_readStatement_0 : decode cX2_readStatement 0 = .ok (.aload_n 0, 1) := by decide +kernel
theorem dX2_readStatement_1 : decode cX2_readStatement 1 = .ok (.invokevirtual 72, 3) := by decide +kernel
theorem dX2_readStatement_4 : decode cX2_readStatement 4 = .ok (.istore_n 1, 1) := by decide +kernel
theorem dX2_readStatement_5 : decode cX2_readStatement 5 = .ok (.iload_n 1, 1) := by decide +kernel
theorem dX2_readStatement_6 : decode cX2_readStatement 6 = .ok (.lookupswitch 123 #[(99, 53), (100, 34), (119, 77)], 34) := by decide +kernel
theorem dX2_readStatement_40 : decode cX2_readStatement 40 = .ok (.aload_n 0, 1) := by decide +kernel
theorem dX2_readStatement_41 : decode cX2_readStatement 41 = .ok (.dup, 1) := by decide +kernel
theorem dX2_readStatement_42 : decode cX2_readStatement 42 = .ok (.getfield 19, 3) := by decide +kernel
theorem dX2_readStatement_45 : decode cX2_readStatement 45 = .ok (.iconst 1, 1) := by decide +kernel
theorem dX2_readStatement_46 : decode cX2_readStatement 46 = .ok (.iadd, 1) := by decide +kernel
theorem dX2_readStatement_47 : decode cX2_readStatement 47 = .ok (.putfield 19, 3) := by decide +kernel
theorem dX2_readStatement_50 : decode cX2_readStatement 50 = .ok (.aload_n 0, 1) := by decide +kernel
theorem dX2_readStatement_51 : decode cX2_readStatement 51 = .ok (.iconst 0, 1) := by decide +kernel
theorem dX2_readStatement_52 : decode cX2_readStatement 52 = .ok (.iconst 2, 1) := by decide +kernel
theorem dX2_readStatement_53 : decode cX2_readStatement 53 = .ok (.invokevirtual 75, 3) := by decide +kernel
theorem dX2_readStatement_56 : decode cX2_readStatement 56 = .ok (.goto 78, 3) := by decide +kernel
theorem dX2_readStatement_59 : decode cX2_readStatement 59 = .ok (.aload_n 0, 1) := by decide +kernel
theorem dX2_readStatement_60 : decode cX2_readStatement 60 = .ok (.dup, 1) := by decide +kernel
theorem dX2_readStatement_61 : decode cX2_readStatement 61 = .ok (.getfield 19, 3) := by decide +kernel
theorem dX2_readStatement_64 : decode cX2_readStatement 64 = .ok (.iconst 1, 1) := by decide +kernel
theorem dX2_readStatement_65 : decode cX2_readStatement 65 = .ok (.iadd, 1) := by decide +kernel
theorem dX2_readStatement_66 : decode cX2_readStatement 66 = .ok (.putfield 19, 3) := by decide +kernel
theorem dX2_readStatement_69 : decode cX2_readStatement 69 = .ok (.aload_n 0, 1) := by decide +kernel
theorem dX2_readStatement_70 : decode cX2_readStatement 70 = .ok (.iconst 0, 1) := by decide +kernel
theorem dX2_readStatement_71 : decode cX2_readStatement 71 = .ok (.iconst 0, 1) := by decide +kernel
theorem dX2_readStatement_72 : decode cX2_readStatement 72 = .ok (.invokevirtual 75, 3) := by decide +kernel
theorem dX2_readStatement_75 : decode cX2_readStatement 75 = .ok (.aload_n 0, 1) := by decide +kernel
theorem dX2_readStatement_76 : decode cX2_readStatement 76 = .ok (.iconst 1, 1) := by decide +kernel
theorem dX2_readStatement_77 : decode cX2_readStatement 77 = .ok (.invokevirtual 79, 3) := by decide +kernel
theorem dX2_readStatement_80 : decode cX2_readStatement 80 = .ok (.goto 54, 3) := by decide +kernel
theorem dX2_readStatement_83 : decode cX2_readStatement 83 = .ok (.aload_n 0, 1) := by decide +kernel
theorem dX2_readStatement_84 : decode cX2_readStatement 84 = .ok (.dup, 1) := by decide +kernel
theorem dX2_readStatement_85 : decode cX2_readStatement 85 = .ok (.getfield 19, 3) := by decide +kernel
theorem dX2_readStatement_88 : decode cX2_readStatement 88 = .ok (.iconst 1, 1) := by decide +kernel
theorem dX2_readStatement_89 : decode cX2_readStatement 89 = .ok (.iadd, 1) := by decide +kernel
theorem dX2_readStatement_90 : decode cX2_readStatement 90 = .ok (.putfield 19, 3) := by decide +kernel
theorem dX2_readStatement_93 : decode cX2_readStatement 93 = .ok (.aload_n 0, 1) := by decide +kernel
theorem dX2_readStatement_94 : decode cX2_readStatement 94 = .ok (.invokevirtual 83, 3) := by decide +kernel
theorem dX2_readStatement_97 : decode cX2_readStatement 97 = .ok (.aload_n 0, 1) := by decide +kernel
theorem dX2_readStatement_98 : decode cX2_readStatement 98 = .ok (.iconst 1, 1) := by decide +kernel
theorem dX2_readStatement_99 : decode cX2_readStatement 99 = .ok (.invokevirtual 79, 3) := by decide +kernel
theorem dX2_readStatement_102 : decode cX2_readStatement 102 = .ok (.aload_n 0, 1) := by decide +kernel
theorem dX2_readStatement_103 : decode cX2_readStatement 103 = .ok (.bipush 44, 2) := by decide +kernel
theorem dX2_readStatement_105 : decode cX2_readStatement 105 = .ok (.invokevirtual 86, 3) := by decide +kernel
theorem dX2_readStatement_108 : decode cX2_readStatement 108 = .ok (.aload_n 0, 1) := by decide +kernel
theorem dX2_readStatement_109 : decode cX2_readStatement 109 = .ok (.iconst 2, 1) := by decide +kernel
theorem dX2_readStatement_110 : decode cX2_readStatement 110 = .ok (.invokevirtual 79, 3) := by decide +kernel
theorem dX2_readStatement_113 : decode cX2_readStatement 113 = .ok (.aload_n 0, 1) := by decide +kernel
theorem dX2_readStatement_114 : decode cX2_readStatement 114 = .ok (.bipush 44, 2) := by decide +kernel
theorem dX2_readStatement_116 : decode cX2_readStatement 116 = .ok (.invokevirtual 86, 3) := by decide +kernel
theorem dX2_readStatement_119 : decode cX2_readStatement 119 = .ok (.aload_n 0, 1) := by decide +kernel
theorem dX2_readStatement_120 : decode cX2_readStatement 120 = .ok (.iconst 3, 1) := by decide +kernel
theorem dX2_readStatement_121 : decode cX2_readStatement 121 = .ok (.bipush 6, 2) := by decide +kernel
theorem dX2_readStatement_123 : decode cX2_readStatement 123 = .ok (.invokevirtual 75, 3) := by decide +kernel
theorem dX2_readStatement_126 : decode cX2_readStatement 126 = .ok (.goto 8, 3) := by decide +kernel
theorem dX2_readStatement_129 : decode cX2_readStatement 129 = .ok (.aload_n 0, 1) := by decide +kernel
theorem dX2_readStatement_130 : decode cX2_readStatement 130 = .ok (.iconst 1, 1) := by decide +kernel
theorem dX2_readStatement_131 : decode cX2_readStatement 131 = .ok (.putfield 22, 3) := by decide +kernel
theorem dX2_readStatement_134 : decode cX2_readStatement 134 = .ok (.aload_n 0, 1) := by decide +kernel
theorem dX2_readStatement_135 : decode cX2_readStatement 135 = .ok (.bipush 59, 2) := by decide +kernel
theorem dX2_readStatement_137 : decode cX2_readStatement 137 = .ok (.invokevirtual 86, 3) := by decide +kernel
theorem dX2_readStatement_140 : decode cX2_readStatement 140 = .ok (.iload_n 1, 1) := by decide +kernel
theorem dX2_readStatement_141 : decode cX2_readStatement 141 = .ok (.ireturn, 1) := by decide +kernel
theorem dX2_here_0 : decode cX2_here 0 = .ok (.aload_n 0, 1) := by decide +kernel
theorem dX2_here_1 : decode cX2_here 1 = .ok (.getfield 19, 3) := by decide +kernel
theorem dX2_here_4 : decode cX2_here 4 = .ok (.ifCond .lt 38, 3) := by decide +kernel
theorem dX2_here_7 : decode cX2_here 7 = .ok (.aload_n 0, 1) := by decide +kernel
theorem dX2_here_8 : decode cX2_here 8 = .ok (.getfield 19, 3) := by decide +kernel
theorem dX2_here_11 : decode cX2_here 11 = .ok (.aload_n 0, 1) := by decide +kernel
theorem dX2_here_12 : decode cX2_here 12 = .ok (.getfield 15, 3) := by decide +kernel
theorem dX2_here_15 : decode cX2_here 15 = .ok (.if_icmp .ge 27, 3) := by decide +kernel
theorem dX2_here_18 : decode cX2_here 18 = .ok (.aload_n 0, 1) := by decide +kernel
theorem dX2_here_19 : decode cX2_here 19 = .ok (.getfield 19, 3) := by decide +kernel
theorem dX2_here_22 : decode cX2_here 22 = .ok (.aload_n 0, 1) := by decide +kernel
theorem dX2_here_23 : decode cX2_here 23 = .ok (.getfield 9, 3) := by decide +kernel
theorem dX2_here_26 : decode cX2_here 26 = .ok (.arraylength, 1) := by decide +kernel
theorem dX2_here_27 : decode cX2_here 27 = .ok (.if_icmp .ge 15, 3) := by decide +kernel
theorem dX2_here_30 : decode cX2_here 30 = .ok (.aload_n 0, 1) := by decide +kernel
theorem dX2_here_31 : decode cX2_here 31 = .ok (.getfield 9, 3) := by decide +kernel
theorem dX2_here_34 : decode cX2_here 34 = .ok (.aload_n 0, 1) := by decide +kernel
theorem dX2_here_35 : decode cX2_here 35 = .ok (.getfield 19, 3) := by decide +kernel
theorem dX2_here_38 : decode cX2_here 38 = .ok (.iaload, 1) := by decide +kernel
theorem dX2_here_39 : decode cX2_here 39 = .ok (.goto 4, 3) := by decide +kernel
theorem dX2_here_42 : decode cX2_here 42 = .ok (.iconst (-1), 1) := by decide +kernel
theorem dX2_here_43 : decode cX2_here 43 = .ok (.ireturn, 1) := by decide +kernel
theorem dX2_isDigitHere_0 : decode cX2_isDigitHere 0 = .ok (.aload_n 0, 1) := by decide +kernel
theorem dX2_isDigitHere_1 : decode cX2_isDigitHere 1 = .ok (.invokevirtual 72, 3) := by decide +kernel
theorem dX2_isDigitHere_4 : decode cX2_isDigitHere 4 = .ok (.bipush 48, 2) := by decide +kernel
theorem dX2_isDigitHere_6 : decode cX2_isDigitHere 6 = .ok (.if_icmp .lt 16, 3) := by decide +kernel
theorem dX2_isDigitHere_9 : decode cX2_isDigitHere 9 = .ok (.aload_n 0, 1) := by decide +kernel
theorem dX2_isDigitHere_10 : decode cX2_isDigitHere 10 = .ok (.invokevirtual 72, 3) := by decide +kernel
theorem dX2_isDigitHere_13 : decode cX2_isDigitHere 13 = .ok (.bipush 57, 2) := by decide +kernel
theorem dX2_isDigitHere_15 : decode cX2_isDigitHere 15 = .ok (.if_icmp .gt 7, 3) := by decide +kernel
theorem dX2_isDigitHere_18 : decode cX2_isDigitHere 18 = .ok (.iconst 1, 1) := by decide +kernel
theorem dX2_isDigitHere_19 : decode cX2_isDigitHere 19 = .ok (.goto 4, 3) := by decide +kernel
theorem dX2_isDigitHere_22 : decode cX2_isDigitHere 22 = .ok (.iconst 0, 1) := by decide +kernel
theorem dX2_isDigitHere_23 : decode cX2_isDigitHere 23 = .ok (.ireturn, 1) := by decide +kernel
theorem dX2_readKind_0 : decode cX2_readKind 0 = .ok (.aload_n 0, 1) := by decide +kernel
theorem dX2_readKind_1 : decode cX2_readKind 1 = .ok (.invokevirtual 72, 3) := by decide +kernel
theorem dX2_readKind_4 : decode cX2_readKind 4 = .ok (.ifCond .ge 7, 3) := by decide +kernel
theorem dX2_readKind_7 : decode cX2_readKind 7 = .ok (.iconst (-1), 1) := by decide +kernel
theorem dX2_readKind_8 : decode cX2_readKind 8 = .ok (.goto 13, 3) := by decide +kernel
theorem dX2_readKind_11 : decode cX2_readKind 11 = .ok (.ldc 90, 2) := by decide +kernel
theorem dX2_readKind_13 : decode cX2_readKind 13 = .ok (.aload_n 0, 1) := by decide +kernel
theorem dX2_readKind_14 : decode cX2_readKind 14 = .ok (.invokevirtual 72, 3) := by decide +kernel
theorem dX2_readKind_17 : decode cX2_readKind 17 = .ok (.i2c, 1) := by decide +kernel
theorem dX2_readKind_18 : decode cX2_readKind 18 = .ok (.invokevirtual 92, 3) := by decide +kernel
theorem dX2_readKind_21 : decode cX2_readKind 21 = .ok (.istore_n 1, 1) := by decide +kernel
theorem dX2_readKind_22 : decode cX2_readKind 22 = .ok (.aload_n 0, 1) := by decide +kernel
theorem dX2_readKind_23 : decode cX2_readKind 23 = .ok (.iload_n 1, 1) := by decide +kernel
theorem dX2_readKind_24 : decode cX2_readKind 24 = .ok (.ifCond .lt 7, 3) := by decide +kernel
theorem dX2_readKind_27 : decode cX2_readKind 27 = .ok (.iconst 1, 1) := by decide +kernel
theorem dX2_readKind_28 : decode cX2_readKind 28 = .ok (.goto 4, 3) := by decide +kernel
theorem dX2_readKind_31 : decode cX2_readKind 31 = .ok (.iconst 0, 1) := by decide +kernel
theorem dX2_readKind_32 : decode cX2_readKind 32 = .ok (.invokevirtual 98, 3) := by decide +kernel
theorem dX2_readKind_35 : decode cX2_readKind 35 = .ok (.aload_n 0, 1) := by decide +kernel
theorem dX2_readKind_36 : decode cX2_readKind 36 = .ok (.getfield 26, 3) := by decide +kernel
theorem dX2_readKind_39 : decode cX2_readKind 39 = .ok (.iconst 0, 1) := by decide +kernel
theorem dX2_readKind_40 : decode cX2_readKind 40 = .ok (.iload_n 1, 1) := by decide +kernel
theorem dX2_readKind_41 : decode cX2_readKind 41 = .ok (.invokestatic 29, 3) := by decide +kernel
theorem dX2_readKind_44 : decode cX2_readKind 44 = .ok (.return_, 1) := by decide +kernel
theorem dX2_readSign_0 : decode cX2_readSign 0 = .ok (.aload_n 0, 1) := by decide +kernel
theorem dX2_readSign_1 : decode cX2_readSign 1 = .ok (.aload_n 0, 1) := by decide +kernel
theorem dX2_readSign_2 : decode cX2_readSign 2 = .ok (.invokevirtual 72, 3) := by decide +kernel
theorem dX2_readSign_5 : decode cX2_readSign 5 = .ok (.iload_n 1, 1) := by decide +kernel
theorem dX2_readSign_6 : decode cX2_readSign 6 = .ok (.if_icmp .ne 7, 3) := by decide +kernel
theorem dX2_readSign_9 : decode cX2_readSign 9 = .ok (.iconst 1, 1) := by decide +kernel
theorem dX2_readSign_10 : decode cX2_readSign 10 = .ok (.goto 4, 3) := by decide +kernel
theorem dX2_readSign_13 : decode cX2_readSign 13 = .ok (.iconst 0, 1) := by decide +kernel
theorem dX2_readSign_14 : decode cX2_readSign 14 = .ok (.invokevirtual 98, 3) := by decide +kernel
theorem dX2_readSign_17 : decode cX2_readSign 17 = .ok (.return_, 1) := by decide +kernel
theorem dX2_readDigits_0 : decode cX2_readDigits 0 = .ok (.iload_n 1, 1) := by decide +kernel
theorem dX2_readDigits_1 : decode cX2_readDigits 1 = .ok (.istore_n 3, 1) := by decide +kernel
theorem dX2_readDigits_2 : decode cX2_readDigits 2 = .ok (.iload_n 3, 1) := by decide +kernel
theorem dX2_readDigits_3 : decode cX2_readDigits 3 = .ok (.iload_n 2, 1) := by decide +kernel
theorem dX2_readDigits_4 : decode cX2_readDigits 4 = .ok (.if_icmp .gt 32, 3) := by decide +kernel
theorem dX2_readDigits_7 : decode cX2_readDigits 7 = .ok (.aload_n 0, 1) := by decide +kernel
theorem dX2_readDigits_8 : decode cX2_readDigits 8 = .ok (.getfield 26, 3) := by decide +kernel
theorem dX2_readDigits_11 : decode cX2_readDigits 11 = .ok (.iload_n 3, 1) := by decide +kernel
theorem dX2_readDigits_12 : decode cX2_readDigits 12 = .ok (.aload_n 0, 1) := by decide +kernel
theorem dX2_readDigits_13 : decode cX2_readDigits 13 = .ok (.invokevirtual 72, 3) := by decide +kernel
theorem dX2_readDigits_16 : decode cX2_readDigits 16 = .ok (.bipush 48, 2) := by decide +kernel
theorem dX2_readDigits_18 : decode cX2_readDigits 18 = .ok (.isub, 1) := by decide +kernel
theorem dX2_readDigits_19 : decode cX2_readDigits 19 = .ok (.invokestatic 29, 3) := by decide +kernel
theorem dX2_readDigits_22 : decode cX2_readDigits 22 = .ok (.aload_n 0, 1) := by decide +kernel
theorem dX2_readDigits_23 : decode cX2_readDigits 23 = .ok (.aload_n 0, 1) := by decide +kernel
theorem dX2_readDigits_24 : decode cX2_readDigits 24 = .ok (.invokevirtual 102, 3) := by decide +kernel
theorem dX2_readDigits_27 : decode cX2_readDigits 27 = .ok (.invokevirtual 98, 3) := by decide +kernel
theorem dX2_readDigits_30 : decode cX2_readDigits 30 = .ok (.iinc 3 1, 3) := by decide +kernel
theorem dX2_readDigits_33 : decode cX2_readDigits 33 = .ok (.goto (-31), 3) := by decide +kernel
theorem dX2_readDigits_36 : decode cX2_readDigits 36 = .ok (.return_, 1) := by decide +kernel
theorem dX2_readNumber_0 : decode cX2_readNumber 0 = .ok (.aload_n 0, 1) := by decide +kernel
theorem dX2_readNumber_1 : decode cX2_readNumber 1 = .ok (.iload_n 1, 1) := by decide +kernel
theorem dX2_readNumber_2 : decode cX2_readNumber 2 = .ok (.iload_n 1, 1) := by decide +kernel
theorem dX2_readNumber_3 : decode cX2_readNumber 3 = .ok (.invokevirtual 75, 3) := by decide +kernel
theorem dX2_readNumber_6 : decode cX2_readNumber 6 = .ok (.aload_n 0, 1) := by decide +kernel
theorem dX2_readNumber_7 : decode cX2_readNumber 7 = .ok (.getfield 22, 3) := by decide +kernel
theorem dX2_readNumber_10 : decode cX2_readNumber 10 = .ok (.ifCond .ne 47, 3) := by decide +kernel
theorem dX2_readNumber_13 : decode cX2_readNumber 13 = .ok (.aload_n 0, 1) := by decide +kernel
theorem dX2_readNumber_14 : decode cX2_readNumber 14 = .ok (.invokevirtual 102, 3) := by decide +kernel
theorem dX2_readNumber_17 : decode cX2_readNumber 17 = .ok (.ifCond .eq 40, 3) := by decide +kernel
theorem dX2_readNumber_20 : decode cX2_readNumber 20 = .ok (.aload_n 0, 1) := by decide +kernel
theorem dX2_readNumber_21 : decode cX2_readNumber 21 = .ok (.getfield 26, 3) := by decide +kernel
theorem dX2_readNumber_24 : decode cX2_readNumber 24 = .ok (.iload_n 1, 1) := by decide +kernel
theorem dX2_readNumber_25 : decode cX2_readNumber 25 = .ok (.aload_n 0, 1) := by decide +kernel
theorem dX2_readNumber_26 : decode cX2_readNumber 26 = .ok (.getfield 26, 3) := by decide +kernel
theorem dX2_readNumber_29 : decode cX2_readNumber 29 = .ok (.iload_n 1, 1) := by decide +kernel
theorem dX2_readNumber_30 : decode cX2_readNumber 30 = .ok (.invokestatic 53, 3) := by decide +kernel
theorem dX2_readNumber_33 : decode cX2_readNumber 33 = .ok (.bipush 10, 2) := by decide +kernel
theorem dX2_readNumber_35 : decode cX2_readNumber 35 = .ok (.imul, 1) := by decide +kernel
theorem dX2_readNumber_36 : decode cX2_readNumber 36 = .ok (.aload_n 0, 1) := by decide +kernel
theorem dX2_readNumber_37 : decode cX2_readNumber 37 = .ok (.invokevirtual 72, 3) := by decide +kernel
theorem dX2_readNumber_40 : decode cX2_readNumber 40 = .ok (.iadd, 1) := by decide +kernel
theorem dX2_readNumber_41 : decode cX2_readNumber 41 = .ok (.bipush 48, 2) := by decide +kernel
theorem dX2_readNumber_43 : decode cX2_readNumber 43 = .ok (.isub, 1) := by decide +kernel
theorem dX2_readNumber_44 : decode cX2_readNumber 44 = .ok (.invokestatic 29, 3) := by decide +kernel
theorem dX2_readNumber_47 : decode cX2_readNumber 47 = .ok (.aload_n 0, 1) := by decide +kernel
theorem dX2_readNumber_48 : decode cX2_readNumber 48 = .ok (.dup, 1) := by decide +kernel
theorem dX2_readNumber_49 : decode cX2_readNumber 49 = .ok (.getfield 19, 3) := by decide +kernel
theorem dX2_readNumber_52 : decode cX2_readNumber 52 = .ok (.iconst 1, 1) := by decide +kernel
theorem dX2_readNumber_53 : decode cX2_readNumber 53 = .ok (.iadd, 1) := by decide +kernel
theorem dX2_readNumber_54 : decode cX2_readNumber 54 = .ok (.putfield 19, 3) := by decide +kernel
theorem dX2_readNumber_57 : decode cX2_readNumber 57 = .ok (.return_, 1) := by decide +kernel
theorem dX2_take_0 : decode cX2_take 0 = .ok (.aload_n 0, 1) := by decide +kernel
theorem dX2_take_1 : decode cX2_take 1 = .ok (.getfield 22, 3) := by decide +kernel
theorem dX2_take_4 : decode cX2_take 4 = .ok (.ifCond .ne 7, 3) := by decide +kernel
theorem dX2_take_7 : decode cX2_take 7 = .ok (.iload_n 1, 1) := by decide +kernel
theorem dX2_take_8 : decode cX2_take 8 = .ok (.ifCond .ne 11, 3) := by decide +kernel
theorem dX2_take_11 : decode cX2_take 11 = .ok (.aload_n 0, 1) := by decide +kernel
theorem dX2_take_12 : decode cX2_take 12 = .ok (.iconst 1, 1) := by decide +kernel
theorem dX2_take_13 : decode cX2_take 13 = .ok (.putfield 22, 3) := by decide +kernel
theorem dX2_take_16 : decode cX2_take 16 = .ok (.goto 13, 3) := by decide +kernel
theorem dX2_take_19 : decode cX2_take 19 = .ok (.aload_n 0, 1) := by decide +kernel
theorem dX2_take_20 : decode cX2_take 20 = .ok (.dup, 1) := by decide +kernel
theorem dX2_take_21 : decode cX2_take 21 = .ok (.getfield 19, 3) := by decide +kernel
theorem dX2_take_24 : decode cX2_take 24 = .ok (.iconst 1, 1) := by decide +kernel
theorem dX2_take_25 : decode cX2_take 25 = .ok (.iadd, 1) := by decide +kernel
theorem dX2_take_26 : decode cX2_take 26 = .ok (.putfield 19, 3) := by decide +kernel
theorem dX2_take_29 : decode cX2_take 29 = .ok (.return_, 1) := by decide +kernel
theorem dX3_init_0 : decode cX3_init 0 = .ok (.aload_n 0, 1) := by decide +kernel
theorem dX3_init_1 : decode cX3_init 1 = .ok (.invokespecial 3, 3) := by decide +kernel
theorem dX3_init_4 : decode cX3_init 4 = .ok (.aload_n 0, 1) := by decide +kernel
theorem dX3_init_5 : decode cX3_init 5 = .ok (.iconst 5, 1) := by decide +kernel
theorem dX3_init_6 : decode cX3_init 6 = .ok (.newarray .int, 2) := by decide +kernel
theorem dX3_init_8 : decode cX3_init 8 = .ok (.putfield 9, 3) := by decide +kernel
theorem dX3_init_11 : decode cX3_init 11 = .ok (.aload_n 0, 1) := by decide +kernel
theorem dX3_init_12 : decode cX3_init 12 = .ok (.bipush 56, 2) := by decide +kernel
theorem dX3_init_14 : decode cX3_init 14 = .ok (.newarray .int, 2) := by decide +kernel
theorem dX3_init_16 : decode cX3_init 16 = .ok (.putfield 15, 3) := by decide +kernel
theorem dX3_init_19 : decode cX3_init 19 = .ok (.aload_n 0, 1) := by decide +kernel
theorem dX3_init_20 : decode cX3_init 20 = .ok (.iconst 0, 1) := by decide +kernel
theorem dX3_init_21 : decode cX3_init 21 = .ok (.putfield 18, 3) := by decide +kernel
theorem dX3_init_24 : decode cX3_init 24 = .ok (.aload_n 0, 1) := by decide +kernel
theorem dX3_init_25 : decode cX3_init 25 = .ok (.getfield 9, 3) := by decide +kernel
theorem dX3_init_28 : decode cX3_init 28 = .ok (.iconst 0, 1) := by decide +kernel
theorem dX3_init_29 : decode cX3_init 29 = .ok (.iconst 4, 1) := by decide +kernel
theorem dX3_init_30 : decode cX3_init 30 = .ok (.invokestatic 22, 3) := by decide +kernel
theorem dX3_init_33 : decode cX3_init 33 = .ok (.aload_n 0, 1) := by decide +kernel
theorem dX3_init_34 : decode cX3_init 34 = .ok (.getfield 9, 3) := by decide +kernel
theorem dX3_init_37 : decode cX3_init 37 = .ok (.iconst 1, 1) := by decide +kernel
theorem dX3_init_38 : decode cX3_init 38 = .ok (.iconst 2, 1) := by decide +kernel
theorem dX3_init_39 : decode cX3_init 39 = .ok (.invokestatic 22, 3) := by decide +kernel
theorem dX3_init_42 : decode cX3_init 42 = .ok (.aload_n 0, 1) := by decide +kernel
theorem dX3_init_43 : decode cX3_init 43 = .ok (.getfield 9, 3) := by decide +kernel
theorem dX3_init_46 : decode cX3_init 46 = .ok (.iconst 2, 1) := by decide +kernel
theorem dX3_init_47 : decode cX3_init 47 = .ok (.iconst 1, 1) := by decide +kernel
theorem dX3_init_48 : decode cX3_init 48 = .ok (.invokestatic 22, 3) := by decide +kernel
theorem dX3_init_51 : decode cX3_init 51 = .ok (.aload_n 0, 1) := by decide +kernel
theorem dX3_init_52 : decode cX3_init 52 = .ok (.getfield 9, 3) := by decide +kernel
theorem dX3_init_55 : decode cX3_init 55 = .ok (.iconst 3, 1) := by decide +kernel
theorem dX3_init_56 : decode cX3_init 56 = .ok (.iconst 5, 1) := by decide +kernel
theorem dX3_init_57 : decode cX3_init 57 = .ok (.invokestatic 22, 3) := by decide +kernel
theorem dX3_init_60 : decode cX3_init 60 = .ok (.aload_n 0, 1) := by decide +kernel
theorem dX3_init_61 : decode cX3_init 61 = .ok (.getfield 9, 3) := by decide +kernel
theorem dX3_init_64 : decode cX3_init 64 = .ok (.iconst 4, 1) := by decide +kernel
theorem dX3_init_65 : decode cX3_init 65 = .ok (.iconst 1, 1) := by decide +kernel
theorem dX3_init_66 : decode cX3_init 66 = .ok (.invokestatic 22, 3) := by decide +kernel
theorem dX3_init_69 : decode cX3_init 69 = .ok (.return_, 1) := by decide +kernel
theorem dX3_has_0 : decode cX3_has 0 = .ok (.iload_n 1, 1) := by decide +kernel
theorem dX3_has_1 : decode cX3_has 1 = .ok (.ifCond .lt 15, 3) := by decide +kernel
theorem dX3_has_4 : decode cX3_has 4 = .ok (.iload_n 1, 1) := by decide +kernel
theorem dX3_has_5 : decode cX3_has 5 = .ok (.aload_n 0, 1) := by decide +kernel
theorem dX3_has_6 : decode cX3_has 6 = .ok (.getfield 18, 3) := by decide +kernel
theorem dX3_has_9 : decode cX3_has 9 = .ok (.if_icmp .ge 7, 3) := by decide +kernel
theorem dX3_has_12 : decode cX3_has 12 = .ok (.iconst 1, 1) := by decide +kernel
theorem dX3_has_13 : decode cX3_has 13 = .ok (.goto 4, 3) := by decide +kernel
theorem dX3_has_16 : decode cX3_has 16 = .ok (.iconst 0, 1) := by decide +kernel
theorem dX3_has_17 : decode cX3_has 17 = .ok (.ireturn, 1) := by decide +kernel
theorem dX3_door_0 : decode cX3_door 0 = .ok (.iload_n 1, 1) := by decide +kernel
theorem dX3_door_1 : decode cX3_door 1 = .ok (.ifCond .lt 21, 3) := by decide +kernel
theorem dX3_door_4 : decode cX3_door 4 = .ok (.iload_n 1, 1) := by decide +kernel
theorem dX3_door_5 : decode cX3_door 5 = .ok (.aload_n 0, 1) := by decide +kernel
theorem dX3_door_6 : decode cX3_door 6 = .ok (.getfield 9, 3) := by decide +kernel
theorem dX3_door_9 : decode cX3_door 9 = .ok (.arraylength, 1) := by decide +kernel
theorem dX3_door_10 : decode cX3_door 10 = .ok (.if_icmp .ge 12, 3) := by decide +kernel
theorem dX3_door_13 : decode cX3_door 13 = .ok (.aload_n 0, 1) := by decide +kernel
theorem dX3_door_14 : decode cX3_door 14 = .ok (.getfield 9, 3) := by decide +kernel
theorem dX3_door_17 : decode cX3_door 17 = .ok (.iload_n 1, 1) := by decide +kernel
theorem dX3_door_18 : decode cX3_door 18 = .ok (.iaload, 1) := by decide +kernel
theorem dX3_door_19 : decode cX3_door 19 = .ok (.goto 4, 3) := by decide +kernel
theorem dX3_door_22 : decode cX3_door 22 = .ok (.iconst 0, 1) := by decide +kernel
theorem dX3_door_23 : decode cX3_door 23 = .ok (.ireturn, 1) := by decide +kernel
theorem dX3_change_0 : decode cX3_change 0 = .ok (.aload_n 0, 1) := by decide +kernel
theorem dX3_change_1 : decode cX3_change 1 = .ok (.iload_n 1, 1) := by decide +kernel
theorem dX3_change_2 : decode cX3_change 2 = .ok (.invokevirtual 26, 3) := by decide +kernel
theorem dX3_change_5 : decode cX3_change 5 = .ok (.istore_n 3, 1) := by decide +kernel
theorem dX3_change_6 : decode cX3_change 6 = .ok (.aload_n 0, 1) := by decide +kernel
theorem dX3_change_7 : decode cX3_change 7 = .ok (.getfield 9, 3) := by decide +kernel
theorem dX3_change_10 : decode cX3_change 10 = .ok (.iload_n 1, 1) := by decide +kernel
theorem dX3_change_11 : decode cX3_change 11 = .ok (.iload_n 2, 1) := by decide +kernel
theorem dX3_change_12 : decode cX3_change 12 = .ok (.invokestatic 22, 3) := by decide +kernel
theorem dX3_change_15 : decode cX3_change 15 = .ok (.iload_n 3, 1) := by decide +kernel
theorem dX3_change_16 : decode cX3_change 16 = .ok (.ireturn, 1) := by decide +kernel
theorem dX3_of_0 : decode cX3_of 0 = .ok (.iload_n 1, 1) := by decide +kernel
theorem dX3_of_1 : decode cX3_of 1 = .ok (.bipush 7, 2) := by decide +kernel
theorem dX3_of_3 : decode cX3_of 3 = .ok (.imul, 1) := by decide +kernel
theorem dX3_of_4 : decode cX3_of 4 = .ok (.iload_n 2, 1) := by decide +kernel
theorem dX3_of_5 : decode cX3_of 5 = .ok (.iadd, 1) := by decide +kernel
theorem dX3_of_6 : decode cX3_of 6 = .ok (.istore_n 3, 1) := by decide +kernel
theorem dX3_of_7 : decode cX3_of 7 = .ok (.iload_n 3, 1) := by decide +kernel
theorem dX3_of_8 : decode cX3_of 8 = .ok (.ifCond .lt 21, 3) := by decide +kernel
theorem dX3_of_11 : decode cX3_of 11 = .ok (.iload_n 3, 1) := by decide +kernel
theorem dX3_of_12 : decode cX3_of 12 = .ok (.aload_n 0, 1) := by decide +kernel
theorem dX3_of_13 : decode cX3_of 13 = .ok (.getfield 15, 3) := by decide +kernel
theorem dX3_of_16 : decode cX3_of 16 = .ok (.arraylength, 1) := by decide +kernel
theorem dX3_of_17 : decode cX3_of 17 = .ok (.if_icmp .ge 12, 3) := by decide +kernel
theorem dX3_of_20 : decode cX3_of 20 = .ok (.aload_n 0, 1) := by decide +kernel
theorem dX3_of_21 : decode cX3_of 21 = .ok (.getfield 15, 3) := by decide +kernel
theorem dX3_of_24 : decode cX3_of 24 = .ok (.iload_n 3, 1) := by decide +kernel
theorem dX3_of_25 : decode cX3_of 25 = .ok (.iaload, 1) := by decide +kernel
theorem dX3_of_26 : decode cX3_of 26 = .ok (.goto 4, 3) := by decide +kernel
theorem dX3_of_29 : decode cX3_of 29 = .ok (.iconst 0, 1) := by decide +kernel
theorem dX3_of_30 : decode cX3_of 30 = .ok (.ireturn, 1) := by decide +kernel
theorem dX3_tell_0 : decode cX3_tell 0 = .ok (.aload_n 0, 1) := by decide +kernel
theorem dX3_tell_1 : decode cX3_tell 1 = .ok (.getfield 15, 3) := by decide +kernel
theorem dX3_tell_4 : decode cX3_tell 4 = .ok (.iload_n 1, 1) := by decide +kernel
theorem dX3_tell_5 : decode cX3_tell 5 = .ok (.bipush 7, 2) := by decide +kernel
theorem dX3_tell_7 : decode cX3_tell 7 = .ok (.imul, 1) := by decide +kernel
theorem dX3_tell_8 : decode cX3_tell 8 = .ok (.iload_n 2, 1) := by decide +kernel
theorem dX3_tell_9 : decode cX3_tell 9 = .ok (.iadd, 1) := by decide +kernel
theorem dX3_tell_10 : decode cX3_tell 10 = .ok (.iload_n 3, 1) := by decide +kernel
theorem dX3_tell_11 : decode cX3_tell 11 = .ok (.invokestatic 22, 3) := by decide +kernel
theorem dX3_tell_14 : decode cX3_tell 14 = .ok (.return_, 1) := by decide +kernel
theorem dX3_addWalker_0 : decode cX3_addWalker 0 = .ok (.aload_n 0, 1) := by decide +kernel
theorem dX3_addWalker_1 : decode cX3_addWalker 1 = .ok (.getfield 18, 3) := by decide +kernel
theorem dX3_addWalker_4 : decode cX3_addWalker 4 = .ok (.bipush 8, 2) := by decide +kernel
theorem dX3_addWalker_6 : decode cX3_addWalker 6 = .ok (.if_icmp .ge 41, 3) := by decide +kernel
theorem dX3_addWalker_9 : decode cX3_addWalker 9 = .ok (.iconst 0, 1) := by decide +kernel
theorem dX3_addWalker_10 : decode cX3_addWalker 10 = .ok (.istore_n 2, 1) := by decide +kernel
theorem dX3_addWalker_11 : decode cX3_addWalker 11 = .ok (.iload_n 2, 1) := by decide +kernel
theorem dX3_addWalker_12 : decode cX3_addWalker 12 = .ok (.bipush 7, 2) := by decide +kernel
theorem dX3_addWalker_14 : decode cX3_addWalker 14 = .ok (.if_icmp .ge 23, 3) := by decide +kernel
theorem dX3_addWalker_17 : decode cX3_addWalker 17 = .ok (.aload_n 0, 1) := by decide +kernel
theorem dX3_addWalker_18 : decode cX3_addWalker 18 = .ok (.aload_n 0, 1) := by decide +kernel
theorem dX3_addWalker_19 : decode cX3_addWalker 19 = .ok (.getfield 18, 3) := by decide +kernel
theorem dX3_addWalker_22 : decode cX3_addWalker 22 = .ok (.iload_n 2, 1) := by decide +kernel
theorem dX3_addWalker_23 : decode cX3_addWalker 23 = .ok (.aload_n 1, 1) := by decide +kernel
theorem dX3_addWalker_24 : decode cX3_addWalker 24 = .ok (.iload_n 2, 1) := by decide +kernel
theorem dX3_addWalker_25 : decode cX3_addWalker 25 = .ok (.invokestatic 30, 3) := by decide +kernel
theorem dX3_addWalker_28 : decode cX3_addWalker 28 = .ok (.invokevirtual 34, 3) := by decide +kernel
theorem dX3_addWalker_31 : decode cX3_addWalker 31 = .ok (.iinc 2 1, 3) := by decide +kernel
theorem dX3_addWalker_34 : decode cX3_addWalker 34 = .ok (.goto (-23), 3) := by decide +kernel
theorem dX3_addWalker_37 : decode cX3_addWalker 37 = .ok (.aload_n 0, 1) := by decide +kernel
theorem dX3_addWalker_38 : decode cX3_addWalker 38 = .ok (.dup, 1) := by decide +kernel
theorem dX3_addWalker_39 : decode cX3_addWalker 39 = .ok (.getfield 18, 3) := by decide +kernel
theorem dX3_addWalker_42 : decode cX3_addWalker 42 = .ok (.iconst 1, 1) := by decide +kernel
theorem dX3_addWalker_43 : decode cX3_addWalker 43 = .ok (.iadd, 1) := by decide +kernel
theorem dX3_addWalker_44 : decode cX3_addWalker 44 = .ok (.putfield 18, 3) := by decide +kernel
theorem dX3_addWalker_47 : decode cX3_addWalker 47 = .ok (.return_, 1) := by decide +kernel
theorem dX3_leaveOut_0 : decode cX3_leaveOut 0 = .ok (.aload_n 0, 1) := by decide +kernel
theorem dX3_leaveOut_1 : decode cX3_leaveOut 1 = .ok (.iload_n 1, 1) := by decide +kernel
theorem dX3_leaveOut_2 : decode cX3_leaveOut 2 = .ok (.invokevirtual 38, 3) := by decide +kernel
theorem dX3_leaveOut_5 : decode cX3_leaveOut 5 = .ok (.ifCond .eq 57, 3) := by decide +kernel
theorem dX3_leaveOut_8 : decode cX3_leaveOut 8 = .ok (.aload_n 0, 1) := by decide +kernel
theorem dX3_leaveOut_9 : decode cX3_leaveOut 9 = .ok (.dup, 1) := by decide +kernel
theorem dX3_leaveOut_10 : decode cX3_leaveOut 10 = .ok (.getfield 18, 3) := by decide +kernel
theorem dX3_leaveOut_13 : decode cX3_leaveOut 13 = .ok (.iconst 1, 1) := by decide +kernel
theorem dX3_leaveOut_14 : decode cX3_leaveOut 14 = .ok (.isub, 1) := by decide +kernel
theorem dX3_leaveOut_15 : decode cX3_leaveOut 15 = .ok (.putfield 18, 3) := by decide +kernel
theorem dX3_leaveOut_18 : decode cX3_leaveOut 18 = .ok (.iload_n 1, 1) := by decide +kernel
theorem dX3_leaveOut_19 : decode cX3_leaveOut 19 = .ok (.istore_n 2, 1) := by decide +kernel
theorem dX3_leaveOut_20 : decode cX3_leaveOut 20 = .ok (.iload_n 2, 1) := by decide +kernel
theorem dX3_leaveOut_21 : decode cX3_leaveOut 21 = .ok (.aload_n 0, 1) := by decide +kernel
theorem dX3_leaveOut_22 : decode cX3_leaveOut 22 = .ok (.getfield 18, 3) := by decide +kernel
theorem dX3_leaveOut_25 : decode cX3_leaveOut 25 = .ok (.if_icmp .ge 37, 3) := by decide +kernel
theorem dX3_leaveOut_28 : decode cX3_leaveOut 28 = .ok (.iconst 0, 1) := by decide +kernel
theorem dX3_leaveOut_29 : decode cX3_leaveOut 29 = .ok (.istore_n 3, 1) := by decide +kernel
theorem dX3_leaveOut_30 : decode cX3_leaveOut 30 = .ok (.iload_n 3, 1) := by decide +kernel
theorem dX3_leaveOut_31 : decode cX3_leaveOut 31 = .ok (.bipush 7, 2) := by decide +kernel
theorem dX3_leaveOut_33 : decode cX3_leaveOut 33 = .ok (.if_icmp .ge 23, 3) := by decide +kernel
theorem dX3_leaveOut_36 : decode cX3_leaveOut 36 = .ok (.aload_n 0, 1) := by decide +kernel
theorem dX3_leaveOut_37 : decode cX3_leaveOut 37 = .ok (.iload_n 2, 1) := by decide +kernel
theorem dX3_leaveOut_38 : decode cX3_leaveOut 38 = .ok (.iload_n 3, 1) := by decide +kernel
theorem dX3_leaveOut_39 : decode cX3_leaveOut 39 = .ok (.aload_n 0, 1) := by decide +kernel
theorem dX3_leaveOut_40 : decode cX3_leaveOut 40 = .ok (.iload_n 2, 1) := by decide +kernel
theorem dX3_leaveOut_41 : decode cX3_leaveOut 41 = .ok (.iconst 1, 1) := by decide +kernel
theorem dX3_leaveOut_42 : decode cX3_leaveOut 42 = .ok (.iadd, 1) := by decide +kernel
theorem dX3_leaveOut_43 : decode cX3_leaveOut 43 = .ok (.iload_n 3, 1) := by decide +kernel
theorem dX3_leaveOut_44 : decode cX3_leaveOut 44 = .ok (.invokevirtual 42, 3) := by decide +kernel
theorem dX3_leaveOut_47 : decode cX3_leaveOut 47 = .ok (.invokevirtual 34, 3) := by decide +kernel
theorem dX3_leaveOut_50 : decode cX3_leaveOut 50 = .ok (.iinc 3 1, 3) := by decide +kernel
theorem dX3_leaveOut_53 : decode cX3_leaveOut 53 = .ok (.goto (-23), 3) := by decide +kernel
theorem dX3_leaveOut_56 : decode cX3_leaveOut 56 = .ok (.iinc 2 1, 3) := by decide +kernel
theorem dX3_leaveOut_59 : decode cX3_leaveOut 59 = .ok (.goto (-39), 3) := by decide +kernel
theorem dX3_leaveOut_62 : decode cX3_leaveOut 62 = .ok (.return_, 1) := by decide +kernel
theorem dX3_become_0 : decode cX3_become 0 = .ok (.aload_n 1, 1) := by decide +kernel
theorem dX3_become_1 : decode cX3_become 1 = .ok (.getfield 9, 3) := by decide +kernel
theorem dX3_become_4 : decode cX3_become 4 = .ok (.aload_n 0, 1) := by decide +kernel
theorem dX3_become_5 : decode cX3_become 5 = .ok (.getfield 9, 3) := by decide +kernel
theorem dX3_become_8 : decode cX3_become 8 = .ok (.invokestatic 46, 3) := by decide +kernel
theorem dX3_become_11 : decode cX3_become 11 = .ok (.aload_n 1, 1) := by decide +kernel
theorem dX3_become_12 : decode cX3_become 12 = .ok (.getfield 15, 3) := by decide +kernel
theorem dX3_become_15 : decode cX3_become 15 = .ok (.aload_n 0, 1) := by decide +kernel
theorem dX3_become_16 : decode cX3_become 16 = .ok (.getfield 15, 3) := by decide +kernel
theorem dX3_become_19 : decode cX3_become 19 = .ok (.invokestatic 46, 3) := by decide +kernel
theorem dX3_become_22 : decode cX3_become 22 = .ok (.aload_n 0, 1) := by decide +kernel
theorem dX3_become_23 : decode cX3_become 23 = .ok (.aload_n 1, 1) := by decide +kernel
theorem dX3_become_24 : decode cX3_become 24 = .ok (.getfield 18, 3) := by decide +kernel
theorem dX3_become_27 : decode cX3_become 27 = .ok (.putfield 18, 3) := by decide +kernel
theorem dX3_become_30 : decode cX3_become 30 = .ok (.return_, 1) := by decide +kernel
theorem dX3_thereFrom_0 : decode cX3_thereFrom 0 = .ok (.aload_n 0, 1) := by decide +kernel
theorem dX3_thereFrom_1 : decode cX3_thereFrom 1 = .ok (.iload_n 1, 1) := by decide +kernel
theorem dX3_thereFrom_2 : decode cX3_thereFrom 2 = .ok (.iconst 1, 1) := by decide +kernel
theorem dX3_thereFrom_3 : decode cX3_thereFrom 3 = .ok (.invokevirtual 42, 3) := by decide +kernel
theorem dX3_thereFrom_6 : decode cX3_thereFrom 6 = .ok (.aload_n 0, 1) := by decide +kernel
theorem dX3_thereFrom_7 : decode cX3_thereFrom 7 = .ok (.iload_n 1, 1) := by decide +kernel
theorem dX3_thereFrom_8 : decode cX3_thereFrom 8 = .ok (.iconst 2, 1) := by decide +kernel
theorem dX3_thereFrom_9 : decode cX3_thereFrom 9 = .ok (.invokevirtual 42, 3) := by decide +kernel
theorem dX3_thereFrom_12 : decode cX3_thereFrom 12 = .ok (.aload_n 0, 1) := by decide +kernel
theorem dX3_thereFrom_13 : decode cX3_thereFrom 13 = .ok (.iload_n 1, 1) := by decide +kernel
theorem dX3_thereFrom_14 : decode cX3_thereFrom 14 = .ok (.iconst 3, 1) := by decide +kernel
theorem dX3_thereFrom_15 : decode cX3_thereFrom 15 = .ok (.invokevirtual 42, 3) := by decide +kernel
theorem dX3_thereFrom_18 : decode cX3_thereFrom 18 = .ok (.invokestatic 50, 3) := by decide +kernel
theorem dX3_thereFrom_21 : decode cX3_thereFrom 21 = .ok (.iadd, 1) := by decide +kernel
theorem dX3_thereFrom_22 : decode cX3_thereFrom 22 = .ok (.ireturn, 1) := by decide +kernel
theorem dX3_yardsHeldFor_0 : decode cX3_yardsHeldFor 0 = .ok (.aload_n 0, 1) := by decide +kernel
theorem dX3_yardsHeldFor_1 : decode cX3_yardsHeldFor 1 = .ok (.iload_n 1, 1) := by decide +kernel
theorem dX3_yardsHeldFor_2 : decode cX3_yardsHeldFor 2 = .ok (.iconst 3, 1) := by decide +kernel
theorem dX3_yardsHeldFor_3 : decode cX3_yardsHeldFor 3 = .ok (.invokevirtual 42, 3) := by decide +kernel
theorem dX3_yardsHeldFor_6 : decode cX3_yardsHeldFor 6 = .ok (.istore_n 2, 1) := by decide +kernel
theorem dX3_yardsHeldFor_7 : decode cX3_yardsHeldFor 7 = .ok (.aload_n 0, 1) := by decide +kernel
theorem dX3_yardsHeldFor_8 : decode cX3_yardsHeldFor 8 = .ok (.iload_n 1, 1) := by decide +kernel
theorem dX3_yardsHeldFor_9 : decode cX3_yardsHeldFor 9 = .ok (.iconst 0, 1) := by decide +kernel
theorem dX3_yardsHeldFor_10 : decode cX3_yardsHeldFor 10 = .ok (.invokevirtual 42, 3) := by decide +kernel
theorem dX3_yardsHeldFor_13 : decode cX3_yardsHeldFor 13 = .ok (.tableswitch 58 1 5 #[35, 39, 45, 58, 35], 35) := by decide +kernel
theorem dX3_yardsHeldFor_48 : decode cX3_yardsHeldFor 48 = .ok (.iconst 2, 1) := by decide +kernel
theorem dX3_yardsHeldFor_49 : decode cX3_yardsHeldFor 49 = .ok (.iload_n 2, 1) := by decide +kernel
theorem dX3_yardsHeldFor_50 : decode cX3_yardsHeldFor 50 = .ok (.imul, 1) := by decide +kernel
theorem dX3_yardsHeldFor_51 : decode cX3_yardsHeldFor 51 = .ok (.ireturn, 1) := by decide +kernel
theorem dX3_yardsHeldFor_52 : decode cX3_yardsHeldFor 52 = .ok (.iconst 2, 1) := by decide +kernel
theorem dX3_yardsHeldFor_53 : decode cX3_yardsHeldFor 53 = .ok (.iload_n 2, 1) := by decide +kernel
theorem dX3_yardsHeldFor_54 : decode cX3_yardsHeldFor 54 = .ok (.imul, 1) := by decide +kernel
theorem dX3_yardsHeldFor_55 : decode cX3_yardsHeldFor 55 = .ok (.iconst 1, 1) := by decide +kernel
theorem dX3_yardsHeldFor_56 : decode cX3_yardsHeldFor 56 = .ok (.iadd, 1) := by decide +kernel
theorem dX3_yardsHeldFor_57 : decode cX3_yardsHeldFor 57 = .ok (.ireturn, 1) := by decide +kernel
theorem dX3_yardsHeldFor_58 : decode cX3_yardsHeldFor 58 = .ok (.iconst 1, 1) := by decide +kernel
theorem dX3_yardsHeldFor_59 : decode cX3_yardsHeldFor 59 = .ok (.iload_n 2, 1) := by decide +kernel
theorem dX3_yardsHeldFor_60 : decode cX3_yardsHeldFor 60 = .ok (.aload_n 0, 1) := by decide +kernel
theorem dX3_yardsHeldFor_61 : decode cX3_yardsHeldFor 61 = .ok (.iload_n 1, 1) := by decide +kernel
theorem dX3_yardsHeldFor_62 : decode cX3_yardsHeldFor 62 = .ok (.iconst 4, 1) := by decide +kernel
theorem dX3_yardsHeldFor_63 : decode cX3_yardsHeldFor 63 = .ok (.invokevirtual 42, 3) := by decide +kernel
theorem dX3_yardsHeldFor_66 : decode cX3_yardsHeldFor 66 = .ok (.isub, 1) := by decide +kernel
theorem dX3_yardsHeldFor_67 : decode cX3_yardsHeldFor 67 = .ok (.invokestatic 53, 3) := by decide +kernel
theorem dX3_yardsHeldFor_70 : decode cX3_yardsHeldFor 70 = .ok (.ireturn, 1) := by decide +kernel
theorem dX3_yardsHeldFor_71 : decode cX3_yardsHeldFor 71 = .ok (.iload_n 2, 1) := by decide +kernel
theorem dX3_yardsHeldFor_72 : decode cX3_yardsHeldFor 72 = .ok (.ireturn, 1) := by decide +kernel
theorem dX3_yardsToGo_0 : decode cX3_yardsToGo 0 = .ok (.aload_n 0, 1) := by decide +kernel
theorem dX3_yardsToGo_1 : decode cX3_yardsToGo 1 = .ok (.iload_n 1, 1) := by decide +kernel
theorem dX3_yardsToGo_2 : decode cX3_yardsToGo 2 = .ok (.iconst 2, 1) := by decide +kernel
theorem dX3_yardsToGo_3 : decode cX3_yardsToGo 3 = .ok (.invokevirtual 42, 3) := by decide +kernel
theorem dX3_yardsToGo_6 : decode cX3_yardsToGo 6 = .ok (.aload_n 0, 1) := by decide +kernel
theorem dX3_yardsToGo_7 : decode cX3_yardsToGo 7 = .ok (.iload_n 1, 1) := by decide +kernel
theorem dX3_yardsToGo_8 : decode cX3_yardsToGo 8 = .ok (.iconst 3, 1) := by decide +kernel
theorem dX3_yardsToGo_9 : decode cX3_yardsToGo 9 = .ok (.invokevirtual 42, 3) := by decide +kernel
theorem dX3_yardsToGo_12 : decode cX3_yardsToGo 12 = .ok (.iload_n 2, 1) := by decide +kernel
theorem dX3_yardsToGo_13 : decode cX3_yardsToGo 13 = .ok (.aload_n 0, 1) := by decide +kernel
theorem dX3_yardsToGo_14 : decode cX3_yardsToGo 14 = .ok (.iload_n 1, 1) := by decide +kernel
theorem dX3_yardsToGo_15 : decode cX3_yardsToGo 15 = .ok (.iconst 1, 1) := by decide +kernel
theorem dX3_yardsToGo_16 : decode cX3_yardsToGo 16 = .ok (.invokevirtual 42, 3) := by decide +kernel
theorem dX3_yardsToGo_19 : decode cX3_yardsToGo 19 = .ok (.isub, 1) := by decide +kernel
theorem dX3_yardsToGo_20 : decode cX3_yardsToGo 20 = .ok (.imul, 1) := by decide +kernel
theorem dX3_yardsToGo_21 : decode cX3_yardsToGo 21 = .ok (.isub, 1) := by decide +kernel
theorem dX3_yardsToGo_22 : decode cX3_yardsToGo 22 = .ok (.ireturn, 1) := by decide +kernel
theorem dX3_secondsToOpen_0 : decode cX3_secondsToOpen 0 = .ok (.aload_n 0, 1) := by decide +kernel
theorem dX3_secondsToOpen_1 : decode cX3_secondsToOpen 1 = .ok (.iload_n 1, 1) := by decide +kernel
theorem dX3_secondsToOpen_2 : decode cX3_secondsToOpen 2 = .ok (.iconst 0, 1) := by decide +kernel
theorem dX3_secondsToOpen_3 : decode cX3_secondsToOpen 3 = .ok (.invokevirtual 42, 3) := by decide +kernel
theorem dX3_secondsToOpen_6 : decode cX3_secondsToOpen 6 = .ok (.iconst 4, 1) := by decide +kernel
theorem dX3_secondsToOpen_7 : decode cX3_secondsToOpen 7 = .ok (.if_icmp .ne 7, 3) := by decide +kernel
theorem dX3_secondsToOpen_10 : decode cX3_secondsToOpen 10 = .ok (.iconst 1, 1) := by decide +kernel
theorem dX3_secondsToOpen_11 : decode cX3_secondsToOpen 11 = .ok (.goto 4, 3) := by decide +kernel
theorem dX3_secondsToOpen_14 : decode cX3_secondsToOpen 14 = .ok (.iconst 0, 1) := by decide +kernel
theorem dX3_secondsToOpen_15 : decode cX3_secondsToOpen 15 = .ok (.istore_n 2, 1) := by decide +kernel
theorem dX3_secondsToOpen_16 : decode cX3_secondsToOpen 16 = .ok (.iconst 0, 1) := by decide +kernel
theorem dX3_secondsToOpen_17 : decode cX3_secondsToOpen 17 = .ok (.aload_n 0, 1) := by decide +kernel
theorem dX3_secondsToOpen_18 : decode cX3_secondsToOpen 18 = .ok (.iconst 1, 1) := by decide +kernel
theorem dX3_secondsToOpen_19 : decode cX3_secondsToOpen 19 = .ok (.invokevirtual 26, 3) := by decide +kernel
theorem dX3_secondsToOpen_22 : decode cX3_secondsToOpen 22 = .ok (.aload_n 0, 1) := by decide +kernel
theorem dX3_secondsToOpen_23 : decode cX3_secondsToOpen 23 = .ok (.iload_n 1, 1) := by decide +kernel
theorem dX3_secondsToOpen_24 : decode cX3_secondsToOpen 24 = .ok (.iconst 4, 1) := by decide +kernel
theorem dX3_secondsToOpen_25 : decode cX3_secondsToOpen 25 = .ok (.invokevirtual 42, 3) := by decide +kernel
theorem dX3_secondsToOpen_28 : decode cX3_secondsToOpen 28 = .ok (.iadd, 1) := by decide +kernel
theorem dX3_secondsToOpen_29 : decode cX3_secondsToOpen 29 = .ok (.iload_n 2, 1) := by decide +kernel
theorem dX3_secondsToOpen_30 : decode cX3_secondsToOpen 30 = .ok (.isub, 1) := by decide +kernel
theorem dX3_secondsToOpen_31 : decode cX3_secondsToOpen 31 = .ok (.invokestatic 53, 3) := by decide +kernel
theorem dX3_secondsToOpen_34 : decode cX3_secondsToOpen 34 = .ok (.ireturn, 1) := by decide +kernel
theorem dX3_holdsUpTo_0 : decode cX3_holdsUpTo 0 = .ok (.aload_n 0, 1) := by decide +kernel
theorem dX3_holdsUpTo_1 : decode cX3_holdsUpTo 1 = .ok (.iload_n 1, 1) := by decide +kernel
theorem dX3_holdsUpTo_2 : decode cX3_holdsUpTo 2 = .ok (.iconst 0, 1) := by decide +kernel
theorem dX3_holdsUpTo_3 : decode cX3_holdsUpTo 3 = .ok (.invokevirtual 42, 3) := by decide +kernel
theorem dX3_holdsUpTo_6 : decode cX3_holdsUpTo 6 = .ok (.iconst 5, 1) := by decide +kernel
theorem dX3_holdsUpTo_7 : decode cX3_holdsUpTo 7 = .ok (.if_icmp .ne 5, 3) := by decide +kernel
theorem dX3_holdsUpTo_10 : decode cX3_holdsUpTo 10 = .ok (.iconst 0, 1) := by decide +kernel
theorem dX3_holdsUpTo_11 : decode cX3_holdsUpTo 11 = .ok (.ireturn, 1) := by decide +kernel
theorem dX3_holdsUpTo_12 : decode cX3_holdsUpTo 12 = .ok (.aload_n 0, 1) := by decide +kernel
theorem dX3_holdsUpTo_13 : decode cX3_holdsUpTo 13 = .ok (.iconst 3, 1) := by decide +kernel
theorem dX3_holdsUpTo_14 : decode cX3_holdsUpTo 14 = .ok (.invokevirtual 26, 3) := by decide +kernel
theorem dX3_holdsUpTo_17 : decode cX3_holdsUpTo 17 = .ok (.istore 4, 2) := by decide +kernel
theorem dX3_holdsUpTo_19 : decode cX3_holdsUpTo 19 = .ok (.aload_n 0, 1) := by decide +kernel
theorem dX3_holdsUpTo_20 : decode cX3_holdsUpTo 20 = .ok (.iload_n 2, 1) := by decide +kernel
theorem dX3_holdsUpTo_21 : decode cX3_holdsUpTo 21 = .ok (.iconst 5, 1) := by decide +kernel
theorem dX3_holdsUpTo_22 : decode cX3_holdsUpTo 22 = .ok (.invokevirtual 42, 3) := by decide +kernel
theorem dX3_holdsUpTo_25 : decode cX3_holdsUpTo 25 = .ok (.istore 5, 2) := by decide +kernel
theorem dX3_holdsUpTo_27 : decode cX3_holdsUpTo 27 = .ok (.aload_n 0, 1) := by decide +kernel
theorem dX3_holdsUpTo_28 : decode cX3_holdsUpTo 28 = .ok (.iconst 4, 1) := by decide +kernel
theorem dX3_holdsUpTo_29 : decode cX3_holdsUpTo 29 = .ok (.invokevirtual 26, 3) := by decide +kernel
theorem dX3_holdsUpTo_32 : decode cX3_holdsUpTo 32 = .ok (.tableswitch 72 4 6 #[28, 31, 42], 28) := by decide +kernel
theorem dX3_holdsUpTo_60 : decode cX3_holdsUpTo 60 = .ok (.bipush 40, 2) := by decide +kernel
theorem dX3_holdsUpTo_62 : decode cX3_holdsUpTo 62 = .ok (.ireturn, 1) := by decide +kernel
theorem dX3_holdsUpTo_63 : decode cX3_holdsUpTo 63 = .ok (.iload_n 3, 1) := by decide +kernel
theorem dX3_holdsUpTo_64 : decode cX3_holdsUpTo 64 = .ok (.ifCond .eq 8, 3) := by decide +kernel
theorem dX3_holdsUpTo_67 : decode cX3_holdsUpTo 67 = .ok (.iload 4, 2) := by decide +kernel
theorem dX3_holdsUpTo_69 : decode cX3_holdsUpTo 69 = .ok (.goto 4, 3) := by decide +kernel
theorem dX3_holdsUpTo_72 : decode cX3_holdsUpTo 72 = .ok (.iconst 0, 1) := by decide +kernel
theorem dX3_holdsUpTo_73 : decode cX3_holdsUpTo 73 = .ok (.ireturn, 1) := by decide +kernel
theorem dX3_holdsUpTo_74 : decode cX3_holdsUpTo 74 = .ok (.iconst 0, 1) := by decide +kernel
theorem dX3_holdsUpTo_75 : decode cX3_holdsUpTo 75 = .ok (.iconst 2, 1) := by decide +kernel
theorem dX3_holdsUpTo_76 : decode cX3_holdsUpTo 76 = .ok (.iload 4, 2) := by decide +kernel
theorem dX3_holdsUpTo_78 : decode cX3_holdsUpTo 78 = .ok (.iload 5, 2) := by decide +kernel
theorem dX3_holdsUpTo_80 : decode cX3_holdsUpTo 80 = .ok (.iconst 0, 1) := by decide +kernel
theorem dX3_holdsUpTo_81 : decode cX3_holdsUpTo 81 = .ok (.invokestatic 58, 3) := by decide +kernel
theorem dX3_holdsUpTo_84 : decode cX3_holdsUpTo 84 = .ok (.aload_n 0, 1) := by decide +kernel
theorem dX3_holdsUpTo_85 : decode cX3_holdsUpTo 85 = .ok (.iload_n 2, 1) := by decide +kernel
theorem dX3_holdsUpTo_86 : decode cX3_holdsUpTo 86 = .ok (.bipush 6, 2) := by decide +kernel
theorem dX3_holdsUpTo_88 : decode cX3_holdsUpTo 88 = .ok (.invokevirtual 42, 3) := by decide +kernel
theorem dX3_holdsUpTo_91 : decode cX3_holdsUpTo 91 = .ok (.iadd, 1) := by decide +kernel
theorem dX3_holdsUpTo_92 : decode cX3_holdsUpTo 92 = .ok (.aload_n 0, 1) := by decide +kernel
theorem dX3_holdsUpTo_93 : decode cX3_holdsUpTo 93 = .ok (.iload_n 1, 1) := by decide +kernel
theorem dX3_holdsUpTo_94 : decode cX3_holdsUpTo 94 = .ok (.bipush 6, 2) := by decide +kernel
theorem dX3_holdsUpTo_96 : decode cX3_holdsUpTo 96 = .ok (.invokevirtual 42, 3) := by decide +kernel
theorem dX3_holdsUpTo_99 : decode cX3_holdsUpTo 99 = .ok (.isub, 1) := by decide +kernel
theorem dX3_holdsUpTo_100 : decode cX3_holdsUpTo 100 = .ok (.invokestatic 53, 3) := by decide +kernel
theorem dX3_holdsUpTo_103 : decode cX3_holdsUpTo 103 = .ok (.ireturn, 1) := by decide +kernel
theorem dX3_holdsUpTo_104 : decode cX3_holdsUpTo 104 = .ok (.aload_n 0, 1) := by decide +kernel
theorem dX3_holdsUpTo_105 : decode cX3_holdsUpTo 105 = .ok (.iconst 4, 1) := by decide +kernel
theorem dX3_holdsUpTo_106 : decode cX3_holdsUpTo 106 = .ok (.invokevirtual 26, 3) := by decide +kernel
theorem dX3_holdsUpTo_109 : decode cX3_holdsUpTo 109 = .ok (.iload 4, 2) := by decide +kernel
theorem dX3_holdsUpTo_111 : decode cX3_holdsUpTo 111 = .ok (.iload 5, 2) := by decide +kernel
theorem dX3_holdsUpTo_113 : decode cX3_holdsUpTo 113 = .ok (.aload_n 0, 1) := by decide +kernel
theorem dX3_holdsUpTo_114 : decode cX3_holdsUpTo 114 = .ok (.iload_n 2, 1) := by decide +kernel
theorem dX3_holdsUpTo_115 : decode cX3_holdsUpTo 115 = .ok (.iconst 4, 1) := by decide +kernel
theorem dX3_holdsUpTo_116 : decode cX3_holdsUpTo 116 = .ok (.invokevirtual 42, 3) := by decide +kernel
theorem dX3_holdsUpTo_119 : decode cX3_holdsUpTo 119 = .ok (.invokestatic 58, 3) := by decide +kernel
theorem dX3_holdsUpTo_122 : decode cX3_holdsUpTo 122 = .ok (.ireturn, 1) := by decide +kernel
theorem dX4_init_0 : decode cX4_init 0 = .ok (.aload_n 0, 1) := by decide +kernel
theorem dX4_init_1 : decode cX4_init 1 = .ok (.invokespecial 1, 3) := by decide +kernel
theorem dX4_init_4 : decode cX4_init 4 = .ok (.aload_n 0, 1) := by decide +kernel
theorem dX4_init_5 : decode cX4_init 5 = .ok (.new 7, 3) := by decide +kernel
theorem dX4_init_8 : decode cX4_init 8 = .ok (.dup, 1) := by decide +kernel
theorem dX4_init_9 : decode cX4_init 9 = .ok (.invokespecial 9, 3) := by decide +kernel
theorem dX4_init_12 : decode cX4_init 12 = .ok (.putfield 10, 3) := by decide +kernel
theorem dX4_init_15 : decode cX4_init 15 = .ok (.aload_n 0, 1) := by decide +kernel
theorem dX4_init_16 : decode cX4_init 16 = .ok (.new 7, 3) := by decide +kernel
theorem dX4_init_19 : decode cX4_init 19 = .ok (.dup, 1) := by decide +kernel
theorem dX4_init_20 : decode cX4_init 20 = .ok (.invokespecial 9, 3) := by decide +kernel
theorem dX4_init_23 : decode cX4_init 23 = .ok (.putfield 16, 3) := by decide +kernel
theorem dX4_init_26 : decode cX4_init 26 = .ok (.aload_n 0, 1) := by decide +kernel
theorem dX4_init_27 : decode cX4_init 27 = .ok (.new 19, 3) := by decide +kernel
theorem dX4_init_30 : decode cX4_init 30 = .ok (.dup, 1) := by decide +kernel
theorem dX4_init_31 : decode cX4_init 31 = .ok (.invokespecial 21, 3) := by decide +kernel
theorem dX4_init_34 : decode cX4_init 34 = .ok (.putfield 22, 3) := by decide +kernel
theorem dX4_init_37 : decode cX4_init 37 = .ok (.aload_n 0, 1) := by decide +kernel
theorem dX4_init_38 : decode cX4_init 38 = .ok (.new 7, 3) := by decide +kernel
theorem dX4_init_41 : decode cX4_init 41 = .ok (.dup, 1) := by decide +kernel
theorem dX4_init_42 : decode cX4_init 42 = .ok (.invokespecial 9, 3) := by decide +kernel
theorem dX4_init_45 : decode cX4_init 45 = .ok (.putfield 26, 3) := by decide +kernel
theorem dX4_init_48 : decode cX4_init 48 = .ok (.aload_n 0, 1) := by decide +kernel
theorem dX4_init_49 : decode cX4_init 49 = .ok (.new 19, 3) := by decide +kernel
theorem dX4_init_52 : decode cX4_init 52 = .ok (.dup, 1) := by decide +kernel
theorem dX4_init_53 : decode cX4_init 53 = .ok (.invokespecial 21, 3) := by decide +kernel
theorem dX4_init_56 : decode cX4_init 56 = .ok (.putfield 29, 3) := by decide +kernel
theorem dX4_init_59 : decode cX4_init 59 = .ok (.aload_n 0, 1) := by decide +kernel
theorem dX4_init_60 : decode cX4_init 60 = .ok (.iconst 0, 1) := by decide +kernel
theorem dX4_init_61 : decode cX4_init 61 = .ok (.putfield 32, 3) := by decide +kernel
theorem dX4_init_64 : decode cX4_init 64 = .ok (.aload_n 0, 1) := by decide +kernel
theorem dX4_init_65 : decode cX4_init 65 = .ok (.new 36, 3) := by decide +kernel
theorem dX4_init_68 : decode cX4_init 68 = .ok (.dup, 1) := by decide +kernel
theorem dX4_init_69 : decode cX4_init 69 = .ok (.invokespecial 38, 3) := by decide +kernel
theorem dX4_init_72 : decode cX4_init 72 = .ok (.putfield 39, 3) := by decide +kernel
theorem dX4_init_75 : decode cX4_init 75 = .ok (.aload_n 0, 1) := by decide +kernel
theorem dX4_init_76 : decode cX4_init 76 = .ok (.new 43, 3) := by decide +kernel
theorem dX4_init_79 : decode cX4_init 79 = .ok (.dup, 1) := by decide +kernel
theorem dX4_init_80 : decode cX4_init 80 = .ok (.invokespecial 45, 3) := by decide +kernel
theorem dX4_init_83 : decode cX4_init 83 = .ok (.putfield 46, 3) := by decide +kernel
theorem dX4_init_86 : decode cX4_init 86 = .ok (.aload_n 0, 1) := by decide +kernel
theorem dX4_init_87 : decode cX4_init 87 = .ok (.bipush 8, 2) := by decide +kernel
theorem dX4_init_89 : decode cX4_init 89 = .ok (.newarray .int, 2) := by decide +kernel
theorem dX4_init_91 : decode cX4_init 91 = .ok (.putfield 50, 3) := by decide +kernel
theorem dX4_init_94 : decode cX4_init 94 = .ok (.aload_n 0, 1) := by decide +kernel
theorem dX4_init_95 : decode cX4_init 95 = .ok (.bipush 8, 2) := by decide +kernel
theorem dX4_init_97 : decode cX4_init 97 = .ok (.newarray .int, 2) := by decide +kernel
theorem dX4_init_99 : decode cX4_init 99 = .ok (.putfield 54, 3) := by decide +kernel
theorem dX4_init_102 : decode cX4_init 102 = .ok (.aload_n 0, 1) := by decide +kernel
theorem dX4_init_103 : decode cX4_init 103 = .ok (.iconst 0, 1) := by decide +kernel
theorem dX4_init_104 : decode cX4_init 104 = .ok (.putfield 57, 3) := by decide +kernel
theorem dX4_init_107 : decode cX4_init 107 = .ok (.aload_n 0, 1) := by decide +kernel
theorem dX4_init_108 : decode cX4_init 108 = .ok (.bipush 6, 2) := by decide +kernel
theorem dX4_init_110 : decode cX4_init 110 = .ok (.newarray .int, 2) := by decide +kernel
theorem dX4_init_112 : decode cX4_init 112 = .ok (.putfield 61, 3) := by decide +kernel
theorem dX4_init_115 : decode cX4_init 115 = .ok (.return_, 1) := by decide +kernel
theorem dX4_letter_0 : decode cX4_letter 0 = .ok (.iload_n 1, 1) := by decide +kernel
theorem dX4_letter_1 : decode cX4_letter 1 = .ok (.ifCond .ge 10, 3) := by decide +kernel
theorem dX4_letter_4 : decode cX4_letter 4 = .ok (.aload_n 0, 1) := by decide +kernel
theorem dX4_letter_5 : decode cX4_letter 5 = .ok (.bipush (-4), 2) := by decide +kernel
theorem dX4_letter_7 : decode cX4_letter 7 = .ok (.invokevirtual 64, 3) := by decide +kernel
theorem dX4_letter_10 : decode cX4_letter 10 = .ok (.ireturn, 1) := by decide +kernel
theorem dX4_letter_11 : decode cX4_letter 11 = .ok (.iload_n 1, 1) := by decide +kernel
theorem dX4_letter_12 : decode cX4_letter 12 = .ok (.sipush 255, 3) := by decide +kernel
theorem dX4_letter_15 : decode cX4_letter 15 = .ok (.if_icmp .gt 15, 3) := by decide +kernel
theorem dX4_letter_18 : decode cX4_letter 18 = .ok (.aload_n 0, 1) := by decide +kernel
theorem dX4_letter_19 : decode cX4_letter 19 = .ok (.getfield 39, 3) := by decide +kernel
theorem dX4_letter_22 : decode cX4_letter 22 = .ok (.getfield 68, 3) := by decide +kernel
theorem dX4_letter_25 : decode cX4_letter 25 = .ok (.bipush 80, 2) := by decide +kernel
theorem dX4_letter_27 : decode cX4_letter 27 = .ok (.if_icmp .lt 10, 3) := by decide +kernel
theorem dX4_letter_30 : decode cX4_letter 30 = .ok (.aload_n 0, 1) := by decide +kernel
theorem dX4_letter_31 : decode cX4_letter 31 = .ok (.bipush (-6), 2) := by decide +kernel
theorem dX4_letter_33 : decode cX4_letter 33 = .ok (.invokevirtual 64, 3) := by decide +kernel
theorem dX4_letter_36 : decode cX4_letter 36 = .ok (.ireturn, 1) := by decide +kernel
theorem dX4_letter_37 : decode cX4_letter 37 = .ok (.aload_n 0, 1) := by decide +kernel
theorem dX4_letter_38 : decode cX4_letter 38 = .ok (.getfield 39, 3) := by decide +kernel
theorem dX4_letter_41 : decode cX4_letter 41 = .ok (.iload_n 1, 1) := by decide +kernel
theorem dX4_letter_42 : decode cX4_letter 42 = .ok (.invokevirtual 71, 3) := by decide +kernel
theorem dX4_letter_45 : decode cX4_letter 45 = .ok (.aload_n 0, 1) := by decide +kernel
theorem dX4_letter_46 : decode cX4_letter 46 = .ok (.getfield 39, 3) := by decide +kernel
theorem dX4_letter_49 : decode cX4_letter 49 = .ok (.getfield 68, 3) := by decide +kernel
theorem dX4_letter_52 : decode cX4_letter 52 = .ok (.ireturn, 1) := by decide +kernel
theorem dX4_way_0 : decode cX4_way 0 = .ok (.aload_n 0, 1) := by decide +kernel
theorem dX4_way_1 : decode cX4_way 1 = .ok (.getfield 39, 3) := by decide +kernel
theorem dX4_way_4 : decode cX4_way 4 = .ok (.aload_n 0, 1) := by decide +kernel
theorem dX4_way_5 : decode cX4_way 5 = .ok (.getfield 10, 3) := by decide +kernel
theorem dX4_way_8 : decode cX4_way 8 = .ok (.invokevirtual 75, 3) := by decide +kernel
theorem dX4_way_11 : decode cX4_way 11 = .ok (.istore_n 1, 1) := by decide +kernel
theorem dX4_way_12 : decode cX4_way 12 = .ok (.iload_n 1, 1) := by decide +kernel
theorem dX4_way_13 : decode cX4_way 13 = .ok (.ifCond .ne 15, 3) := by decide +kernel
theorem dX4_way_16 : decode cX4_way 16 = .ok (.aload_n 0, 1) := by decide +kernel
theorem dX4_way_17 : decode cX4_way 17 = .ok (.getfield 39, 3) := by decide +kernel
theorem dX4_way_20 : decode cX4_way 20 = .ok (.aload_n 0, 1) := by decide +kernel
theorem dX4_way_21 : decode cX4_way 21 = .ok (.getfield 10, 3) := by decide +kernel
theorem dX4_way_24 : decode cX4_way 24 = .ok (.invokevirtual 79, 3) := by decide +kernel
theorem dX4_way_27 : decode cX4_way 27 = .ok (.istore_n 1, 1) := by decide +kernel
theorem dX4_way_28 : decode cX4_way 28 = .ok (.aload_n 0, 1) := by decide +kernel
theorem dX4_way_29 : decode cX4_way 29 = .ok (.getfield 39, 3) := by decide +kernel
theorem dX4_way_32 : decode cX4_way 32 = .ok (.iconst 0, 1) := by decide +kernel
theorem dX4_way_33 : decode cX4_way 33 = .ok (.putfield 68, 3) := by decide +kernel
theorem dX4_way_36 : decode cX4_way 36 = .ok (.iload_n 1, 1) := by decide +kernel
theorem dX4_way_37 : decode cX4_way 37 = .ok (.ireturn, 1) := by decide +kernel
theorem dX4_walker_0 : decode cX4_walker 0 = .ok (.aload_n 0, 1) := by decide +kernel
theorem dX4_walker_1 : decode cX4_walker 1 = .ok (.getfield 10, 3) := by decide +kernel
theorem dX4_walker_4 : decode cX4_walker 4 = .ok (.iload_n 1, 1) := by decide +kernel
theorem dX4_walker_5 : decode cX4_walker 5 = .ok (.invokevirtual 82, 3) := by decide +kernel
theorem dX4_walker_8 : decode cX4_walker 8 = .ok (.ifCond .ne 9, 3) := by decide +kernel
theorem dX4_walker_11 : decode cX4_walker 11 = .ok (.aload_n 0, 1) := by decide +kernel
theorem dX4_walker_12 : decode cX4_walker 12 = .ok (.iconst (-1), 1) := by decide +kernel
theorem dX4_walker_13 : decode cX4_walker 13 = .ok (.invokevirtual 64, 3) := by decide +kernel
theorem dX4_walker_16 : decode cX4_walker 16 = .ok (.ireturn, 1) := by decide +kernel
theorem dX4_walker_17 : decode cX4_walker 17 = .ok (.iload_n 2, 1) := by decide +kernel
theorem dX4_walker_18 : decode cX4_walker 18 = .ok (.ifCond .lt 9, 3) := by decide +kernel
theorem dX4_walker_21 : decode cX4_walker 21 = .ok (.iload_n 2, 1) := by decide +kernel
theorem dX4_walker_22 : decode cX4_walker 22 = .ok (.bipush 7, 2) := by decide +kernel
theorem dX4_walker_24 : decode cX4_walker 24 = .ok (.if_icmp .le 10, 3) := by decide +kernel
theorem dX4_walker_27 : decode cX4_walker 27 = .ok (.aload_n 0, 1) := by decide +kernel
theorem dX4_walker_28 : decode cX4_walker 28 = .ok (.bipush (-2), 2) := by decide +kernel
theorem dX4_walker_30 : decode cX4_walker 30 = .ok (.invokevirtual 64, 3) := by decide +kernel
theorem dX4_walker_33 : decode cX4_walker 33 = .ok (.ireturn, 1) := by decide +kernel
theorem dX4_walker_34 : decode cX4_walker 34 = .ok (.iload_n 2, 1) := by decide +kernel
theorem dX4_walker_35 : decode cX4_walker 35 = .ok (.bipush 7, 2) := by decide +kernel
theorem dX4_walker_37 : decode cX4_walker 37 = .ok (.if_icmp .ne 14, 3) := by decide +kernel
theorem dX4_walker_40 : decode cX4_walker 40 = .ok (.aload_n 0, 1) := by decide +kernel
theorem dX4_walker_41 : decode cX4_walker 41 = .ok (.getfield 10, 3) := by decide +kernel
theorem dX4_walker_44 : decode cX4_walker 44 = .ok (.iload_n 1, 1) := by decide +kernel
theorem dX4_walker_45 : decode cX4_walker 45 = .ok (.invokevirtual 86, 3) := by decide +kernel
theorem dX4_walker_48 : decode cX4_walker 48 = .ok (.goto 12, 3) := by decide +kernel
theorem dX4_walker_51 : decode cX4_walker 51 = .ok (.aload_n 0, 1) := by decide +kernel
theorem dX4_walker_52 : decode cX4_walker 52 = .ok (.getfield 10, 3) := by decide +kernel
theorem dX4_walker_55 : decode cX4_walker 55 = .ok (.iload_n 1, 1) := by decide +kernel
theorem dX4_walker_56 : decode cX4_walker 56 = .ok (.iload_n 2, 1) := by decide +kernel
theorem dX4_walker_57 : decode cX4_walker 57 = .ok (.invokevirtual 89, 3) := by decide +kernel
theorem dX4_walker_60 : decode cX4_walker 60 = .ok (.ireturn, 1) := by decide +kernel
theorem dX4_set_0 : decode cX4_set 0 = .ok (.iload_n 1, 1) := by decide +kernel
theorem dX4_set_1 : decode cX4_set 1 = .ok (.ifCond .lt 8, 3) := by decide +kernel
theorem dX4_set_4 : decode cX4_set 4 = .ok (.iload_n 1, 1) := by decide +kernel
theorem dX4_set_5 : decode cX4_set 5 = .ok (.iconst 3, 1) := by decide +kernel
theorem dX4_set_6 : decode cX4_set 6 = .ok (.if_icmp .le 10, 3) := by decide +kernel
theorem dX4_set_9 : decode cX4_set 9 = .ok (.aload_n 0, 1) := by decide +kernel
theorem dX4_set_10 : decode cX4_set 10 = .ok (.bipush (-2), 2) := by decide +kernel
theorem dX4_set_12 : decode cX4_set 12 = .ok (.invokevirtual 64, 3) := by decide +kernel
theorem dX4_set_15 : decode cX4_set 15 = .ok (.ireturn, 1) := by decide +kernel
theorem dX4_set_16 : decode cX4_set 16 = .ok (.iload_n 2, 1) := by decide +kernel
theorem dX4_set_17 : decode cX4_set 17 = .ok (.iload_n 1, 1) := by decide +kernel
theorem dX4_set_18 : decode cX4_set 18 = .ok (.ifCond .ne 7, 3) := by decide +kernel
theorem dX4_set_21 : decode cX4_set 21 = .ok (.iconst 1, 1) := by decide +kernel
theorem dX4_set_22 : decode cX4_set 22 = .ok (.goto 4, 3) := by decide +kernel
theorem dX4_set_25 : decode cX4_set 25 = .ok (.iconst 0, 1) := by decide +kernel
theorem dX4_set_26 : decode cX4_set 26 = .ok (.if_icmp .ge 10, 3) := by decide +kernel
theorem dX4_set_29 : decode cX4_set 29 = .ok (.aload_n 0, 1) := by decide +kernel
theorem dX4_set_30 : decode cX4_set 30 = .ok (.bipush (-4), 2) := by decide +kernel
theorem dX4_set_32 : decode cX4_set 32 = .ok (.invokevirtual 64, 3) := by decide +kernel
theorem dX4_set_35 : decode cX4_set 35 = .ok (.ireturn, 1) := by decide +kernel
theorem dX4_set_36 : decode cX4_set 36 = .ok (.iload_n 2, 1) := by decide +kernel
theorem dX4_set_37 : decode cX4_set 37 = .ok (.iload_n 1, 1) := by decide +kernel
theorem dX4_set_38 : decode cX4_set 38 = .ok (.iconst 3, 1) := by decide +kernel
theorem dX4_set_39 : decode cX4_set 39 = .ok (.if_icmp .ne 8, 3) := by decide +kernel
theorem dX4_set_42 : decode cX4_set 42 = .ok (.bipush 40, 2) := by decide +kernel
theorem dX4_set_44 : decode cX4_set 44 = .ok (.goto 5, 3) := by decide +kernel
theorem dX4_set_47 : decode cX4_set 47 = .ok (.bipush 9, 2) := by decide +kernel
theorem dX4_set_49 : decode cX4_set 49 = .ok (.if_icmp .le 10, 3) := by decide +kernel
theorem dX4_set_52 : decode cX4_set 52 = .ok (.aload_n 0, 1) := by decide +kernel
theorem dX4_set_53 : decode cX4_set 53 = .ok (.bipush (-6), 2) := by decide +kernel
theorem dX4_set_55 : decode cX4_set 55 = .ok (.invokevirtual 64, 3) := by decide +kernel
theorem dX4_set_58 : decode cX4_set 58 = .ok (.ireturn, 1) := by decide +kernel
theorem dX4_set_59 : decode cX4_set 59 = .ok (.aload_n 0, 1) := by decide +kernel
theorem dX4_set_60 : decode cX4_set 60 = .ok (.getfield 10, 3) := by decide +kernel
theorem dX4_set_63 : decode cX4_set 63 = .ok (.iload_n 1, 1) := by decide +kernel
theorem dX4_set_64 : decode cX4_set 64 = .ok (.iload_n 2, 1) := by decide +kernel
theorem dX4_set_65 : decode cX4_set 65 = .ok (.invokevirtual 93, 3) := by decide +kernel
theorem dX4_set_68 : decode cX4_set 68 = .ok (.ireturn, 1) := by decide +kernel
theorem dX4_custom_0 : decode cX4_custom 0 = .ok (.iload_n 1, 1) := by decide +kernel
theorem dX4_custom_1 : decode cX4_custom 1 = .ok (.invokestatic 96, 3) := by decide +kernel
theorem dX4_custom_4 : decode cX4_custom 4 = .ok (.ifCond .eq 15, 3) := by decide +kernel
theorem dX4_custom_7 : decode cX4_custom 7 = .ok (.aload_n 0, 1) := by decide +kernel
theorem dX4_custom_8 : decode cX4_custom 8 = .ok (.getfield 10, 3) := by decide +kernel
theorem dX4_custom_11 : decode cX4_custom 11 = .ok (.iconst 4, 1) := by decide +kernel
theorem dX4_custom_12 : decode cX4_custom 12 = .ok (.iload_n 1, 1) := by decide +kernel
theorem dX4_custom_13 : decode cX4_custom 13 = .ok (.invokevirtual 93, 3) := by decide +kernel
theorem dX4_custom_16 : decode cX4_custom 16 = .ok (.goto 9, 3) := by decide +kernel
theorem dX4_custom_19 : decode cX4_custom 19 = .ok (.aload_n 0, 1) := by decide +kernel
theorem dX4_custom_20 : decode cX4_custom 20 = .ok (.bipush (-2), 2) := by decide +kernel
theorem dX4_custom_22 : decode cX4_custom 22 = .ok (.invokevirtual 64, 3) := by decide +kernel
theorem dX4_custom_25 : decode cX4_custom 25 = .ok (.ireturn, 1) := by decide +kernel
theorem dX4_far_0 : decode cX4_far 0 = .ok (.aload_n 0, 1) := by decide +kernel
theorem dX4_far_1 : decode cX4_far 1 = .ok (.getfield 10, 3) := by decide +kernel
theorem dX4_far_4 : decode cX4_far 4 = .ok (.iload_n 1, 1) := by decide +kernel
theorem dX4_far_5 : decode cX4_far 5 = .ok (.invokevirtual 82, 3) := by decide +kernel
theorem dX4_far_8 : decode cX4_far 8 = .ok (.ifCond .eq 19, 3) := by decide +kernel
theorem dX4_far_11 : decode cX4_far 11 = .ok (.aload_n 0, 1) := by decide +kernel
theorem dX4_far_12 : decode cX4_far 12 = .ok (.getfield 10, 3) := by decide +kernel
theorem dX4_far_15 : decode cX4_far 15 = .ok (.iload_n 2, 1) := by decide +kernel
theorem dX4_far_16 : decode cX4_far 16 = .ok (.invokevirtual 82, 3) := by decide +kernel
theorem dX4_far_19 : decode cX4_far 19 = .ok (.ifCond .eq 8, 3) := by decide +kernel
theorem dX4_far_22 : decode cX4_far 22 = .ok (.iload_n 1, 1) := by decide +kernel
theorem dX4_far_23 : decode cX4_far 23 = .ok (.iload_n 2, 1) := by decide +kernel
theorem dX4_far_24 : decode cX4_far 24 = .ok (.if_icmp .ne 9, 3) := by decide +kernel
theorem dX4_far_27 : decode cX4_far 27 = .ok (.aload_n 0, 1) := by decide +kernel
theorem dX4_far_28 : decode cX4_far 28 = .ok (.iconst (-1), 1) := by decide +kernel
theorem dX4_far_29 : decode cX4_far 29 = .ok (.invokevirtual 64, 3) := by decide +kernel
theorem dX4_far_32 : decode cX4_far 32 = .ok (.ireturn, 1) := by decide +kernel
theorem dX4_far_33 : decode cX4_far 33 = .ok (.iload_n 3, 1) := by decide +kernel
theorem dX4_far_34 : decode cX4_far 34 = .ok (.invokestatic 99, 3) := by decide +kernel
theorem dX4_far_37 : decode cX4_far 37 = .ok (.ifCond .ne 10, 3) := by decide +kernel
theorem dX4_far_40 : decode cX4_far 40 = .ok (.aload_n 0, 1) := by decide +kernel
theorem dX4_far_41 : decode cX4_far 41 = .ok (.bipush (-2), 2) := by decide +kernel
theorem dX4_far_43 : decode cX4_far 43 = .ok (.invokevirtual 64, 3) := by decide +kernel
theorem dX4_far_46 : decode cX4_far 46 = .ok (.ireturn, 1) := by decide +kernel
theorem dX4_far_47 : decode cX4_far 47 = .ok (.aload_n 0, 1) := by decide +kernel
theorem dX4_far_48 : decode cX4_far 48 = .ok (.getfield 10, 3) := by decide +kernel
theorem dX4_far_51 : decode cX4_far 51 = .ok (.iload_n 1, 1) := by decide +kernel
theorem dX4_far_52 : decode cX4_far 52 = .ok (.iload_n 2, 1) := by decide +kernel
theorem dX4_far_53 : decode cX4_far 53 = .ok (.iload_n 3, 1) := by decide +kernel
theorem dX4_far_54 : decode cX4_far 54 = .ok (.iconst 1, 1) := by decide +kernel
theorem dX4_far_55 : decode cX4_far 55 = .ok (.if_icmp .ne 7, 3) := by decide +kernel
theorem dX4_far_58 : decode cX4_far 58 = .ok (.iconst 1, 1) := by decide +kernel
theorem dX4_far_59 : decode cX4_far 59 = .ok (.goto 4, 3) := by decide +kernel
theorem dX4_far_62 : decode cX4_far 62 = .ok (.iconst 0, 1) := by decide +kernel
theorem dX4_far_63 : decode cX4_far 63 = .ok (.invokevirtual 102, 3) := by decide +kernel
theorem dX4_far_66 : decode cX4_far 66 = .ok (.ireturn, 1) := by decide +kernel
theorem dX4_there_0 : decode cX4_there 0 = .ok (.aload_n 0, 1) := by decide +kernel
theorem dX4_there_1 : decode cX4_there 1 = .ok (.getfield 10, 3) := by decide +kernel
theorem dX4_there_4 : decode cX4_there 4 = .ok (.iload_n 1, 1) := by decide +kernel
theorem dX4_there_5 : decode cX4_there 5 = .ok (.invokevirtual 82, 3) := by decide +kernel
theorem dX4_there_8 : decode cX4_there 8 = .ok (.ifCond .eq 14, 3) := by decide +kernel
theorem dX4_there_11 : decode cX4_there 11 = .ok (.aload_n 0, 1) := by decide +kernel
theorem dX4_there_12 : decode cX4_there 12 = .ok (.getfield 10, 3) := by decide +kernel
theorem dX4_there_15 : decode cX4_there 15 = .ok (.iload_n 1, 1) := by decide +kernel
theorem dX4_there_16 : decode cX4_there 16 = .ok (.invokevirtual 106, 3) := by decide +kernel
theorem dX4_there_19 : decode cX4_there 19 = .ok (.goto 8, 3) := by decide +kernel
theorem dX4_there_22 : decode cX4_there 22 = .ok (.aload_n 0, 1) := by decide +kernel
theorem dX4_there_23 : decode cX4_there 23 = .ok (.iconst (-1), 1) := by decide +kernel
theorem dX4_there_24 : decode cX4_there 24 = .ok (.invokevirtual 64, 3) := by decide +kernel
theorem dX4_there_27 : decode cX4_there 27 = .ok (.ireturn, 1) := by decide +kernel
theorem dX4_order_0 : decode cX4_order 0 = .ok (.iload_n 1, 1) := by decide +kernel
theorem dX4_order_1 : decode cX4_order 1 = .ok (.ifCond .ge 10, 3) := by decide +kernel
theorem dX4_order_4 : decode cX4_order 4 = .ok (.aload_n 0, 1) := by decide +kernel
theorem dX4_order_5 : decode cX4_order 5 = .ok (.bipush (-4), 2) := by decide +kernel
theorem dX4_order_7 : decode cX4_order 7 = .ok (.invokevirtual 64, 3) := by decide +kernel
theorem dX4_order_10 : decode cX4_order 10 = .ok (.ireturn, 1) := by decide +kernel
theorem dX4_order_11 : decode cX4_order 11 = .ok (.iload_n 1, 1) := by decide +kernel
theorem dX4_order_12 : decode cX4_order 12 = .ok (.aload_n 0, 1) := by decide +kernel
theorem dX4_order_13 : decode cX4_order 13 = .ok (.getfield 10, 3) := by decide +kernel
theorem dX4_order_16 : decode cX4_order 16 = .ok (.getfield 109, 3) := by decide +kernel
theorem dX4_order_19 : decode cX4_order 19 = .ok (.if_icmp .lt 6, 3) := by decide +kernel
theorem dX4_order_22 : decode cX4_order 22 = .ok (.bipush (-9), 2) := by decide +kernel
theorem dX4_order_24 : decode cX4_order 24 = .ok (.ireturn, 1) := by decide +kernel
theorem dX4_order_25 : decode cX4_order 25 = .ok (.aload_n 0, 1) := by decide +kernel
theorem dX4_order_26 : decode cX4_order 26 = .ok (.getfield 46, 3) := by decide +kernel
theorem dX4_order_29 : decode cX4_order 29 = .ok (.aload_n 0, 1) := by decide +kernel
theorem dX4_order_30 : decode cX4_order 30 = .ok (.getfield 10, 3) := by decide +kernel
theorem dX4_order_33 : decode cX4_order 33 = .ok (.invokevirtual 112, 3) := by decide +kernel
theorem dX4_order_36 : decode cX4_order 36 = .ok (.aload_n 0, 1) := by decide +kernel
theorem dX4_order_37 : decode cX4_order 37 = .ok (.getfield 46, 3) := by decide +kernel
theorem dX4_order_40 : decode cX4_order 40 = .ok (.getfield 116, 3) := by decide +kernel
theorem dX4_order_43 : decode cX4_order 43 = .ok (.iload_n 1, 1) := by decide +kernel
theorem dX4_order_44 : decode cX4_order 44 = .ok (.invokestatic 119, 3) := by decide +kernel
theorem dX4_order_47 : decode cX4_order 47 = .ok (.ireturn, 1) := by decide +kernel
theorem dX4_comes_0 : decode cX4_comes 0 = .ok (.aload_n 0, 1) := by decide +kernel
theorem dX4_comes_1 : decode cX4_comes 1 = .ok (.aload_n 0, 1) := by decide +kernel
theorem dX4_comes_2 : decode cX4_comes 2 = .ok (.getfield 46, 3) := by decide +kernel
theorem dX4_comes_5 : decode cX4_comes 5 = .ok (.getfield 123, 3) := by decide +kernel
theorem dX4_comes_8 : decode cX4_comes 8 = .ok (.iload_n 1, 1) := by decide +kernel
theorem dX4_comes_9 : decode cX4_comes 9 = .ok (.invokevirtual 126, 3) := by decide +kernel
theorem dX4_comes_12 : decode cX4_comes 12 = .ok (.ireturn, 1) := by decide +kernel
theorem dX4_through_0 : decode cX4_through 0 = .ok (.aload_n 0, 1) := by decide +kernel
theorem dX4_through_1 : decode cX4_through 1 = .ok (.aload_n 0, 1) := by decide +kernel
theorem dX4_through_2 : decode cX4_through 2 = .ok (.getfield 46, 3) := by decide +kernel
theorem dX4_through_5 : decode cX4_through 5 = .ok (.getfield 129, 3) := by decide +kernel
theorem dX4_through_8 : decode cX4_through 8 = .ok (.iload_n 1, 1) := by decide +kernel
theorem dX4_through_9 : decode cX4_through 9 = .ok (.invokevirtual 126, 3) := by decide +kernel
theorem dX4_through_12 : decode cX4_through 12 = .ok (.ireturn, 1) := by decide +kernel
theorem dX4_opens_0 : decode cX4_opens 0 = .ok (.aload_n 0, 1) := by decide +kernel
theorem dX4_opens_1 : decode cX4_opens 1 = .ok (.aload_n 0, 1) := by decide +kernel
theorem dX4_opens_2 : decode cX4_opens 2 = .ok (.getfield 46, 3) := by decide +kernel
theorem dX4_opens_5 : decode cX4_opens 5 = .ok (.getfield 132, 3) := by decide +kernel
theorem dX4_opens_8 : decode cX4_opens 8 = .ok (.iload_n 1, 1) := by decide +kernel
theorem dX4_opens_9 : decode cX4_opens 9 = .ok (.invokevirtual 126, 3) := by decide +kernel
theorem dX4_opens_12 : decode cX4_opens 12 = .ok (.ireturn, 1) := by decide +kernel
theorem dX4_stands_0 : decode cX4_stands 0 = .ok (.aload_n 0, 1) := by decide +kernel
theorem dX4_stands_1 : decode cX4_stands 1 = .ok (.aload_n 0, 1) := by decide +kernel
theorem dX4_stands_2 : decode cX4_stands 2 = .ok (.getfield 46, 3) := by decide +kernel
theorem dX4_stands_5 : decode cX4_stands 5 = .ok (.getfield 135, 3) := by decide +kernel
theorem dX4_stands_8 : decode cX4_stands 8 = .ok (.iload_n 1, 1) := by decide +kernel
theorem dX4_stands_9 : decode cX4_stands 9 = .ok (.invokevirtual 126, 3) := by decide +kernel
theorem dX4_stands_12 : decode cX4_stands 12 = .ok (.ireturn, 1) := by decide +kernel
theorem dX4_by_0 : decode cX4_by 0 = .ok (.aload_n 0, 1) := by decide +kernel
theorem dX4_by_1 : decode cX4_by 1 = .ok (.aload_n 0, 1) := by decide +kernel
theorem dX4_by_2 : decode cX4_by 2 = .ok (.getfield 46, 3) := by decide +kernel
theorem dX4_by_5 : decode cX4_by 5 = .ok (.getfield 138, 3) := by decide +kernel
theorem dX4_by_8 : decode cX4_by 8 = .ok (.iload_n 1, 1) := by decide +kernel
theorem dX4_by_9 : decode cX4_by 9 = .ok (.invokevirtual 126, 3) := by decide +kernel
theorem dX4_by_12 : decode cX4_by 12 = .ok (.ireturn, 1) := by decide +kernel
theorem dX4_runs_0 : decode cX4_runs 0 = .ok (.aload_n 0, 1) := by decide +kernel
theorem dX4_runs_1 : decode cX4_runs 1 = .ok (.aload_n 0, 1) := by decide +kernel
theorem dX4_runs_2 : decode cX4_runs 2 = .ok (.getfield 46, 3) := by decide +kernel
theorem dX4_runs_5 : decode cX4_runs 5 = .ok (.getfield 141, 3) := by decide +kernel
theorem dX4_runs_8 : decode cX4_runs 8 = .ok (.iload_n 1, 1) := by decide +kernel
theorem dX4_runs_9 : decode cX4_runs 9 = .ok (.invokevirtual 126, 3) := by decide +kernel
theorem dX4_runs_12 : decode cX4_runs 12 = .ok (.ireturn, 1) := by decide +kernel
theorem dX4_loss_0 : decode cX4_loss 0 = .ok (.iload_n 1, 1) := by decide +kernel
theorem dX4_loss_1 : decode cX4_loss 1 = .ok (.iconst (-1), 1) := by decide +kernel
theorem dX4_loss_2 : decode cX4_loss 2 = .ok (.if_icmp .ne 14, 3) := by decide +kernel
theorem dX4_loss_5 : decode cX4_loss 5 = .ok (.aload_n 0, 1) := by decide +kernel
theorem dX4_loss_6 : decode cX4_loss 6 = .ok (.aload_n 0, 1) := by decide +kernel
theorem dX4_loss_7 : decode cX4_loss 7 = .ok (.getfield 10, 3) := by decide +kernel
theorem dX4_loss_10 : decode cX4_loss 10 = .ok (.invokevirtual 144, 3) := by decide +kernel
theorem dX4_loss_13 : decode cX4_loss 13 = .ok (.goto 15, 3) := by decide +kernel
theorem dX4_loss_16 : decode cX4_loss 16 = .ok (.aload_n 0, 1) := by decide +kernel
theorem dX4_loss_17 : decode cX4_loss 17 = .ok (.aload_n 0, 1) := by decide +kernel
theorem dX4_loss_18 : decode cX4_loss 18 = .ok (.getfield 46, 3) := by decide +kernel
theorem dX4_loss_21 : decode cX4_loss 21 = .ok (.getfield 147, 3) := by decide +kernel
theorem dX4_loss_24 : decode cX4_loss 24 = .ok (.iload_n 1, 1) := by decide +kernel
theorem dX4_loss_25 : decode cX4_loss 25 = .ok (.invokevirtual 126, 3) := by decide +kernel
theorem dX4_loss_28 : decode cX4_loss 28 = .ok (.ireturn, 1) := by decide +kernel
theorem dX4_holds_0 : decode cX4_holds 0 = .ok (.aload_n 0, 1) := by decide +kernel
theorem dX4_holds_1 : decode cX4_holds 1 = .ok (.getfield 46, 3) := by decide +kernel
theorem dX4_holds_4 : decode cX4_holds 4 = .ok (.aload_n 0, 1) := by decide +kernel
theorem dX4_holds_5 : decode cX4_holds 5 = .ok (.getfield 10, 3) := by decide +kernel
theorem dX4_holds_8 : decode cX4_holds 8 = .ok (.invokevirtual 112, 3) := by decide +kernel
theorem dX4_holds_11 : decode cX4_holds 11 = .ok (.aload_n 0, 1) := by decide +kernel
theorem dX4_holds_12 : decode cX4_holds 12 = .ok (.getfield 46, 3) := by decide +kernel
theorem dX4_holds_15 : decode cX4_holds 15 = .ok (.invokevirtual 150, 3) := by decide +kernel
theorem dX4_holds_18 : decode cX4_holds 18 = .ok (.ireturn, 1) := by decide +kernel
theorem dX4_longest_0 : decode cX4_longest 0 = .ok (.aload_n 0, 1) := by decide +kernel
theorem dX4_longest_1 : decode cX4_longest 1 = .ok (.getfield 46, 3) := by decide +kernel
theorem dX4_longest_4 : decode cX4_longest 4 = .ok (.aload_n 0, 1) := by decide +kernel
theorem dX4_longest_5 : decode cX4_longest 5 = .ok (.getfield 10, 3) := by decide +kernel
theorem dX4_longest_8 : decode cX4_longest 8 = .ok (.invokevirtual 112, 3) := by decide +kernel
theorem dX4_longest_11 : decode cX4_longest 11 = .ok (.aload_n 0, 1) := by decide +kernel
theorem dX4_longest_12 : decode cX4_longest 12 = .ok (.getfield 46, 3) := by decide +kernel
theorem dX4_longest_15 : decode cX4_longest 15 = .ok (.invokevirtual 154, 3) := by decide +kernel
theorem dX4_longest_18 : decode cX4_longest 18 = .ok (.ireturn, 1) := by decide +kernel
theorem dX4_away_0 : decode cX4_away 0 = .ok (.aload_n 0, 1) := by decide +kernel
theorem dX4_away_1 : decode cX4_away 1 = .ok (.getfield 10, 3) := by decide +kernel
theorem dX4_away_4 : decode cX4_away 4 = .ok (.getfield 109, 3) := by decide +kernel
theorem dX4_away_7 : decode cX4_away 7 = .ok (.ifCond .ne 6, 3) := by decide +kernel
theorem dX4_away_10 : decode cX4_away 10 = .ok (.bipush (-9), 2) := by decide +kernel
theorem dX4_away_12 : decode cX4_away 12 = .ok (.ireturn, 1) := by decide +kernel
theorem dX4_away_13 : decode cX4_away 13 = .ok (.aload_n 0, 1) := by decide +kernel
theorem dX4_away_14 : decode cX4_away 14 = .ok (.getfield 46, 3) := by decide +kernel
theorem dX4_away_17 : decode cX4_away 17 = .ok (.aload_n 0, 1) := by decide +kernel
theorem dX4_away_18 : decode cX4_away 18 = .ok (.getfield 10, 3) := by decide +kernel
theorem dX4_away_21 : decode cX4_away 21 = .ok (.invokevirtual 112, 3) := by decide +kernel
theorem dX4_away_24 : decode cX4_away 24 = .ok (.aload_n 0, 1) := by decide +kernel
theorem dX4_away_25 : decode cX4_away 25 = .ok (.getfield 46, 3) := by decide +kernel
theorem dX4_away_28 : decode cX4_away 28 = .ok (.aload_n 0, 1) := by decide +kernel
theorem dX4_away_29 : decode cX4_away 29 = .ok (.getfield 46, 3) := by decide +kernel
theorem dX4_away_32 : decode cX4_away 32 = .ok (.getfield 116, 3) := by decide +kernel
theorem dX4_away_35 : decode cX4_away 35 = .ok (.iconst 0, 1) := by decide +kernel
theorem dX4_away_36 : decode cX4_away 36 = .ok (.invokestatic 119, 3) := by decide +kernel
theorem dX4_away_39 : decode cX4_away 39 = .ok (.invokevirtual 157, 3) := by decide +kernel
theorem dX4_away_42 : decode cX4_away 42 = .ok (.ireturn, 1) := by decide +kernel
theorem dX4_open_0 : decode cX4_open 0 = .ok (.aload_n 0, 1) := by decide +kernel
theorem dX4_open_1 : decode cX4_open 1 = .ok (.getfield 46, 3) := by decide +kernel
theorem dX4_open_4 : decode cX4_open 4 = .ok (.aload_n 0, 1) := by decide +kernel
theorem dX4_open_5 : decode cX4_open 5 = .ok (.getfield 10, 3) := by decide +kernel
theorem dX4_open_8 : decode cX4_open 8 = .ok (.invokevirtual 112, 3) := by decide +kernel
theorem dX4_open_11 : decode cX4_open 11 = .ok (.aload_n 0, 1) := by decide +kernel
theorem dX4_open_12 : decode cX4_open 12 = .ok (.getfield 46, 3) := by decide +kernel
theorem dX4_open_15 : decode cX4_open 15 = .ok (.aload_n 0, 1) := by decide +kernel
theorem dX4_open_16 : decode cX4_open 16 = .ok (.getfield 10, 3) := by decide +kernel
theorem dX4_open_19 : decode cX4_open 19 = .ok (.iconst 0, 1) := by decide +kernel
theorem dX4_open_20 : decode cX4_open 20 = .ok (.invokevirtual 160, 3) := by decide +kernel
theorem dX4_open_23 : decode cX4_open 23 = .ok (.invokevirtual 163, 3) := by decide +kernel
theorem dX4_open_26 : decode cX4_open 26 = .ok (.ireturn, 1) := by decide +kernel
theorem dX4_coals_0 : decode cX4_coals 0 = .ok (.aload_n 0, 1) := by decide +kernel
theorem dX4_coals_1 : decode cX4_coals 1 = .ok (.getfield 46, 3) := by decide +kernel
theorem dX4_coals_4 : decode cX4_coals 4 = .ok (.aload_n 0, 1) := by decide +kernel
theorem dX4_coals_5 : decode cX4_coals 5 = .ok (.getfield 10, 3) := by decide +kernel
theorem dX4_coals_8 : decode cX4_coals 8 = .ok (.invokevirtual 112, 3) := by decide +kernel
theorem dX4_coals_11 : decode cX4_coals 11 = .ok (.aload_n 0, 1) := by decide +kernel
theorem dX4_coals_12 : decode cX4_coals 12 = .ok (.getfield 46, 3) := by decide +kernel
theorem dX4_coals_15 : decode cX4_coals 15 = .ok (.aload_n 0, 1) := by decide +kernel
theorem dX4_coals_16 : decode cX4_coals 16 = .ok (.getfield 10, 3) := by decide +kernel
theorem dX4_coals_19 : decode cX4_coals 19 = .ok (.iconst 0, 1) := by decide +kernel
theorem dX4_coals_20 : decode cX4_coals 20 = .ok (.invokevirtual 160, 3) := by decide +kernel
theorem dX4_coals_23 : decode cX4_coals 23 = .ok (.invokevirtual 163, 3) := by decide +kernel
theorem dX4_coals_26 : decode cX4_coals 26 = .ok (.aload_n 0, 1) := by decide +kernel
theorem dX4_coals_27 : decode cX4_coals 27 = .ok (.getfield 10, 3) := by decide +kernel
theorem dX4_coals_30 : decode cX4_coals 30 = .ok (.iconst 2, 1) := by decide +kernel
theorem dX4_coals_31 : decode cX4_coals 31 = .ok (.invokevirtual 160, 3) := by decide +kernel
theorem dX4_coals_34 : decode cX4_coals 34 = .ok (.imul, 1) := by decide +kernel
theorem dX4_coals_35 : decode cX4_coals 35 = .ok (.ireturn, 1) := by decide +kernel
theorem dX4_byOther_0 : decode cX4_byOther 0 = .ok (.iload_n 1, 1) := by decide +kernel
theorem dX4_byOther_1 : decode cX4_byOther 1 = .ok (.invokestatic 96, 3) := by decide +kernel
theorem dX4_byOther_4 : decode cX4_byOther 4 = .ok (.ifCond .ne 10, 3) := by decide +kernel
theorem dX4_byOther_7 : decode cX4_byOther 7 = .ok (.aload_n 0, 1) := by decide +kernel
theorem dX4_byOther_8 : decode cX4_byOther 8 = .ok (.bipush (-2), 2) := by decide +kernel
theorem dX4_byOther_10 : decode cX4_byOther 10 = .ok (.invokevirtual 64, 3) := by decide +kernel
theorem dX4_byOther_13 : decode cX4_byOther 13 = .ok (.ireturn, 1) := by decide +kernel
theorem dX4_byOther_14 : decode cX4_byOther 14 = .ok (.iload_n 2, 1) := by decide +kernel
theorem dX4_byOther_15 : decode cX4_byOther 15 = .ok (.ifCond .ge 10, 3) := by decide +kernel
theorem dX4_byOther_18 : decode cX4_byOther 18 = .ok (.aload_n 0, 1) := by decide +kernel
theorem dX4_byOther_19 : decode cX4_byOther 19 = .ok (.bipush (-4), 2) := by decide +kernel
theorem dX4_byOther_21 : decode cX4_byOther 21 = .ok (.invokevirtual 64, 3) := by decide +kernel
theorem dX4_byOther_24 : decode cX4_byOther 24 = .ok (.ireturn, 1) := by decide +kernel
theorem dX4_byOther_25 : decode cX4_byOther 25 = .ok (.iload_n 2, 1) := by decide +kernel
theorem dX4_byOther_26 : decode cX4_byOther 26 = .ok (.bipush 40, 2) := by decide +kernel
theorem dX4_byOther_28 : decode cX4_byOther 28 = .ok (.if_icmp .le 10, 3) := by decide +kernel
theorem dX4_byOther_31 : decode cX4_byOther 31 = .ok (.aload_n 0, 1) := by decide +kernel
theorem dX4_byOther_32 : decode cX4_byOther 32 = .ok (.bipush (-6), 2) := by decide +kernel
theorem dX4_byOther_34 : decode cX4_byOther 34 = .ok (.invokevirtual 64, 3) := by decide +kernel
theorem dX4_byOther_37 : decode cX4_byOther 37 = .ok (.ireturn, 1) := by decide +kernel
theorem dX4_byOther_38 : decode cX4_byOther 38 = .ok (.aload_n 0, 1) := by decide +kernel
theorem dX4_byOther_39 : decode cX4_byOther 39 = .ok (.getfield 16, 3) := by decide +kernel
theorem dX4_byOther_42 : decode cX4_byOther 42 = .ok (.aload_n 0, 1) := by decide +kernel
theorem dX4_byOther_43 : decode cX4_byOther 43 = .ok (.getfield 10, 3) := by decide +kernel
theorem dX4_byOther_46 : decode cX4_byOther 46 = .ok (.invokevirtual 166, 3) := by decide +kernel
theorem dX4_byOther_49 : decode cX4_byOther 49 = .ok (.aload_n 0, 1) := by decide +kernel
theorem dX4_byOther_50 : decode cX4_byOther 50 = .ok (.getfield 16, 3) := by decide +kernel
theorem dX4_byOther_53 : decode cX4_byOther 53 = .ok (.iconst 4, 1) := by decide +kernel
theorem dX4_byOther_54 : decode cX4_byOther 54 = .ok (.iload_n 1, 1) := by decide +kernel
theorem dX4_byOther_55 : decode cX4_byOther 55 = .ok (.invokevirtual 93, 3) := by decide +kernel
theorem dX4_byOther_58 : decode cX4_byOther 58 = .ok (.pop, 1) := by decide +kernel
theorem dX4_byOther_59 : decode cX4_byOther 59 = .ok (.aload_n 0, 1) := by decide +kernel
theorem dX4_byOther_60 : decode cX4_byOther 60 = .ok (.getfield 16, 3) := by decide +kernel
theorem dX4_byOther_63 : decode cX4_byOther 63 = .ok (.iconst 3, 1) := by decide +kernel
theorem dX4_byOther_64 : decode cX4_byOther 64 = .ok (.iload_n 2, 1) := by decide +kernel
theorem dX4_byOther_65 : decode cX4_byOther 65 = .ok (.invokevirtual 93, 3) := by decide +kernel
theorem dX4_byOther_68 : decode cX4_byOther 68 = .ok (.pop, 1) := by decide +kernel
theorem dX4_byOther_69 : decode cX4_byOther 69 = .ok (.aload_n 0, 1) := by decide +kernel
theorem dX4_byOther_70 : decode cX4_byOther 70 = .ok (.aload_n 0, 1) := by decide +kernel
theorem dX4_byOther_71 : decode cX4_byOther 71 = .ok (.getfield 16, 3) := by decide +kernel
theorem dX4_byOther_74 : decode cX4_byOther 74 = .ok (.invokevirtual 144, 3) := by decide +kernel
theorem dX4_byOther_77 : decode cX4_byOther 77 = .ok (.ireturn, 1) := by decide +kernel
theorem dX4_bestFar_0 : decode cX4_bestFar 0 = .ok (.aload_n 0, 1) := by decide +kernel
theorem dX4_bestFar_1 : decode cX4_bestFar 1 = .ok (.iconst 3, 1) := by decide +kernel
theorem dX4_bestFar_2 : decode cX4_bestFar 2 = .ok (.bipush 40, 2) := by decide +kernel
theorem dX4_bestFar_4 : decode cX4_bestFar 4 = .ok (.invokevirtual 169, 3) := by decide +kernel
theorem dX4_bestFar_7 : decode cX4_bestFar 7 = .ok (.ireturn, 1) := by decide +kernel
theorem dX4_bestCustom_0 : decode cX4_bestCustom 0 = .ok (.aload_n 0, 1) := by decide +kernel
theorem dX4_bestCustom_1 : decode cX4_bestCustom 1 = .ok (.iconst 4, 1) := by decide +kernel
theorem dX4_bestCustom_2 : decode cX4_bestCustom 2 = .ok (.bipush 6, 2) := by decide +kernel
theorem dX4_bestCustom_4 : decode cX4_bestCustom 4 = .ok (.invokevirtual 169, 3) := by decide +kernel
theorem dX4_bestCustom_7 : decode cX4_bestCustom 7 = .ok (.ireturn, 1) := by decide +kernel
theorem dX4_bestShuts_0 : decode cX4_bestShuts 0 = .ok (.aload_n 0, 1) := by decide +kernel
theorem dX4_bestShuts_1 : decode cX4_bestShuts 1 = .ok (.getfield 16, 3) := by decide +kernel
theorem dX4_bestShuts_4 : decode cX4_bestShuts 4 = .ok (.aload_n 0, 1) := by decide +kernel
theorem dX4_bestShuts_5 : decode cX4_bestShuts 5 = .ok (.getfield 10, 3) := by decide +kernel
theorem dX4_bestShuts_8 : decode cX4_bestShuts 8 = .ok (.invokevirtual 166, 3) := by decide +kernel
theorem dX4_bestShuts_11 : decode cX4_bestShuts 11 = .ok (.iconst 1, 1) := by decide +kernel
theorem dX4_bestShuts_12 : decode cX4_bestShuts 12 = .ok (.istore_n 1, 1) := by decide +kernel
theorem dX4_bestShuts_13 : decode cX4_bestShuts 13 = .ok (.iconst 0, 1) := by decide +kernel
theorem dX4_bestShuts_14 : decode cX4_bestShuts 14 = .ok (.istore_n 2, 1) := by decide +kernel
theorem dX4_bestShuts_15 : decode cX4_bestShuts 15 = .ok (.iconst 1, 1) := by decide +kernel
theorem dX4_bestShuts_16 : decode cX4_bestShuts 16 = .ok (.istore_n 3, 1) := by decide +kernel
theorem dX4_bestShuts_17 : decode cX4_bestShuts 17 = .ok (.iload_n 3, 1) := by decide +kernel
theorem dX4_bestShuts_18 : decode cX4_bestShuts 18 = .ok (.bipush 9, 2) := by decide +kernel
theorem dX4_bestShuts_20 : decode cX4_bestShuts 20 = .ok (.if_icmp .gt 63, 3) := by decide +kernel
theorem dX4_bestShuts_23 : decode cX4_bestShuts 23 = .ok (.aload_n 0, 1) := by decide +kernel
theorem dX4_bestShuts_24 : decode cX4_bestShuts 24 = .ok (.getfield 16, 3) := by decide +kernel
theorem dX4_bestShuts_27 : decode cX4_bestShuts 27 = .ok (.iconst 0, 1) := by decide +kernel
theorem dX4_bestShuts_28 : decode cX4_bestShuts 28 = .ok (.iload_n 3, 1) := by decide +kernel
theorem dX4_bestShuts_29 : decode cX4_bestShuts 29 = .ok (.invokevirtual 93, 3) := by decide +kernel
theorem dX4_bestShuts_32 : decode cX4_bestShuts 32 = .ok (.pop, 1) := by decide +kernel
theorem dX4_bestShuts_33 : decode cX4_bestShuts 33 = .ok (.aload_n 0, 1) := by decide +kernel
theorem dX4_bestShuts_34 : decode cX4_bestShuts 34 = .ok (.aload_n 0, 1) := by decide +kernel
theorem dX4_bestShuts_35 : decode cX4_bestShuts 35 = .ok (.getfield 16, 3) := by decide +kernel
theorem dX4_bestShuts_38 : decode cX4_bestShuts 38 = .ok (.invokevirtual 144, 3) := by decide +kernel
theorem dX4_bestShuts_41 : decode cX4_bestShuts 41 = .ok (.aload_n 0, 1) := by decide +kernel
theorem dX4_bestShuts_42 : decode cX4_bestShuts 42 = .ok (.getfield 46, 3) := by decide +kernel
theorem dX4_bestShuts_45 : decode cX4_bestShuts 45 = .ok (.iload_n 3, 1) := by decide +kernel
theorem dX4_bestShuts_46 : decode cX4_bestShuts 46 = .ok (.invokevirtual 163, 3) := by decide +kernel
theorem dX4_bestShuts_49 : decode cX4_bestShuts 49 = .ok (.aload_n 0, 1) := by decide +kernel
theorem dX4_bestShuts_50 : decode cX4_bestShuts 50 = .ok (.getfield 16, 3) := by decide +kernel
theorem dX4_bestShuts_53 : decode cX4_bestShuts 53 = .ok (.iconst 2, 1) := by decide +kernel
theorem dX4_bestShuts_54 : decode cX4_bestShuts 54 = .ok (.invokevirtual 160, 3) := by decide +kernel
theorem dX4_bestShuts_57 : decode cX4_bestShuts 57 = .ok (.imul, 1) := by decide +kernel
theorem dX4_bestShuts_58 : decode cX4_bestShuts 58 = .ok (.iadd, 1) := by decide +kernel
theorem dX4_bestShuts_59 : decode cX4_bestShuts 59 = .ok (.istore 4, 2) := by decide +kernel
theorem dX4_bestShuts_61 : decode cX4_bestShuts 61 = .ok (.iload_n 3, 1) := by decide +kernel
theorem dX4_bestShuts_62 : decode cX4_bestShuts 62 = .ok (.iconst 1, 1) := by decide +kernel
theorem dX4_bestShuts_63 : decode cX4_bestShuts 63 = .ok (.if_icmp .eq 9, 3) := by decide +kernel
theorem dX4_bestShuts_66 : decode cX4_bestShuts 66 = .ok (.iload 4, 2) := by decide +kernel
theorem dX4_bestShuts_68 : decode cX4_bestShuts 68 = .ok (.iload_n 2, 1) := by decide +kernel
theorem dX4_bestShuts_69 : decode cX4_bestShuts 69 = .ok (.if_icmp .ge 8, 3) := by decide +kernel
theorem dX4_bestShuts_72 : decode cX4_bestShuts 72 = .ok (.iload_n 3, 1) := by decide +kernel
theorem dX4_bestShuts_73 : decode cX4_bestShuts 73 = .ok (.istore_n 1, 1) := by decide +kernel
theorem dX4_bestShuts_74 : decode cX4_bestShuts 74 = .ok (.iload 4, 2) := by decide +kernel
theorem dX4_bestShuts_76 : decode cX4_bestShuts 76 = .ok (.istore_n 2, 1) := by decide +kernel
theorem dX4_bestShuts_77 : decode cX4_bestShuts 77 = .ok (.iinc 3 1, 3) := by decide +kernel
theorem dX4_bestShuts_80 : decode cX4_bestShuts 80 = .ok (.goto (-63), 3) := by decide +kernel
theorem dX4_bestShuts_83 : decode cX4_bestShuts 83 = .ok (.iload_n 1, 1) := by decide +kernel
theorem dX4_bestShuts_84 : decode cX4_bestShuts 84 = .ok (.ireturn, 1) := by decide +kernel
theorem dX4_worse_0 : decode cX4_worse 0 = .ok (.aload_n 0, 1) := by decide +kernel
theorem dX4_worse_1 : decode cX4_worse 1 = .ok (.invokevirtual 172, 3) := by decide +kernel
theorem dX4_worse_4 : decode cX4_worse 4 = .ok (.iconst 0, 1) := by decide +kernel
theorem dX4_worse_5 : decode cX4_worse 5 = .ok (.istore_n 1, 1) := by decide +kernel
theorem dX4_worse_6 : decode cX4_worse 6 = .ok (.iload_n 1, 1) := by decide +kernel
theorem dX4_worse_7 : decode cX4_worse 7 = .ok (.aload_n 0, 1) := by decide +kernel
theorem dX4_worse_8 : decode cX4_worse 8 = .ok (.getfield 10, 3) := by decide +kernel
theorem dX4_worse_11 : decode cX4_worse 11 = .ok (.getfield 109, 3) := by decide +kernel
theorem dX4_worse_14 : decode cX4_worse 14 = .ok (.if_icmp .ge 28, 3) := by decide +kernel
theorem dX4_worse_17 : decode cX4_worse 17 = .ok (.aload_n 0, 1) := by decide +kernel
theorem dX4_worse_18 : decode cX4_worse 18 = .ok (.getfield 50, 3) := by decide +kernel
theorem dX4_worse_21 : decode cX4_worse 21 = .ok (.iload_n 1, 1) := by decide +kernel
theorem dX4_worse_22 : decode cX4_worse 22 = .ok (.aload_n 0, 1) := by decide +kernel
theorem dX4_worse_23 : decode cX4_worse 23 = .ok (.getfield 46, 3) := by decide +kernel
theorem dX4_worse_26 : decode cX4_worse 26 = .ok (.getfield 147, 3) := by decide +kernel
theorem dX4_worse_29 : decode cX4_worse 29 = .ok (.iload_n 1, 1) := by decide +kernel
theorem dX4_worse_30 : decode cX4_worse 30 = .ok (.invokestatic 119, 3) := by decide +kernel
theorem dX4_worse_33 : decode cX4_worse 33 = .ok (.invokestatic 175, 3) := by decide +kernel
theorem dX4_worse_36 : decode cX4_worse 36 = .ok (.iinc 1 1, 3) := by decide +kernel
theorem dX4_worse_39 : decode cX4_worse 39 = .ok (.goto (-33), 3) := by decide +kernel
theorem dX4_worse_42 : decode cX4_worse 42 = .ok (.aload_n 0, 1) := by decide +kernel
theorem dX4_worse_43 : decode cX4_worse 43 = .ok (.getfield 46, 3) := by decide +kernel
theorem dX4_worse_46 : decode cX4_worse 46 = .ok (.aload_n 0, 1) := by decide +kernel
theorem dX4_worse_47 : decode cX4_worse 47 = .ok (.getfield 10, 3) := by decide +kernel
theorem dX4_worse_50 : decode cX4_worse 50 = .ok (.invokevirtual 112, 3) := by decide +kernel
theorem dX4_worse_53 : decode cX4_worse 53 = .ok (.iconst 0, 1) := by decide +kernel
theorem dX4_worse_54 : decode cX4_worse 54 = .ok (.istore_n 1, 1) := by decide +kernel
theorem dX4_worse_55 : decode cX4_worse 55 = .ok (.iconst 0, 1) := by decide +kernel
theorem dX4_worse_56 : decode cX4_worse 56 = .ok (.istore_n 2, 1) := by decide +kernel
theorem dX4_worse_57 : decode cX4_worse 57 = .ok (.iload_n 2, 1) := by decide +kernel
theorem dX4_worse_58 : decode cX4_worse 58 = .ok (.aload_n 0, 1) := by decide +kernel
theorem dX4_worse_59 : decode cX4_worse 59 = .ok (.getfield 10, 3) := by decide +kernel
theorem dX4_worse_62 : decode cX4_worse 62 = .ok (.getfield 109, 3) := by decide +kernel
theorem dX4_worse_65 : decode cX4_worse 65 = .ok (.if_icmp .ge 37, 3) := by decide +kernel
theorem dX4_worse_68 : decode cX4_worse 68 = .ok (.aload_n 0, 1) := by decide +kernel
theorem dX4_worse_69 : decode cX4_worse 69 = .ok (.getfield 46, 3) := by decide +kernel
theorem dX4_worse_72 : decode cX4_worse 72 = .ok (.getfield 147, 3) := by decide +kernel
theorem dX4_worse_75 : decode cX4_worse 75 = .ok (.iload_n 2, 1) := by decide +kernel
theorem dX4_worse_76 : decode cX4_worse 76 = .ok (.invokestatic 119, 3) := by decide +kernel
theorem dX4_worse_79 : decode cX4_worse 79 = .ok (.aload_n 0, 1) := by decide +kernel
theorem dX4_worse_80 : decode cX4_worse 80 = .ok (.getfield 50, 3) := by decide +kernel
theorem dX4_worse_83 : decode cX4_worse 83 = .ok (.iload_n 2, 1) := by decide +kernel
theorem dX4_worse_84 : decode cX4_worse 84 = .ok (.invokestatic 119, 3) := by decide +kernel
theorem dX4_worse_87 : decode cX4_worse 87 = .ok (.if_icmp .le 9, 3) := by decide +kernel
theorem dX4_worse_90 : decode cX4_worse 90 = .ok (.iload_n 1, 1) := by decide +kernel
theorem dX4_worse_91 : decode cX4_worse 91 = .ok (.iconst 1, 1) := by decide +kernel
theorem dX4_worse_92 : decode cX4_worse 92 = .ok (.iload_n 2, 1) := by decide +kernel
theorem dX4_worse_93 : decode cX4_worse 93 = .ok (.ishl, 1) := by decide +kernel
theorem dX4_worse_94 : decode cX4_worse 94 = .ok (.ior, 1) := by decide +kernel
theorem dX4_worse_95 : decode cX4_worse 95 = .ok (.istore_n 1, 1) := by decide +kernel
theorem dX4_worse_96 : decode cX4_worse 96 = .ok (.iinc 2 1, 3) := by decide +kernel
theorem dX4_worse_99 : decode cX4_worse 99 = .ok (.goto (-42), 3) := by decide +kernel
theorem dX4_worse_102 : decode cX4_worse 102 = .ok (.iload_n 1, 1) := by decide +kernel
theorem dX4_worse_103 : decode cX4_worse 103 = .ok (.ireturn, 1) := by decide +kernel
theorem dX4_followed_0 : decode cX4_followed 0 = .ok (.aload_n 0, 1) := by decide +kernel
theorem dX4_followed_1 : decode cX4_followed 1 = .ok (.getfield 46, 3) := by decide +kernel
theorem dX4_followed_4 : decode cX4_followed 4 = .ok (.aload_n 0, 1) := by decide +kernel
theorem dX4_followed_5 : decode cX4_followed 5 = .ok (.getfield 10, 3) := by decide +kernel
theorem dX4_followed_8 : decode cX4_followed 8 = .ok (.invokevirtual 112, 3) := by decide +kernel
theorem dX4_followed_11 : decode cX4_followed 11 = .ok (.iconst 0, 1) := by decide +kernel
theorem dX4_followed_12 : decode cX4_followed 12 = .ok (.istore_n 1, 1) := by decide +kernel
theorem dX4_followed_13 : decode cX4_followed 13 = .ok (.iconst 0, 1) := by decide +kernel
theorem dX4_followed_14 : decode cX4_followed 14 = .ok (.istore_n 2, 1) := by decide +kernel
theorem dX4_followed_15 : decode cX4_followed 15 = .ok (.iload_n 2, 1) := by decide +kernel
theorem dX4_followed_16 : decode cX4_followed 16 = .ok (.aload_n 0, 1) := by decide +kernel
theorem dX4_followed_17 : decode cX4_followed 17 = .ok (.getfield 10, 3) := by decide +kernel
theorem dX4_followed_20 : decode cX4_followed 20 = .ok (.getfield 109, 3) := by decide +kernel
theorem dX4_followed_23 : decode cX4_followed 23 = .ok (.if_icmp .ge 42, 3) := by decide +kernel
theorem dX4_followed_26 : decode cX4_followed 26 = .ok (.aload_n 0, 1) := by decide +kernel
theorem dX4_followed_27 : decode cX4_followed 27 = .ok (.getfield 10, 3) := by decide +kernel
theorem dX4_followed_30 : decode cX4_followed 30 = .ok (.iload_n 2, 1) := by decide +kernel
theorem dX4_followed_31 : decode cX4_followed 31 = .ok (.iconst 0, 1) := by decide +kernel
theorem dX4_followed_32 : decode cX4_followed 32 = .ok (.invokevirtual 89, 3) := by decide +kernel
theorem dX4_followed_35 : decode cX4_followed 35 = .ok (.iconst 4, 1) := by decide +kernel
theorem dX4_followed_36 : decode cX4_followed 36 = .ok (.if_icmp .eq 23, 3) := by decide +kernel
theorem dX4_followed_39 : decode cX4_followed 39 = .ok (.aload_n 0, 1) := by decide +kernel
theorem dX4_followed_40 : decode cX4_followed 40 = .ok (.getfield 46, 3) := by decide +kernel
theorem dX4_followed_43 : decode cX4_followed 43 = .ok (.getfield 132, 3) := by decide +kernel
theorem dX4_followed_46 : decode cX4_followed 46 = .ok (.iload_n 2, 1) := by decide +kernel
theorem dX4_followed_47 : decode cX4_followed 47 = .ok (.invokestatic 119, 3) := by decide +kernel
theorem dX4_followed_50 : decode cX4_followed 50 = .ok (.ifCond .ne 9, 3) := by decide +kernel
theorem dX4_followed_53 : decode cX4_followed 53 = .ok (.iload_n 1, 1) := by decide +kernel
theorem dX4_followed_54 : decode cX4_followed 54 = .ok (.iconst 1, 1) := by decide +kernel
theorem dX4_followed_55 : decode cX4_followed 55 = .ok (.iload_n 2, 1) := by decide +kernel
theorem dX4_followed_56 : decode cX4_followed 56 = .ok (.ishl, 1) := by decide +kernel
theorem dX4_followed_57 : decode cX4_followed 57 = .ok (.ior, 1) := by decide +kernel
theorem dX4_followed_58 : decode cX4_followed 58 = .ok (.istore_n 1, 1) := by decide +kernel
theorem dX4_followed_59 : decode cX4_followed 59 = .ok (.iinc 2 1, 3) := by decide +kernel
theorem dX4_followed_62 : decode cX4_followed 62 = .ok (.goto (-47), 3) := by decide +kernel
theorem dX4_followed_65 : decode cX4_followed 65 = .ok (.iload_n 1, 1) := by decide +kernel
theorem dX4_followed_66 : decode cX4_followed 66 = .ok (.ireturn, 1) := by decide +kernel
theorem dX4_porter_0 : decode cX4_porter 0 = .ok (.aload_n 0, 1) := by decide +kernel
theorem dX4_porter_1 : decode cX4_porter 1 = .ok (.invokevirtual 172, 3) := by decide +kernel
theorem dX4_porter_4 : decode cX4_porter 4 = .ok (.aload_n 0, 1) := by decide +kernel
theorem dX4_porter_5 : decode cX4_porter 5 = .ok (.getfield 46, 3) := by decide +kernel
theorem dX4_porter_8 : decode cX4_porter 8 = .ok (.invokevirtual 179, 3) := by decide +kernel
theorem dX4_porter_11 : decode cX4_porter 11 = .ok (.ireturn, 1) := by decide +kernel
theorem dX4_alone_0 : decode cX4_alone 0 = .ok (.aload_n 0, 1) := by decide +kernel
theorem dX4_alone_1 : decode cX4_alone 1 = .ok (.getfield 10, 3) := by decide +kernel
theorem dX4_alone_4 : decode cX4_alone 4 = .ok (.iload_n 1, 1) := by decide +kernel
theorem dX4_alone_5 : decode cX4_alone 5 = .ok (.invokevirtual 82, 3) := by decide +kernel
theorem dX4_alone_8 : decode cX4_alone 8 = .ok (.ifCond .ne 9, 3) := by decide +kernel
theorem dX4_alone_11 : decode cX4_alone 11 = .ok (.aload_n 0, 1) := by decide +kernel
theorem dX4_alone_12 : decode cX4_alone 12 = .ok (.iconst (-1), 1) := by decide +kernel
theorem dX4_alone_13 : decode cX4_alone 13 = .ok (.invokevirtual 64, 3) := by decide +kernel
theorem dX4_alone_16 : decode cX4_alone 16 = .ok (.ireturn, 1) := by decide +kernel
theorem dX4_alone_17 : decode cX4_alone 17 = .ok (.aload_n 0, 1) := by decide +kernel
theorem dX4_alone_18 : decode cX4_alone 18 = .ok (.getfield 16, 3) := by decide +kernel
theorem dX4_alone_21 : decode cX4_alone 21 = .ok (.aload_n 0, 1) := by decide +kernel
theorem dX4_alone_22 : decode cX4_alone 22 = .ok (.getfield 10, 3) := by decide +kernel
theorem dX4_alone_25 : decode cX4_alone 25 = .ok (.invokevirtual 166, 3) := by decide +kernel
theorem dX4_alone_28 : decode cX4_alone 28 = .ok (.aload_n 0, 1) := by decide +kernel
theorem dX4_alone_29 : decode cX4_alone 29 = .ok (.getfield 16, 3) := by decide +kernel
theorem dX4_alone_32 : decode cX4_alone 32 = .ok (.iload_n 1, 1) := by decide +kernel
theorem dX4_alone_33 : decode cX4_alone 33 = .ok (.invokevirtual 182, 3) := by decide +kernel
theorem dX4_alone_36 : decode cX4_alone 36 = .ok (.aload_n 0, 1) := by decide +kernel
theorem dX4_alone_37 : decode cX4_alone 37 = .ok (.aload_n 0, 1) := by decide +kernel
theorem dX4_alone_38 : decode cX4_alone 38 = .ok (.getfield 16, 3) := by decide +kernel
theorem dX4_alone_41 : decode cX4_alone 41 = .ok (.invokevirtual 144, 3) := by decide +kernel
theorem dX4_alone_44 : decode cX4_alone 44 = .ok (.ireturn, 1) := by decide +kernel
theorem dX4_film_0 : decode cX4_film 0 = .ok (.aload_n 0, 1) := by decide +kernel
theorem dX4_film_1 : decode cX4_film 1 = .ok (.iload_n 1, 1) := by decide +kernel
theorem dX4_film_2 : decode cX4_film 2 = .ok (.iload_n 3, 1) := by decide +kernel
theorem dX4_film_3 : decode cX4_film 3 = .ok (.iload_n 2, 1) := by decide +kernel
theorem dX4_film_4 : decode cX4_film 4 = .ok (.invokestatic 99, 3) := by decide +kernel
theorem dX4_film_7 : decode cX4_film 7 = .ok (.ifCond .eq 15, 3) := by decide +kernel
theorem dX4_film_10 : decode cX4_film 10 = .ok (.iload 4, 2) := by decide +kernel
theorem dX4_film_12 : decode cX4_film 12 = .ok (.invokestatic 99, 3) := by decide +kernel
theorem dX4_film_15 : decode cX4_film 15 = .ok (.ifCond .eq 7, 3) := by decide +kernel
theorem dX4_film_18 : decode cX4_film 18 = .ok (.iconst 1, 1) := by decide +kernel
theorem dX4_film_19 : decode cX4_film 19 = .ok (.goto 4, 3) := by decide +kernel
theorem dX4_film_22 : decode cX4_film 22 = .ok (.iconst 0, 1) := by decide +kernel
theorem dX4_film_23 : decode cX4_film 23 = .ok (.invokevirtual 185, 3) := by decide +kernel
theorem dX4_film_26 : decode cX4_film 26 = .ok (.istore 5, 2) := by decide +kernel
theorem dX4_film_28 : decode cX4_film 28 = .ok (.iload 5, 2) := by decide +kernel
theorem dX4_film_30 : decode cX4_film 30 = .ok (.ifCond .eq 10, 3) := by decide +kernel
theorem dX4_film_33 : decode cX4_film 33 = .ok (.aload_n 0, 1) := by decide +kernel
theorem dX4_film_34 : decode cX4_film 34 = .ok (.iload 5, 2) := by decide +kernel
theorem dX4_film_36 : decode cX4_film 36 = .ok (.invokevirtual 64, 3) := by decide +kernel
theorem dX4_film_39 : decode cX4_film 39 = .ok (.ireturn, 1) := by decide +kernel
theorem dX4_film_40 : decode cX4_film 40 = .ok (.aload_n 0, 1) := by decide +kernel
theorem dX4_film_41 : decode cX4_film 41 = .ok (.getfield 22, 3) := by decide +kernel
theorem dX4_film_44 : decode cX4_film 44 = .ok (.iload_n 1, 1) := by decide +kernel
theorem dX4_film_45 : decode cX4_film 45 = .ok (.iload_n 2, 1) := by decide +kernel
theorem dX4_film_46 : decode cX4_film 46 = .ok (.iload_n 3, 1) := by decide +kernel
theorem dX4_film_47 : decode cX4_film 47 = .ok (.iload 4, 2) := by decide +kernel
theorem dX4_film_49 : decode cX4_film 49 = .ok (.invokevirtual 188, 3) := by decide +kernel
theorem dX4_film_52 : decode cX4_film 52 = .ok (.aload_n 0, 1) := by decide +kernel
theorem dX4_film_53 : decode cX4_film 53 = .ok (.getfield 22, 3) := by decide +kernel
theorem dX4_film_56 : decode cX4_film 56 = .ok (.getfield 191, 3) := by decide +kernel
theorem dX4_film_59 : decode cX4_film 59 = .ok (.ireturn, 1) := by decide +kernel
theorem dX4_told_0 : decode cX4_told 0 = .ok (.aload_n 0, 1) := by decide +kernel
theorem dX4_told_1 : decode cX4_told 1 = .ok (.iload_n 1, 1) := by decide +kernel
theorem dX4_told_2 : decode cX4_told 2 = .ok (.iload_n 3, 1) := by decide +kernel
theorem dX4_told_3 : decode cX4_told 3 = .ok (.iload_n 2, 1) := by decide +kernel
theorem dX4_told_4 : decode cX4_told 4 = .ok (.invokestatic 99, 3) := by decide +kernel
theorem dX4_told_7 : decode cX4_told 7 = .ok (.invokevirtual 185, 3) := by decide +kernel
theorem dX4_told_10 : decode cX4_told 10 = .ok (.istore 4, 2) := by decide +kernel
theorem dX4_told_12 : decode cX4_told 12 = .ok (.iload 4, 2) := by decide +kernel
theorem dX4_told_14 : decode cX4_told 14 = .ok (.ifCond .eq 10, 3) := by decide +kernel
theorem dX4_told_17 : decode cX4_told 17 = .ok (.aload_n 0, 1) := by decide +kernel
theorem dX4_told_18 : decode cX4_told 18 = .ok (.iload 4, 2) := by decide +kernel
theorem dX4_told_20 : decode cX4_told 20 = .ok (.invokevirtual 64, 3) := by decide +kernel
theorem dX4_told_23 : decode cX4_told 23 = .ok (.ireturn, 1) := by decide +kernel
theorem dX4_told_24 : decode cX4_told 24 = .ok (.aload_n 0, 1) := by decide +kernel
theorem dX4_told_25 : decode cX4_told 25 = .ok (.getfield 10, 3) := by decide +kernel
theorem dX4_told_28 : decode cX4_told 28 = .ok (.iconst 4, 1) := by decide +kernel
theorem dX4_told_29 : decode cX4_told 29 = .ok (.invokevirtual 160, 3) := by decide +kernel
theorem dX4_told_32 : decode cX4_told 32 = .ok (.invokestatic 192, 3) := by decide +kernel
theorem dX4_told_35 : decode cX4_told 35 = .ok (.ifCond .ne 10, 3) := by decide +kernel
theorem dX4_told_38 : decode cX4_told 38 = .ok (.aload_n 0, 1) := by decide +kernel
theorem dX4_told_39 : decode cX4_told 39 = .ok (.bipush (-3), 2) := by decide +kernel
theorem dX4_told_41 : decode cX4_told 41 = .ok (.invokevirtual 64, 3) := by decide +kernel
theorem dX4_told_44 : decode cX4_told 44 = .ok (.ireturn, 1) := by decide +kernel
theorem dX4_told_45 : decode cX4_told 45 = .ok (.iload_n 1, 1) := by decide +kernel
theorem dX4_told_46 : decode cX4_told 46 = .ok (.aload_n 0, 1) := by decide +kernel
theorem dX4_told_47 : decode cX4_told 47 = .ok (.getfield 10, 3) := by decide +kernel
theorem dX4_told_50 : decode cX4_told 50 = .ok (.iconst 4, 1) := by decide +kernel
theorem dX4_told_51 : decode cX4_told 51 = .ok (.invokevirtual 160, 3) := by decide +kernel
theorem dX4_told_54 : decode cX4_told 54 = .ok (.aload_n 0, 1) := by decide +kernel
theorem dX4_told_55 : decode cX4_told 55 = .ok (.getfield 10, 3) := by decide +kernel
theorem dX4_told_58 : decode cX4_told 58 = .ok (.iconst 3, 1) := by decide +kernel
theorem dX4_told_59 : decode cX4_told 59 = .ok (.invokevirtual 160, 3) := by decide +kernel
theorem dX4_told_62 : decode cX4_told 62 = .ok (.iload_n 2, 1) := by decide +kernel
theorem dX4_told_63 : decode cX4_told 63 = .ok (.iload_n 3, 1) := by decide +kernel
theorem dX4_told_64 : decode cX4_told 64 = .ok (.invokestatic 195, 3) := by decide +kernel
theorem dX4_told_67 : decode cX4_told 67 = .ok (.if_icmp .gt 7, 3) := by decide +kernel
theorem dX4_told_70 : decode cX4_told 70 = .ok (.iconst 1, 1) := by decide +kernel
theorem dX4_told_71 : decode cX4_told 71 = .ok (.goto 4, 3) := by decide +kernel
theorem dX4_told_74 : decode cX4_told 74 = .ok (.iconst 0, 1) := by decide +kernel
theorem dX4_told_75 : decode cX4_told 75 = .ok (.istore 5, 2) := by decide +kernel
theorem dX4_told_77 : decode cX4_told 77 = .ok (.aload_n 0, 1) := by decide +kernel
theorem dX4_told_78 : decode cX4_told 78 = .ok (.getfield 22, 3) := by decide +kernel
theorem dX4_told_81 : decode cX4_told 81 = .ok (.iload_n 1, 1) := by decide +kernel
theorem dX4_told_82 : decode cX4_told 82 = .ok (.iload_n 2, 1) := by decide +kernel
theorem dX4_told_83 : decode cX4_told 83 = .ok (.iload_n 3, 1) := by decide +kernel
theorem dX4_told_84 : decode cX4_told 84 = .ok (.iload 5, 2) := by decide +kernel
theorem dX4_told_86 : decode cX4_told 86 = .ok (.invokevirtual 188, 3) := by decide +kernel
theorem dX4_told_89 : decode cX4_told 89 = .ok (.iload 5, 2) := by decide +kernel
theorem dX4_told_91 : decode cX4_told 91 = .ok (.ireturn, 1) := by decide +kernel
theorem dX4_fitting_0 : decode cX4_fitting 0 = .ok (.iload_n 1, 1) := by decide +kernel
theorem dX4_fitting_1 : decode cX4_fitting 1 = .ok (.invokestatic 192, 3) := by decide +kernel
theorem dX4_fitting_4 : decode cX4_fitting 4 = .ok (.ifCond .eq 12, 3) := by decide +kernel
theorem dX4_fitting_7 : decode cX4_fitting 7 = .ok (.iload_n 2, 1) := by decide +kernel
theorem dX4_fitting_8 : decode cX4_fitting 8 = .ok (.ifCond .lt 8, 3) := by decide +kernel
theorem dX4_fitting_11 : decode cX4_fitting 11 = .ok (.iload_n 2, 1) := by decide +kernel
theorem dX4_fitting_12 : decode cX4_fitting 12 = .ok (.iconst 2, 1) := by decide +kernel
theorem dX4_fitting_13 : decode cX4_fitting 13 = .ok (.if_icmp .le 10, 3) := by decide +kernel
theorem dX4_fitting_16 : decode cX4_fitting 16 = .ok (.aload_n 0, 1) := by decide +kernel
theorem dX4_fitting_17 : decode cX4_fitting 17 = .ok (.bipush (-2), 2) := by decide +kernel
theorem dX4_fitting_19 : decode cX4_fitting 19 = .ok (.invokevirtual 64, 3) := by decide +kernel
theorem dX4_fitting_22 : decode cX4_fitting 22 = .ok (.ireturn, 1) := by decide +kernel
theorem dX4_fitting_23 : decode cX4_fitting 23 = .ok (.iconst 0, 1) := by decide +kernel
theorem dX4_fitting_24 : decode cX4_fitting 24 = .ok (.istore_n 3, 1) := by decide +kernel
theorem dX4_fitting_25 : decode cX4_fitting 25 = .ok (.bipush (-9), 2) := by decide +kernel
theorem dX4_fitting_27 : decode cX4_fitting 27 = .ok (.istore 4, 2) := by decide +kernel
theorem dX4_fitting_29 : decode cX4_fitting 29 = .ok (.bipush (-9), 2) := by decide +kernel
theorem dX4_fitting_31 : decode cX4_fitting 31 = .ok (.istore 5, 2) := by decide +kernel
theorem dX4_fitting_33 : decode cX4_fitting 33 = .ok (.iconst 0, 1) := by decide +kernel
theorem dX4_fitting_34 : decode cX4_fitting 34 = .ok (.istore 6, 2) := by decide +kernel
theorem dX4_fitting_36 : decode cX4_fitting 36 = .ok (.iload 6, 2) := by decide +kernel
theorem dX4_fitting_38 : decode cX4_fitting 38 = .ok (.bipush 40, 2) := by decide +kernel
theorem dX4_fitting_40 : decode cX4_fitting 40 = .ok (.if_icmp .gt 42, 3) := by decide +kernel
theorem dX4_fitting_43 : decode cX4_fitting 43 = .ok (.aload_n 0, 1) := by decide +kernel
theorem dX4_fitting_44 : decode cX4_fitting 44 = .ok (.getfield 22, 3) := by decide +kernel
theorem dX4_fitting_47 : decode cX4_fitting 47 = .ok (.iload_n 1, 1) := by decide +kernel
theorem dX4_fitting_48 : decode cX4_fitting 48 = .ok (.iload 6, 2) := by decide +kernel
theorem dX4_fitting_50 : decode cX4_fitting 50 = .ok (.invokevirtual 199, 3) := by decide +kernel
theorem dX4_fitting_53 : decode cX4_fitting 53 = .ok (.ifCond .eq 23, 3) := by decide +kernel
theorem dX4_fitting_56 : decode cX4_fitting 56 = .ok (.iload_n 3, 1) := by decide +kernel
theorem dX4_fitting_57 : decode cX4_fitting 57 = .ok (.ifCond .ne 8, 3) := by decide +kernel
theorem dX4_fitting_60 : decode cX4_fitting 60 = .ok (.iload 6, 2) := by decide +kernel
theorem dX4_fitting_62 : decode cX4_fitting 62 = .ok (.goto 5, 3) := by decide +kernel
theorem dX4_fitting_65 : decode cX4_fitting 65 = .ok (.iload 4, 2) := by decide +kernel
theorem dX4_fitting_67 : decode cX4_fitting 67 = .ok (.istore 4, 2) := by decide +kernel
theorem dX4_fitting_69 : decode cX4_fitting 69 = .ok (.iload 6, 2) := by decide +kernel
theorem dX4_fitting_71 : decode cX4_fitting 71 = .ok (.istore 5, 2) := by decide +kernel
theorem dX4_fitting_73 : decode cX4_fitting 73 = .ok (.iinc 3 1, 3) := by decide +kernel
theorem dX4_fitting_76 : decode cX4_fitting 76 = .ok (.iinc 6 1, 3) := by decide +kernel
theorem dX4_fitting_79 : decode cX4_fitting 79 = .ok (.goto (-43), 3) := by decide +kernel
theorem dX4_fitting_82 : decode cX4_fitting 82 = .ok (.iload_n 2, 1) := by decide +kernel
theorem dX4_fitting_83 : decode cX4_fitting 83 = .ok (.ifCond .ne 5, 3) := by decide +kernel
theorem dX4_fitting_86 : decode cX4_fitting 86 = .ok (.iload_n 3, 1) := by decide +kernel
theorem dX4_fitting_87 : decode cX4_fitting 87 = .ok (.ireturn, 1) := by decide +kernel
theorem dX4_fitting_88 : decode cX4_fitting 88 = .ok (.iload_n 2, 1) := by decide +kernel
theorem dX4_fitting_89 : decode cX4_fitting 89 = .ok (.iconst 1, 1) := by decide +kernel
theorem dX4_fitting_90 : decode cX4_fitting 90 = .ok (.if_icmp .ne 8, 3) := by decide +kernel
theorem dX4_fitting_93 : decode cX4_fitting 93 = .ok (.iload 4, 2) := by decide +kernel
theorem dX4_fitting_95 : decode cX4_fitting 95 = .ok (.goto 5, 3) := by decide +kernel
theorem dX4_fitting_98 : decode cX4_fitting 98 = .ok (.iload 5, 2) := by decide +kernel
theorem dX4_fitting_100 : decode cX4_fitting 100 = .ok (.ireturn, 1) := by decide +kernel
theorem dX4_seeds_0 : decode cX4_seeds 0 = .ok (.iload_n 1, 1) := by decide +kernel
theorem dX4_seeds_1 : decode cX4_seeds 1 = .ok (.iconst 1, 1) := by decide +kernel
theorem dX4_seeds_2 : decode cX4_seeds 2 = .ok (.if_icmp .ge 10, 3) := by decide +kernel
theorem dX4_seeds_5 : decode cX4_seeds 5 = .ok (.aload_n 0, 1) := by decide +kernel
theorem dX4_seeds_6 : decode cX4_seeds 6 = .ok (.bipush (-4), 2) := by decide +kernel
theorem dX4_seeds_8 : decode cX4_seeds 8 = .ok (.invokevirtual 64, 3) := by decide +kernel
theorem dX4_seeds_11 : decode cX4_seeds 11 = .ok (.ireturn, 1) := by decide +kernel
theorem dX4_seeds_12 : decode cX4_seeds 12 = .ok (.iload_n 1, 1) := by decide +kernel
theorem dX4_seeds_13 : decode cX4_seeds 13 = .ok (.bipush 20, 2) := by decide +kernel
theorem dX4_seeds_15 : decode cX4_seeds 15 = .ok (.if_icmp .le 10, 3) := by decide +kernel
theorem dX4_seeds_18 : decode cX4_seeds 18 = .ok (.aload_n 0, 1) := by decide +kernel
theorem dX4_seeds_19 : decode cX4_seeds 19 = .ok (.bipush (-6), 2) := by decide +kernel
theorem dX4_seeds_21 : decode cX4_seeds 21 = .ok (.invokevirtual 64, 3) := by decide +kernel
theorem dX4_seeds_24 : decode cX4_seeds 24 = .ok (.ireturn, 1) := by decide +kernel
theorem dX4_seeds_25 : decode cX4_seeds 25 = .ok (.aload_n 0, 1) := by decide +kernel
theorem dX4_seeds_26 : decode cX4_seeds 26 = .ok (.getfield 16, 3) := by decide +kernel
theorem dX4_seeds_29 : decode cX4_seeds 29 = .ok (.aload_n 0, 1) := by decide +kernel
theorem dX4_seeds_30 : decode cX4_seeds 30 = .ok (.getfield 10, 3) := by decide +kernel
theorem dX4_seeds_33 : decode cX4_seeds 33 = .ok (.invokevirtual 166, 3) := by decide +kernel
theorem dX4_seeds_36 : decode cX4_seeds 36 = .ok (.iload_n 2, 1) := by decide +kernel
theorem dX4_seeds_37 : decode cX4_seeds 37 = .ok (.istore_n 3, 1) := by decide +kernel
theorem dX4_seeds_38 : decode cX4_seeds 38 = .ok (.iconst 0, 1) := by decide +kernel
theorem dX4_seeds_39 : decode cX4_seeds 39 = .ok (.istore 4, 2) := by decide +kernel
theorem dX4_seeds_41 : decode cX4_seeds 41 = .ok (.iconst 0, 1) := by decide +kernel
theorem dX4_seeds_42 : decode cX4_seeds 42 = .ok (.istore 5, 2) := by decide +kernel
theorem dX4_seeds_44 : decode cX4_seeds 44 = .ok (.iload 5, 2) := by decide +kernel
theorem dX4_seeds_46 : decode cX4_seeds 46 = .ok (.iload_n 1, 1) := by decide +kernel
theorem dX4_seeds_47 : decode cX4_seeds 47 = .ok (.if_icmp .ge 81, 3) := by decide +kernel
theorem dX4_seeds_50 : decode cX4_seeds 50 = .ok (.iconst 0, 1) := by decide +kernel
theorem dX4_seeds_51 : decode cX4_seeds 51 = .ok (.istore 6, 2) := by decide +kernel
theorem dX4_seeds_53 : decode cX4_seeds 53 = .ok (.iload 6, 2) := by decide +kernel
theorem dX4_seeds_55 : decode cX4_seeds 55 = .ok (.aload_n 0, 1) := by decide +kernel
theorem dX4_seeds_56 : decode cX4_seeds 56 = .ok (.getfield 16, 3) := by decide +kernel
theorem dX4_seeds_59 : decode cX4_seeds 59 = .ok (.getfield 109, 3) := by decide +kernel
theorem dX4_seeds_62 : decode cX4_seeds 62 = .ok (.if_icmp .ge 37, 3) := by decide +kernel
theorem dX4_seeds_65 : decode cX4_seeds 65 = .ok (.iload_n 3, 1) := by decide +kernel
theorem dX4_seeds_66 : decode cX4_seeds 66 = .ok (.ldc 203, 2) := by decide +kernel
theorem dX4_seeds_68 : decode cX4_seeds 68 = .ok (.imul, 1) := by decide +kernel
theorem dX4_seeds_69 : decode cX4_seeds 69 = .ok (.ldc 204, 2) := by decide +kernel
theorem dX4_seeds_71 : decode cX4_seeds 71 = .ok (.iadd, 1) := by decide +kernel
theorem dX4_seeds_72 : decode cX4_seeds 72 = .ok (.istore_n 3, 1) := by decide +kernel
theorem dX4_seeds_73 : decode cX4_seeds 73 = .ok (.aload_n 0, 1) := by decide +kernel
theorem dX4_seeds_74 : decode cX4_seeds 74 = .ok (.getfield 16, 3) := by decide +kernel
theorem dX4_seeds_77 : decode cX4_seeds 77 = .ok (.iload 6, 2) := by decide +kernel
theorem dX4_seeds_79 : decode cX4_seeds 79 = .ok (.iconst 5, 1) := by decide +kernel
theorem dX4_seeds_80 : decode cX4_seeds 80 = .ok (.iload_n 3, 1) := by decide +kernel
theorem dX4_seeds_81 : decode cX4_seeds 81 = .ok (.ldc 205, 2) := by decide +kernel
theorem dX4_seeds_83 : decode cX4_seeds 83 = .ok (.iand, 1) := by decide +kernel
theorem dX4_seeds_84 : decode cX4_seeds 84 = .ok (.sipush 256, 3) := by decide +kernel
theorem dX4_seeds_87 : decode cX4_seeds 87 = .ok (.idiv, 1) := by decide +kernel
theorem dX4_seeds_88 : decode cX4_seeds 88 = .ok (.iconst 2, 1) := by decide +kernel
theorem dX4_seeds_89 : decode cX4_seeds 89 = .ok (.irem, 1) := by decide +kernel
theorem dX4_seeds_90 : decode cX4_seeds 90 = .ok (.invokevirtual 206, 3) := by decide +kernel
theorem dX4_seeds_93 : decode cX4_seeds 93 = .ok (.iinc 6 1, 3) := by decide +kernel
theorem dX4_seeds_96 : decode cX4_seeds 96 = .ok (.goto (-43), 3) := by decide +kernel
theorem dX4_seeds_99 : decode cX4_seeds 99 = .ok (.aload_n 0, 1) := by decide +kernel
theorem dX4_seeds_100 : decode cX4_seeds 100 = .ok (.getfield 46, 3) := by decide +kernel
theorem dX4_seeds_103 : decode cX4_seeds 103 = .ok (.aload_n 0, 1) := by decide +kernel
theorem dX4_seeds_104 : decode cX4_seeds 104 = .ok (.getfield 16, 3) := by decide +kernel
theorem dX4_seeds_107 : decode cX4_seeds 107 = .ok (.invokevirtual 112, 3) := by decide +kernel
theorem dX4_seeds_110 : decode cX4_seeds 110 = .ok (.iload 4, 2) := by decide +kernel
theorem dX4_seeds_112 : decode cX4_seeds 112 = .ok (.aload_n 0, 1) := by decide +kernel
theorem dX4_seeds_113 : decode cX4_seeds 113 = .ok (.getfield 46, 3) := by decide +kernel
theorem dX4_seeds_116 : decode cX4_seeds 116 = .ok (.invokevirtual 150, 3) := by decide +kernel
theorem dX4_seeds_119 : decode cX4_seeds 119 = .ok (.iadd, 1) := by decide +kernel
theorem dX4_seeds_120 : decode cX4_seeds 120 = .ok (.istore 4, 2) := by decide +kernel
theorem dX4_seeds_122 : decode cX4_seeds 122 = .ok (.iinc 5 1, 3) := by decide +kernel
theorem dX4_seeds_125 : decode cX4_seeds 125 = .ok (.goto (-81), 3) := by decide +kernel
theorem dX4_seeds_128 : decode cX4_seeds 128 = .ok (.iload 4, 2) := by decide +kernel
theorem dX4_seeds_130 : decode cX4_seeds 130 = .ok (.ireturn, 1) := by decide +kernel
theorem dX4_row_0 : decode cX4_row 0 = .ok (.iload_n 1, 1) := by decide +kernel
theorem dX4_row_1 : decode cX4_row 1 = .ok (.ifCond .ge 10, 3) := by decide +kernel
theorem dX4_row_4 : decode cX4_row 4 = .ok (.aload_n 0, 1) := by decide +kernel
theorem dX4_row_5 : decode cX4_row 5 = .ok (.bipush (-4), 2) := by decide +kernel
theorem dX4_row_7 : decode cX4_row 7 = .ok (.invokevirtual 64, 3) := by decide +kernel
theorem dX4_row_10 : decode cX4_row 10 = .ok (.ireturn, 1) := by decide +kernel
theorem dX4_row_11 : decode cX4_row 11 = .ok (.iload_n 1, 1) := by decide +kernel
theorem dX4_row_12 : decode cX4_row 12 = .ok (.bipush 9, 2) := by decide +kernel
theorem dX4_row_14 : decode cX4_row 14 = .ok (.if_icmp .gt 12, 3) := by decide +kernel
theorem dX4_row_17 : decode cX4_row 17 = .ok (.aload_n 0, 1) := by decide +kernel
theorem dX4_row_18 : decode cX4_row 18 = .ok (.getfield 57, 3) := by decide +kernel
theorem dX4_row_21 : decode cX4_row 21 = .ok (.bipush 8, 2) := by decide +kernel
theorem dX4_row_23 : decode cX4_row 23 = .ok (.if_icmp .lt 10, 3) := by decide +kernel
theorem dX4_row_26 : decode cX4_row 26 = .ok (.aload_n 0, 1) := by decide +kernel
theorem dX4_row_27 : decode cX4_row 27 = .ok (.bipush (-6), 2) := by decide +kernel
theorem dX4_row_29 : decode cX4_row 29 = .ok (.invokevirtual 64, 3) := by decide +kernel
theorem dX4_row_32 : decode cX4_row 32 = .ok (.ireturn, 1) := by decide +kernel
theorem dX4_row_33 : decode cX4_row 33 = .ok (.aload_n 0, 1) := by decide +kernel
theorem dX4_row_34 : decode cX4_row 34 = .ok (.getfield 54, 3) := by decide +kernel
theorem dX4_row_37 : decode cX4_row 37 = .ok (.aload_n 0, 1) := by decide +kernel
theorem dX4_row_38 : decode cX4_row 38 = .ok (.getfield 57, 3) := by decide +kernel
theorem dX4_row_41 : decode cX4_row 41 = .ok (.iload_n 1, 1) := by decide +kernel
theorem dX4_row_42 : decode cX4_row 42 = .ok (.invokestatic 175, 3) := by decide +kernel
theorem dX4_row_45 : decode cX4_row 45 = .ok (.aload_n 0, 1) := by decide +kernel
theorem dX4_row_46 : decode cX4_row 46 = .ok (.dup, 1) := by decide +kernel
theorem dX4_row_47 : decode cX4_row 47 = .ok (.getfield 57, 3) := by decide +kernel
theorem dX4_row_50 : decode cX4_row 50 = .ok (.iconst 1, 1) := by decide +kernel
theorem dX4_row_51 : decode cX4_row 51 = .ok (.iadd, 1) := by decide +kernel
theorem dX4_row_52 : decode cX4_row 52 = .ok (.putfield 57, 3) := by decide +kernel
theorem dX4_row_55 : decode cX4_row 55 = .ok (.aload_n 0, 1) := by decide +kernel
theorem dX4_row_56 : decode cX4_row 56 = .ok (.getfield 57, 3) := by decide +kernel
theorem dX4_row_59 : decode cX4_row 59 = .ok (.ireturn, 1) := by decide +kernel
theorem dX4_judge_0 : decode cX4_judge 0 = .ok (.aload_n 0, 1) := by decide +kernel
theorem dX4_judge_1 : decode cX4_judge 1 = .ok (.getfield 46, 3) := by decide +kernel
theorem dX4_judge_4 : decode cX4_judge 4 = .ok (.aload_n 0, 1) := by decide +kernel
theorem dX4_judge_5 : decode cX4_judge 5 = .ok (.getfield 10, 3) := by decide +kernel
theorem dX4_judge_8 : decode cX4_judge 8 = .ok (.invokevirtual 112, 3) := by decide +kernel
theorem dX4_judge_11 : decode cX4_judge 11 = .ok (.aload_n 0, 1) := by decide +kernel
theorem dX4_judge_12 : decode cX4_judge 12 = .ok (.getfield 57, 3) := by decide +kernel
theorem dX4_judge_15 : decode cX4_judge 15 = .ok (.istore_n 1, 1) := by decide +kernel
theorem dX4_judge_16 : decode cX4_judge 16 = .ok (.iload_n 1, 1) := by decide +kernel
theorem dX4_judge_17 : decode cX4_judge 17 = .ok (.aload_n 0, 1) := by decide +kernel
theorem dX4_judge_18 : decode cX4_judge 18 = .ok (.getfield 10, 3) := by decide +kernel
theorem dX4_judge_21 : decode cX4_judge 21 = .ok (.getfield 109, 3) := by decide +kernel
theorem dX4_judge_24 : decode cX4_judge 24 = .ok (.invokestatic 210, 3) := by decide +kernel
theorem dX4_judge_27 : decode cX4_judge 27 = .ok (.istore_n 2, 1) := by decide +kernel
theorem dX4_judge_28 : decode cX4_judge 28 = .ok (.aload_n 0, 1) := by decide +kernel
theorem dX4_judge_29 : decode cX4_judge 29 = .ok (.iconst 0, 1) := by decide +kernel
theorem dX4_judge_30 : decode cX4_judge 30 = .ok (.putfield 57, 3) := by decide +kernel
theorem dX4_judge_33 : decode cX4_judge 33 = .ok (.iconst 0, 1) := by decide +kernel
theorem dX4_judge_34 : decode cX4_judge 34 = .ok (.istore_n 3, 1) := by decide +kernel
theorem dX4_judge_35 : decode cX4_judge 35 = .ok (.iload_n 3, 1) := by decide +kernel
theorem dX4_judge_36 : decode cX4_judge 36 = .ok (.iload_n 2, 1) := by decide +kernel
theorem dX4_judge_37 : decode cX4_judge 37 = .ok (.if_icmp .ge 33, 3) := by decide +kernel
theorem dX4_judge_40 : decode cX4_judge 40 = .ok (.aload_n 0, 1) := by decide +kernel
theorem dX4_judge_41 : decode cX4_judge 41 = .ok (.getfield 54, 3) := by decide +kernel
theorem dX4_judge_44 : decode cX4_judge 44 = .ok (.iload_n 3, 1) := by decide +kernel
theorem dX4_judge_45 : decode cX4_judge 45 = .ok (.invokestatic 119, 3) := by decide +kernel
theorem dX4_judge_48 : decode cX4_judge 48 = .ok (.aload_n 0, 1) := by decide +kernel
theorem dX4_judge_49 : decode cX4_judge 49 = .ok (.getfield 46, 3) := by decide +kernel
theorem dX4_judge_52 : decode cX4_judge 52 = .ok (.getfield 116, 3) := by decide +kernel
theorem dX4_judge_55 : decode cX4_judge 55 = .ok (.iload_n 3, 1) := by decide +kernel
theorem dX4_judge_56 : decode cX4_judge 56 = .ok (.invokestatic 119, 3) := by decide +kernel
theorem dX4_judge_59 : decode cX4_judge 59 = .ok (.if_icmp .eq 5, 3) := by decide +kernel
theorem dX4_judge_62 : decode cX4_judge 62 = .ok (.iload_n 3, 1) := by decide +kernel
theorem dX4_judge_63 : decode cX4_judge 63 = .ok (.ireturn, 1) := by decide +kernel
theorem dX4_judge_64 : decode cX4_judge 64 = .ok (.iinc 3 1, 3) := by decide +kernel
theorem dX4_judge_67 : decode cX4_judge 67 = .ok (.goto (-32), 3) := by decide +kernel
theorem dX4_judge_70 : decode cX4_judge 70 = .ok (.iload_n 1, 1) := by decide +kernel
theorem dX4_judge_71 : decode cX4_judge 71 = .ok (.aload_n 0, 1) := by decide +kernel
theorem dX4_judge_72 : decode cX4_judge 72 = .ok (.getfield 10, 3) := by decide +kernel
theorem dX4_judge_75 : decode cX4_judge 75 = .ok (.getfield 109, 3) := by decide +kernel
theorem dX4_judge_78 : decode cX4_judge 78 = .ok (.if_icmp .ne 8, 3) := by decide +kernel
theorem dX4_judge_81 : decode cX4_judge 81 = .ok (.bipush (-9), 2) := by decide +kernel
theorem dX4_judge_83 : decode cX4_judge 83 = .ok (.goto 4, 3) := by decide +kernel
theorem dX4_judge_86 : decode cX4_judge 86 = .ok (.iload_n 2, 1) := by decide +kernel
theorem dX4_judge_87 : decode cX4_judge 87 = .ok (.ireturn, 1) := by decide +kernel
theorem dX4_image_0 : decode cX4_image 0 = .ok (.aload_n 0, 1) := by decide +kernel
theorem dX4_image_1 : decode cX4_image 1 = .ok (.getfield 26, 3) := by decide +kernel
theorem dX4_image_4 : decode cX4_image 4 = .ok (.aload_n 0, 1) := by decide +kernel
theorem dX4_image_5 : decode cX4_image 5 = .ok (.getfield 10, 3) := by decide +kernel
theorem dX4_image_8 : decode cX4_image 8 = .ok (.invokevirtual 166, 3) := by decide +kernel
theorem dX4_image_11 : decode cX4_image 11 = .ok (.aload_n 0, 1) := by decide +kernel
theorem dX4_image_12 : decode cX4_image 12 = .ok (.getfield 29, 3) := by decide +kernel
theorem dX4_image_15 : decode cX4_image 15 = .ok (.aload_n 0, 1) := by decide +kernel
theorem dX4_image_16 : decode cX4_image 16 = .ok (.getfield 22, 3) := by decide +kernel
theorem dX4_image_19 : decode cX4_image 19 = .ok (.invokevirtual 215, 3) := by decide +kernel
theorem dX4_image_22 : decode cX4_image 22 = .ok (.aload_n 0, 1) := by decide +kernel
theorem dX4_image_23 : decode cX4_image 23 = .ok (.iconst 1, 1) := by decide +kernel
theorem dX4_image_24 : decode cX4_image 24 = .ok (.putfield 32, 3) := by decide +kernel
theorem dX4_image_27 : decode cX4_image 27 = .ok (.aload_n 0, 1) := by decide +kernel
theorem dX4_image_28 : decode cX4_image 28 = .ok (.getfield 10, 3) := by decide +kernel
theorem dX4_image_31 : decode cX4_image 31 = .ok (.getfield 109, 3) := by decide +kernel
theorem dX4_image_34 : decode cX4_image 34 = .ok (.ireturn, 1) := by decide +kernel
theorem dX4_on_0 : decode cX4_on 0 = .ok (.aload_n 0, 1) := by decide +kernel
theorem dX4_on_1 : decode cX4_on 1 = .ok (.getfield 32, 3) := by decide +kernel
theorem dX4_on_4 : decode cX4_on 4 = .ok (.ifCond .ne 10, 3) := by decide +kernel
theorem dX4_on_7 : decode cX4_on 7 = .ok (.aload_n 0, 1) := by decide +kernel
theorem dX4_on_8 : decode cX4_on 8 = .ok (.bipush (-3), 2) := by decide +kernel
theorem dX4_on_10 : decode cX4_on 10 = .ok (.invokevirtual 64, 3) := by decide +kernel
theorem dX4_on_13 : decode cX4_on 13 = .ok (.ireturn, 1) := by decide +kernel
theorem dX4_on_14 : decode cX4_on 14 = .ok (.aload_n 0, 1) := by decide +kernel
theorem dX4_on_15 : decode cX4_on 15 = .ok (.getfield 10, 3) := by decide +kernel
theorem dX4_on_18 : decode cX4_on 18 = .ok (.aload_n 0, 1) := by decide +kernel
theorem dX4_on_19 : decode cX4_on 19 = .ok (.getfield 26, 3) := by decide +kernel
theorem dX4_on_22 : decode cX4_on 22 = .ok (.invokevirtual 166, 3) := by decide +kernel
theorem dX4_on_25 : decode cX4_on 25 = .ok (.aload_n 0, 1) := by decide +kernel
theorem dX4_on_26 : decode cX4_on 26 = .ok (.getfield 22, 3) := by decide +kernel
theorem dX4_on_29 : decode cX4_on 29 = .ok (.aload_n 0, 1) := by decide +kernel
theorem dX4_on_30 : decode cX4_on 30 = .ok (.getfield 29, 3) := by decide +kernel
theorem dX4_on_33 : decode cX4_on 33 = .ok (.invokevirtual 215, 3) := by decide +kernel
theorem dX4_on_36 : decode cX4_on 36 = .ok (.aload_n 0, 1) := by decide +kernel
theorem dX4_on_37 : decode cX4_on 37 = .ok (.getfield 10, 3) := by decide +kernel
theorem dX4_on_40 : decode cX4_on 40 = .ok (.getfield 109, 3) := by decide +kernel
theorem dX4_on_43 : decode cX4_on 43 = .ok (.ireturn, 1) := by decide +kernel
theorem dX4_count_0 : decode cX4_count 0 = .ok (.iload_n 1, 1) := by decide +kernel
theorem dX4_count_1 : decode cX4_count 1 = .ok (.bipush 11, 2) := by decide +kernel
theorem dX4_count_3 : decode cX4_count 3 = .ok (.if_icmp .lt 21, 3) := by decide +kernel
theorem dX4_count_6 : decode cX4_count 6 = .ok (.iload_n 1, 1) := by decide +kernel
theorem dX4_count_7 : decode cX4_count 7 = .ok (.bipush 16, 2) := by decide +kernel
theorem dX4_count_9 : decode cX4_count 9 = .ok (.if_icmp .gt 15, 3) := by decide +kernel
theorem dX4_count_12 : decode cX4_count 12 = .ok (.aload_n 0, 1) := by decide +kernel
theorem dX4_count_13 : decode cX4_count 13 = .ok (.getfield 61, 3) := by decide +kernel
theorem dX4_count_16 : decode cX4_count 16 = .ok (.iload_n 1, 1) := by decide +kernel
theorem dX4_count_17 : decode cX4_count 17 = .ok (.bipush 11, 2) := by decide +kernel
theorem dX4_count_19 : decode cX4_count 19 = .ok (.isub, 1) := by decide +kernel
theorem dX4_count_20 : decode cX4_count 20 = .ok (.invokestatic 119, 3) := by decide +kernel
theorem dX4_count_23 : decode cX4_count 23 = .ok (.ireturn, 1) := by decide +kernel
theorem dX4_count_24 : decode cX4_count 24 = .ok (.iload_n 1, 1) := by decide +kernel
theorem dX4_count_25 : decode cX4_count 25 = .ok (.tableswitch 125 0 8 #[51, 59, 68, 77, 86, 95, 104, 112, 117], 51) := by decide +kernel
theorem dX4_count_76 : decode cX4_count 76 = .ok (.aload_n 0, 1) := by decide +kernel
theorem dX4_count_77 : decode cX4_count 77 = .ok (.getfield 10, 3) := by decide +kernel
theorem dX4_count_80 : decode cX4_count 80 = .ok (.getfield 109, 3) := by decide +kernel
theorem dX4_count_83 : decode cX4_count 83 = .ok (.ireturn, 1) := by decide +kernel
theorem dX4_count_84 : decode cX4_count 84 = .ok (.aload_n 0, 1) := by decide +kernel
theorem dX4_count_85 : decode cX4_count 85 = .ok (.getfield 10, 3) := by decide +kernel
theorem dX4_count_88 : decode cX4_count 88 = .ok (.iconst 0, 1) := by decide +kernel
theorem dX4_count_89 : decode cX4_count 89 = .ok (.invokevirtual 160, 3) := by decide +kernel
theorem dX4_count_92 : decode cX4_count 92 = .ok (.ireturn, 1) := by decide +kernel
theorem dX4_count_93 : decode cX4_count 93 = .ok (.aload_n 0, 1) := by decide +kernel
theorem dX4_count_94 : decode cX4_count 94 = .ok (.getfield 10, 3) := by decide +kernel
theorem dX4_count_97 : decode cX4_count 97 = .ok (.iconst 1, 1) := by decide +kernel
theorem dX4_count_98 : decode cX4_count 98 = .ok (.invokevirtual 160, 3) := by decide +kernel
theorem dX4_count_101 : decode cX4_count 101 = .ok (.ireturn, 1) := by decide +kernel
theorem dX4_count_102 : decode cX4_count 102 = .ok (.aload_n 0, 1) := by decide +kernel
theorem dX4_count_103 : decode cX4_count 103 = .ok (.getfield 10, 3) := by decide +kernel
theorem dX4_count_106 : decode cX4_count 106 = .ok (.iconst 2, 1) := by decide +kernel
theorem dX4_count_107 : decode cX4_count 107 = .ok (.invokevirtual 160, 3) := by decide +kernel
theorem dX4_count_110 : decode cX4_count 110 = .ok (.ireturn, 1) := by decide +kernel
theorem dX4_count_111 : decode cX4_count 111 = .ok (.aload_n 0, 1) := by decide +kernel
theorem dX4_count_112 : decode cX4_count 112 = .ok (.getfield 10, 3) := by decide +kernel
theorem dX4_count_115 : decode cX4_count 115 = .ok (.iconst 4, 1) := by decide +kernel
theorem dX4_count_116 : decode cX4_count 116 = .ok (.invokevirtual 160, 3) := by decide +kernel
theorem dX4_count_119 : decode cX4_count 119 = .ok (.ireturn, 1) := by decide +kernel
theorem dX4_count_120 : decode cX4_count 120 = .ok (.aload_n 0, 1) := by decide +kernel
theorem dX4_count_121 : decode cX4_count 121 = .ok (.getfield 10, 3) := by decide +kernel
theorem dX4_count_124 : decode cX4_count 124 = .ok (.iconst 3, 1) := by decide +kernel
theorem dX4_count_125 : decode cX4_count 125 = .ok (.invokevirtual 160, 3) := by decide +kernel
theorem dX4_count_128 : decode cX4_count 128 = .ok (.ireturn, 1) := by decide +kernel
theorem dX4_count_129 : decode cX4_count 129 = .ok (.aload_n 0, 1) := by decide +kernel
theorem dX4_count_130 : decode cX4_count 130 = .ok (.getfield 22, 3) := by decide +kernel
theorem dX4_count_133 : decode cX4_count 133 = .ok (.getfield 191, 3) := by decide +kernel
theorem dX4_count_136 : decode cX4_count 136 = .ok (.ireturn, 1) := by decide +kernel
theorem dX4_count_137 : decode cX4_count 137 = .ok (.aload_n 0, 1) := by decide +kernel
theorem dX4_count_138 : decode cX4_count 138 = .ok (.getfield 57, 3) := by decide +kernel
theorem dX4_count_141 : decode cX4_count 141 = .ok (.ireturn, 1) := by decide +kernel
theorem dX4_count_142 : decode cX4_count 142 = .ok (.aload_n 0, 1) := by decide +kernel
theorem dX4_count_143 : decode cX4_count 143 = .ok (.getfield 39, 3) := by decide +kernel
theorem dX4_count_146 : decode cX4_count 146 = .ok (.getfield 68, 3) := by decide +kernel
theorem dX4_count_149 : decode cX4_count 149 = .ok (.ireturn, 1) := by decide +kernel
theorem dX4_count_150 : decode cX4_count 150 = .ok (.bipush (-9), 2) := by decide +kernel
theorem dX4_count_152 : decode cX4_count 152 = .ok (.ireturn, 1) := by decide +kernel
theorem dX4_refuse_0 : decode cX4_refuse 0 = .ok (.iconst (-1), 1) := by decide +kernel
theorem dX4_refuse_1 : decode cX4_refuse 1 = .ok (.iload_n 1, 1) := by decide +kernel
theorem dX4_refuse_2 : decode cX4_refuse 2 = .ok (.isub, 1) := by decide +kernel
theorem dX4_refuse_3 : decode cX4_refuse 3 = .ok (.istore_n 2, 1) := by decide +kernel
theorem dX4_refuse_4 : decode cX4_refuse 4 = .ok (.aload_n 0, 1) := by decide +kernel
theorem dX4_refuse_5 : decode cX4_refuse 5 = .ok (.getfield 61, 3) := by decide +kernel
theorem dX4_refuse_8 : decode cX4_refuse 8 = .ok (.iload_n 2, 1) := by decide +kernel
theorem dX4_refuse_9 : decode cX4_refuse 9 = .ok (.aload_n 0, 1) := by decide +kernel
theorem dX4_refuse_10 : decode cX4_refuse 10 = .ok (.getfield 61, 3) := by decide +kernel
theorem dX4_refuse_13 : decode cX4_refuse 13 = .ok (.iload_n 2, 1) := by decide +kernel
theorem dX4_refuse_14 : decode cX4_refuse 14 = .ok (.invokestatic 119, 3) := by decide +kernel
theorem dX4_refuse_17 : decode cX4_refuse 17 = .ok (.iconst 1, 1) := by decide +kernel
theorem dX4_refuse_18 : decode cX4_refuse 18 = .ok (.iadd, 1) := by decide +kernel
theorem dX4_refuse_19 : decode cX4_refuse 19 = .ok (.invokestatic 175, 3) := by decide +kernel
theorem dX4_refuse_22 : decode cX4_refuse 22 = .ok (.iload_n 1, 1) := by decide +kernel
theorem dX4_refuse_23 : decode cX4_refuse 23 = .ok (.ireturn, 1) := by decide +kernel
theorem dX4_answerOf_0 : decode cX4_answerOf 0 = .ok (.aload_n 0, 1) := by decide +kernel
theorem dX4_answerOf_1 : decode cX4_answerOf 1 = .ok (.getfield 10, 3) := by decide +kernel
theorem dX4_answerOf_4 : decode cX4_answerOf 4 = .ok (.iload_n 2, 1) := by decide +kernel
theorem dX4_answerOf_5 : decode cX4_answerOf 5 = .ok (.invokevirtual 82, 3) := by decide +kernel
theorem dX4_answerOf_8 : decode cX4_answerOf 8 = .ok (.ifCond .ne 9, 3) := by decide +kernel
theorem dX4_answerOf_11 : decode cX4_answerOf 11 = .ok (.aload_n 0, 1) := by decide +kernel
theorem dX4_answerOf_12 : decode cX4_answerOf 12 = .ok (.iconst (-1), 1) := by decide +kernel
theorem dX4_answerOf_13 : decode cX4_answerOf 13 = .ok (.invokevirtual 64, 3) := by decide +kernel
theorem dX4_answerOf_16 : decode cX4_answerOf 16 = .ok (.ireturn, 1) := by decide +kernel
theorem dX4_answerOf_17 : decode cX4_answerOf 17 = .ok (.aload_n 0, 1) := by decide +kernel
theorem dX4_answerOf_18 : decode cX4_answerOf 18 = .ok (.getfield 46, 3) := by decide +kernel
theorem dX4_answerOf_21 : decode cX4_answerOf 21 = .ok (.aload_n 0, 1) := by decide +kernel
theorem dX4_answerOf_22 : decode cX4_answerOf 22 = .ok (.getfield 10, 3) := by decide +kernel
theorem dX4_answerOf_25 : decode cX4_answerOf 25 = .ok (.invokevirtual 112, 3) := by decide +kernel
theorem dX4_answerOf_28 : decode cX4_answerOf 28 = .ok (.aload_n 1, 1) := by decide +kernel
theorem dX4_answerOf_29 : decode cX4_answerOf 29 = .ok (.iload_n 2, 1) := by decide +kernel
theorem dX4_answerOf_30 : decode cX4_answerOf 30 = .ok (.invokestatic 119, 3) := by decide +kernel
theorem dX4_answerOf_33 : decode cX4_answerOf 33 = .ok (.ireturn, 1) := by decide +kernel
theorem dX4_allLoss_0 : decode cX4_allLoss 0 = .ok (.aload_n 0, 1) := by decide +kernel
theorem dX4_allLoss_1 : decode cX4_allLoss 1 = .ok (.getfield 46, 3) := by decide +kernel
theorem dX4_allLoss_4 : decode cX4_allLoss 4 = .ok (.aload_n 1, 1) := by decide +kernel
theorem dX4_allLoss_5 : decode cX4_allLoss 5 = .ok (.invokevirtual 112, 3) := by decide +kernel
theorem dX4_allLoss_8 : decode cX4_allLoss 8 = .ok (.aload_n 0, 1) := by decide +kernel
theorem dX4_allLoss_9 : decode cX4_allLoss 9 = .ok (.getfield 46, 3) := by decide +kernel
theorem dX4_allLoss_12 : decode cX4_allLoss 12 = .ok (.invokevirtual 179, 3) := by decide +kernel
theorem dX4_allLoss_15 : decode cX4_allLoss 15 = .ok (.ireturn, 1) := by decide +kernel
theorem dX4_runByNever_0 : decode cX4_runByNever 0 = .ok (.aload_n 0, 1) := by decide +kernel
theorem dX4_runByNever_1 : decode cX4_runByNever 1 = .ok (.getfield 16, 3) := by decide +kernel
theorem dX4_runByNever_4 : decode cX4_runByNever 4 = .ok (.aload_n 0, 1) := by decide +kernel
theorem dX4_runByNever_5 : decode cX4_runByNever 5 = .ok (.getfield 10, 3) := by decide +kernel
theorem dX4_runByNever_8 : decode cX4_runByNever 8 = .ok (.invokevirtual 166, 3) := by decide +kernel
theorem dX4_runByNever_11 : decode cX4_runByNever 11 = .ok (.aload_n 0, 1) := by decide +kernel
theorem dX4_runByNever_12 : decode cX4_runByNever 12 = .ok (.getfield 16, 3) := by decide +kernel
theorem dX4_runByNever_15 : decode cX4_runByNever 15 = .ok (.iconst 4, 1) := by decide +kernel
theorem dX4_runByNever_16 : decode cX4_runByNever 16 = .ok (.iconst 0, 1) := by decide +kernel
theorem dX4_runByNever_17 : decode cX4_runByNever 17 = .ok (.invokevirtual 93, 3) := by decide +kernel
theorem dX4_runByNever_20 : decode cX4_runByNever 20 = .ok (.pop, 1) := by decide +kernel
theorem dX4_runByNever_21 : decode cX4_runByNever 21 = .ok (.aload_n 0, 1) := by decide +kernel
theorem dX4_runByNever_22 : decode cX4_runByNever 22 = .ok (.getfield 46, 3) := by decide +kernel
theorem dX4_runByNever_25 : decode cX4_runByNever 25 = .ok (.aload_n 0, 1) := by decide +kernel
theorem dX4_runByNever_26 : decode cX4_runByNever 26 = .ok (.getfield 16, 3) := by decide +kernel
theorem dX4_runByNever_29 : decode cX4_runByNever 29 = .ok (.invokevirtual 112, 3) := by decide +kernel
theorem dX4_runByNever_32 : decode cX4_runByNever 32 = .ok (.return_, 1) := by decide +kernel
theorem dX4_leastLossOver_0 : decode cX4_leastLossOver 0 = .ok (.aload_n 0, 1) := by decide +kernel
theorem dX4_leastLossOver_1 : decode cX4_leastLossOver 1 = .ok (.getfield 16, 3) := by decide +kernel
theorem dX4_leastLossOver_4 : decode cX4_leastLossOver 4 = .ok (.aload_n 0, 1) := by decide +kernel
theorem dX4_leastLossOver_5 : decode cX4_leastLossOver 5 = .ok (.getfield 10, 3) := by decide +kernel
theorem dX4_leastLossOver_8 : decode cX4_leastLossOver 8 = .ok (.invokevirtual 166, 3) := by decide +kernel
theorem dX4_leastLossOver_11 : decode cX4_leastLossOver 11 = .ok (.iconst 0, 1) := by decide +kernel
theorem dX4_leastLossOver_12 : decode cX4_leastLossOver 12 = .ok (.istore_n 3, 1) := by decide +kernel
theorem dX4_leastLossOver_13 : decode cX4_leastLossOver 13 = .ok (.iconst 0, 1) := by decide +kernel
theorem dX4_leastLossOver_14 : decode cX4_leastLossOver 14 = .ok (.istore 4, 2) := by decide +kernel
theorem dX4_leastLossOver_16 : decode cX4_leastLossOver 16 = .ok (.iconst 0, 1) := by decide +kernel
theorem dX4_leastLossOver_17 : decode cX4_leastLossOver 17 = .ok (.istore 5, 2) := by decide +kernel
theorem dX4_leastLossOver_19 : decode cX4_leastLossOver 19 = .ok (.iload 5, 2) := by decide +kernel
theorem dX4_leastLossOver_21 : decode cX4_leastLossOver 21 = .ok (.iload_n 2, 1) := by decide +kernel
theorem dX4_leastLossOver_22 : decode cX4_leastLossOver 22 = .ok (.if_icmp .gt 49, 3) := by decide +kernel
theorem dX4_leastLossOver_25 : decode cX4_leastLossOver 25 = .ok (.aload_n 0, 1) := by decide +kernel
theorem dX4_leastLossOver_26 : decode cX4_leastLossOver 26 = .ok (.getfield 16, 3) := by decide +kernel
theorem dX4_leastLossOver_29 : decode cX4_leastLossOver 29 = .ok (.iload_n 1, 1) := by decide +kernel
theorem dX4_leastLossOver_30 : decode cX4_leastLossOver 30 = .ok (.iload 5, 2) := by decide +kernel
theorem dX4_leastLossOver_32 : decode cX4_leastLossOver 32 = .ok (.invokevirtual 93, 3) := by decide +kernel
theorem dX4_leastLossOver_35 : decode cX4_leastLossOver 35 = .ok (.pop, 1) := by decide +kernel
theorem dX4_leastLossOver_36 : decode cX4_leastLossOver 36 = .ok (.aload_n 0, 1) := by decide +kernel
theorem dX4_leastLossOver_37 : decode cX4_leastLossOver 37 = .ok (.aload_n 0, 1) := by decide +kernel
theorem dX4_leastLossOver_38 : decode cX4_leastLossOver 38 = .ok (.getfield 16, 3) := by decide +kernel
theorem dX4_leastLossOver_41 : decode cX4_leastLossOver 41 = .ok (.invokevirtual 144, 3) := by decide +kernel
theorem dX4_leastLossOver_44 : decode cX4_leastLossOver 44 = .ok (.istore 6, 2) := by decide +kernel
theorem dX4_leastLossOver_46 : decode cX4_leastLossOver 46 = .ok (.iload 5, 2) := by decide +kernel
theorem dX4_leastLossOver_48 : decode cX4_leastLossOver 48 = .ok (.ifCond .eq 10, 3) := by decide +kernel
theorem dX4_leastLossOver_51 : decode cX4_leastLossOver 51 = .ok (.iload 6, 2) := by decide +kernel
theorem dX4_leastLossOver_53 : decode cX4_leastLossOver 53 = .ok (.iload 4, 2) := by decide +kernel
theorem dX4_leastLossOver_55 : decode cX4_leastLossOver 55 = .ok (.if_icmp .ge 10, 3) := by decide +kernel
theorem dX4_leastLossOver_58 : decode cX4_leastLossOver 58 = .ok (.iload 5, 2) := by decide +kernel
theorem dX4_leastLossOver_60 : decode cX4_leastLossOver 60 = .ok (.istore_n 3, 1) := by decide +kernel
theorem dX4_leastLossOver_61 : decode cX4_leastLossOver 61 = .ok (.iload 6, 2) := by decide +kernel
theorem dX4_leastLossOver_63 : decode cX4_leastLossOver 63 = .ok (.istore 4, 2) := by decide +kernel
theorem dX4_leastLossOver_65 : decode cX4_leastLossOver 65 = .ok (.iinc 5 1, 3) := by decide +kernel
theorem dX4_leastLossOver_68 : decode cX4_leastLossOver 68 = .ok (.goto (-49), 3) := by decide +kernel
theorem dX4_leastLossOver_71 : decode cX4_leastLossOver 71 = .ok (.iload_n 3, 1) := by decide +kernel
theorem dX4_leastLossOver_72 : decode cX4_leastLossOver 72 = .ok (.ireturn, 1) := by decide +kernel
theorem dX4_refusalOfFilm_0 : decode cX4_refusalOfFilm 0 = .ok (.iload_n 1, 1) := by decide +kernel
theorem dX4_refusalOfFilm_1 : decode cX4_refusalOfFilm 1 = .ok (.iconst 1, 1) := by decide +kernel
theorem dX4_refusalOfFilm_2 : decode cX4_refusalOfFilm 2 = .ok (.if_icmp .lt 7, 3) := by decide +kernel
theorem dX4_refusalOfFilm_5 : decode cX4_refusalOfFilm 5 = .ok (.iload_n 2, 1) := by decide +kernel
theorem dX4_refusalOfFilm_6 : decode cX4_refusalOfFilm 6 = .ok (.ifCond .ge 6, 3) := by decide +kernel
theorem dX4_refusalOfFilm_9 : decode cX4_refusalOfFilm 9 = .ok (.bipush (-4), 2) := by decide +kernel
theorem dX4_refusalOfFilm_11 : decode cX4_refusalOfFilm 11 = .ok (.ireturn, 1) := by decide +kernel
theorem dX4_refusalOfFilm_12 : decode cX4_refusalOfFilm 12 = .ok (.iload_n 1, 1) := by decide +kernel
theorem dX4_refusalOfFilm_13 : decode cX4_refusalOfFilm 13 = .ok (.bipush 40, 2) := by decide +kernel
theorem dX4_refusalOfFilm_15 : decode cX4_refusalOfFilm 15 = .ok (.if_icmp .gt 8, 3) := by decide +kernel
theorem dX4_refusalOfFilm_18 : decode cX4_refusalOfFilm 18 = .ok (.iload_n 2, 1) := by decide +kernel
theorem dX4_refusalOfFilm_19 : decode cX4_refusalOfFilm 19 = .ok (.iconst 2, 1) := by decide +kernel
theorem dX4_refusalOfFilm_20 : decode cX4_refusalOfFilm 20 = .ok (.if_icmp .le 6, 3) := by decide +kernel
theorem dX4_refusalOfFilm_23 : decode cX4_refusalOfFilm 23 = .ok (.bipush (-6), 2) := by decide +kernel
theorem dX4_refusalOfFilm_25 : decode cX4_refusalOfFilm 25 = .ok (.ireturn, 1) := by decide +kernel
theorem dX4_refusalOfFilm_26 : decode cX4_refusalOfFilm 26 = .ok (.iload_n 3, 1) := by decide +kernel
theorem dX4_refusalOfFilm_27 : decode cX4_refusalOfFilm 27 = .ok (.ifCond .ne 6, 3) := by decide +kernel
theorem dX4_refusalOfFilm_30 : decode cX4_refusalOfFilm 30 = .ok (.bipush (-2), 2) := by decide +kernel
theorem dX4_refusalOfFilm_32 : decode cX4_refusalOfFilm 32 = .ok (.ireturn, 1) := by decide +kernel
theorem dX4_refusalOfFilm_33 : decode cX4_refusalOfFilm 33 = .ok (.aload_n 0, 1) := by decide +kernel
theorem dX4_refusalOfFilm_34 : decode cX4_refusalOfFilm 34 = .ok (.getfield 22, 3) := by decide +kernel
theorem dX4_refusalOfFilm_37 : decode cX4_refusalOfFilm 37 = .ok (.getfield 191, 3) := by decide +kernel
theorem dX4_refusalOfFilm_40 : decode cX4_refusalOfFilm 40 = .ok (.bipush 10, 2) := by decide +kernel
theorem dX4_refusalOfFilm_42 : decode cX4_refusalOfFilm 42 = .ok (.if_icmp .lt 8, 3) := by decide +kernel
theorem dX4_refusalOfFilm_45 : decode cX4_refusalOfFilm 45 = .ok (.bipush (-6), 2) := by decide +kernel
theorem dX4_refusalOfFilm_47 : decode cX4_refusalOfFilm 47 = .ok (.goto 4, 3) := by decide +kernel
theorem dX4_refusalOfFilm_50 : decode cX4_refusalOfFilm 50 = .ok (.iconst 0, 1) := by decide +kernel
theorem dX4_refusalOfFilm_51 : decode cX4_refusalOfFilm 51 = .ok (.ireturn, 1) := by decide +kernel
theorem dX4_isBit_0 : decode cX4_isBit 0 = .ok (.iload_n 0, 1) := by decide +kernel
theorem dX4_isBit_1 : decode cX4_isBit 1 = .ok (.ifCond .eq 8, 3) := by decide +kernel
theorem dX4_isBit_4 : decode cX4_isBit 4 = .ok (.iload_n 0, 1) := by decide +kernel
theorem dX4_isBit_5 : decode cX4_isBit 5 = .ok (.iconst 1, 1) := by decide +kernel
theorem dX4_isBit_6 : decode cX4_isBit 6 = .ok (.if_icmp .ne 7, 3) := by decide +kernel
theorem dX4_isBit_9 : decode cX4_isBit 9 = .ok (.iconst 1, 1) := by decide +kernel
theorem dX4_isBit_10 : decode cX4_isBit 10 = .ok (.goto 4, 3) := by decide +kernel
theorem dX4_isBit_13 : decode cX4_isBit 13 = .ok (.iconst 0, 1) := by decide +kernel
theorem dX4_isBit_14 : decode cX4_isBit 14 = .ok (.ireturn, 1) := by decide +kernel
theorem dX4_isCustom_0 : decode cX4_isCustom 0 = .ok (.iload_n 0, 1) := by decide +kernel
theorem dX4_isCustom_1 : decode cX4_isCustom 1 = .ok (.ifCond .lt 13, 3) := by decide +kernel
theorem dX4_isCustom_4 : decode cX4_isCustom 4 = .ok (.iload_n 0, 1) := by decide +kernel
theorem dX4_isCustom_5 : decode cX4_isCustom 5 = .ok (.bipush 6, 2) := by decide +kernel
theorem dX4_isCustom_7 : decode cX4_isCustom 7 = .ok (.if_icmp .gt 7, 3) := by decide +kernel
theorem dX4_isCustom_10 : decode cX4_isCustom 10 = .ok (.iconst 1, 1) := by decide +kernel
theorem dX4_isCustom_11 : decode cX4_isCustom 11 = .ok (.goto 4, 3) := by decide +kernel
theorem dX4_isCustom_14 : decode cX4_isCustom 14 = .ok (.iconst 0, 1) := by decide +kernel
theorem dX4_isCustom_15 : decode cX4_isCustom 15 = .ok (.ireturn, 1) := by decide +kernel
theorem dX4_isFilmCustom_0 : decode cX4_isFilmCustom 0 = .ok (.iload_n 0, 1) := by decide +kernel
theorem dX4_isFilmCustom_1 : decode cX4_isFilmCustom 1 = .ok (.iconst 1, 1) := by decide +kernel
theorem dX4_isFilmCustom_2 : decode cX4_isFilmCustom 2 = .ok (.if_icmp .lt 12, 3) := by decide +kernel
theorem dX4_isFilmCustom_5 : decode cX4_isFilmCustom 5 = .ok (.iload_n 0, 1) := by decide +kernel
theorem dX4_isFilmCustom_6 : decode cX4_isFilmCustom 6 = .ok (.iconst 3, 1) := by decide +kernel
theorem dX4_isFilmCustom_7 : decode cX4_isFilmCustom 7 = .ok (.if_icmp .gt 7, 3) := by decide +kernel
theorem dX4_isFilmCustom_10 : decode cX4_isFilmCustom 10 = .ok (.iconst 1, 1) := by decide +kernel
theorem dX4_isFilmCustom_11 : decode cX4_isFilmCustom 11 = .ok (.goto 4, 3) := by decide +kernel
theorem dX4_isFilmCustom_14 : decode cX4_isFilmCustom 14 = .ok (.iconst 0, 1) := by decide +kernel
theorem dX4_isFilmCustom_15 : decode cX4_isFilmCustom 15 = .ok (.ireturn, 1) := by decide +kernel
theorem dX4_filmUpTo_0 : decode cX4_filmUpTo 0 = .ok (.iload_n 0, 1) := by decide +kernel
theorem dX4_filmUpTo_1 : decode cX4_filmUpTo 1 = .ok (.tableswitch 48 1 3 #[27, 29, 42], 27) := by decide +kernel
theorem dX4_filmUpTo_28 : decode cX4_filmUpTo 28 = .ok (.iload_n 1, 1) := by decide +kernel
theorem dX4_filmUpTo_29 : decode cX4_filmUpTo 29 = .ok (.ireturn, 1) := by decide +kernel
theorem dX4_filmUpTo_30 : decode cX4_filmUpTo 30 = .ok (.iload_n 2, 1) := by decide +kernel
theorem dX4_filmUpTo_31 : decode cX4_filmUpTo 31 = .ok (.iconst 1, 1) := by decide +kernel
theorem dX4_filmUpTo_32 : decode cX4_filmUpTo 32 = .ok (.if_icmp .ne 9, 3) := by decide +kernel
theorem dX4_filmUpTo_35 : decode cX4_filmUpTo 35 = .ok (.iload_n 1, 1) := by decide +kernel
theorem dX4_filmUpTo_36 : decode cX4_filmUpTo 36 = .ok (.iconst 4, 1) := by decide +kernel
theorem dX4_filmUpTo_37 : decode cX4_filmUpTo 37 = .ok (.iadd, 1) := by decide +kernel
theorem dX4_filmUpTo_38 : decode cX4_filmUpTo 38 = .ok (.goto 4, 3) := by decide +kernel
theorem dX4_filmUpTo_41 : decode cX4_filmUpTo 41 = .ok (.iload_n 1, 1) := by decide +kernel
theorem dX4_filmUpTo_42 : decode cX4_filmUpTo 42 = .ok (.ireturn, 1) := by decide +kernel
theorem dX4_filmUpTo_43 : decode cX4_filmUpTo 43 = .ok (.iload_n 1, 1) := by decide +kernel
theorem dX4_filmUpTo_44 : decode cX4_filmUpTo 44 = .ok (.iconst 2, 1) := by decide +kernel
theorem dX4_filmUpTo_45 : decode cX4_filmUpTo 45 = .ok (.iload_n 3, 1) := by decide +kernel
theorem dX4_filmUpTo_46 : decode cX4_filmUpTo 46 = .ok (.imul, 1) := by decide +kernel
theorem dX4_filmUpTo_47 : decode cX4_filmUpTo 47 = .ok (.iadd, 1) := by decide +kernel
theorem dX4_filmUpTo_48 : decode cX4_filmUpTo 48 = .ok (.ireturn, 1) := by decide +kernel
theorem dX4_filmUpTo_49 : decode cX4_filmUpTo 49 = .ok (.iconst 0, 1) := by decide +kernel
theorem dX4_filmUpTo_50 : decode cX4_filmUpTo 50 = .ok (.ireturn, 1) := by decide +kernel
theorem dX4_divideUp_0 : decode cX4_divideUp 0 = .ok (.iload_n 1, 1) := by decide +kernel
theorem dX4_divideUp_1 : decode cX4_divideUp 1 = .ok (.iconst 1, 1) := by decide +kernel
theorem dX4_divideUp_2 : decode cX4_divideUp 2 = .ok (.if_icmp .ge 7, 3) := by decide +kernel
theorem dX4_divideUp_5 : decode cX4_divideUp 5 = .ok (.iconst 0, 1) := by decide +kernel
theorem dX4_divideUp_6 : decode cX4_divideUp 6 = .ok (.goto 10, 3) := by decide +kernel
theorem dX4_divideUp_9 : decode cX4_divideUp 9 = .ok (.iload_n 0, 1) := by decide +kernel
theorem dX4_divideUp_10 : decode cX4_divideUp 10 = .ok (.iload_n 1, 1) := by decide +kernel
theorem dX4_divideUp_11 : decode cX4_divideUp 11 = .ok (.iadd, 1) := by decide +kernel
theorem dX4_divideUp_12 : decode cX4_divideUp 12 = .ok (.iconst 1, 1) := by decide +kernel
theorem dX4_divideUp_13 : decode cX4_divideUp 13 = .ok (.isub, 1) := by decide +kernel
theorem dX4_divideUp_14 : decode cX4_divideUp 14 = .ok (.iload_n 1, 1) := by decide +kernel
theorem dX4_divideUp_15 : decode cX4_divideUp 15 = .ok (.idiv, 1) := by decide +kernel
theorem dX4_divideUp_16 : decode cX4_divideUp 16 = .ok (.ireturn, 1) := by decide +kernel
theorem dX4_at_0 : decode cX4_at 0 = .ok (.iload_n 1, 1) := by decide +kernel
theorem dX4_at_1 : decode cX4_at 1 = .ok (.ifCond .lt 15, 3) := by decide +kernel
theorem dX4_at_4 : decode cX4_at 4 = .ok (.iload_n 1, 1) := by decide +kernel
theorem dX4_at_5 : decode cX4_at 5 = .ok (.aload_n 0, 1) := by decide +kernel
theorem dX4_at_6 : decode cX4_at 6 = .ok (.arraylength, 1) := by decide +kernel
theorem dX4_at_7 : decode cX4_at 7 = .ok (.if_icmp .ge 9, 3) := by decide +kernel
theorem dX4_at_10 : decode cX4_at 10 = .ok (.aload_n 0, 1) := by decide +kernel
theorem dX4_at_11 : decode cX4_at 11 = .ok (.iload_n 1, 1) := by decide +kernel
theorem dX4_at_12 : decode cX4_at 12 = .ok (.iaload, 1) := by decide +kernel
theorem dX4_at_13 : decode cX4_at 13 = .ok (.goto 4, 3) := by decide +kernel
theorem dX4_at_16 : decode cX4_at 16 = .ok (.iconst 0, 1) := by decide +kernel
theorem dX4_at_17 : decode cX4_at 17 = .ok (.ireturn, 1) := by decide +kernel
theorem dX4_put_0 : decode cX4_put 0 = .ok (.iload_n 1, 1) := by decide +kernel
theorem dX4_put_1 : decode cX4_put 1 = .ok (.ifCond .lt 13, 3) := by decide +kernel
theorem dX4_put_4 : decode cX4_put 4 = .ok (.iload_n 1, 1) := by decide +kernel
theorem dX4_put_5 : decode cX4_put 5 = .ok (.aload_n 0, 1) := by decide +kernel
theorem dX4_put_6 : decode cX4_put 6 = .ok (.arraylength, 1) := by decide +kernel
theorem dX4_put_7 : decode cX4_put 7 = .ok (.if_icmp .ge 7, 3) := by decide +kernel
theorem dX4_put_10 : decode cX4_put 10 = .ok (.aload_n 0, 1) := by decide +kernel
theorem dX4_put_11 : decode cX4_put 11 = .ok (.iload_n 1, 1) := by decide +kernel
theorem dX4_put_12 : decode cX4_put 12 = .ok (.iload_n 2, 1) := by decide +kernel
theorem dX4_put_13 : decode cX4_put 13 = .ok (.iastore, 1) := by decide +kernel
theorem dX4_put_14 : decode cX4_put 14 = .ok (.return_, 1) := by decide +kernel
theorem dX4_copyRow_0 : decode cX4_copyRow 0 = .ok (.iconst 0, 1) := by decide +kernel
theorem dX4_copyRow_1 : decode cX4_copyRow 1 = .ok (.istore_n 2, 1) := by decide +kernel
theorem dX4_copyRow_2 : decode cX4_copyRow 2 = .ok (.iload_n 2, 1) := by decide +kernel
theorem dX4_copyRow_3 : decode cX4_copyRow 3 = .ok (.aload_n 0, 1) := by decide +kernel
theorem dX4_copyRow_4 : decode cX4_copyRow 4 = .ok (.arraylength, 1) := by decide +kernel
theorem dX4_copyRow_5 : decode cX4_copyRow 5 = .ok (.if_icmp .ge 21, 3) := by decide +kernel
theorem dX4_copyRow_8 : decode cX4_copyRow 8 = .ok (.iload_n 2, 1) := by decide +kernel
theorem dX4_copyRow_9 : decode cX4_copyRow 9 = .ok (.aload_n 1, 1) := by decide +kernel
theorem dX4_copyRow_10 : decode cX4_copyRow 10 = .ok (.arraylength, 1) := by decide +kernel
theorem dX4_copyRow_11 : decode cX4_copyRow 11 = .ok (.if_icmp .ge 15, 3) := by decide +kernel
theorem dX4_copyRow_14 : decode cX4_copyRow 14 = .ok (.aload_n 1, 1) := by decide +kernel
theorem dX4_copyRow_15 : decode cX4_copyRow 15 = .ok (.iload_n 2, 1) := by decide +kernel
theorem dX4_copyRow_16 : decode cX4_copyRow 16 = .ok (.aload_n 0, 1) := by decide +kernel
theorem dX4_copyRow_17 : decode cX4_copyRow 17 = .ok (.iload_n 2, 1) := by decide +kernel
theorem dX4_copyRow_18 : decode cX4_copyRow 18 = .ok (.iaload, 1) := by decide +kernel
theorem dX4_copyRow_19 : decode cX4_copyRow 19 = .ok (.iastore, 1) := by decide +kernel
theorem dX4_copyRow_20 : decode cX4_copyRow 20 = .ok (.iinc 2 1, 3) := by decide +kernel
theorem dX4_copyRow_23 : decode cX4_copyRow 23 = .ok (.goto (-21), 3) := by decide +kernel
theorem dX4_copyRow_26 : decode cX4_copyRow 26 = .ok (.return_, 1) := by decide +kernel
theorem dX5_init_0 : decode cX5_init 0 = .ok (.aload_n 0, 1) := by decide +kernel
theorem dX5_init_1 : decode cX5_init 1 = .ok (.invokespecial 1, 3) := by decide +kernel
theorem dX5_init_4 : decode cX5_init 4 = .ok (.aload_n 0, 1) := by decide +kernel
theorem dX5_init_5 : decode cX5_init 5 = .ok (.bipush 7, 2) := by decide +kernel
theorem dX5_init_7 : decode cX5_init 7 = .ok (.newarray .int, 2) := by decide +kernel
theorem dX5_init_9 : decode cX5_init 9 = .ok (.putfield 7, 3) := by decide +kernel
theorem dX5_init_12 : decode cX5_init 12 = .ok (.aload_n 0, 1) := by decide +kernel
theorem dX5_init_13 : decode cX5_init 13 = .ok (.bipush 8, 2) := by decide +kernel
theorem dX5_init_15 : decode cX5_init 15 = .ok (.newarray .int, 2) := by decide +kernel
theorem dX5_init_17 : decode cX5_init 17 = .ok (.putfield 13, 3) := by decide +kernel
theorem dX5_init_20 : decode cX5_init 20 = .ok (.aload_n 0, 1) := by decide +kernel
theorem dX5_init_21 : decode cX5_init 21 = .ok (.bipush 8, 2) := by decide +kernel
theorem dX5_init_23 : decode cX5_init 23 = .ok (.newarray .int, 2) := by decide +kernel
theorem dX5_init_25 : decode cX5_init 25 = .ok (.putfield 16, 3) := by decide +kernel
theorem dX5_init_28 : decode cX5_init 28 = .ok (.aload_n 0, 1) := by decide +kernel
theorem dX5_init_29 : decode cX5_init 29 = .ok (.bipush 8, 2) := by decide +kernel
theorem dX5_init_31 : decode cX5_init 31 = .ok (.newarray .int, 2) := by decide +kernel
theorem dX5_init_33 : decode cX5_init 33 = .ok (.putfield 19, 3) := by decide +kernel
theorem dX5_init_36 : decode cX5_init 36 = .ok (.aload_n 0, 1) := by decide +kernel
theorem dX5_init_37 : decode cX5_init 37 = .ok (.bipush 8, 2) := by decide +kernel
theorem dX5_init_39 : decode cX5_init 39 = .ok (.newarray .int, 2) := by decide +kernel
theorem dX5_init_41 : decode cX5_init 41 = .ok (.putfield 22, 3) := by decide +kernel
theorem dX5_init_44 : decode cX5_init 44 = .ok (.aload_n 0, 1) := by decide +kernel
theorem dX5_init_45 : decode cX5_init 45 = .ok (.bipush 8, 2) := by decide +kernel
theorem dX5_init_47 : decode cX5_init 47 = .ok (.newarray .int, 2) := by decide +kernel
theorem dX5_init_49 : decode cX5_init 49 = .ok (.putfield 25, 3) := by decide +kernel
theorem dX5_init_52 : decode cX5_init 52 = .ok (.aload_n 0, 1) := by decide +kernel
theorem dX5_init_53 : decode cX5_init 53 = .ok (.bipush 8, 2) := by decide +kernel
theorem dX5_init_55 : decode cX5_init 55 = .ok (.newarray .int, 2) := by decide +kernel
theorem dX5_init_57 : decode cX5_init 57 = .ok (.putfield 28, 3) := by decide +kernel
theorem dX5_init_60 : decode cX5_init 60 = .ok (.aload_n 0, 1) := by decide +kernel
theorem dX5_init_61 : decode cX5_init 61 = .ok (.bipush 8, 2) := by decide +kernel
theorem dX5_init_63 : decode cX5_init 63 = .ok (.newarray .int, 2) := by decide +kernel
theorem dX5_init_65 : decode cX5_init 65 = .ok (.putfield 31, 3) := by decide +kernel
theorem dX5_init_68 : decode cX5_init 68 = .ok (.aload_n 0, 1) := by decide +kernel
theorem dX5_init_69 : decode cX5_init 69 = .ok (.iconst 5, 1) := by decide +kernel
theorem dX5_init_70 : decode cX5_init 70 = .ok (.newarray .int, 2) := by decide +kernel
theorem dX5_init_72 : decode cX5_init 72 = .ok (.dup, 1) := by decide +kernel
theorem dX5_init_73 : decode cX5_init 73 = .ok (.iconst 0, 1) := by decide +kernel
theorem dX5_init_74 : decode cX5_init 74 = .ok (.iconst 4, 1) := by decide +kernel
theorem dX5_init_75 : decode cX5_init 75 = .ok (.iastore, 1) := by decide +kernel
theorem dX5_init_76 : decode cX5_init 76 = .ok (.dup, 1) := by decide +kernel
theorem dX5_init_77 : decode cX5_init 77 = .ok (.iconst 1, 1) := by decide +kernel
theorem dX5_init_78 : decode cX5_init 78 = .ok (.iconst 2, 1) := by decide +kernel
theorem dX5_init_79 : decode cX5_init 79 = .ok (.iastore, 1) := by decide +kernel
theorem dX5_init_80 : decode cX5_init 80 = .ok (.dup, 1) := by decide +kernel
theorem dX5_init_81 : decode cX5_init 81 = .ok (.iconst 2, 1) := by decide +kernel
theorem dX5_init_82 : decode cX5_init 82 = .ok (.iconst 1, 1) := by decide +kernel
theorem dX5_init_83 : decode cX5_init 83 = .ok (.iastore, 1) := by decide +kernel
theorem dX5_init_84 : decode cX5_init 84 = .ok (.dup, 1) := by decide +kernel
theorem dX5_init_85 : decode cX5_init 85 = .ok (.iconst 3, 1) := by decide +kernel
theorem dX5_init_86 : decode cX5_init 86 = .ok (.iconst 5, 1) := by decide +kernel
theorem dX5_init_87 : decode cX5_init 87 = .ok (.iastore, 1) := by decide +kernel
theorem dX5_init_88 : decode cX5_init 88 = .ok (.dup, 1) := by decide +kernel
theorem dX5_init_89 : decode cX5_init 89 = .ok (.iconst 4, 1) := by decide +kernel
theorem dX5_init_90 : decode cX5_init 90 = .ok (.iconst 1, 1) := by decide +kernel
theorem dX5_init_91 : decode cX5_init 91 = .ok (.iastore, 1) := by decide +kernel
theorem dX5_init_92 : decode cX5_init 92 = .ok (.putfield 34, 3) := by decide +kernel
theorem dX5_init_95 : decode cX5_init 95 = .ok (.aload_n 0, 1) := by decide +kernel
theorem dX5_init_96 : decode cX5_init 96 = .ok (.bipush 10, 2) := by decide +kernel
theorem dX5_init_98 : decode cX5_init 98 = .ok (.newarray .int, 2) := by decide +kernel
theorem dX5_init_100 : decode cX5_init 100 = .ok (.putfield 37, 3) := by decide +kernel
theorem dX5_init_103 : decode cX5_init 103 = .ok (.aload_n 0, 1) := by decide +kernel
theorem dX5_init_104 : decode cX5_init 104 = .ok (.bipush 10, 2) := by decide +kernel
theorem dX5_init_106 : decode cX5_init 106 = .ok (.newarray .int, 2) := by decide +kernel
theorem dX5_init_108 : decode cX5_init 108 = .ok (.putfield 40, 3) := by decide +kernel
theorem dX5_init_111 : decode cX5_init 111 = .ok (.aload_n 0, 1) := by decide +kernel
theorem dX5_init_112 : decode cX5_init 112 = .ok (.bipush 10, 2) := by decide +kernel
theorem dX5_init_114 : decode cX5_init 114 = .ok (.newarray .int, 2) := by decide +kernel
theorem dX5_init_116 : decode cX5_init 116 = .ok (.putfield 43, 3) := by decide +kernel
theorem dX5_init_119 : decode cX5_init 119 = .ok (.aload_n 0, 1) := by decide +kernel
theorem dX5_init_120 : decode cX5_init 120 = .ok (.bipush 10, 2) := by decide +kernel
theorem dX5_init_122 : decode cX5_init 122 = .ok (.newarray .int, 2) := by decide +kernel
theorem dX5_init_124 : decode cX5_init 124 = .ok (.putfield 46, 3) := by decide +kernel
theorem dX5_init_127 : decode cX5_init 127 = .ok (.aload_n 0, 1) := by decide +kernel
theorem dX5_init_128 : decode cX5_init 128 = .ok (.bipush 80, 2) := by decide +kernel
theorem dX5_init_130 : decode cX5_init 130 = .ok (.newarray .int, 2) := by decide +kernel
theorem dX5_init_132 : decode cX5_init 132 = .ok (.putfield 49, 3) := by decide +kernel
theorem dX5_init_135 : decode cX5_init 135 = .ok (.aload_n 0, 1) := by decide +kernel
theorem dX5_init_136 : decode cX5_init 136 = .ok (.bipush 40, 2) := by decide +kernel
theorem dX5_init_138 : decode cX5_init 138 = .ok (.newarray .int, 2) := by decide +kernel
theorem dX5_init_140 : decode cX5_init 140 = .ok (.putfield 52, 3) := by decide +kernel
theorem dX5_init_143 : decode cX5_init 143 = .ok (.aload_n 0, 1) := by decide +kernel
theorem dX5_init_144 : decode cX5_init 144 = .ok (.bipush 40, 2) := by decide +kernel
theorem dX5_init_146 : decode cX5_init 146 = .ok (.newarray .int, 2) := by decide +kernel
theorem dX5_init_148 : decode cX5_init 148 = .ok (.putfield 55, 3) := by decide +kernel
theorem dX5_init_151 : decode cX5_init 151 = .ok (.aload_n 0, 1) := by decide +kernel
theorem dX5_init_152 : decode cX5_init 152 = .ok (.sipush 320, 3) := by decide +kernel
theorem dX5_init_155 : decode cX5_init 155 = .ok (.newarray .int, 2) := by decide +kernel
theorem dX5_init_157 : decode cX5_init 157 = .ok (.putfield 58, 3) := by decide +kernel
theorem dX5_init_160 : decode cX5_init 160 = .ok (.aload_n 0, 1) := by decide +kernel
theorem dX5_init_161 : decode cX5_init 161 = .ok (.sipush 220, 3) := by decide +kernel
theorem dX5_init_164 : decode cX5_init 164 = .ok (.newarray .int, 2) := by decide +kernel
theorem dX5_init_166 : decode cX5_init 166 = .ok (.putfield 61, 3) := by decide +kernel
theorem dX5_init_169 : decode cX5_init 169 = .ok (.aload_n 0, 1) := by decide +kernel
theorem dX5_init_170 : decode cX5_init 170 = .ok (.bipush 8, 2) := by decide +kernel
theorem dX5_init_172 : decode cX5_init 172 = .ok (.newarray .int, 2) := by decide +kernel
theorem dX5_init_174 : decode cX5_init 174 = .ok (.putfield 64, 3) := by decide +kernel
theorem dX5_init_177 : decode cX5_init 177 = .ok (.aload_n 0, 1) := by decide +kernel
theorem dX5_init_178 : decode cX5_init 178 = .ok (.bipush 8, 2) := by decide +kernel
theorem dX5_init_180 : decode cX5_init 180 = .ok (.newarray .int, 2) := by decide +kernel
theorem dX5_init_182 : decode cX5_init 182 = .ok (.putfield 67, 3) := by decide +kernel
theorem dX5_init_185 : decode cX5_init 185 = .ok (.aload_n 0, 1) := by decide +kernel
theorem dX5_init_186 : decode cX5_init 186 = .ok (.bipush 8, 2) := by decide +kernel
theorem dX5_init_188 : decode cX5_init 188 = .ok (.newarray .int, 2) := by decide +kernel
theorem dX5_init_190 : decode cX5_init 190 = .ok (.putfield 70, 3) := by decide +kernel
theorem dX5_init_193 : decode cX5_init 193 = .ok (.aload_n 0, 1) := by decide +kernel
theorem dX5_init_194 : decode cX5_init 194 = .ok (.bipush 8, 2) := by decide +kernel
theorem dX5_init_196 : decode cX5_init 196 = .ok (.newarray .int, 2) := by decide +kernel
theorem dX5_init_198 : decode cX5_init 198 = .ok (.putfield 73, 3) := by decide +kernel
theorem dX5_init_201 : decode cX5_init 201 = .ok (.aload_n 0, 1) := by decide +kernel
theorem dX5_init_202 : decode cX5_init 202 = .ok (.bipush 8, 2) := by decide +kernel
theorem dX5_init_204 : decode cX5_init 204 = .ok (.newarray .int, 2) := by decide +kernel
theorem dX5_init_206 : decode cX5_init 206 = .ok (.putfield 76, 3) := by decide +kernel
theorem dX5_init_209 : decode cX5_init 209 = .ok (.aload_n 0, 1) := by decide +kernel
theorem dX5_init_210 : decode cX5_init 210 = .ok (.bipush 8, 2) := by decide +kernel
theorem dX5_init_212 : decode cX5_init 212 = .ok (.newarray .int, 2) := by decide +kernel
theorem dX5_init_214 : decode cX5_init 214 = .ok (.putfield 79, 3) := by decide +kernel
theorem dX5_init_217 : decode cX5_init 217 = .ok (.aload_n 0, 1) := by decide +kernel
theorem dX5_init_218 : decode cX5_init 218 = .ok (.bipush 8, 2) := by decide +kernel
theorem dX5_init_220 : decode cX5_init 220 = .ok (.newarray .int, 2) := by decide +kernel
theorem dX5_init_222 : decode cX5_init 222 = .ok (.putfield 82, 3) := by decide +kernel
theorem dX5_init_225 : decode cX5_init 225 = .ok (.aload_n 0, 1) := by decide +kernel
theorem dX5_init_226 : decode cX5_init 226 = .ok (.bipush 8, 2) := by decide +kernel
theorem dX5_init_228 : decode cX5_init 228 = .ok (.newarray .int, 2) := by decide +kernel
theorem dX5_init_230 : decode cX5_init 230 = .ok (.putfield 85, 3) := by decide +kernel
theorem dX5_init_233 : decode cX5_init 233 = .ok (.aload_n 0, 1) := by decide +kernel
theorem dX5_init_234 : decode cX5_init 234 = .ok (.bipush 8, 2) := by decide +kernel
theorem dX5_init_236 : decode cX5_init 236 = .ok (.newarray .int, 2) := by decide +kernel
theorem dX5_init_238 : decode cX5_init 238 = .ok (.putfield 88, 3) := by decide +kernel
theorem dX5_init_241 : decode cX5_init 241 = .ok (.aload_n 0, 1) := by decide +kernel
theorem dX5_init_242 : decode cX5_init 242 = .ok (.bipush 8, 2) := by decide +kernel
theorem dX5_init_244 : decode cX5_init 244 = .ok (.newarray .int, 2) := by decide +kernel
theorem dX5_init_246 : decode cX5_init 246 = .ok (.putfield 91, 3) := by decide +kernel
theorem dX5_init_249 : decode cX5_init 249 = .ok (.aload_n 0, 1) := by decide +kernel
theorem dX5_init_250 : decode cX5_init 250 = .ok (.bipush 8, 2) := by decide +kernel
theorem dX5_init_252 : decode cX5_init 252 = .ok (.newarray .int, 2) := by decide +kernel
theorem dX5_init_254 : decode cX5_init 254 = .ok (.putfield 94, 3) := by decide +kernel
theorem dX5_init_257 : decode cX5_init 257 = .ok (.return_, 1) := by decide +kernel
theorem dX5_no_0 : decode cX5_no 0 = .ok (.aload_n 0, 1) := by decide +kernel
theorem dX5_no_1 : decode cX5_no 1 = .ok (.getfield 7, 3) := by decide +kernel
theorem dX5_no_4 : decode cX5_no 4 = .ok (.iload_n 1, 1) := by decide +kernel
theorem dX5_no_5 : decode cX5_no 5 = .ok (.ineg, 1) := by decide +kernel
theorem dX5_no_6 : decode cX5_no 6 = .ok (.dup2, 1) := by decide +kernel
theorem dX5_no_7 : decode cX5_no 7 = .ok (.iaload, 1) := by decide +kernel
theorem dX5_no_8 : decode cX5_no 8 = .ok (.iconst 1, 1) := by decide +kernel
theorem dX5_no_9 : decode cX5_no 9 = .ok (.iadd, 1) := by decide +kernel
theorem dX5_no_10 : decode cX5_no 10 = .ok (.iastore, 1) := by decide +kernel
theorem dX5_no_11 : decode cX5_no 11 = .ok (.iload_n 1, 1) := by decide +kernel
theorem dX5_no_12 : decode cX5_no 12 = .ok (.ireturn, 1) := by decide +kernel
theorem dX5_isIn_0 : decode cX5_isIn 0 = .ok (.iload_n 0, 1) := by decide +kernel
theorem dX5_isIn_1 : decode cX5_isIn 1 = .ok (.iload_n 1, 1) := by decide +kernel
theorem dX5_isIn_2 : decode cX5_isIn 2 = .ok (.if_icmp .lt 12, 3) := by decide +kernel
theorem dX5_isIn_5 : decode cX5_isIn 5 = .ok (.iload_n 0, 1) := by decide +kernel
theorem dX5_isIn_6 : decode cX5_isIn 6 = .ok (.iload_n 2, 1) := by decide +kernel
theorem dX5_isIn_7 : decode cX5_isIn 7 = .ok (.if_icmp .gt 7, 3) := by decide +kernel
theorem dX5_isIn_10 : decode cX5_isIn 10 = .ok (.iconst 1, 1) := by decide +kernel
theorem dX5_isIn_11 : decode cX5_isIn 11 = .ok (.goto 4, 3) := by decide +kernel
theorem dX5_isIn_14 : decode cX5_isIn 14 = .ok (.iconst 0, 1) := by decide +kernel
theorem dX5_isIn_15 : decode cX5_isIn 15 = .ok (.ireturn, 1) := by decide +kernel
theorem dX5_bound_0 : decode cX5_bound 0 = .ok (.iload_n 0, 1) := by decide +kernel
theorem dX5_bound_1 : decode cX5_bound 1 = .ok (.iload_n 1, 1) := by decide +kernel
theorem dX5_bound_2 : decode cX5_bound 2 = .ok (.if_icmp .ge 8, 3) := by decide +kernel
theorem dX5_bound_5 : decode cX5_bound 5 = .ok (.bipush (-4), 2) := by decide +kernel
theorem dX5_bound_7 : decode cX5_bound 7 = .ok (.goto 14, 3) := by decide +kernel
theorem dX5_bound_10 : decode cX5_bound 10 = .ok (.iload_n 0, 1) := by decide +kernel
theorem dX5_bound_11 : decode cX5_bound 11 = .ok (.iload_n 2, 1) := by decide +kernel
theorem dX5_bound_12 : decode cX5_bound 12 = .ok (.if_icmp .le 8, 3) := by decide +kernel
theorem dX5_bound_15 : decode cX5_bound 15 = .ok (.bipush (-6), 2) := by decide +kernel
theorem dX5_bound_17 : decode cX5_bound 17 = .ok (.goto 4, 3) := by decide +kernel
theorem dX5_bound_20 : decode cX5_bound 20 = .ok (.iconst 0, 1) := by decide +kernel
theorem dX5_bound_21 : decode cX5_bound 21 = .ok (.ireturn, 1) := by decide +kernel
theorem dX5_isWalker_0 : decode cX5_isWalker 0 = .ok (.iload_n 1, 1) := by decide +kernel
theorem dX5_isWalker_1 : decode cX5_isWalker 1 = .ok (.ifCond .lt 15, 3) := by decide +kernel
theorem dX5_isWalker_4 : decode cX5_isWalker 4 = .ok (.iload_n 1, 1) := by decide +kernel
theorem dX5_isWalker_5 : decode cX5_isWalker 5 = .ok (.aload_n 0, 1) := by decide +kernel
theorem dX5_isWalker_6 : decode cX5_isWalker 6 = .ok (.getfield 97, 3) := by decide +kernel
theorem dX5_isWalker_9 : decode cX5_isWalker 9 = .ok (.if_icmp .ge 7, 3) := by decide +kernel
theorem dX5_isWalker_12 : decode cX5_isWalker 12 = .ok (.iconst 1, 1) := by decide +kernel
theorem dX5_isWalker_13 : decode cX5_isWalker 13 = .ok (.goto 4, 3) := by decide +kernel
theorem dX5_isWalker_16 : decode cX5_isWalker 16 = .ok (.iconst 0, 1) := by decide +kernel
theorem dX5_isWalker_17 : decode cX5_isWalker 17 = .ok (.ireturn, 1) := by decide +kernel
theorem dX5_letter_0 : decode cX5_letter 0 = .ok (.iload_n 1, 1) := by decide +kernel
theorem dX5_letter_1 : decode cX5_letter 1 = .ok (.iconst 0, 1) := by decide +kernel
theorem dX5_letter_2 : decode cX5_letter 2 = .ok (.sipush 255, 3) := by decide +kernel
theorem dX5_letter_5 : decode cX5_letter 5 = .ok (.invokestatic 101, 3) := by decide +kernel
theorem dX5_letter_8 : decode cX5_letter 8 = .ok (.istore_n 2, 1) := by decide +kernel
theorem dX5_letter_9 : decode cX5_letter 9 = .ok (.iload_n 2, 1) := by decide +kernel
theorem dX5_letter_10 : decode cX5_letter 10 = .ok (.ifCond .ne 15, 3) := by decide +kernel
theorem dX5_letter_13 : decode cX5_letter 13 = .ok (.aload_n 0, 1) := by decide +kernel
theorem dX5_letter_14 : decode cX5_letter 14 = .ok (.getfield 105, 3) := by decide +kernel
theorem dX5_letter_17 : decode cX5_letter 17 = .ok (.bipush 80, 2) := by decide +kernel
theorem dX5_letter_19 : decode cX5_letter 19 = .ok (.if_icmp .ne 6, 3) := by decide +kernel
theorem dX5_letter_22 : decode cX5_letter 22 = .ok (.bipush (-6), 2) := by decide +kernel
theorem dX5_letter_24 : decode cX5_letter 24 = .ok (.istore_n 2, 1) := by decide +kernel
theorem dX5_letter_25 : decode cX5_letter 25 = .ok (.iload_n 2, 1) := by decide +kernel
theorem dX5_letter_26 : decode cX5_letter 26 = .ok (.ifCond .eq 9, 3) := by decide +kernel
theorem dX5_letter_29 : decode cX5_letter 29 = .ok (.aload_n 0, 1) := by decide +kernel
theorem dX5_letter_30 : decode cX5_letter 30 = .ok (.iload_n 2, 1) := by decide +kernel
theorem dX5_letter_31 : decode cX5_letter 31 = .ok (.invokevirtual 108, 3) := by decide +kernel
theorem dX5_letter_34 : decode cX5_letter 34 = .ok (.ireturn, 1) := by decide +kernel
theorem dX5_letter_35 : decode cX5_letter 35 = .ok (.aload_n 0, 1) := by decide +kernel
theorem dX5_letter_36 : decode cX5_letter 36 = .ok (.getfield 49, 3) := by decide +kernel
theorem dX5_letter_39 : decode cX5_letter 39 = .ok (.aload_n 0, 1) := by decide +kernel
theorem dX5_letter_40 : decode cX5_letter 40 = .ok (.getfield 105, 3) := by decide +kernel
theorem dX5_letter_43 : decode cX5_letter 43 = .ok (.iload_n 1, 1) := by decide +kernel
theorem dX5_letter_44 : decode cX5_letter 44 = .ok (.iastore, 1) := by decide +kernel
theorem dX5_letter_45 : decode cX5_letter 45 = .ok (.aload_n 0, 1) := by decide +kernel
theorem dX5_letter_46 : decode cX5_letter 46 = .ok (.dup, 1) := by decide +kernel
theorem dX5_letter_47 : decode cX5_letter 47 = .ok (.getfield 105, 3) := by decide +kernel
theorem dX5_letter_50 : decode cX5_letter 50 = .ok (.iconst 1, 1) := by decide +kernel
theorem dX5_letter_51 : decode cX5_letter 51 = .ok (.iadd, 1) := by decide +kernel
theorem dX5_letter_52 : decode cX5_letter 52 = .ok (.putfield 105, 3) := by decide +kernel
theorem dX5_letter_55 : decode cX5_letter 55 = .ok (.aload_n 0, 1) := by decide +kernel
theorem dX5_letter_56 : decode cX5_letter 56 = .ok (.getfield 105, 3) := by decide +kernel
theorem dX5_letter_59 : decode cX5_letter 59 = .ok (.ireturn, 1) := by decide +kernel
theorem dX5_next_0 : decode cX5_next 0 = .ok (.aload_n 0, 1) := by decide +kernel
theorem dX5_next_1 : decode cX5_next 1 = .ok (.getfield 112, 3) := by decide +kernel
theorem dX5_next_4 : decode cX5_next 4 = .ok (.aload_n 0, 1) := by decide +kernel
theorem dX5_next_5 : decode cX5_next 5 = .ok (.getfield 105, 3) := by decide +kernel
theorem dX5_next_8 : decode cX5_next 8 = .ok (.if_icmp .ge 15, 3) := by decide +kernel
theorem dX5_next_11 : decode cX5_next 11 = .ok (.aload_n 0, 1) := by decide +kernel
theorem dX5_next_12 : decode cX5_next 12 = .ok (.getfield 49, 3) := by decide +kernel
theorem dX5_next_15 : decode cX5_next 15 = .ok (.aload_n 0, 1) := by decide +kernel
theorem dX5_next_16 : decode cX5_next 16 = .ok (.getfield 112, 3) := by decide +kernel
theorem dX5_next_19 : decode cX5_next 19 = .ok (.iaload, 1) := by decide +kernel
theorem dX5_next_20 : decode cX5_next 20 = .ok (.goto 4, 3) := by decide +kernel
theorem dX5_next_23 : decode cX5_next 23 = .ok (.iconst (-1), 1) := by decide +kernel
theorem dX5_next_24 : decode cX5_next 24 = .ok (.ireturn, 1) := by decide +kernel
theorem dX5_isNext_0 : decode cX5_isNext 0 = .ok (.aload_n 0, 1) := by decide +kernel
theorem dX5_isNext_1 : decode cX5_isNext 1 = .ok (.invokevirtual 115, 3) := by decide +kernel
theorem dX5_isNext_4 : decode cX5_isNext 4 = .ok (.iload_n 1, 1) := by decide +kernel
theorem dX5_isNext_5 : decode cX5_isNext 5 = .ok (.if_icmp .eq 5, 3) := by decide +kernel
theorem dX5_isNext_8 : decode cX5_isNext 8 = .ok (.iconst 0, 1) := by decide +kernel
theorem dX5_isNext_9 : decode cX5_isNext 9 = .ok (.ireturn, 1) := by decide +kernel
theorem dX5_isNext_10 : decode cX5_isNext 10 = .ok (.aload_n 0, 1) := by decide +kernel
theorem dX5_isNext_11 : decode cX5_isNext 11 = .ok (.dup, 1) := by decide +kernel
theorem dX5_isNext_12 : decode cX5_isNext 12 = .ok (.getfield 112, 3) := by decide +kernel
theorem dX5_isNext_15 : decode cX5_isNext 15 = .ok (.iconst 1, 1) := by decide +kernel
theorem dX5_isNext_16 : decode cX5_isNext 16 = .ok (.iadd, 1) := by decide +kernel
theorem dX5_isNext_17 : decode cX5_isNext 17 = .ok (.putfield 112, 3) := by decide +kernel
theorem dX5_isNext_20 : decode cX5_isNext 20 = .ok (.iconst 1, 1) := by decide +kernel
theorem dX5_isNext_21 : decode cX5_isNext 21 = .ok (.ireturn, 1) := by decide +kernel
theorem dX5_reads_0 : decode cX5_reads 0 = .ok (.aload_n 0, 1) := by decide +kernel
theorem dX5_reads_1 : decode cX5_reads 1 = .ok (.invokevirtual 115, 3) := by decide +kernel
theorem dX5_reads_4 : decode cX5_reads 4 = .ok (.bipush 48, 2) := by decide +kernel
theorem dX5_reads_6 : decode cX5_reads 6 = .ok (.bipush 57, 2) := by decide +kernel
theorem dX5_reads_8 : decode cX5_reads 8 = .ok (.invokestatic 119, 3) := by decide +kernel
theorem dX5_reads_11 : decode cX5_reads 11 = .ok (.ifCond .ne 5, 3) := by decide +kernel
theorem dX5_reads_14 : decode cX5_reads 14 = .ok (.iconst 0, 1) := by decide +kernel
theorem dX5_reads_15 : decode cX5_reads 15 = .ok (.ireturn, 1) := by decide +kernel
theorem dX5_reads_16 : decode cX5_reads 16 = .ok (.iconst 0, 1) := by decide +kernel
theorem dX5_reads_17 : decode cX5_reads 17 = .ok (.istore_n 3, 1) := by decide +kernel
theorem dX5_reads_18 : decode cX5_reads 18 = .ok (.iconst 0, 1) := by decide +kernel
theorem dX5_reads_19 : decode cX5_reads 19 = .ok (.istore 4, 2) := by decide +kernel
theorem dX5_reads_21 : decode cX5_reads 21 = .ok (.iload 4, 2) := by decide +kernel
theorem dX5_reads_23 : decode cX5_reads 23 = .ok (.iload_n 2, 1) := by decide +kernel
theorem dX5_reads_24 : decode cX5_reads 24 = .ok (.if_icmp .ge 46, 3) := by decide +kernel
theorem dX5_reads_27 : decode cX5_reads 27 = .ok (.aload_n 0, 1) := by decide +kernel
theorem dX5_reads_28 : decode cX5_reads 28 = .ok (.invokevirtual 115, 3) := by decide +kernel
theorem dX5_reads_31 : decode cX5_reads 31 = .ok (.bipush 48, 2) := by decide +kernel
theorem dX5_reads_33 : decode cX5_reads 33 = .ok (.bipush 57, 2) := by decide +kernel
theorem dX5_reads_35 : decode cX5_reads 35 = .ok (.invokestatic 119, 3) := by decide +kernel
theorem dX5_reads_38 : decode cX5_reads 38 = .ok (.ifCond .eq 32, 3) := by decide +kernel
theorem dX5_reads_41 : decode cX5_reads 41 = .ok (.bipush 10, 2) := by decide +kernel
theorem dX5_reads_43 : decode cX5_reads 43 = .ok (.iload_n 3, 1) := by decide +kernel
theorem dX5_reads_44 : decode cX5_reads 44 = .ok (.imul, 1) := by decide +kernel
theorem dX5_reads_45 : decode cX5_reads 45 = .ok (.aload_n 0, 1) := by decide +kernel
theorem dX5_reads_46 : decode cX5_reads 46 = .ok (.invokevirtual 115, 3) := by decide +kernel
theorem dX5_reads_49 : decode cX5_reads 49 = .ok (.iadd, 1) := by decide +kernel
theorem dX5_reads_50 : decode cX5_reads 50 = .ok (.bipush 48, 2) := by decide +kernel
theorem dX5_reads_52 : decode cX5_reads 52 = .ok (.isub, 1) := by decide +kernel
theorem dX5_reads_53 : decode cX5_reads 53 = .ok (.istore_n 3, 1) := by decide +kernel
theorem dX5_reads_54 : decode cX5_reads 54 = .ok (.aload_n 0, 1) := by decide +kernel
theorem dX5_reads_55 : decode cX5_reads 55 = .ok (.dup, 1) := by decide +kernel
theorem dX5_reads_56 : decode cX5_reads 56 = .ok (.getfield 112, 3) := by decide +kernel
theorem dX5_reads_59 : decode cX5_reads 59 = .ok (.iconst 1, 1) := by decide +kernel
theorem dX5_reads_60 : decode cX5_reads 60 = .ok (.iadd, 1) := by decide +kernel
theorem dX5_reads_61 : decode cX5_reads 61 = .ok (.putfield 112, 3) := by decide +kernel
theorem dX5_reads_64 : decode cX5_reads 64 = .ok (.iinc 4 1, 3) := by decide +kernel
theorem dX5_reads_67 : decode cX5_reads 67 = .ok (.goto (-46), 3) := by decide +kernel
theorem dX5_reads_70 : decode cX5_reads 70 = .ok (.aload_n 0, 1) := by decide +kernel
theorem dX5_reads_71 : decode cX5_reads 71 = .ok (.getfield 58, 3) := by decide +kernel
theorem dX5_reads_74 : decode cX5_reads 74 = .ok (.iload_n 1, 1) := by decide +kernel
theorem dX5_reads_75 : decode cX5_reads 75 = .ok (.iload_n 3, 1) := by decide +kernel
theorem dX5_reads_76 : decode cX5_reads 76 = .ok (.iastore, 1) := by decide +kernel
theorem dX5_reads_77 : decode cX5_reads 77 = .ok (.iconst 1, 1) := by decide +kernel
theorem dX5_reads_78 : decode cX5_reads 78 = .ok (.ireturn, 1) := by decide +kernel
theorem dX5_readsOnes_0 : decode cX5_readsOnes 0 = .ok (.iconst 0, 1) := by decide +kernel
theorem dX5_readsOnes_1 : decode cX5_readsOnes 1 = .ok (.istore_n 3, 1) := by decide +kernel
theorem dX5_readsOnes_2 : decode cX5_readsOnes 2 = .ok (.iload_n 3, 1) := by decide +kernel
theorem dX5_readsOnes_3 : decode cX5_readsOnes 3 = .ok (.iload_n 2, 1) := by decide +kernel
theorem dX5_readsOnes_4 : decode cX5_readsOnes 4 = .ok (.if_icmp .ge 22, 3) := by decide +kernel
theorem dX5_readsOnes_7 : decode cX5_readsOnes 7 = .ok (.aload_n 0, 1) := by decide +kernel
theorem dX5_readsOnes_8 : decode cX5_readsOnes 8 = .ok (.iload_n 1, 1) := by decide +kernel
theorem dX5_readsOnes_9 : decode cX5_readsOnes 9 = .ok (.iload_n 3, 1) := by decide +kernel
theorem dX5_readsOnes_10 : decode cX5_readsOnes 10 = .ok (.iadd, 1) := by decide +kernel
theorem dX5_readsOnes_11 : decode cX5_readsOnes 11 = .ok (.iconst 1, 1) := by decide +kernel
theorem dX5_readsOnes_12 : decode cX5_readsOnes 12 = .ok (.invokevirtual 123, 3) := by decide +kernel
theorem dX5_readsOnes_15 : decode cX5_readsOnes 15 = .ok (.ifCond .ne 5, 3) := by decide +kernel
theorem dX5_readsOnes_18 : decode cX5_readsOnes 18 = .ok (.iconst 0, 1) := by decide +kernel
theorem dX5_readsOnes_19 : decode cX5_readsOnes 19 = .ok (.ireturn, 1) := by decide +kernel
theorem dX5_readsOnes_20 : decode cX5_readsOnes 20 = .ok (.iinc 3 1, 3) := by decide +kernel
theorem dX5_readsOnes_23 : decode cX5_readsOnes 23 = .ok (.goto (-21), 3) := by decide +kernel
theorem dX5_readsOnes_26 : decode cX5_readsOnes 26 = .ok (.iconst 1, 1) := by decide +kernel
theorem dX5_readsOnes_27 : decode cX5_readsOnes 27 = .ok (.ireturn, 1) := by decide +kernel
theorem dX5_kindOf_0 : decode cX5_kindOf 0 = .ok (.iload_n 0, 1) := by decide +kernel
theorem dX5_kindOf_1 : decode cX5_kindOf 1 = .ok (.tableswitch 95 98 114 #[89, 91, 95, 95, 95, 95, 87, 95, 95, 95, 95, 95, 95, 93, 83, 95, 85], 83) := by decide +kernel
theorem dX5_kindOf_84 : decode cX5_kindOf 84 = .ok (.iconst 0, 1) := by decide +kernel
theorem dX5_kindOf_85 : decode cX5_kindOf 85 = .ok (.ireturn, 1) := by decide +kernel
theorem dX5_kindOf_86 : decode cX5_kindOf 86 = .ok (.iconst 1, 1) := by decide +kernel
theorem dX5_kindOf_87 : decode cX5_kindOf 87 = .ok (.ireturn, 1) := by decide +kernel
theorem dX5_kindOf_88 : decode cX5_kindOf 88 = .ok (.iconst 2, 1) := by decide +kernel
theorem dX5_kindOf_89 : decode cX5_kindOf 89 = .ok (.ireturn, 1) := by decide +kernel
theorem dX5_kindOf_90 : decode cX5_kindOf 90 = .ok (.iconst 3, 1) := by decide +kernel
theorem dX5_kindOf_91 : decode cX5_kindOf 91 = .ok (.ireturn, 1) := by decide +kernel
theorem dX5_kindOf_92 : decode cX5_kindOf 92 = .ok (.iconst 4, 1) := by decide +kernel
theorem dX5_kindOf_93 : decode cX5_kindOf 93 = .ok (.ireturn, 1) := by decide +kernel
theorem dX5_kindOf_94 : decode cX5_kindOf 94 = .ok (.iconst 5, 1) := by decide +kernel
theorem dX5_kindOf_95 : decode cX5_kindOf 95 = .ok (.ireturn, 1) := by decide +kernel
theorem dX5_kindOf_96 : decode cX5_kindOf 96 = .ok (.iconst (-1), 1) := by decide +kernel
theorem dX5_kindOf_97 : decode cX5_kindOf 97 = .ok (.ireturn, 1) := by decide +kernel
theorem dX5_readsWalker_0 : decode cX5_readsWalker 0 = .ok (.aload_n 0, 1) := by decide +kernel
theorem dX5_readsWalker_1 : decode cX5_readsWalker 1 = .ok (.getfield 58, 3) := by decide +kernel
theorem dX5_readsWalker_4 : decode cX5_readsWalker 4 = .ok (.iload_n 1, 1) := by decide +kernel
theorem dX5_readsWalker_5 : decode cX5_readsWalker 5 = .ok (.aload_n 0, 1) := by decide +kernel
theorem dX5_readsWalker_6 : decode cX5_readsWalker 6 = .ok (.invokevirtual 115, 3) := by decide +kernel
theorem dX5_readsWalker_9 : decode cX5_readsWalker 9 = .ok (.invokestatic 127, 3) := by decide +kernel
theorem dX5_readsWalker_12 : decode cX5_readsWalker 12 = .ok (.iastore, 1) := by decide +kernel
theorem dX5_readsWalker_13 : decode cX5_readsWalker 13 = .ok (.aload_n 0, 1) := by decide +kernel
theorem dX5_readsWalker_14 : decode cX5_readsWalker 14 = .ok (.getfield 58, 3) := by decide +kernel
theorem dX5_readsWalker_17 : decode cX5_readsWalker 17 = .ok (.iload_n 1, 1) := by decide +kernel
theorem dX5_readsWalker_18 : decode cX5_readsWalker 18 = .ok (.iaload, 1) := by decide +kernel
theorem dX5_readsWalker_19 : decode cX5_readsWalker 19 = .ok (.ifCond .ge 5, 3) := by decide +kernel
theorem dX5_readsWalker_22 : decode cX5_readsWalker 22 = .ok (.iconst 0, 1) := by decide +kernel
theorem dX5_readsWalker_23 : decode cX5_readsWalker 23 = .ok (.ireturn, 1) := by decide +kernel
theorem dX5_readsWalker_24 : decode cX5_readsWalker 24 = .ok (.aload_n 0, 1) := by decide +kernel
theorem dX5_readsWalker_25 : decode cX5_readsWalker 25 = .ok (.dup, 1) := by decide +kernel
theorem dX5_readsWalker_26 : decode cX5_readsWalker 26 = .ok (.getfield 112, 3) := by decide +kernel
theorem dX5_readsWalker_29 : decode cX5_readsWalker 29 = .ok (.iconst 1, 1) := by decide +kernel
theorem dX5_readsWalker_30 : decode cX5_readsWalker 30 = .ok (.iadd, 1) := by decide +kernel
theorem dX5_readsWalker_31 : decode cX5_readsWalker 31 = .ok (.putfield 112, 3) := by decide +kernel
theorem dX5_readsWalker_34 : decode cX5_readsWalker 34 = .ok (.aload_n 0, 1) := by decide +kernel
theorem dX5_readsWalker_35 : decode cX5_readsWalker 35 = .ok (.iload_n 1, 1) := by decide +kernel
theorem dX5_readsWalker_36 : decode cX5_readsWalker 36 = .ok (.iconst 1, 1) := by decide +kernel
theorem dX5_readsWalker_37 : decode cX5_readsWalker 37 = .ok (.iadd, 1) := by decide +kernel
theorem dX5_readsWalker_38 : decode cX5_readsWalker 38 = .ok (.iconst 2, 1) := by decide +kernel
theorem dX5_readsWalker_39 : decode cX5_readsWalker 39 = .ok (.invokevirtual 123, 3) := by decide +kernel
theorem dX5_readsWalker_42 : decode cX5_readsWalker 42 = .ok (.ifCond .eq 47, 3) := by decide +kernel
theorem dX5_readsWalker_45 : decode cX5_readsWalker 45 = .ok (.aload_n 0, 1) := by decide +kernel
theorem dX5_readsWalker_46 : decode cX5_readsWalker 46 = .ok (.bipush 44, 2) := by decide +kernel
theorem dX5_readsWalker_48 : decode cX5_readsWalker 48 = .ok (.invokevirtual 130, 3) := by decide +kernel
theorem dX5_readsWalker_51 : decode cX5_readsWalker 51 = .ok (.ifCond .eq 38, 3) := by decide +kernel
theorem dX5_readsWalker_54 : decode cX5_readsWalker 54 = .ok (.aload_n 0, 1) := by decide +kernel
theorem dX5_readsWalker_55 : decode cX5_readsWalker 55 = .ok (.iload_n 1, 1) := by decide +kernel
theorem dX5_readsWalker_56 : decode cX5_readsWalker 56 = .ok (.iconst 2, 1) := by decide +kernel
theorem dX5_readsWalker_57 : decode cX5_readsWalker 57 = .ok (.iadd, 1) := by decide +kernel
theorem dX5_readsWalker_58 : decode cX5_readsWalker 58 = .ok (.iconst 2, 1) := by decide +kernel
theorem dX5_readsWalker_59 : decode cX5_readsWalker 59 = .ok (.invokevirtual 123, 3) := by decide +kernel
theorem dX5_readsWalker_62 : decode cX5_readsWalker 62 = .ok (.ifCond .eq 27, 3) := by decide +kernel
theorem dX5_readsWalker_65 : decode cX5_readsWalker 65 = .ok (.aload_n 0, 1) := by decide +kernel
theorem dX5_readsWalker_66 : decode cX5_readsWalker 66 = .ok (.bipush 44, 2) := by decide +kernel
theorem dX5_readsWalker_68 : decode cX5_readsWalker 68 = .ok (.invokevirtual 130, 3) := by decide +kernel
theorem dX5_readsWalker_71 : decode cX5_readsWalker 71 = .ok (.ifCond .eq 18, 3) := by decide +kernel
theorem dX5_readsWalker_74 : decode cX5_readsWalker 74 = .ok (.aload_n 0, 1) := by decide +kernel
theorem dX5_readsWalker_75 : decode cX5_readsWalker 75 = .ok (.iload_n 1, 1) := by decide +kernel
theorem dX5_readsWalker_76 : decode cX5_readsWalker 76 = .ok (.iconst 3, 1) := by decide +kernel
theorem dX5_readsWalker_77 : decode cX5_readsWalker 77 = .ok (.iadd, 1) := by decide +kernel
theorem dX5_readsWalker_78 : decode cX5_readsWalker 78 = .ok (.iconst 4, 1) := by decide +kernel
theorem dX5_readsWalker_79 : decode cX5_readsWalker 79 = .ok (.invokevirtual 134, 3) := by decide +kernel
theorem dX5_readsWalker_82 : decode cX5_readsWalker 82 = .ok (.ifCond .eq 7, 3) := by decide +kernel
theorem dX5_readsWalker_85 : decode cX5_readsWalker 85 = .ok (.iconst 1, 1) := by decide +kernel
theorem dX5_readsWalker_86 : decode cX5_readsWalker 86 = .ok (.goto 4, 3) := by decide +kernel
theorem dX5_readsWalker_89 : decode cX5_readsWalker 89 = .ok (.iconst 0, 1) := by decide +kernel
theorem dX5_readsWalker_90 : decode cX5_readsWalker 90 = .ok (.ireturn, 1) := by decide +kernel
theorem dX5_statement_0 : decode cX5_statement 0 = .ok (.aload_n 0, 1) := by decide +kernel
theorem dX5_statement_1 : decode cX5_statement 1 = .ok (.invokevirtual 115, 3) := by decide +kernel
theorem dX5_statement_4 : decode cX5_statement 4 = .ok (.istore_n 1, 1) := by decide +kernel
theorem dX5_statement_5 : decode cX5_statement 5 = .ok (.iload_n 1, 1) := by decide +kernel
theorem dX5_statement_6 : decode cX5_statement 6 = .ok (.bipush 100, 2) := by decide +kernel
theorem dX5_statement_8 : decode cX5_statement 8 = .ok (.if_icmp .eq 17, 3) := by decide +kernel
theorem dX5_statement_11 : decode cX5_statement 11 = .ok (.iload_n 1, 1) := by decide +kernel
theorem dX5_statement_12 : decode cX5_statement 12 = .ok (.bipush 99, 2) := by decide +kernel
theorem dX5_statement_14 : decode cX5_statement 14 = .ok (.if_icmp .eq 11, 3) := by decide +kernel
theorem dX5_statement_17 : decode cX5_statement 17 = .ok (.iload_n 1, 1) := by decide +kernel
theorem dX5_statement_18 : decode cX5_statement 18 = .ok (.bipush 119, 2) := by decide +kernel
theorem dX5_statement_20 : decode cX5_statement 20 = .ok (.if_icmp .eq 5, 3) := by decide +kernel
theorem dX5_statement_23 : decode cX5_statement 23 = .ok (.iconst 0, 1) := by decide +kernel
theorem dX5_statement_24 : decode cX5_statement 24 = .ok (.ireturn, 1) := by decide +kernel
theorem dX5_statement_25 : decode cX5_statement 25 = .ok (.aload_n 0, 1) := by decide +kernel
theorem dX5_statement_26 : decode cX5_statement 26 = .ok (.getfield 52, 3) := by decide +kernel
theorem dX5_statement_29 : decode cX5_statement 29 = .ok (.aload_n 0, 1) := by decide +kernel
theorem dX5_statement_30 : decode cX5_statement 30 = .ok (.getfield 137, 3) := by decide +kernel
theorem dX5_statement_33 : decode cX5_statement 33 = .ok (.iload_n 1, 1) := by decide +kernel
theorem dX5_statement_34 : decode cX5_statement 34 = .ok (.iastore, 1) := by decide +kernel
theorem dX5_statement_35 : decode cX5_statement 35 = .ok (.aload_n 0, 1) := by decide +kernel
theorem dX5_statement_36 : decode cX5_statement 36 = .ok (.getfield 55, 3) := by decide +kernel
theorem dX5_statement_39 : decode cX5_statement 39 = .ok (.aload_n 0, 1) := by decide +kernel
theorem dX5_statement_40 : decode cX5_statement 40 = .ok (.getfield 137, 3) := by decide +kernel
theorem dX5_statement_43 : decode cX5_statement 43 = .ok (.aload_n 0, 1) := by decide +kernel
theorem dX5_statement_44 : decode cX5_statement 44 = .ok (.getfield 112, 3) := by decide +kernel
theorem dX5_statement_47 : decode cX5_statement 47 = .ok (.iastore, 1) := by decide +kernel
theorem dX5_statement_48 : decode cX5_statement 48 = .ok (.aload_n 0, 1) := by decide +kernel
theorem dX5_statement_49 : decode cX5_statement 49 = .ok (.dup, 1) := by decide +kernel
theorem dX5_statement_50 : decode cX5_statement 50 = .ok (.getfield 112, 3) := by decide +kernel
theorem dX5_statement_53 : decode cX5_statement 53 = .ok (.iconst 1, 1) := by decide +kernel
theorem dX5_statement_54 : decode cX5_statement 54 = .ok (.iadd, 1) := by decide +kernel
theorem dX5_statement_55 : decode cX5_statement 55 = .ok (.putfield 112, 3) := by decide +kernel
theorem dX5_statement_58 : decode cX5_statement 58 = .ok (.bipush 8, 2) := by decide +kernel
theorem dX5_statement_60 : decode cX5_statement 60 = .ok (.aload_n 0, 1) := by decide +kernel
theorem dX5_statement_61 : decode cX5_statement 61 = .ok (.getfield 137, 3) := by decide +kernel
theorem dX5_statement_64 : decode cX5_statement 64 = .ok (.imul, 1) := by decide +kernel
theorem dX5_statement_65 : decode cX5_statement 65 = .ok (.istore_n 2, 1) := by decide +kernel
theorem dX5_statement_66 : decode cX5_statement 66 = .ok (.iload_n 1, 1) := by decide +kernel
theorem dX5_statement_67 : decode cX5_statement 67 = .ok (.bipush 100, 2) := by decide +kernel
theorem dX5_statement_69 : decode cX5_statement 69 = .ok (.if_icmp .ne 12, 3) := by decide +kernel
theorem dX5_statement_72 : decode cX5_statement 72 = .ok (.aload_n 0, 1) := by decide +kernel
theorem dX5_statement_73 : decode cX5_statement 73 = .ok (.iload_n 2, 1) := by decide +kernel
theorem dX5_statement_74 : decode cX5_statement 74 = .ok (.iconst 3, 1) := by decide +kernel
theorem dX5_statement_75 : decode cX5_statement 75 = .ok (.invokevirtual 134, 3) := by decide +kernel
theorem dX5_statement_78 : decode cX5_statement 78 = .ok (.goto 42, 3) := by decide +kernel
theorem dX5_statement_81 : decode cX5_statement 81 = .ok (.iload_n 1, 1) := by decide +kernel
theorem dX5_statement_82 : decode cX5_statement 82 = .ok (.bipush 99, 2) := by decide +kernel
theorem dX5_statement_84 : decode cX5_statement 84 = .ok (.if_icmp .ne 31, 3) := by decide +kernel
theorem dX5_statement_87 : decode cX5_statement 87 = .ok (.aload_n 0, 1) := by decide +kernel
theorem dX5_statement_88 : decode cX5_statement 88 = .ok (.iload_n 2, 1) := by decide +kernel
theorem dX5_statement_89 : decode cX5_statement 89 = .ok (.iconst 1, 1) := by decide +kernel
theorem dX5_statement_90 : decode cX5_statement 90 = .ok (.invokevirtual 123, 3) := by decide +kernel
theorem dX5_statement_93 : decode cX5_statement 93 = .ok (.ifCond .eq 18, 3) := by decide +kernel
theorem dX5_statement_96 : decode cX5_statement 96 = .ok (.aload_n 0, 1) := by decide +kernel
theorem dX5_statement_97 : decode cX5_statement 97 = .ok (.iload_n 2, 1) := by decide +kernel
theorem dX5_statement_98 : decode cX5_statement 98 = .ok (.iconst 1, 1) := by decide +kernel
theorem dX5_statement_99 : decode cX5_statement 99 = .ok (.iadd, 1) := by decide +kernel
theorem dX5_statement_100 : decode cX5_statement 100 = .ok (.iconst 2, 1) := by decide +kernel
theorem dX5_statement_101 : decode cX5_statement 101 = .ok (.invokevirtual 123, 3) := by decide +kernel
theorem dX5_statement_104 : decode cX5_statement 104 = .ok (.ifCond .eq 7, 3) := by decide +kernel
theorem dX5_statement_107 : decode cX5_statement 107 = .ok (.iconst 1, 1) := by decide +kernel
theorem dX5_statement_108 : decode cX5_statement 108 = .ok (.goto 12, 3) := by decide +kernel
theorem dX5_statement_111 : decode cX5_statement 111 = .ok (.iconst 0, 1) := by decide +kernel
theorem dX5_statement_112 : decode cX5_statement 112 = .ok (.goto 8, 3) := by decide +kernel
theorem dX5_statement_115 : decode cX5_statement 115 = .ok (.aload_n 0, 1) := by decide +kernel
theorem dX5_statement_116 : decode cX5_statement 116 = .ok (.iload_n 2, 1) := by decide +kernel
theorem dX5_statement_117 : decode cX5_statement 117 = .ok (.invokevirtual 140, 3) := by decide +kernel
theorem dX5_statement_120 : decode cX5_statement 120 = .ok (.istore_n 3, 1) := by decide +kernel
theorem dX5_statement_121 : decode cX5_statement 121 = .ok (.iload_n 3, 1) := by decide +kernel
theorem dX5_statement_122 : decode cX5_statement 122 = .ok (.ifCond .eq 16, 3) := by decide +kernel
theorem dX5_statement_125 : decode cX5_statement 125 = .ok (.aload_n 0, 1) := by decide +kernel
theorem dX5_statement_126 : decode cX5_statement 126 = .ok (.bipush 59, 2) := by decide +kernel
theorem dX5_statement_128 : decode cX5_statement 128 = .ok (.invokevirtual 130, 3) := by decide +kernel
theorem dX5_statement_131 : decode cX5_statement 131 = .ok (.ifCond .eq 7, 3) := by decide +kernel
theorem dX5_statement_134 : decode cX5_statement 134 = .ok (.iconst 1, 1) := by decide +kernel
theorem dX5_statement_135 : decode cX5_statement 135 = .ok (.goto 4, 3) := by decide +kernel
theorem dX5_statement_138 : decode cX5_statement 138 = .ok (.iconst 0, 1) := by decide +kernel
theorem dX5_statement_139 : decode cX5_statement 139 = .ok (.ireturn, 1) := by decide +kernel
theorem dX5_comesWalker_0 : decode cX5_comesWalker 0 = .ok (.aload_n 0, 1) := by decide +kernel
theorem dX5_comesWalker_1 : decode cX5_comesWalker 1 = .ok (.getfield 97, 3) := by decide +kernel
theorem dX5_comesWalker_4 : decode cX5_comesWalker 4 = .ok (.bipush 8, 2) := by decide +kernel
theorem dX5_comesWalker_6 : decode cX5_comesWalker 6 = .ok (.if_icmp .eq 60, 3) := by decide +kernel
theorem dX5_comesWalker_9 : decode cX5_comesWalker 9 = .ok (.aload_n 0, 1) := by decide +kernel
theorem dX5_comesWalker_10 : decode cX5_comesWalker 10 = .ok (.getfield 58, 3) := by decide +kernel
theorem dX5_comesWalker_13 : decode cX5_comesWalker 13 = .ok (.iload_n 1, 1) := by decide +kernel
theorem dX5_comesWalker_14 : decode cX5_comesWalker 14 = .ok (.iconst 2, 1) := by decide +kernel
theorem dX5_comesWalker_15 : decode cX5_comesWalker 15 = .ok (.iadd, 1) := by decide +kernel
theorem dX5_comesWalker_16 : decode cX5_comesWalker 16 = .ok (.iaload, 1) := by decide +kernel
theorem dX5_comesWalker_17 : decode cX5_comesWalker 17 = .ok (.iconst 1, 1) := by decide +kernel
theorem dX5_comesWalker_18 : decode cX5_comesWalker 18 = .ok (.bipush 40, 2) := by decide +kernel
theorem dX5_comesWalker_20 : decode cX5_comesWalker 20 = .ok (.invokestatic 119, 3) := by decide +kernel
theorem dX5_comesWalker_23 : decode cX5_comesWalker 23 = .ok (.ifCond .eq 43, 3) := by decide +kernel
theorem dX5_comesWalker_26 : decode cX5_comesWalker 26 = .ok (.aload_n 0, 1) := by decide +kernel
theorem dX5_comesWalker_27 : decode cX5_comesWalker 27 = .ok (.getfield 58, 3) := by decide +kernel
theorem dX5_comesWalker_30 : decode cX5_comesWalker 30 = .ok (.iload_n 1, 1) := by decide +kernel
theorem dX5_comesWalker_31 : decode cX5_comesWalker 31 = .ok (.iconst 3, 1) := by decide +kernel
theorem dX5_comesWalker_32 : decode cX5_comesWalker 32 = .ok (.iadd, 1) := by decide +kernel
theorem dX5_comesWalker_33 : decode cX5_comesWalker 33 = .ok (.iaload, 1) := by decide +kernel
theorem dX5_comesWalker_34 : decode cX5_comesWalker 34 = .ok (.iconst 1, 1) := by decide +kernel
theorem dX5_comesWalker_35 : decode cX5_comesWalker 35 = .ok (.iconst 4, 1) := by decide +kernel
theorem dX5_comesWalker_36 : decode cX5_comesWalker 36 = .ok (.invokestatic 119, 3) := by decide +kernel
theorem dX5_comesWalker_39 : decode cX5_comesWalker 39 = .ok (.ifCond .eq 27, 3) := by decide +kernel
theorem dX5_comesWalker_42 : decode cX5_comesWalker 42 = .ok (.aload_n 0, 1) := by decide +kernel
theorem dX5_comesWalker_43 : decode cX5_comesWalker 43 = .ok (.getfield 58, 3) := by decide +kernel
theorem dX5_comesWalker_46 : decode cX5_comesWalker 46 = .ok (.iload_n 1, 1) := by decide +kernel
theorem dX5_comesWalker_47 : decode cX5_comesWalker 47 = .ok (.iconst 4, 1) := by decide +kernel
theorem dX5_comesWalker_48 : decode cX5_comesWalker 48 = .ok (.iadd, 1) := by decide +kernel
theorem dX5_comesWalker_49 : decode cX5_comesWalker 49 = .ok (.iaload, 1) := by decide +kernel
theorem dX5_comesWalker_50 : decode cX5_comesWalker 50 = .ok (.iconst 2, 1) := by decide +kernel
theorem dX5_comesWalker_51 : decode cX5_comesWalker 51 = .ok (.if_icmp .gt 15, 3) := by decide +kernel
theorem dX5_comesWalker_54 : decode cX5_comesWalker 54 = .ok (.aload_n 0, 1) := by decide +kernel
theorem dX5_comesWalker_55 : decode cX5_comesWalker 55 = .ok (.getfield 58, 3) := by decide +kernel
theorem dX5_comesWalker_58 : decode cX5_comesWalker 58 = .ok (.iload_n 1, 1) := by decide +kernel
theorem dX5_comesWalker_59 : decode cX5_comesWalker 59 = .ok (.iconst 5, 1) := by decide +kernel
theorem dX5_comesWalker_60 : decode cX5_comesWalker 60 = .ok (.iadd, 1) := by decide +kernel
theorem dX5_comesWalker_61 : decode cX5_comesWalker 61 = .ok (.iaload, 1) := by decide +kernel
theorem dX5_comesWalker_62 : decode cX5_comesWalker 62 = .ok (.iconst 1, 1) := by decide +kernel
theorem dX5_comesWalker_63 : decode cX5_comesWalker 63 = .ok (.if_icmp .le 5, 3) := by decide +kernel
theorem dX5_comesWalker_66 : decode cX5_comesWalker 66 = .ok (.iconst 0, 1) := by decide +kernel
theorem dX5_comesWalker_67 : decode cX5_comesWalker 67 = .ok (.ireturn, 1) := by decide +kernel
theorem dX5_comesWalker_68 : decode cX5_comesWalker 68 = .ok (.aload_n 0, 1) := by decide +kernel
theorem dX5_comesWalker_69 : decode cX5_comesWalker 69 = .ok (.getfield 13, 3) := by decide +kernel
theorem dX5_comesWalker_72 : decode cX5_comesWalker 72 = .ok (.aload_n 0, 1) := by decide +kernel
theorem dX5_comesWalker_73 : decode cX5_comesWalker 73 = .ok (.getfield 97, 3) := by decide +kernel
theorem dX5_comesWalker_76 : decode cX5_comesWalker 76 = .ok (.aload_n 0, 1) := by decide +kernel
theorem dX5_comesWalker_77 : decode cX5_comesWalker 77 = .ok (.getfield 58, 3) := by decide +kernel
theorem dX5_comesWalker_80 : decode cX5_comesWalker 80 = .ok (.iload_n 1, 1) := by decide +kernel
theorem dX5_comesWalker_81 : decode cX5_comesWalker 81 = .ok (.iaload, 1) := by decide +kernel
theorem dX5_comesWalker_82 : decode cX5_comesWalker 82 = .ok (.iastore, 1) := by decide +kernel
theorem dX5_comesWalker_83 : decode cX5_comesWalker 83 = .ok (.aload_n 0, 1) := by decide +kernel
theorem dX5_comesWalker_84 : decode cX5_comesWalker 84 = .ok (.getfield 16, 3) := by decide +kernel
theorem dX5_comesWalker_87 : decode cX5_comesWalker 87 = .ok (.aload_n 0, 1) := by decide +kernel
theorem dX5_comesWalker_88 : decode cX5_comesWalker 88 = .ok (.getfield 97, 3) := by decide +kernel
theorem dX5_comesWalker_91 : decode cX5_comesWalker 91 = .ok (.aload_n 0, 1) := by decide +kernel
theorem dX5_comesWalker_92 : decode cX5_comesWalker 92 = .ok (.getfield 58, 3) := by decide +kernel
theorem dX5_comesWalker_95 : decode cX5_comesWalker 95 = .ok (.iload_n 1, 1) := by decide +kernel
theorem dX5_comesWalker_96 : decode cX5_comesWalker 96 = .ok (.iconst 1, 1) := by decide +kernel
theorem dX5_comesWalker_97 : decode cX5_comesWalker 97 = .ok (.iadd, 1) := by decide +kernel
theorem dX5_comesWalker_98 : decode cX5_comesWalker 98 = .ok (.iaload, 1) := by decide +kernel
theorem dX5_comesWalker_99 : decode cX5_comesWalker 99 = .ok (.iastore, 1) := by decide +kernel
theorem dX5_comesWalker_100 : decode cX5_comesWalker 100 = .ok (.aload_n 0, 1) := by decide +kernel
theorem dX5_comesWalker_101 : decode cX5_comesWalker 101 = .ok (.getfield 19, 3) := by decide +kernel
theorem dX5_comesWalker_104 : decode cX5_comesWalker 104 = .ok (.aload_n 0, 1) := by decide +kernel
theorem dX5_comesWalker_105 : decode cX5_comesWalker 105 = .ok (.getfield 97, 3) := by decide +kernel
theorem dX5_comesWalker_108 : decode cX5_comesWalker 108 = .ok (.aload_n 0, 1) := by decide +kernel
theorem dX5_comesWalker_109 : decode cX5_comesWalker 109 = .ok (.getfield 58, 3) := by decide +kernel
theorem dX5_comesWalker_112 : decode cX5_comesWalker 112 = .ok (.iload_n 1, 1) := by decide +kernel
theorem dX5_comesWalker_113 : decode cX5_comesWalker 113 = .ok (.iconst 2, 1) := by decide +kernel
theorem dX5_comesWalker_114 : decode cX5_comesWalker 114 = .ok (.iadd, 1) := by decide +kernel
theorem dX5_comesWalker_115 : decode cX5_comesWalker 115 = .ok (.iaload, 1) := by decide +kernel
theorem dX5_comesWalker_116 : decode cX5_comesWalker 116 = .ok (.iastore, 1) := by decide +kernel
theorem dX5_comesWalker_117 : decode cX5_comesWalker 117 = .ok (.aload_n 0, 1) := by decide +kernel
theorem dX5_comesWalker_118 : decode cX5_comesWalker 118 = .ok (.getfield 22, 3) := by decide +kernel
theorem dX5_comesWalker_121 : decode cX5_comesWalker 121 = .ok (.aload_n 0, 1) := by decide +kernel
theorem dX5_comesWalker_122 : decode cX5_comesWalker 122 = .ok (.getfield 97, 3) := by decide +kernel
theorem dX5_comesWalker_125 : decode cX5_comesWalker 125 = .ok (.aload_n 0, 1) := by decide +kernel
theorem dX5_comesWalker_126 : decode cX5_comesWalker 126 = .ok (.getfield 58, 3) := by decide +kernel
theorem dX5_comesWalker_129 : decode cX5_comesWalker 129 = .ok (.iload_n 1, 1) := by decide +kernel
theorem dX5_comesWalker_130 : decode cX5_comesWalker 130 = .ok (.iconst 3, 1) := by decide +kernel
theorem dX5_comesWalker_131 : decode cX5_comesWalker 131 = .ok (.iadd, 1) := by decide +kernel
theorem dX5_comesWalker_132 : decode cX5_comesWalker 132 = .ok (.iaload, 1) := by decide +kernel
theorem dX5_comesWalker_133 : decode cX5_comesWalker 133 = .ok (.iastore, 1) := by decide +kernel
theorem dX5_comesWalker_134 : decode cX5_comesWalker 134 = .ok (.aload_n 0, 1) := by decide +kernel
theorem dX5_comesWalker_135 : decode cX5_comesWalker 135 = .ok (.getfield 25, 3) := by decide +kernel
theorem dX5_comesWalker_138 : decode cX5_comesWalker 138 = .ok (.aload_n 0, 1) := by decide +kernel
theorem dX5_comesWalker_139 : decode cX5_comesWalker 139 = .ok (.getfield 97, 3) := by decide +kernel
theorem dX5_comesWalker_142 : decode cX5_comesWalker 142 = .ok (.aload_n 0, 1) := by decide +kernel
theorem dX5_comesWalker_143 : decode cX5_comesWalker 143 = .ok (.getfield 58, 3) := by decide +kernel
theorem dX5_comesWalker_146 : decode cX5_comesWalker 146 = .ok (.iload_n 1, 1) := by decide +kernel
theorem dX5_comesWalker_147 : decode cX5_comesWalker 147 = .ok (.iconst 4, 1) := by decide +kernel
theorem dX5_comesWalker_148 : decode cX5_comesWalker 148 = .ok (.iadd, 1) := by decide +kernel
theorem dX5_comesWalker_149 : decode cX5_comesWalker 149 = .ok (.iaload, 1) := by decide +kernel
theorem dX5_comesWalker_150 : decode cX5_comesWalker 150 = .ok (.iastore, 1) := by decide +kernel
theorem dX5_comesWalker_151 : decode cX5_comesWalker 151 = .ok (.aload_n 0, 1) := by decide +kernel
theorem dX5_comesWalker_152 : decode cX5_comesWalker 152 = .ok (.getfield 28, 3) := by decide +kernel
theorem dX5_comesWalker_155 : decode cX5_comesWalker 155 = .ok (.aload_n 0, 1) := by decide +kernel
theorem dX5_comesWalker_156 : decode cX5_comesWalker 156 = .ok (.getfield 97, 3) := by decide +kernel
theorem dX5_comesWalker_159 : decode cX5_comesWalker 159 = .ok (.aload_n 0, 1) := by decide +kernel
theorem dX5_comesWalker_160 : decode cX5_comesWalker 160 = .ok (.getfield 58, 3) := by decide +kernel
theorem dX5_comesWalker_163 : decode cX5_comesWalker 163 = .ok (.iload_n 1, 1) := by decide +kernel
theorem dX5_comesWalker_164 : decode cX5_comesWalker 164 = .ok (.iconst 5, 1) := by decide +kernel
theorem dX5_comesWalker_165 : decode cX5_comesWalker 165 = .ok (.iadd, 1) := by decide +kernel
theorem dX5_comesWalker_166 : decode cX5_comesWalker 166 = .ok (.iaload, 1) := by decide +kernel
theorem dX5_comesWalker_167 : decode cX5_comesWalker 167 = .ok (.iastore, 1) := by decide +kernel
theorem dX5_comesWalker_168 : decode cX5_comesWalker 168 = .ok (.aload_n 0, 1) := by decide +kernel
theorem dX5_comesWalker_169 : decode cX5_comesWalker 169 = .ok (.getfield 31, 3) := by decide +kernel
theorem dX5_comesWalker_172 : decode cX5_comesWalker 172 = .ok (.aload_n 0, 1) := by decide +kernel
theorem dX5_comesWalker_173 : decode cX5_comesWalker 173 = .ok (.getfield 97, 3) := by decide +kernel
theorem dX5_comesWalker_176 : decode cX5_comesWalker 176 = .ok (.aload_n 0, 1) := by decide +kernel
theorem dX5_comesWalker_177 : decode cX5_comesWalker 177 = .ok (.getfield 58, 3) := by decide +kernel
theorem dX5_comesWalker_180 : decode cX5_comesWalker 180 = .ok (.iload_n 1, 1) := by decide +kernel
theorem dX5_comesWalker_181 : decode cX5_comesWalker 181 = .ok (.bipush 6, 2) := by decide +kernel
theorem dX5_comesWalker_183 : decode cX5_comesWalker 183 = .ok (.iadd, 1) := by decide +kernel
theorem dX5_comesWalker_184 : decode cX5_comesWalker 184 = .ok (.iaload, 1) := by decide +kernel
theorem dX5_comesWalker_185 : decode cX5_comesWalker 185 = .ok (.iastore, 1) := by decide +kernel
theorem dX5_comesWalker_186 : decode cX5_comesWalker 186 = .ok (.aload_n 0, 1) := by decide +kernel
theorem dX5_comesWalker_187 : decode cX5_comesWalker 187 = .ok (.dup, 1) := by decide +kernel
theorem dX5_comesWalker_188 : decode cX5_comesWalker 188 = .ok (.getfield 97, 3) := by decide +kernel
theorem dX5_comesWalker_191 : decode cX5_comesWalker 191 = .ok (.iconst 1, 1) := by decide +kernel
theorem dX5_comesWalker_192 : decode cX5_comesWalker 192 = .ok (.iadd, 1) := by decide +kernel
theorem dX5_comesWalker_193 : decode cX5_comesWalker 193 = .ok (.putfield 97, 3) := by decide +kernel
theorem dX5_comesWalker_196 : decode cX5_comesWalker 196 = .ok (.iconst 1, 1) := by decide +kernel
theorem dX5_comesWalker_197 : decode cX5_comesWalker 197 = .ok (.ireturn, 1) := by decide +kernel
theorem dX5_comesAs_0 : decode cX5_comesAs 0 = .ok (.bipush 8, 2) := by decide +kernel
theorem dX5_comesAs_2 : decode cX5_comesAs 2 = .ok (.iload_n 1, 1) := by decide +kernel
theorem dX5_comesAs_3 : decode cX5_comesAs 3 = .ok (.imul, 1) := by decide +kernel
theorem dX5_comesAs_4 : decode cX5_comesAs 4 = .ok (.istore_n 2, 1) := by decide +kernel
theorem dX5_comesAs_5 : decode cX5_comesAs 5 = .ok (.aload_n 0, 1) := by decide +kernel
theorem dX5_comesAs_6 : decode cX5_comesAs 6 = .ok (.getfield 52, 3) := by decide +kernel
theorem dX5_comesAs_9 : decode cX5_comesAs 9 = .ok (.iload_n 1, 1) := by decide +kernel
theorem dX5_comesAs_10 : decode cX5_comesAs 10 = .ok (.iaload, 1) := by decide +kernel
theorem dX5_comesAs_11 : decode cX5_comesAs 11 = .ok (.bipush 119, 2) := by decide +kernel
theorem dX5_comesAs_13 : decode cX5_comesAs 13 = .ok (.if_icmp .ne 9, 3) := by decide +kernel
theorem dX5_comesAs_16 : decode cX5_comesAs 16 = .ok (.aload_n 0, 1) := by decide +kernel
theorem dX5_comesAs_17 : decode cX5_comesAs 17 = .ok (.iload_n 2, 1) := by decide +kernel
theorem dX5_comesAs_18 : decode cX5_comesAs 18 = .ok (.invokevirtual 143, 3) := by decide +kernel
theorem dX5_comesAs_21 : decode cX5_comesAs 21 = .ok (.ireturn, 1) := by decide +kernel
theorem dX5_comesAs_22 : decode cX5_comesAs 22 = .ok (.aload_n 0, 1) := by decide +kernel
theorem dX5_comesAs_23 : decode cX5_comesAs 23 = .ok (.getfield 52, 3) := by decide +kernel
theorem dX5_comesAs_26 : decode cX5_comesAs 26 = .ok (.iload_n 1, 1) := by decide +kernel
theorem dX5_comesAs_27 : decode cX5_comesAs 27 = .ok (.iaload, 1) := by decide +kernel
theorem dX5_comesAs_28 : decode cX5_comesAs 28 = .ok (.bipush 99, 2) := by decide +kernel
theorem dX5_comesAs_30 : decode cX5_comesAs 30 = .ok (.if_icmp .ne 59, 3) := by decide +kernel
theorem dX5_comesAs_33 : decode cX5_comesAs 33 = .ok (.aload_n 0, 1) := by decide +kernel
theorem dX5_comesAs_34 : decode cX5_comesAs 34 = .ok (.getfield 34, 3) := by decide +kernel
theorem dX5_comesAs_37 : decode cX5_comesAs 37 = .ok (.iconst 4, 1) := by decide +kernel
theorem dX5_comesAs_38 : decode cX5_comesAs 38 = .ok (.aload_n 0, 1) := by decide +kernel
theorem dX5_comesAs_39 : decode cX5_comesAs 39 = .ok (.getfield 58, 3) := by decide +kernel
theorem dX5_comesAs_42 : decode cX5_comesAs 42 = .ok (.iload_n 2, 1) := by decide +kernel
theorem dX5_comesAs_43 : decode cX5_comesAs 43 = .ok (.iaload, 1) := by decide +kernel
theorem dX5_comesAs_44 : decode cX5_comesAs 44 = .ok (.iastore, 1) := by decide +kernel
theorem dX5_comesAs_45 : decode cX5_comesAs 45 = .ok (.aload_n 0, 1) := by decide +kernel
theorem dX5_comesAs_46 : decode cX5_comesAs 46 = .ok (.getfield 34, 3) := by decide +kernel
theorem dX5_comesAs_49 : decode cX5_comesAs 49 = .ok (.iconst 3, 1) := by decide +kernel
theorem dX5_comesAs_50 : decode cX5_comesAs 50 = .ok (.aload_n 0, 1) := by decide +kernel
theorem dX5_comesAs_51 : decode cX5_comesAs 51 = .ok (.getfield 58, 3) := by decide +kernel
theorem dX5_comesAs_54 : decode cX5_comesAs 54 = .ok (.iload_n 2, 1) := by decide +kernel
theorem dX5_comesAs_55 : decode cX5_comesAs 55 = .ok (.iconst 1, 1) := by decide +kernel
theorem dX5_comesAs_56 : decode cX5_comesAs 56 = .ok (.iadd, 1) := by decide +kernel
theorem dX5_comesAs_57 : decode cX5_comesAs 57 = .ok (.iaload, 1) := by decide +kernel
theorem dX5_comesAs_58 : decode cX5_comesAs 58 = .ok (.iastore, 1) := by decide +kernel
theorem dX5_comesAs_59 : decode cX5_comesAs 59 = .ok (.aload_n 0, 1) := by decide +kernel
theorem dX5_comesAs_60 : decode cX5_comesAs 60 = .ok (.getfield 58, 3) := by decide +kernel
theorem dX5_comesAs_63 : decode cX5_comesAs 63 = .ok (.iload_n 2, 1) := by decide +kernel
theorem dX5_comesAs_64 : decode cX5_comesAs 64 = .ok (.iaload, 1) := by decide +kernel
theorem dX5_comesAs_65 : decode cX5_comesAs 65 = .ok (.bipush 7, 2) := by decide +kernel
theorem dX5_comesAs_67 : decode cX5_comesAs 67 = .ok (.if_icmp .ge 20, 3) := by decide +kernel
theorem dX5_comesAs_70 : decode cX5_comesAs 70 = .ok (.aload_n 0, 1) := by decide +kernel
theorem dX5_comesAs_71 : decode cX5_comesAs 71 = .ok (.getfield 58, 3) := by decide +kernel
theorem dX5_comesAs_74 : decode cX5_comesAs 74 = .ok (.iload_n 2, 1) := by decide +kernel
theorem dX5_comesAs_75 : decode cX5_comesAs 75 = .ok (.iconst 1, 1) := by decide +kernel
theorem dX5_comesAs_76 : decode cX5_comesAs 76 = .ok (.iadd, 1) := by decide +kernel
theorem dX5_comesAs_77 : decode cX5_comesAs 77 = .ok (.iaload, 1) := by decide +kernel
theorem dX5_comesAs_78 : decode cX5_comesAs 78 = .ok (.bipush 40, 2) := by decide +kernel
theorem dX5_comesAs_80 : decode cX5_comesAs 80 = .ok (.if_icmp .gt 7, 3) := by decide +kernel
theorem dX5_comesAs_83 : decode cX5_comesAs 83 = .ok (.iconst 1, 1) := by decide +kernel
theorem dX5_comesAs_84 : decode cX5_comesAs 84 = .ok (.goto 4, 3) := by decide +kernel
theorem dX5_comesAs_87 : decode cX5_comesAs 87 = .ok (.iconst 0, 1) := by decide +kernel
theorem dX5_comesAs_88 : decode cX5_comesAs 88 = .ok (.ireturn, 1) := by decide +kernel
theorem dX5_comesAs_89 : decode cX5_comesAs 89 = .ok (.iconst 0, 1) := by decide +kernel
theorem dX5_comesAs_90 : decode cX5_comesAs 90 = .ok (.istore_n 3, 1) := by decide +kernel
theorem dX5_comesAs_91 : decode cX5_comesAs 91 = .ok (.iload_n 3, 1) := by decide +kernel
theorem dX5_comesAs_92 : decode cX5_comesAs 92 = .ok (.iconst 3, 1) := by decide +kernel
theorem dX5_comesAs_93 : decode cX5_comesAs 93 = .ok (.if_icmp .ge 23, 3) := by decide +kernel
theorem dX5_comesAs_96 : decode cX5_comesAs 96 = .ok (.aload_n 0, 1) := by decide +kernel
theorem dX5_comesAs_97 : decode cX5_comesAs 97 = .ok (.getfield 34, 3) := by decide +kernel
theorem dX5_comesAs_100 : decode cX5_comesAs 100 = .ok (.iload_n 3, 1) := by decide +kernel
theorem dX5_comesAs_101 : decode cX5_comesAs 101 = .ok (.aload_n 0, 1) := by decide +kernel
theorem dX5_comesAs_102 : decode cX5_comesAs 102 = .ok (.getfield 58, 3) := by decide +kernel
theorem dX5_comesAs_105 : decode cX5_comesAs 105 = .ok (.iload_n 2, 1) := by decide +kernel
theorem dX5_comesAs_106 : decode cX5_comesAs 106 = .ok (.iload_n 3, 1) := by decide +kernel
theorem dX5_comesAs_107 : decode cX5_comesAs 107 = .ok (.iadd, 1) := by decide +kernel
theorem dX5_comesAs_108 : decode cX5_comesAs 108 = .ok (.iaload, 1) := by decide +kernel
theorem dX5_comesAs_109 : decode cX5_comesAs 109 = .ok (.iastore, 1) := by decide +kernel
theorem dX5_comesAs_110 : decode cX5_comesAs 110 = .ok (.iinc 3 1, 3) := by decide +kernel
theorem dX5_comesAs_113 : decode cX5_comesAs 113 = .ok (.goto (-22), 3) := by decide +kernel
theorem dX5_comesAs_116 : decode cX5_comesAs 116 = .ok (.aload_n 0, 1) := by decide +kernel
theorem dX5_comesAs_117 : decode cX5_comesAs 117 = .ok (.getfield 58, 3) := by decide +kernel
theorem dX5_comesAs_120 : decode cX5_comesAs 120 = .ok (.iload_n 2, 1) := by decide +kernel
theorem dX5_comesAs_121 : decode cX5_comesAs 121 = .ok (.iaload, 1) := by decide +kernel
theorem dX5_comesAs_122 : decode cX5_comesAs 122 = .ok (.ifCond .le 7, 3) := by decide +kernel
theorem dX5_comesAs_125 : decode cX5_comesAs 125 = .ok (.iconst 1, 1) := by decide +kernel
theorem dX5_comesAs_126 : decode cX5_comesAs 126 = .ok (.goto 4, 3) := by decide +kernel
theorem dX5_comesAs_129 : decode cX5_comesAs 129 = .ok (.iconst 0, 1) := by decide +kernel
theorem dX5_comesAs_130 : decode cX5_comesAs 130 = .ok (.ireturn, 1) := by decide +kernel
theorem dX5_way_0 : decode cX5_way 0 = .ok (.aload_n 0, 1) := by decide +kernel
theorem dX5_way_1 : decode cX5_way 1 = .ok (.iconst 0, 1) := by decide +kernel
theorem dX5_way_2 : decode cX5_way 2 = .ok (.putfield 112, 3) := by decide +kernel
theorem dX5_way_5 : decode cX5_way 5 = .ok (.aload_n 0, 1) := by decide +kernel
theorem dX5_way_6 : decode cX5_way 6 = .ok (.iconst 0, 1) := by decide +kernel
theorem dX5_way_7 : decode cX5_way 7 = .ok (.putfield 137, 3) := by decide +kernel
theorem dX5_way_10 : decode cX5_way 10 = .ok (.iconst 1, 1) := by decide +kernel
theorem dX5_way_11 : decode cX5_way 11 = .ok (.istore_n 1, 1) := by decide +kernel
theorem dX5_way_12 : decode cX5_way 12 = .ok (.iload_n 1, 1) := by decide +kernel
theorem dX5_way_13 : decode cX5_way 13 = .ok (.ifCond .eq 47, 3) := by decide +kernel
theorem dX5_way_16 : decode cX5_way 16 = .ok (.aload_n 0, 1) := by decide +kernel
theorem dX5_way_17 : decode cX5_way 17 = .ok (.getfield 112, 3) := by decide +kernel
theorem dX5_way_20 : decode cX5_way 20 = .ok (.aload_n 0, 1) := by decide +kernel
theorem dX5_way_21 : decode cX5_way 21 = .ok (.getfield 105, 3) := by decide +kernel
theorem dX5_way_24 : decode cX5_way 24 = .ok (.if_icmp .lt 10, 3) := by decide +kernel
theorem dX5_way_27 : decode cX5_way 27 = .ok (.aload_n 0, 1) := by decide +kernel
theorem dX5_way_28 : decode cX5_way 28 = .ok (.getfield 137, 3) := by decide +kernel
theorem dX5_way_31 : decode cX5_way 31 = .ok (.ifCond .ne 29, 3) := by decide +kernel
theorem dX5_way_34 : decode cX5_way 34 = .ok (.aload_n 0, 1) := by decide +kernel
theorem dX5_way_35 : decode cX5_way 35 = .ok (.invokevirtual 146, 3) := by decide +kernel
theorem dX5_way_38 : decode cX5_way 38 = .ok (.istore_n 1, 1) := by decide +kernel
theorem dX5_way_39 : decode cX5_way 39 = .ok (.aload_n 0, 1) := by decide +kernel
theorem dX5_way_40 : decode cX5_way 40 = .ok (.dup, 1) := by decide +kernel
theorem dX5_way_41 : decode cX5_way 41 = .ok (.getfield 137, 3) := by decide +kernel
theorem dX5_way_44 : decode cX5_way 44 = .ok (.iload_n 1, 1) := by decide +kernel
theorem dX5_way_45 : decode cX5_way 45 = .ok (.ifCond .eq 7, 3) := by decide +kernel
theorem dX5_way_48 : decode cX5_way 48 = .ok (.iconst 1, 1) := by decide +kernel
theorem dX5_way_49 : decode cX5_way 49 = .ok (.goto 4, 3) := by decide +kernel
theorem dX5_way_52 : decode cX5_way 52 = .ok (.iconst 0, 1) := by decide +kernel
theorem dX5_way_53 : decode cX5_way 53 = .ok (.iadd, 1) := by decide +kernel
theorem dX5_way_54 : decode cX5_way 54 = .ok (.putfield 137, 3) := by decide +kernel
theorem dX5_way_57 : decode cX5_way 57 = .ok (.goto (-45), 3) := by decide +kernel
theorem dX5_way_60 : decode cX5_way 60 = .ok (.aload_n 0, 1) := by decide +kernel
theorem dX5_way_61 : decode cX5_way 61 = .ok (.iconst 0, 1) := by decide +kernel
theorem dX5_way_62 : decode cX5_way 62 = .ok (.putfield 105, 3) := by decide +kernel
theorem dX5_way_65 : decode cX5_way 65 = .ok (.iload_n 1, 1) := by decide +kernel
theorem dX5_way_66 : decode cX5_way 66 = .ok (.ifCond .ne 12, 3) := by decide +kernel
theorem dX5_way_69 : decode cX5_way 69 = .ok (.sipush (-1000), 3) := by decide +kernel
theorem dX5_way_72 : decode cX5_way 72 = .ok (.aload_n 0, 1) := by decide +kernel
theorem dX5_way_73 : decode cX5_way 73 = .ok (.getfield 112, 3) := by decide +kernel
theorem dX5_way_76 : decode cX5_way 76 = .ok (.isub, 1) := by decide +kernel
theorem dX5_way_77 : decode cX5_way 77 = .ok (.ireturn, 1) := by decide +kernel
theorem dX5_way_78 : decode cX5_way 78 = .ok (.aload_n 0, 1) := by decide +kernel
theorem dX5_way_79 : decode cX5_way 79 = .ok (.iconst 1, 1) := by decide +kernel
theorem dX5_way_80 : decode cX5_way 80 = .ok (.iconst 1, 1) := by decide +kernel
theorem dX5_way_81 : decode cX5_way 81 = .ok (.invokevirtual 150, 3) := by decide +kernel
theorem dX5_way_84 : decode cX5_way 84 = .ok (.iconst 0, 1) := by decide +kernel
theorem dX5_way_85 : decode cX5_way 85 = .ok (.istore_n 2, 1) := by decide +kernel
theorem dX5_way_86 : decode cX5_way 86 = .ok (.iload_n 2, 1) := by decide +kernel
theorem dX5_way_87 : decode cX5_way 87 = .ok (.aload_n 0, 1) := by decide +kernel
theorem dX5_way_88 : decode cX5_way 88 = .ok (.getfield 137, 3) := by decide +kernel
theorem dX5_way_91 : decode cX5_way 91 = .ok (.if_icmp .ge 37, 3) := by decide +kernel
theorem dX5_way_94 : decode cX5_way 94 = .ok (.aload_n 0, 1) := by decide +kernel
theorem dX5_way_95 : decode cX5_way 95 = .ok (.iload_n 2, 1) := by decide +kernel
theorem dX5_way_96 : decode cX5_way 96 = .ok (.invokevirtual 154, 3) := by decide +kernel
theorem dX5_way_99 : decode cX5_way 99 = .ok (.ifCond .eq 6, 3) := by decide +kernel
theorem dX5_way_102 : decode cX5_way 102 = .ok (.goto 20, 3) := by decide +kernel
theorem dX5_way_105 : decode cX5_way 105 = .ok (.aload_n 0, 1) := by decide +kernel
theorem dX5_way_106 : decode cX5_way 106 = .ok (.iconst 1, 1) := by decide +kernel
theorem dX5_way_107 : decode cX5_way 107 = .ok (.iconst 0, 1) := by decide +kernel
theorem dX5_way_108 : decode cX5_way 108 = .ok (.invokevirtual 150, 3) := by decide +kernel
theorem dX5_way_111 : decode cX5_way 111 = .ok (.sipush (-2000), 3) := by decide +kernel
theorem dX5_way_114 : decode cX5_way 114 = .ok (.aload_n 0, 1) := by decide +kernel
theorem dX5_way_115 : decode cX5_way 115 = .ok (.getfield 55, 3) := by decide +kernel
theorem dX5_way_118 : decode cX5_way 118 = .ok (.iload_n 2, 1) := by decide +kernel
theorem dX5_way_119 : decode cX5_way 119 = .ok (.iaload, 1) := by decide +kernel
theorem dX5_way_120 : decode cX5_way 120 = .ok (.isub, 1) := by decide +kernel
theorem dX5_way_121 : decode cX5_way 121 = .ok (.ireturn, 1) := by decide +kernel
theorem dX5_way_122 : decode cX5_way 122 = .ok (.iinc 2 1, 3) := by decide +kernel
theorem dX5_way_125 : decode cX5_way 125 = .ok (.goto (-39), 3) := by decide +kernel
theorem dX5_way_128 : decode cX5_way 128 = .ok (.aload_n 0, 1) := by decide +kernel
theorem dX5_way_129 : decode cX5_way 129 = .ok (.getfield 137, 3) := by decide +kernel
theorem dX5_way_132 : decode cX5_way 132 = .ok (.ireturn, 1) := by decide +kernel
theorem dX5_passes_0 : decode cX5_passes 0 = .ok (.iconst 0, 1) := by decide +kernel
theorem dX5_passes_1 : decode cX5_passes 1 = .ok (.istore_n 2, 1) := by decide +kernel
theorem dX5_passes_2 : decode cX5_passes 2 = .ok (.iload_n 2, 1) := by decide +kernel
theorem dX5_passes_3 : decode cX5_passes 3 = .ok (.aload_n 1, 1) := by decide +kernel
theorem dX5_passes_4 : decode cX5_passes 4 = .ok (.arraylength, 1) := by decide +kernel
theorem dX5_passes_5 : decode cX5_passes 5 = .ok (.if_icmp .ge 53, 3) := by decide +kernel
theorem dX5_passes_8 : decode cX5_passes 8 = .ok (.aload_n 0, 1) := by decide +kernel
theorem dX5_passes_9 : decode cX5_passes 9 = .ok (.getfield 157, 3) := by decide +kernel
theorem dX5_passes_12 : decode cX5_passes 12 = .ok (.ifCond .eq 18, 3) := by decide +kernel
theorem dX5_passes_15 : decode cX5_passes 15 = .ok (.aload_n 0, 1) := by decide +kernel
theorem dX5_passes_16 : decode cX5_passes 16 = .ok (.getfield 61, 3) := by decide +kernel
theorem dX5_passes_19 : decode cX5_passes 19 = .ok (.aload_n 0, 1) := by decide +kernel
theorem dX5_passes_20 : decode cX5_passes 20 = .ok (.getfield 161, 3) := by decide +kernel
theorem dX5_passes_23 : decode cX5_passes 23 = .ok (.aload_n 1, 1) := by decide +kernel
theorem dX5_passes_24 : decode cX5_passes 24 = .ok (.iload_n 2, 1) := by decide +kernel
theorem dX5_passes_25 : decode cX5_passes 25 = .ok (.iaload, 1) := by decide +kernel
theorem dX5_passes_26 : decode cX5_passes 26 = .ok (.iastore, 1) := by decide +kernel
theorem dX5_passes_27 : decode cX5_passes 27 = .ok (.goto 15, 3) := by decide +kernel
theorem dX5_passes_30 : decode cX5_passes 30 = .ok (.aload_n 1, 1) := by decide +kernel
theorem dX5_passes_31 : decode cX5_passes 31 = .ok (.iload_n 2, 1) := by decide +kernel
theorem dX5_passes_32 : decode cX5_passes 32 = .ok (.aload_n 0, 1) := by decide +kernel
theorem dX5_passes_33 : decode cX5_passes 33 = .ok (.getfield 61, 3) := by decide +kernel
theorem dX5_passes_36 : decode cX5_passes 36 = .ok (.aload_n 0, 1) := by decide +kernel
theorem dX5_passes_37 : decode cX5_passes 37 = .ok (.getfield 161, 3) := by decide +kernel
theorem dX5_passes_40 : decode cX5_passes 40 = .ok (.iaload, 1) := by decide +kernel
theorem dX5_passes_41 : decode cX5_passes 41 = .ok (.iastore, 1) := by decide +kernel
theorem dX5_passes_42 : decode cX5_passes 42 = .ok (.aload_n 0, 1) := by decide +kernel
theorem dX5_passes_43 : decode cX5_passes 43 = .ok (.dup, 1) := by decide +kernel
theorem dX5_passes_44 : decode cX5_passes 44 = .ok (.getfield 161, 3) := by decide +kernel
theorem dX5_passes_47 : decode cX5_passes 47 = .ok (.iconst 1, 1) := by decide +kernel
theorem dX5_passes_48 : decode cX5_passes 48 = .ok (.iadd, 1) := by decide +kernel
theorem dX5_passes_49 : decode cX5_passes 49 = .ok (.putfield 161, 3) := by decide +kernel
theorem dX5_passes_52 : decode cX5_passes 52 = .ok (.iinc 2 1, 3) := by decide +kernel
theorem dX5_passes_55 : decode cX5_passes 55 = .ok (.goto (-53), 3) := by decide +kernel
theorem dX5_passes_58 : decode cX5_passes 58 = .ok (.return_, 1) := by decide +kernel
theorem dX5_passOne_0 : decode cX5_passOne 0 = .ok (.aload_n 0, 1) := by decide +kernel
theorem dX5_passOne_1 : decode cX5_passOne 1 = .ok (.getfield 157, 3) := by decide +kernel
theorem dX5_passOne_4 : decode cX5_passOne 4 = .ok (.ifCond .eq 7, 3) := by decide +kernel
theorem dX5_passOne_7 : decode cX5_passOne 7 = .ok (.iload_n 1, 1) := by decide +kernel
theorem dX5_passOne_8 : decode cX5_passOne 8 = .ok (.goto 12, 3) := by decide +kernel
theorem dX5_passOne_11 : decode cX5_passOne 11 = .ok (.aload_n 0, 1) := by decide +kernel
theorem dX5_passOne_12 : decode cX5_passOne 12 = .ok (.getfield 61, 3) := by decide +kernel
theorem dX5_passOne_15 : decode cX5_passOne 15 = .ok (.aload_n 0, 1) := by decide +kernel
theorem dX5_passOne_16 : decode cX5_passOne 16 = .ok (.getfield 161, 3) := by decide +kernel
theorem dX5_passOne_19 : decode cX5_passOne 19 = .ok (.iaload, 1) := by decide +kernel
theorem dX5_passOne_20 : decode cX5_passOne 20 = .ok (.istore_n 2, 1) := by decide +kernel
theorem dX5_passOne_21 : decode cX5_passOne 21 = .ok (.aload_n 0, 1) := by decide +kernel
theorem dX5_passOne_22 : decode cX5_passOne 22 = .ok (.getfield 157, 3) := by decide +kernel
theorem dX5_passOne_25 : decode cX5_passOne 25 = .ok (.ifCond .eq 13, 3) := by decide +kernel
theorem dX5_passOne_28 : decode cX5_passOne 28 = .ok (.aload_n 0, 1) := by decide +kernel
theorem dX5_passOne_29 : decode cX5_passOne 29 = .ok (.getfield 61, 3) := by decide +kernel
theorem dX5_passOne_32 : decode cX5_passOne 32 = .ok (.aload_n 0, 1) := by decide +kernel
theorem dX5_passOne_33 : decode cX5_passOne 33 = .ok (.getfield 161, 3) := by decide +kernel
theorem dX5_passOne_36 : decode cX5_passOne 36 = .ok (.iload_n 1, 1) := by decide +kernel
theorem dX5_passOne_37 : decode cX5_passOne 37 = .ok (.iastore, 1) := by decide +kernel
theorem dX5_passOne_38 : decode cX5_passOne 38 = .ok (.aload_n 0, 1) := by decide +kernel
theorem dX5_passOne_39 : decode cX5_passOne 39 = .ok (.dup, 1) := by decide +kernel
theorem dX5_passOne_40 : decode cX5_passOne 40 = .ok (.getfield 161, 3) := by decide +kernel
theorem dX5_passOne_43 : decode cX5_passOne 43 = .ok (.iconst 1, 1) := by decide +kernel
theorem dX5_passOne_44 : decode cX5_passOne 44 = .ok (.iadd, 1) := by decide +kernel
theorem dX5_passOne_45 : decode cX5_passOne 45 = .ok (.putfield 161, 3) := by decide +kernel
theorem dX5_passOne_48 : decode cX5_passOne 48 = .ok (.iload_n 2, 1) := by decide +kernel
theorem dX5_passOne_49 : decode cX5_passOne 49 = .ok (.ireturn, 1) := by decide +kernel
theorem dX5_passesAll_0 : decode cX5_passesAll 0 = .ok (.aload_n 0, 1) := by decide +kernel
theorem dX5_passesAll_1 : decode cX5_passesAll 1 = .ok (.bipush 110, 2) := by decide +kernel
theorem dX5_passesAll_3 : decode cX5_passesAll 3 = .ok (.iload_n 1, 1) := by decide +kernel
theorem dX5_passesAll_4 : decode cX5_passesAll 4 = .ok (.imul, 1) := by decide +kernel
theorem dX5_passesAll_5 : decode cX5_passesAll 5 = .ok (.putfield 161, 3) := by decide +kernel
theorem dX5_passesAll_8 : decode cX5_passesAll 8 = .ok (.aload_n 0, 1) := by decide +kernel
theorem dX5_passesAll_9 : decode cX5_passesAll 9 = .ok (.iload_n 2, 1) := by decide +kernel
theorem dX5_passesAll_10 : decode cX5_passesAll 10 = .ok (.putfield 157, 3) := by decide +kernel
theorem dX5_passesAll_13 : decode cX5_passesAll 13 = .ok (.aload_n 0, 1) := by decide +kernel
theorem dX5_passesAll_14 : decode cX5_passesAll 14 = .ok (.aload_n 0, 1) := by decide +kernel
theorem dX5_passesAll_15 : decode cX5_passesAll 15 = .ok (.getfield 13, 3) := by decide +kernel
theorem dX5_passesAll_18 : decode cX5_passesAll 18 = .ok (.invokevirtual 164, 3) := by decide +kernel
theorem dX5_passesAll_21 : decode cX5_passesAll 21 = .ok (.aload_n 0, 1) := by decide +kernel
theorem dX5_passesAll_22 : decode cX5_passesAll 22 = .ok (.aload_n 0, 1) := by decide +kernel
theorem dX5_passesAll_23 : decode cX5_passesAll 23 = .ok (.getfield 16, 3) := by decide +kernel
theorem dX5_passesAll_26 : decode cX5_passesAll 26 = .ok (.invokevirtual 164, 3) := by decide +kernel
theorem dX5_passesAll_29 : decode cX5_passesAll 29 = .ok (.aload_n 0, 1) := by decide +kernel
theorem dX5_passesAll_30 : decode cX5_passesAll 30 = .ok (.aload_n 0, 1) := by decide +kernel
theorem dX5_passesAll_31 : decode cX5_passesAll 31 = .ok (.getfield 19, 3) := by decide +kernel
theorem dX5_passesAll_34 : decode cX5_passesAll 34 = .ok (.invokevirtual 164, 3) := by decide +kernel
theorem dX5_passesAll_37 : decode cX5_passesAll 37 = .ok (.aload_n 0, 1) := by decide +kernel
theorem dX5_passesAll_38 : decode cX5_passesAll 38 = .ok (.aload_n 0, 1) := by decide +kernel
theorem dX5_passesAll_39 : decode cX5_passesAll 39 = .ok (.getfield 22, 3) := by decide +kernel
theorem dX5_passesAll_42 : decode cX5_passesAll 42 = .ok (.invokevirtual 164, 3) := by decide +kernel
theorem dX5_passesAll_45 : decode cX5_passesAll 45 = .ok (.aload_n 0, 1) := by decide +kernel
theorem dX5_passesAll_46 : decode cX5_passesAll 46 = .ok (.aload_n 0, 1) := by decide +kernel
theorem dX5_passesAll_47 : decode cX5_passesAll 47 = .ok (.getfield 25, 3) := by decide +kernel
theorem dX5_passesAll_50 : decode cX5_passesAll 50 = .ok (.invokevirtual 164, 3) := by decide +kernel
theorem dX5_passesAll_53 : decode cX5_passesAll 53 = .ok (.aload_n 0, 1) := by decide +kernel
theorem dX5_passesAll_54 : decode cX5_passesAll 54 = .ok (.aload_n 0, 1) := by decide +kernel
theorem dX5_passesAll_55 : decode cX5_passesAll 55 = .ok (.getfield 28, 3) := by decide +kernel
theorem dX5_passesAll_58 : decode cX5_passesAll 58 = .ok (.invokevirtual 164, 3) := by decide +kernel
theorem dX5_passesAll_61 : decode cX5_passesAll 61 = .ok (.aload_n 0, 1) := by decide +kernel
theorem dX5_passesAll_62 : decode cX5_passesAll 62 = .ok (.aload_n 0, 1) := by decide +kernel
theorem dX5_passesAll_63 : decode cX5_passesAll 63 = .ok (.getfield 31, 3) := by decide +kernel
theorem dX5_passesAll_66 : decode cX5_passesAll 66 = .ok (.invokevirtual 164, 3) := by decide +kernel
theorem dX5_passesAll_69 : decode cX5_passesAll 69 = .ok (.aload_n 0, 1) := by decide +kernel
theorem dX5_passesAll_70 : decode cX5_passesAll 70 = .ok (.aload_n 0, 1) := by decide +kernel
theorem dX5_passesAll_71 : decode cX5_passesAll 71 = .ok (.getfield 34, 3) := by decide +kernel
theorem dX5_passesAll_74 : decode cX5_passesAll 74 = .ok (.invokevirtual 164, 3) := by decide +kernel
theorem dX5_passesAll_77 : decode cX5_passesAll 77 = .ok (.aload_n 0, 1) := by decide +kernel
theorem dX5_passesAll_78 : decode cX5_passesAll 78 = .ok (.aload_n 0, 1) := by decide +kernel
theorem dX5_passesAll_79 : decode cX5_passesAll 79 = .ok (.getfield 37, 3) := by decide +kernel
theorem dX5_passesAll_82 : decode cX5_passesAll 82 = .ok (.invokevirtual 164, 3) := by decide +kernel
theorem dX5_passesAll_85 : decode cX5_passesAll 85 = .ok (.aload_n 0, 1) := by decide +kernel
theorem dX5_passesAll_86 : decode cX5_passesAll 86 = .ok (.aload_n 0, 1) := by decide +kernel
theorem dX5_passesAll_87 : decode cX5_passesAll 87 = .ok (.getfield 40, 3) := by decide +kernel
theorem dX5_passesAll_90 : decode cX5_passesAll 90 = .ok (.invokevirtual 164, 3) := by decide +kernel
theorem dX5_passesAll_93 : decode cX5_passesAll 93 = .ok (.aload_n 0, 1) := by decide +kernel
theorem dX5_passesAll_94 : decode cX5_passesAll 94 = .ok (.aload_n 0, 1) := by decide +kernel
theorem dX5_passesAll_95 : decode cX5_passesAll 95 = .ok (.getfield 43, 3) := by decide +kernel
theorem dX5_passesAll_98 : decode cX5_passesAll 98 = .ok (.invokevirtual 164, 3) := by decide +kernel
theorem dX5_passesAll_101 : decode cX5_passesAll 101 = .ok (.aload_n 0, 1) := by decide +kernel
theorem dX5_passesAll_102 : decode cX5_passesAll 102 = .ok (.aload_n 0, 1) := by decide +kernel
theorem dX5_passesAll_103 : decode cX5_passesAll 103 = .ok (.getfield 46, 3) := by decide +kernel
theorem dX5_passesAll_106 : decode cX5_passesAll 106 = .ok (.invokevirtual 164, 3) := by decide +kernel
theorem dX5_passesAll_109 : decode cX5_passesAll 109 = .ok (.aload_n 0, 1) := by decide +kernel
theorem dX5_passesAll_110 : decode cX5_passesAll 110 = .ok (.aload_n 0, 1) := by decide +kernel
theorem dX5_passesAll_111 : decode cX5_passesAll 111 = .ok (.aload_n 0, 1) := by decide +kernel
theorem dX5_passesAll_112 : decode cX5_passesAll 112 = .ok (.getfield 97, 3) := by decide +kernel
theorem dX5_passesAll_115 : decode cX5_passesAll 115 = .ok (.invokevirtual 168, 3) := by decide +kernel
theorem dX5_passesAll_118 : decode cX5_passesAll 118 = .ok (.putfield 97, 3) := by decide +kernel
theorem dX5_passesAll_121 : decode cX5_passesAll 121 = .ok (.aload_n 0, 1) := by decide +kernel
theorem dX5_passesAll_122 : decode cX5_passesAll 122 = .ok (.aload_n 0, 1) := by decide +kernel
theorem dX5_passesAll_123 : decode cX5_passesAll 123 = .ok (.aload_n 0, 1) := by decide +kernel
theorem dX5_passesAll_124 : decode cX5_passesAll 124 = .ok (.getfield 171, 3) := by decide +kernel
theorem dX5_passesAll_127 : decode cX5_passesAll 127 = .ok (.invokevirtual 168, 3) := by decide +kernel
theorem dX5_passesAll_130 : decode cX5_passesAll 130 = .ok (.putfield 171, 3) := by decide +kernel
theorem dX5_passesAll_133 : decode cX5_passesAll 133 = .ok (.return_, 1) := by decide +kernel
theorem dX5_image_0 : decode cX5_image 0 = .ok (.aload_n 0, 1) := by decide +kernel
theorem dX5_image_1 : decode cX5_image 1 = .ok (.iconst 1, 1) := by decide +kernel
theorem dX5_image_2 : decode cX5_image 2 = .ok (.putfield 174, 3) := by decide +kernel
theorem dX5_image_5 : decode cX5_image 5 = .ok (.aload_n 0, 1) := by decide +kernel
theorem dX5_image_6 : decode cX5_image 6 = .ok (.iconst 0, 1) := by decide +kernel
theorem dX5_image_7 : decode cX5_image 7 = .ok (.iconst 1, 1) := by decide +kernel
theorem dX5_image_8 : decode cX5_image 8 = .ok (.invokevirtual 150, 3) := by decide +kernel
theorem dX5_image_11 : decode cX5_image 11 = .ok (.aload_n 0, 1) := by decide +kernel
theorem dX5_image_12 : decode cX5_image 12 = .ok (.getfield 97, 3) := by decide +kernel
theorem dX5_image_15 : decode cX5_image 15 = .ok (.ireturn, 1) := by decide +kernel
theorem dX5_on_0 : decode cX5_on 0 = .ok (.aload_n 0, 1) := by decide +kernel
theorem dX5_on_1 : decode cX5_on 1 = .ok (.getfield 174, 3) := by decide +kernel
theorem dX5_on_4 : decode cX5_on 4 = .ok (.ifCond .ne 10, 3) := by decide +kernel
theorem dX5_on_7 : decode cX5_on 7 = .ok (.aload_n 0, 1) := by decide +kernel
theorem dX5_on_8 : decode cX5_on 8 = .ok (.bipush (-3), 2) := by decide +kernel
theorem dX5_on_10 : decode cX5_on 10 = .ok (.invokevirtual 108, 3) := by decide +kernel
theorem dX5_on_13 : decode cX5_on 13 = .ok (.ireturn, 1) := by decide +kernel
theorem dX5_on_14 : decode cX5_on 14 = .ok (.aload_n 0, 1) := by decide +kernel
theorem dX5_on_15 : decode cX5_on 15 = .ok (.iconst 0, 1) := by decide +kernel
theorem dX5_on_16 : decode cX5_on 16 = .ok (.iconst 0, 1) := by decide +kernel
theorem dX5_on_17 : decode cX5_on 17 = .ok (.invokevirtual 150, 3) := by decide +kernel
theorem dX5_on_20 : decode cX5_on 20 = .ok (.aload_n 0, 1) := by decide +kernel
theorem dX5_on_21 : decode cX5_on 21 = .ok (.getfield 97, 3) := by decide +kernel
theorem dX5_on_24 : decode cX5_on 24 = .ok (.ireturn, 1) := by decide +kernel
theorem dX5_heldYards_0 : decode cX5_heldYards 0 = .ok (.aload_n 0, 1) := by decide +kernel
theorem dX5_heldYards_1 : decode cX5_heldYards 1 = .ok (.getfield 13, 3) := by decide +kernel
theorem dX5_heldYards_4 : decode cX5_heldYards 4 = .ok (.iload_n 1, 1) := by decide +kernel
theorem dX5_heldYards_5 : decode cX5_heldYards 5 = .ok (.iaload, 1) := by decide +kernel
theorem dX5_heldYards_6 : decode cX5_heldYards 6 = .ok (.tableswitch 87 1 5 #[34, 43, 54, 87, 34], 34) := by decide +kernel
theorem dX5_heldYards_40 : decode cX5_heldYards 40 = .ok (.iconst 2, 1) := by decide +kernel
theorem dX5_heldYards_41 : decode cX5_heldYards 41 = .ok (.aload_n 0, 1) := by decide +kernel
theorem dX5_heldYards_42 : decode cX5_heldYards 42 = .ok (.getfield 22, 3) := by decide +kernel
theorem dX5_heldYards_45 : decode cX5_heldYards 45 = .ok (.iload_n 1, 1) := by decide +kernel
theorem dX5_heldYards_46 : decode cX5_heldYards 46 = .ok (.iaload, 1) := by decide +kernel
theorem dX5_heldYards_47 : decode cX5_heldYards 47 = .ok (.imul, 1) := by decide +kernel
theorem dX5_heldYards_48 : decode cX5_heldYards 48 = .ok (.ireturn, 1) := by decide +kernel
theorem dX5_heldYards_49 : decode cX5_heldYards 49 = .ok (.iconst 2, 1) := by decide +kernel
theorem dX5_heldYards_50 : decode cX5_heldYards 50 = .ok (.aload_n 0, 1) := by decide +kernel
theorem dX5_heldYards_51 : decode cX5_heldYards 51 = .ok (.getfield 22, 3) := by decide +kernel
theorem dX5_heldYards_54 : decode cX5_heldYards 54 = .ok (.iload_n 1, 1) := by decide +kernel
theorem dX5_heldYards_55 : decode cX5_heldYards 55 = .ok (.iaload, 1) := by decide +kernel
theorem dX5_heldYards_56 : decode cX5_heldYards 56 = .ok (.imul, 1) := by decide +kernel
theorem dX5_heldYards_57 : decode cX5_heldYards 57 = .ok (.iconst 1, 1) := by decide +kernel
theorem dX5_heldYards_58 : decode cX5_heldYards 58 = .ok (.iadd, 1) := by decide +kernel
theorem dX5_heldYards_59 : decode cX5_heldYards 59 = .ok (.ireturn, 1) := by decide +kernel
theorem dX5_heldYards_60 : decode cX5_heldYards 60 = .ok (.aload_n 0, 1) := by decide +kernel
theorem dX5_heldYards_61 : decode cX5_heldYards 61 = .ok (.getfield 22, 3) := by decide +kernel
theorem dX5_heldYards_64 : decode cX5_heldYards 64 = .ok (.iload_n 1, 1) := by decide +kernel
theorem dX5_heldYards_65 : decode cX5_heldYards 65 = .ok (.iaload, 1) := by decide +kernel
theorem dX5_heldYards_66 : decode cX5_heldYards 66 = .ok (.aload_n 0, 1) := by decide +kernel
theorem dX5_heldYards_67 : decode cX5_heldYards 67 = .ok (.getfield 25, 3) := by decide +kernel
theorem dX5_heldYards_70 : decode cX5_heldYards 70 = .ok (.iload_n 1, 1) := by decide +kernel
theorem dX5_heldYards_71 : decode cX5_heldYards 71 = .ok (.iaload, 1) := by decide +kernel
theorem dX5_heldYards_72 : decode cX5_heldYards 72 = .ok (.if_icmp .le 19, 3) := by decide +kernel
theorem dX5_heldYards_75 : decode cX5_heldYards 75 = .ok (.aload_n 0, 1) := by decide +kernel
theorem dX5_heldYards_76 : decode cX5_heldYards 76 = .ok (.getfield 22, 3) := by decide +kernel
theorem dX5_heldYards_79 : decode cX5_heldYards 79 = .ok (.iload_n 1, 1) := by decide +kernel
theorem dX5_heldYards_80 : decode cX5_heldYards 80 = .ok (.iaload, 1) := by decide +kernel
theorem dX5_heldYards_81 : decode cX5_heldYards 81 = .ok (.aload_n 0, 1) := by decide +kernel
theorem dX5_heldYards_82 : decode cX5_heldYards 82 = .ok (.getfield 25, 3) := by decide +kernel
theorem dX5_heldYards_85 : decode cX5_heldYards 85 = .ok (.iload_n 1, 1) := by decide +kernel
theorem dX5_heldYards_86 : decode cX5_heldYards 86 = .ok (.iaload, 1) := by decide +kernel
theorem dX5_heldYards_87 : decode cX5_heldYards 87 = .ok (.isub, 1) := by decide +kernel
theorem dX5_heldYards_88 : decode cX5_heldYards 88 = .ok (.goto 4, 3) := by decide +kernel
theorem dX5_heldYards_91 : decode cX5_heldYards 91 = .ok (.iconst 1, 1) := by decide +kernel
theorem dX5_heldYards_92 : decode cX5_heldYards 92 = .ok (.ireturn, 1) := by decide +kernel
theorem dX5_heldYards_93 : decode cX5_heldYards 93 = .ok (.aload_n 0, 1) := by decide +kernel
theorem dX5_heldYards_94 : decode cX5_heldYards 94 = .ok (.getfield 22, 3) := by decide +kernel
theorem dX5_heldYards_97 : decode cX5_heldYards 97 = .ok (.iload_n 1, 1) := by decide +kernel
theorem dX5_heldYards_98 : decode cX5_heldYards 98 = .ok (.iaload, 1) := by decide +kernel
theorem dX5_heldYards_99 : decode cX5_heldYards 99 = .ok (.ireturn, 1) := by decide +kernel
theorem dX5_walker_0 : decode cX5_walker 0 = .ok (.aload_n 0, 1) := by decide +kernel
theorem dX5_walker_1 : decode cX5_walker 1 = .ok (.iload_n 1, 1) := by decide +kernel
theorem dX5_walker_2 : decode cX5_walker 2 = .ok (.invokevirtual 177, 3) := by decide +kernel
theorem dX5_walker_5 : decode cX5_walker 5 = .ok (.ifCond .ne 9, 3) := by decide +kernel
theorem dX5_walker_8 : decode cX5_walker 8 = .ok (.aload_n 0, 1) := by decide +kernel
theorem dX5_walker_9 : decode cX5_walker 9 = .ok (.iconst (-1), 1) := by decide +kernel
theorem dX5_walker_10 : decode cX5_walker 10 = .ok (.invokevirtual 108, 3) := by decide +kernel
theorem dX5_walker_13 : decode cX5_walker 13 = .ok (.ireturn, 1) := by decide +kernel
theorem dX5_walker_14 : decode cX5_walker 14 = .ok (.iload_n 2, 1) := by decide +kernel
theorem dX5_walker_15 : decode cX5_walker 15 = .ok (.tableswitch 100 0 7 #[45, 52, 59, 66, 73, 80, 87, 94], 45) := by decide +kernel
theorem dX5_walker_60 : decode cX5_walker 60 = .ok (.aload_n 0, 1) := by decide +kernel
theorem dX5_walker_61 : decode cX5_walker 61 = .ok (.getfield 13, 3) := by decide +kernel
theorem dX5_walker_64 : decode cX5_walker 64 = .ok (.iload_n 1, 1) := by decide +kernel
theorem dX5_walker_65 : decode cX5_walker 65 = .ok (.iaload, 1) := by decide +kernel
theorem dX5_walker_66 : decode cX5_walker 66 = .ok (.ireturn, 1) := by decide +kernel
theorem dX5_walker_67 : decode cX5_walker 67 = .ok (.aload_n 0, 1) := by decide +kernel
theorem dX5_walker_68 : decode cX5_walker 68 = .ok (.getfield 16, 3) := by decide +kernel
theorem dX5_walker_71 : decode cX5_walker 71 = .ok (.iload_n 1, 1) := by decide +kernel
theorem dX5_walker_72 : decode cX5_walker 72 = .ok (.iaload, 1) := by decide +kernel
theorem dX5_walker_73 : decode cX5_walker 73 = .ok (.ireturn, 1) := by decide +kernel
theorem dX5_walker_74 : decode cX5_walker 74 = .ok (.aload_n 0, 1) := by decide +kernel
theorem dX5_walker_75 : decode cX5_walker 75 = .ok (.getfield 19, 3) := by decide +kernel
theorem dX5_walker_78 : decode cX5_walker 78 = .ok (.iload_n 1, 1) := by decide +kernel
theorem dX5_walker_79 : decode cX5_walker 79 = .ok (.iaload, 1) := by decide +kernel
theorem dX5_walker_80 : decode cX5_walker 80 = .ok (.ireturn, 1) := by decide +kernel
theorem dX5_walker_81 : decode cX5_walker 81 = .ok (.aload_n 0, 1) := by decide +kernel
theorem dX5_walker_82 : decode cX5_walker 82 = .ok (.getfield 22, 3) := by decide +kernel
theorem dX5_walker_85 : decode cX5_walker 85 = .ok (.iload_n 1, 1) := by decide +kernel
theorem dX5_walker_86 : decode cX5_walker 86 = .ok (.iaload, 1) := by decide +kernel
theorem dX5_walker_87 : decode cX5_walker 87 = .ok (.ireturn, 1) := by decide +kernel
theorem dX5_walker_88 : decode cX5_walker 88 = .ok (.aload_n 0, 1) := by decide +kernel
theorem dX5_walker_89 : decode cX5_walker 89 = .ok (.getfield 25, 3) := by decide +kernel
theorem dX5_walker_92 : decode cX5_walker 92 = .ok (.iload_n 1, 1) := by decide +kernel
theorem dX5_walker_93 : decode cX5_walker 93 = .ok (.iaload, 1) := by decide +kernel
theorem dX5_walker_94 : decode cX5_walker 94 = .ok (.ireturn, 1) := by decide +kernel
theorem dX5_walker_95 : decode cX5_walker 95 = .ok (.aload_n 0, 1) := by decide +kernel
theorem dX5_walker_96 : decode cX5_walker 96 = .ok (.getfield 28, 3) := by decide +kernel
theorem dX5_walker_99 : decode cX5_walker 99 = .ok (.iload_n 1, 1) := by decide +kernel
theorem dX5_walker_100 : decode cX5_walker 100 = .ok (.iaload, 1) := by decide +kernel
theorem dX5_walker_101 : decode cX5_walker 101 = .ok (.ireturn, 1) := by decide +kernel
theorem dX5_walker_102 : decode cX5_walker 102 = .ok (.aload_n 0, 1) := by decide +kernel
theorem dX5_walker_103 : decode cX5_walker 103 = .ok (.getfield 31, 3) := by decide +kernel
theorem dX5_walker_106 : decode cX5_walker 106 = .ok (.iload_n 1, 1) := by decide +kernel
theorem dX5_walker_107 : decode cX5_walker 107 = .ok (.iaload, 1) := by decide +kernel
theorem dX5_walker_108 : decode cX5_walker 108 = .ok (.ireturn, 1) := by decide +kernel
theorem dX5_walker_109 : decode cX5_walker 109 = .ok (.aload_n 0, 1) := by decide +kernel
theorem dX5_walker_110 : decode cX5_walker 110 = .ok (.iload_n 1, 1) := by decide +kernel
theorem dX5_walker_111 : decode cX5_walker 111 = .ok (.invokevirtual 180, 3) := by decide +kernel
theorem dX5_walker_114 : decode cX5_walker 114 = .ok (.ireturn, 1) := by decide +kernel
theorem dX5_walker_115 : decode cX5_walker 115 = .ok (.aload_n 0, 1) := by decide +kernel
theorem dX5_walker_116 : decode cX5_walker 116 = .ok (.bipush (-2), 2) := by decide +kernel
theorem dX5_walker_118 : decode cX5_walker 118 = .ok (.invokevirtual 108, 3) := by decide +kernel
theorem dX5_walker_121 : decode cX5_walker 121 = .ok (.ireturn, 1) := by decide +kernel
theorem dX5_set_0 : decode cX5_set 0 = .ok (.iload_n 1, 1) := by decide +kernel
theorem dX5_set_1 : decode cX5_set 1 = .ok (.iconst 0, 1) := by decide +kernel
theorem dX5_set_2 : decode cX5_set 2 = .ok (.iconst 3, 1) := by decide +kernel
theorem dX5_set_3 : decode cX5_set 3 = .ok (.invokestatic 119, 3) := by decide +kernel
theorem dX5_set_6 : decode cX5_set 6 = .ok (.ifCond .ne 10, 3) := by decide +kernel
theorem dX5_set_9 : decode cX5_set 9 = .ok (.aload_n 0, 1) := by decide +kernel
theorem dX5_set_10 : decode cX5_set 10 = .ok (.bipush (-2), 2) := by decide +kernel
theorem dX5_set_12 : decode cX5_set 12 = .ok (.invokevirtual 108, 3) := by decide +kernel
theorem dX5_set_15 : decode cX5_set 15 = .ok (.ireturn, 1) := by decide +kernel
theorem dX5_set_16 : decode cX5_set 16 = .ok (.iload_n 2, 1) := by decide +kernel
theorem dX5_set_17 : decode cX5_set 17 = .ok (.getstatic 183, 3) := by decide +kernel
theorem dX5_set_20 : decode cX5_set 20 = .ok (.iload_n 1, 1) := by decide +kernel
theorem dX5_set_21 : decode cX5_set 21 = .ok (.iaload, 1) := by decide +kernel
theorem dX5_set_22 : decode cX5_set 22 = .ok (.getstatic 186, 3) := by decide +kernel
theorem dX5_set_25 : decode cX5_set 25 = .ok (.iload_n 1, 1) := by decide +kernel
theorem dX5_set_26 : decode cX5_set 26 = .ok (.iaload, 1) := by decide +kernel
theorem dX5_set_27 : decode cX5_set 27 = .ok (.invokestatic 101, 3) := by decide +kernel
theorem dX5_set_30 : decode cX5_set 30 = .ok (.istore_n 3, 1) := by decide +kernel
theorem dX5_set_31 : decode cX5_set 31 = .ok (.iload_n 3, 1) := by decide +kernel
theorem dX5_set_32 : decode cX5_set 32 = .ok (.ifCond .eq 9, 3) := by decide +kernel
theorem dX5_set_35 : decode cX5_set 35 = .ok (.aload_n 0, 1) := by decide +kernel
theorem dX5_set_36 : decode cX5_set 36 = .ok (.iload_n 3, 1) := by decide +kernel
theorem dX5_set_37 : decode cX5_set 37 = .ok (.invokevirtual 108, 3) := by decide +kernel
theorem dX5_set_40 : decode cX5_set 40 = .ok (.ireturn, 1) := by decide +kernel
theorem dX5_set_41 : decode cX5_set 41 = .ok (.aload_n 0, 1) := by decide +kernel
theorem dX5_set_42 : decode cX5_set 42 = .ok (.getfield 34, 3) := by decide +kernel
theorem dX5_set_45 : decode cX5_set 45 = .ok (.iload_n 1, 1) := by decide +kernel
theorem dX5_set_46 : decode cX5_set 46 = .ok (.iaload, 1) := by decide +kernel
theorem dX5_set_47 : decode cX5_set 47 = .ok (.istore 4, 2) := by decide +kernel
theorem dX5_set_49 : decode cX5_set 49 = .ok (.aload_n 0, 1) := by decide +kernel
theorem dX5_set_50 : decode cX5_set 50 = .ok (.getfield 34, 3) := by decide +kernel
theorem dX5_set_53 : decode cX5_set 53 = .ok (.iload_n 1, 1) := by decide +kernel
theorem dX5_set_54 : decode cX5_set 54 = .ok (.iload_n 2, 1) := by decide +kernel
theorem dX5_set_55 : decode cX5_set 55 = .ok (.iastore, 1) := by decide +kernel
theorem dX5_set_56 : decode cX5_set 56 = .ok (.iload 4, 2) := by decide +kernel
theorem dX5_set_58 : decode cX5_set 58 = .ok (.ireturn, 1) := by decide +kernel
theorem dX5_custom_0 : decode cX5_custom 0 = .ok (.iload_n 1, 1) := by decide +kernel
theorem dX5_custom_1 : decode cX5_custom 1 = .ok (.iconst 0, 1) := by decide +kernel
theorem dX5_custom_2 : decode cX5_custom 2 = .ok (.bipush 6, 2) := by decide +kernel
theorem dX5_custom_4 : decode cX5_custom 4 = .ok (.invokestatic 119, 3) := by decide +kernel
theorem dX5_custom_7 : decode cX5_custom 7 = .ok (.ifCond .ne 10, 3) := by decide +kernel
theorem dX5_custom_10 : decode cX5_custom 10 = .ok (.aload_n 0, 1) := by decide +kernel
theorem dX5_custom_11 : decode cX5_custom 11 = .ok (.bipush (-2), 2) := by decide +kernel
theorem dX5_custom_13 : decode cX5_custom 13 = .ok (.invokevirtual 108, 3) := by decide +kernel
theorem dX5_custom_16 : decode cX5_custom 16 = .ok (.ireturn, 1) := by decide +kernel
theorem dX5_custom_17 : decode cX5_custom 17 = .ok (.aload_n 0, 1) := by decide +kernel
theorem dX5_custom_18 : decode cX5_custom 18 = .ok (.getfield 34, 3) := by decide +kernel
theorem dX5_custom_21 : decode cX5_custom 21 = .ok (.iconst 4, 1) := by decide +kernel
theorem dX5_custom_22 : decode cX5_custom 22 = .ok (.iaload, 1) := by decide +kernel
theorem dX5_custom_23 : decode cX5_custom 23 = .ok (.istore_n 2, 1) := by decide +kernel
theorem dX5_custom_24 : decode cX5_custom 24 = .ok (.aload_n 0, 1) := by decide +kernel
theorem dX5_custom_25 : decode cX5_custom 25 = .ok (.getfield 34, 3) := by decide +kernel
theorem dX5_custom_28 : decode cX5_custom 28 = .ok (.iconst 4, 1) := by decide +kernel
theorem dX5_custom_29 : decode cX5_custom 29 = .ok (.iload_n 1, 1) := by decide +kernel
theorem dX5_custom_30 : decode cX5_custom 30 = .ok (.iastore, 1) := by decide +kernel
theorem dX5_custom_31 : decode cX5_custom 31 = .ok (.iload_n 2, 1) := by decide +kernel
theorem dX5_custom_32 : decode cX5_custom 32 = .ok (.ireturn, 1) := by decide +kernel
theorem dX5_farOf_0 : decode cX5_farOf 0 = .ok (.aload_n 0, 1) := by decide +kernel
theorem dX5_farOf_1 : decode cX5_farOf 1 = .ok (.getfield 34, 3) := by decide +kernel
theorem dX5_farOf_4 : decode cX5_farOf 4 = .ok (.iconst 3, 1) := by decide +kernel
theorem dX5_farOf_5 : decode cX5_farOf 5 = .ok (.iaload, 1) := by decide +kernel
theorem dX5_farOf_6 : decode cX5_farOf 6 = .ok (.istore 4, 2) := by decide +kernel
theorem dX5_farOf_8 : decode cX5_farOf 8 = .ok (.iload 4, 2) := by decide +kernel
theorem dX5_farOf_10 : decode cX5_farOf 10 = .ok (.iconst 4, 1) := by decide +kernel
theorem dX5_farOf_11 : decode cX5_farOf 11 = .ok (.aload_n 0, 1) := by decide +kernel
theorem dX5_farOf_12 : decode cX5_farOf 12 = .ok (.getfield 28, 3) := by decide +kernel
theorem dX5_farOf_15 : decode cX5_farOf 15 = .ok (.iload_n 2, 1) := by decide +kernel
theorem dX5_farOf_16 : decode cX5_farOf 16 = .ok (.iaload, 1) := by decide +kernel
theorem dX5_farOf_17 : decode cX5_farOf 17 = .ok (.imul, 1) := by decide +kernel
theorem dX5_farOf_18 : decode cX5_farOf 18 = .ok (.iadd, 1) := by decide +kernel
theorem dX5_farOf_19 : decode cX5_farOf 19 = .ok (.istore 5, 2) := by decide +kernel
theorem dX5_farOf_21 : decode cX5_farOf 21 = .ok (.iconst 0, 1) := by decide +kernel
theorem dX5_farOf_22 : decode cX5_farOf 22 = .ok (.istore 6, 2) := by decide +kernel
theorem dX5_farOf_24 : decode cX5_farOf 24 = .ok (.aload_n 0, 1) := by decide +kernel
theorem dX5_farOf_25 : decode cX5_farOf 25 = .ok (.getfield 34, 3) := by decide +kernel
theorem dX5_farOf_28 : decode cX5_farOf 28 = .ok (.iconst 4, 1) := by decide +kernel
theorem dX5_farOf_29 : decode cX5_farOf 29 = .ok (.iaload, 1) := by decide +kernel
theorem dX5_farOf_30 : decode cX5_farOf 30 = .ok (.tableswitch 112 1 6 #[38, 45, 52, 68, 75, 91], 38) := by decide +kernel
theorem dX5_farOf_68 : decode cX5_farOf 68 = .ok (.iload 4, 2) := by decide +kernel
theorem dX5_farOf_70 : decode cX5_farOf 70 = .ok (.istore 6, 2) := by decide +kernel
theorem dX5_farOf_72 : decode cX5_farOf 72 = .ok (.goto 70, 3) := by decide +kernel
theorem dX5_farOf_75 : decode cX5_farOf 75 = .ok (.iload 5, 2) := by decide +kernel
theorem dX5_farOf_77 : decode cX5_farOf 77 = .ok (.istore 6, 2) := by decide +kernel
theorem dX5_farOf_79 : decode cX5_farOf 79 = .ok (.goto 63, 3) := by decide +kernel
theorem dX5_farOf_82 : decode cX5_farOf 82 = .ok (.iload 4, 2) := by decide +kernel
theorem dX5_farOf_84 : decode cX5_farOf 84 = .ok (.iconst 2, 1) := by decide +kernel
theorem dX5_farOf_85 : decode cX5_farOf 85 = .ok (.aload_n 0, 1) := by decide +kernel
theorem dX5_farOf_86 : decode cX5_farOf 86 = .ok (.getfield 25, 3) := by decide +kernel
theorem dX5_farOf_89 : decode cX5_farOf 89 = .ok (.iload_n 2, 1) := by decide +kernel
theorem dX5_farOf_90 : decode cX5_farOf 90 = .ok (.iaload, 1) := by decide +kernel
theorem dX5_farOf_91 : decode cX5_farOf 91 = .ok (.imul, 1) := by decide +kernel
theorem dX5_farOf_92 : decode cX5_farOf 92 = .ok (.iadd, 1) := by decide +kernel
theorem dX5_farOf_93 : decode cX5_farOf 93 = .ok (.istore 6, 2) := by decide +kernel
theorem dX5_farOf_95 : decode cX5_farOf 95 = .ok (.goto 47, 3) := by decide +kernel
theorem dX5_farOf_98 : decode cX5_farOf 98 = .ok (.bipush 40, 2) := by decide +kernel
theorem dX5_farOf_100 : decode cX5_farOf 100 = .ok (.istore 6, 2) := by decide +kernel
theorem dX5_farOf_102 : decode cX5_farOf 102 = .ok (.goto 40, 3) := by decide +kernel
theorem dX5_farOf_105 : decode cX5_farOf 105 = .ok (.iload_n 3, 1) := by decide +kernel
theorem dX5_farOf_106 : decode cX5_farOf 106 = .ok (.iconst 1, 1) := by decide +kernel
theorem dX5_farOf_107 : decode cX5_farOf 107 = .ok (.if_icmp .ne 8, 3) := by decide +kernel
theorem dX5_farOf_110 : decode cX5_farOf 110 = .ok (.iload 4, 2) := by decide +kernel
theorem dX5_farOf_112 : decode cX5_farOf 112 = .ok (.goto 4, 3) := by decide +kernel
theorem dX5_farOf_115 : decode cX5_farOf 115 = .ok (.iconst 0, 1) := by decide +kernel
theorem dX5_farOf_116 : decode cX5_farOf 116 = .ok (.istore 6, 2) := by decide +kernel
theorem dX5_farOf_118 : decode cX5_farOf 118 = .ok (.goto 24, 3) := by decide +kernel
theorem dX5_farOf_121 : decode cX5_farOf 121 = .ok (.iload 5, 2) := by decide +kernel
theorem dX5_farOf_123 : decode cX5_farOf 123 = .ok (.aload_n 0, 1) := by decide +kernel
theorem dX5_farOf_124 : decode cX5_farOf 124 = .ok (.getfield 31, 3) := by decide +kernel
theorem dX5_farOf_127 : decode cX5_farOf 127 = .ok (.iload_n 2, 1) := by decide +kernel
theorem dX5_farOf_128 : decode cX5_farOf 128 = .ok (.iaload, 1) := by decide +kernel
theorem dX5_farOf_129 : decode cX5_farOf 129 = .ok (.iadd, 1) := by decide +kernel
theorem dX5_farOf_130 : decode cX5_farOf 130 = .ok (.aload_n 0, 1) := by decide +kernel
theorem dX5_farOf_131 : decode cX5_farOf 131 = .ok (.getfield 31, 3) := by decide +kernel
theorem dX5_farOf_134 : decode cX5_farOf 134 = .ok (.iload_n 1, 1) := by decide +kernel
theorem dX5_farOf_135 : decode cX5_farOf 135 = .ok (.iaload, 1) := by decide +kernel
theorem dX5_farOf_136 : decode cX5_farOf 136 = .ok (.isub, 1) := by decide +kernel
theorem dX5_farOf_137 : decode cX5_farOf 137 = .ok (.istore 6, 2) := by decide +kernel
theorem dX5_farOf_139 : decode cX5_farOf 139 = .ok (.goto 3, 3) := by decide +kernel
theorem dX5_farOf_142 : decode cX5_farOf 142 = .ok (.aload_n 0, 1) := by decide +kernel
theorem dX5_farOf_143 : decode cX5_farOf 143 = .ok (.getfield 13, 3) := by decide +kernel
theorem dX5_farOf_146 : decode cX5_farOf 146 = .ok (.iload_n 1, 1) := by decide +kernel
theorem dX5_farOf_147 : decode cX5_farOf 147 = .ok (.iaload, 1) := by decide +kernel
theorem dX5_farOf_148 : decode cX5_farOf 148 = .ok (.iconst 5, 1) := by decide +kernel
theorem dX5_farOf_149 : decode cX5_farOf 149 = .ok (.if_icmp .eq 8, 3) := by decide +kernel
theorem dX5_farOf_152 : decode cX5_farOf 152 = .ok (.iload 6, 2) := by decide +kernel
theorem dX5_farOf_154 : decode cX5_farOf 154 = .ok (.ifCond .ge 7, 3) := by decide +kernel
theorem dX5_farOf_157 : decode cX5_farOf 157 = .ok (.iconst 0, 1) := by decide +kernel
theorem dX5_farOf_158 : decode cX5_farOf 158 = .ok (.goto 5, 3) := by decide +kernel
theorem dX5_farOf_161 : decode cX5_farOf 161 = .ok (.iload 6, 2) := by decide +kernel
theorem dX5_farOf_163 : decode cX5_farOf 163 = .ok (.ireturn, 1) := by decide +kernel
theorem dX5_areTwo_0 : decode cX5_areTwo 0 = .ok (.aload_n 0, 1) := by decide +kernel
theorem dX5_areTwo_1 : decode cX5_areTwo 1 = .ok (.iload_n 1, 1) := by decide +kernel
theorem dX5_areTwo_2 : decode cX5_areTwo 2 = .ok (.invokevirtual 177, 3) := by decide +kernel
theorem dX5_areTwo_5 : decode cX5_areTwo 5 = .ok (.ifCond .eq 20, 3) := by decide +kernel
theorem dX5_areTwo_8 : decode cX5_areTwo 8 = .ok (.aload_n 0, 1) := by decide +kernel
theorem dX5_areTwo_9 : decode cX5_areTwo 9 = .ok (.iload_n 2, 1) := by decide +kernel
theorem dX5_areTwo_10 : decode cX5_areTwo 10 = .ok (.invokevirtual 177, 3) := by decide +kernel
theorem dX5_areTwo_13 : decode cX5_areTwo 13 = .ok (.ifCond .eq 12, 3) := by decide +kernel
theorem dX5_areTwo_16 : decode cX5_areTwo 16 = .ok (.iload_n 1, 1) := by decide +kernel
theorem dX5_areTwo_17 : decode cX5_areTwo 17 = .ok (.iload_n 2, 1) := by decide +kernel
theorem dX5_areTwo_18 : decode cX5_areTwo 18 = .ok (.if_icmp .eq 7, 3) := by decide +kernel
theorem dX5_areTwo_21 : decode cX5_areTwo 21 = .ok (.iconst 1, 1) := by decide +kernel
theorem dX5_areTwo_22 : decode cX5_areTwo 22 = .ok (.goto 4, 3) := by decide +kernel
theorem dX5_areTwo_25 : decode cX5_areTwo 25 = .ok (.iconst 0, 1) := by decide +kernel
theorem dX5_areTwo_26 : decode cX5_areTwo 26 = .ok (.ireturn, 1) := by decide +kernel
theorem dX5_far_0 : decode cX5_far 0 = .ok (.aload_n 0, 1) := by decide +kernel
theorem dX5_far_1 : decode cX5_far 1 = .ok (.iload_n 1, 1) := by decide +kernel
theorem dX5_far_2 : decode cX5_far 2 = .ok (.iload_n 2, 1) := by decide +kernel
theorem dX5_far_3 : decode cX5_far 3 = .ok (.invokevirtual 189, 3) := by decide +kernel
theorem dX5_far_6 : decode cX5_far 6 = .ok (.ifCond .ne 9, 3) := by decide +kernel
theorem dX5_far_9 : decode cX5_far 9 = .ok (.aload_n 0, 1) := by decide +kernel
theorem dX5_far_10 : decode cX5_far 10 = .ok (.iconst (-1), 1) := by decide +kernel
theorem dX5_far_11 : decode cX5_far 11 = .ok (.invokevirtual 108, 3) := by decide +kernel
theorem dX5_far_14 : decode cX5_far 14 = .ok (.ireturn, 1) := by decide +kernel
theorem dX5_far_15 : decode cX5_far 15 = .ok (.iload_n 3, 1) := by decide +kernel
theorem dX5_far_16 : decode cX5_far 16 = .ok (.iconst 0, 1) := by decide +kernel
theorem dX5_far_17 : decode cX5_far 17 = .ok (.iconst 1, 1) := by decide +kernel
theorem dX5_far_18 : decode cX5_far 18 = .ok (.invokestatic 119, 3) := by decide +kernel
theorem dX5_far_21 : decode cX5_far 21 = .ok (.ifCond .eq 13, 3) := by decide +kernel
theorem dX5_far_24 : decode cX5_far 24 = .ok (.aload_n 0, 1) := by decide +kernel
theorem dX5_far_25 : decode cX5_far 25 = .ok (.iload_n 1, 1) := by decide +kernel
theorem dX5_far_26 : decode cX5_far 26 = .ok (.iload_n 2, 1) := by decide +kernel
theorem dX5_far_27 : decode cX5_far 27 = .ok (.iload_n 3, 1) := by decide +kernel
theorem dX5_far_28 : decode cX5_far 28 = .ok (.invokevirtual 192, 3) := by decide +kernel
theorem dX5_far_31 : decode cX5_far 31 = .ok (.goto 9, 3) := by decide +kernel
theorem dX5_far_34 : decode cX5_far 34 = .ok (.aload_n 0, 1) := by decide +kernel
theorem dX5_far_35 : decode cX5_far 35 = .ok (.bipush (-2), 2) := by decide +kernel
theorem dX5_far_37 : decode cX5_far 37 = .ok (.invokevirtual 108, 3) := by decide +kernel
theorem dX5_far_40 : decode cX5_far 40 = .ok (.ireturn, 1) := by decide +kernel
theorem dX5_upBy_0 : decode cX5_upBy 0 = .ok (.iload_n 0, 1) := by decide +kernel
theorem dX5_upBy_1 : decode cX5_upBy 1 = .ok (.iload_n 1, 1) := by decide +kernel
theorem dX5_upBy_2 : decode cX5_upBy 2 = .ok (.iadd, 1) := by decide +kernel
theorem dX5_upBy_3 : decode cX5_upBy 3 = .ok (.iconst 1, 1) := by decide +kernel
theorem dX5_upBy_4 : decode cX5_upBy 4 = .ok (.isub, 1) := by decide +kernel
theorem dX5_upBy_5 : decode cX5_upBy 5 = .ok (.iload_n 1, 1) := by decide +kernel
theorem dX5_upBy_6 : decode cX5_upBy 6 = .ok (.idiv, 1) := by decide +kernel
theorem dX5_upBy_7 : decode cX5_upBy 7 = .ok (.ireturn, 1) := by decide +kernel
theorem dX5_thereOf_0 : decode cX5_thereOf 0 = .ok (.aload_n 0, 1) := by decide +kernel
theorem dX5_thereOf_1 : decode cX5_thereOf 1 = .ok (.getfield 16, 3) := by decide +kernel
theorem dX5_thereOf_4 : decode cX5_thereOf 4 = .ok (.iload_n 1, 1) := by decide +kernel
theorem dX5_thereOf_5 : decode cX5_thereOf 5 = .ok (.iaload, 1) := by decide +kernel
theorem dX5_thereOf_6 : decode cX5_thereOf 6 = .ok (.aload_n 0, 1) := by decide +kernel
theorem dX5_thereOf_7 : decode cX5_thereOf 7 = .ok (.getfield 19, 3) := by decide +kernel
theorem dX5_thereOf_10 : decode cX5_thereOf 10 = .ok (.iload_n 1, 1) := by decide +kernel
theorem dX5_thereOf_11 : decode cX5_thereOf 11 = .ok (.iaload, 1) := by decide +kernel
theorem dX5_thereOf_12 : decode cX5_thereOf 12 = .ok (.aload_n 0, 1) := by decide +kernel
theorem dX5_thereOf_13 : decode cX5_thereOf 13 = .ok (.getfield 22, 3) := by decide +kernel
theorem dX5_thereOf_16 : decode cX5_thereOf 16 = .ok (.iload_n 1, 1) := by decide +kernel
theorem dX5_thereOf_17 : decode cX5_thereOf 17 = .ok (.iaload, 1) := by decide +kernel
theorem dX5_thereOf_18 : decode cX5_thereOf 18 = .ok (.invokestatic 195, 3) := by decide +kernel
theorem dX5_thereOf_21 : decode cX5_thereOf 21 = .ok (.iadd, 1) := by decide +kernel
theorem dX5_thereOf_22 : decode cX5_thereOf 22 = .ok (.ireturn, 1) := by decide +kernel
theorem dX5_there_0 : decode cX5_there 0 = .ok (.aload_n 0, 1) := by decide +kernel
theorem dX5_there_1 : decode cX5_there 1 = .ok (.iload_n 1, 1) := by decide +kernel
theorem dX5_there_2 : decode cX5_there 2 = .ok (.invokevirtual 177, 3) := by decide +kernel
theorem dX5_there_5 : decode cX5_there 5 = .ok (.ifCond .eq 11, 3) := by decide +kernel
theorem dX5_there_8 : decode cX5_there 8 = .ok (.aload_n 0, 1) := by decide +kernel
theorem dX5_there_9 : decode cX5_there 9 = .ok (.iload_n 1, 1) := by decide +kernel
theorem dX5_there_10 : decode cX5_there 10 = .ok (.invokevirtual 199, 3) := by decide +kernel
theorem dX5_there_13 : decode cX5_there 13 = .ok (.goto 8, 3) := by decide +kernel
theorem dX5_there_16 : decode cX5_there 16 = .ok (.aload_n 0, 1) := by decide +kernel
theorem dX5_there_17 : decode cX5_there 17 = .ok (.iconst (-1), 1) := by decide +kernel
theorem dX5_there_18 : decode cX5_there 18 = .ok (.invokevirtual 108, 3) := by decide +kernel
theorem dX5_there_21 : decode cX5_there 21 = .ok (.ireturn, 1) := by decide +kernel
theorem dX5_firstOf_0 : decode cX5_firstOf 0 = .ok (.bipush (-9), 2) := by decide +kernel
theorem dX5_firstOf_2 : decode cX5_firstOf 2 = .ok (.istore_n 2, 1) := by decide +kernel
theorem dX5_firstOf_3 : decode cX5_firstOf 3 = .ok (.iconst 0, 1) := by decide +kernel
theorem dX5_firstOf_4 : decode cX5_firstOf 4 = .ok (.istore_n 3, 1) := by decide +kernel
theorem dX5_firstOf_5 : decode cX5_firstOf 5 = .ok (.iload_n 3, 1) := by decide +kernel
theorem dX5_firstOf_6 : decode cX5_firstOf 6 = .ok (.aload_n 0, 1) := by decide +kernel
theorem dX5_firstOf_7 : decode cX5_firstOf 7 = .ok (.getfield 97, 3) := by decide +kernel
theorem dX5_firstOf_10 : decode cX5_firstOf 10 = .ok (.if_icmp .ge 37, 3) := by decide +kernel
theorem dX5_firstOf_13 : decode cX5_firstOf 13 = .ok (.iload_n 1, 1) := by decide +kernel
theorem dX5_firstOf_14 : decode cX5_firstOf 14 = .ok (.iload_n 3, 1) := by decide +kernel
theorem dX5_firstOf_15 : decode cX5_firstOf 15 = .ok (.ishr, 1) := by decide +kernel
theorem dX5_firstOf_16 : decode cX5_firstOf 16 = .ok (.iconst 1, 1) := by decide +kernel
theorem dX5_firstOf_17 : decode cX5_firstOf 17 = .ok (.iand, 1) := by decide +kernel
theorem dX5_firstOf_18 : decode cX5_firstOf 18 = .ok (.iconst 1, 1) := by decide +kernel
theorem dX5_firstOf_19 : decode cX5_firstOf 19 = .ok (.if_icmp .ne 22, 3) := by decide +kernel
theorem dX5_firstOf_22 : decode cX5_firstOf 22 = .ok (.iload_n 2, 1) := by decide +kernel
theorem dX5_firstOf_23 : decode cX5_firstOf 23 = .ok (.ifCond .lt 16, 3) := by decide +kernel
theorem dX5_firstOf_26 : decode cX5_firstOf 26 = .ok (.aload_n 0, 1) := by decide +kernel
theorem dX5_firstOf_27 : decode cX5_firstOf 27 = .ok (.iload_n 3, 1) := by decide +kernel
theorem dX5_firstOf_28 : decode cX5_firstOf 28 = .ok (.invokevirtual 199, 3) := by decide +kernel
theorem dX5_firstOf_31 : decode cX5_firstOf 31 = .ok (.aload_n 0, 1) := by decide +kernel
theorem dX5_firstOf_32 : decode cX5_firstOf 32 = .ok (.iload_n 2, 1) := by decide +kernel
theorem dX5_firstOf_33 : decode cX5_firstOf 33 = .ok (.invokevirtual 199, 3) := by decide +kernel
theorem dX5_firstOf_36 : decode cX5_firstOf 36 = .ok (.if_icmp .ge 5, 3) := by decide +kernel
theorem dX5_firstOf_39 : decode cX5_firstOf 39 = .ok (.iload_n 3, 1) := by decide +kernel
theorem dX5_firstOf_40 : decode cX5_firstOf 40 = .ok (.istore_n 2, 1) := by decide +kernel
theorem dX5_firstOf_41 : decode cX5_firstOf 41 = .ok (.iinc 3 1, 3) := by decide +kernel
theorem dX5_firstOf_44 : decode cX5_firstOf 44 = .ok (.goto (-39), 3) := by decide +kernel
theorem dX5_firstOf_47 : decode cX5_firstOf 47 = .ok (.iload_n 2, 1) := by decide +kernel
theorem dX5_firstOf_48 : decode cX5_firstOf 48 = .ok (.ireturn, 1) := by decide +kernel
theorem dX5_holdsFor_0 : decode cX5_holdsFor 0 = .ok (.aload_n 0, 1) := by decide +kernel
theorem dX5_holdsFor_1 : decode cX5_holdsFor 1 = .ok (.getfield 70, 3) := by decide +kernel
theorem dX5_holdsFor_4 : decode cX5_holdsFor 4 = .ok (.iload_n 1, 1) := by decide +kernel
theorem dX5_holdsFor_5 : decode cX5_holdsFor 5 = .ok (.iaload, 1) := by decide +kernel
theorem dX5_holdsFor_6 : decode cX5_holdsFor 6 = .ok (.aload_n 0, 1) := by decide +kernel
theorem dX5_holdsFor_7 : decode cX5_holdsFor 7 = .ok (.getfield 16, 3) := by decide +kernel
theorem dX5_holdsFor_10 : decode cX5_holdsFor 10 = .ok (.iload_n 2, 1) := by decide +kernel
theorem dX5_holdsFor_11 : decode cX5_holdsFor 11 = .ok (.iaload, 1) := by decide +kernel
theorem dX5_holdsFor_12 : decode cX5_holdsFor 12 = .ok (.isub, 1) := by decide +kernel
theorem dX5_holdsFor_13 : decode cX5_holdsFor 13 = .ok (.istore_n 3, 1) := by decide +kernel
theorem dX5_holdsFor_14 : decode cX5_holdsFor 14 = .ok (.aload_n 0, 1) := by decide +kernel
theorem dX5_holdsFor_15 : decode cX5_holdsFor 15 = .ok (.getfield 19, 3) := by decide +kernel
theorem dX5_holdsFor_18 : decode cX5_holdsFor 18 = .ok (.iload_n 2, 1) := by decide +kernel
theorem dX5_holdsFor_19 : decode cX5_holdsFor 19 = .ok (.iaload, 1) := by decide +kernel
theorem dX5_holdsFor_20 : decode cX5_holdsFor 20 = .ok (.aload_n 0, 1) := by decide +kernel
theorem dX5_holdsFor_21 : decode cX5_holdsFor 21 = .ok (.getfield 22, 3) := by decide +kernel
theorem dX5_holdsFor_24 : decode cX5_holdsFor 24 = .ok (.iload_n 2, 1) := by decide +kernel
theorem dX5_holdsFor_25 : decode cX5_holdsFor 25 = .ok (.iaload, 1) := by decide +kernel
theorem dX5_holdsFor_26 : decode cX5_holdsFor 26 = .ok (.iload_n 3, 1) := by decide +kernel
theorem dX5_holdsFor_27 : decode cX5_holdsFor 27 = .ok (.imul, 1) := by decide +kernel
theorem dX5_holdsFor_28 : decode cX5_holdsFor 28 = .ok (.isub, 1) := by decide +kernel
theorem dX5_holdsFor_29 : decode cX5_holdsFor 29 = .ok (.istore 4, 2) := by decide +kernel
theorem dX5_holdsFor_31 : decode cX5_holdsFor 31 = .ok (.iload_n 3, 1) := by decide +kernel
theorem dX5_holdsFor_32 : decode cX5_holdsFor 32 = .ok (.ifCond .lt 43, 3) := by decide +kernel
theorem dX5_holdsFor_35 : decode cX5_holdsFor 35 = .ok (.iload 4, 2) := by decide +kernel
theorem dX5_holdsFor_37 : decode cX5_holdsFor 37 = .ok (.ifCond .le 38, 3) := by decide +kernel
theorem dX5_holdsFor_40 : decode cX5_holdsFor 40 = .ok (.iload 4, 2) := by decide +kernel
theorem dX5_holdsFor_42 : decode cX5_holdsFor 42 = .ok (.aload_n 0, 1) := by decide +kernel
theorem dX5_holdsFor_43 : decode cX5_holdsFor 43 = .ok (.iload_n 1, 1) := by decide +kernel
theorem dX5_holdsFor_44 : decode cX5_holdsFor 44 = .ok (.iload_n 2, 1) := by decide +kernel
theorem dX5_holdsFor_45 : decode cX5_holdsFor 45 = .ok (.aload_n 0, 1) := by decide +kernel
theorem dX5_holdsFor_46 : decode cX5_holdsFor 46 = .ok (.getfield 79, 3) := by decide +kernel
theorem dX5_holdsFor_49 : decode cX5_holdsFor 49 = .ok (.iload_n 1, 1) := by decide +kernel
theorem dX5_holdsFor_50 : decode cX5_holdsFor 50 = .ok (.iaload, 1) := by decide +kernel
theorem dX5_holdsFor_51 : decode cX5_holdsFor 51 = .ok (.ifCond .lt 7, 3) := by decide +kernel
theorem dX5_holdsFor_54 : decode cX5_holdsFor 54 = .ok (.iconst 1, 1) := by decide +kernel
theorem dX5_holdsFor_55 : decode cX5_holdsFor 55 = .ok (.goto 4, 3) := by decide +kernel
theorem dX5_holdsFor_58 : decode cX5_holdsFor 58 = .ok (.iconst 0, 1) := by decide +kernel
theorem dX5_holdsFor_59 : decode cX5_holdsFor 59 = .ok (.invokevirtual 192, 3) := by decide +kernel
theorem dX5_holdsFor_62 : decode cX5_holdsFor 62 = .ok (.if_icmp .gt 13, 3) := by decide +kernel
theorem dX5_holdsFor_65 : decode cX5_holdsFor 65 = .ok (.aload_n 0, 1) := by decide +kernel
theorem dX5_holdsFor_66 : decode cX5_holdsFor 66 = .ok (.getfield 13, 3) := by decide +kernel
theorem dX5_holdsFor_69 : decode cX5_holdsFor 69 = .ok (.iload_n 1, 1) := by decide +kernel
theorem dX5_holdsFor_70 : decode cX5_holdsFor 70 = .ok (.iaload, 1) := by decide +kernel
theorem dX5_holdsFor_71 : decode cX5_holdsFor 71 = .ok (.iconst 5, 1) := by decide +kernel
theorem dX5_holdsFor_72 : decode cX5_holdsFor 72 = .ok (.if_icmp .ne 5, 3) := by decide +kernel
theorem dX5_holdsFor_75 : decode cX5_holdsFor 75 = .ok (.iconst 0, 1) := by decide +kernel
theorem dX5_holdsFor_76 : decode cX5_holdsFor 76 = .ok (.ireturn, 1) := by decide +kernel
theorem dX5_holdsFor_77 : decode cX5_holdsFor 77 = .ok (.iload 4, 2) := by decide +kernel
theorem dX5_holdsFor_79 : decode cX5_holdsFor 79 = .ok (.aload_n 0, 1) := by decide +kernel
theorem dX5_holdsFor_80 : decode cX5_holdsFor 80 = .ok (.iload_n 2, 1) := by decide +kernel
theorem dX5_holdsFor_81 : decode cX5_holdsFor 81 = .ok (.invokevirtual 180, 3) := by decide +kernel
theorem dX5_holdsFor_84 : decode cX5_holdsFor 84 = .ok (.invokestatic 195, 3) := by decide +kernel
theorem dX5_holdsFor_87 : decode cX5_holdsFor 87 = .ok (.ireturn, 1) := by decide +kernel
theorem dX5_opensFor_0 : decode cX5_opensFor 0 = .ok (.aload_n 0, 1) := by decide +kernel
theorem dX5_opensFor_1 : decode cX5_opensFor 1 = .ok (.iload_n 1, 1) := by decide +kernel
theorem dX5_opensFor_2 : decode cX5_opensFor 2 = .ok (.invokevirtual 199, 3) := by decide +kernel
theorem dX5_opensFor_5 : decode cX5_opensFor 5 = .ok (.istore_n 2, 1) := by decide +kernel
theorem dX5_opensFor_6 : decode cX5_opensFor 6 = .ok (.aload_n 0, 1) := by decide +kernel
theorem dX5_opensFor_7 : decode cX5_opensFor 7 = .ok (.getfield 67, 3) := by decide +kernel
theorem dX5_opensFor_10 : decode cX5_opensFor 10 = .ok (.iload_n 1, 1) := by decide +kernel
theorem dX5_opensFor_11 : decode cX5_opensFor 11 = .ok (.iload_n 2, 1) := by decide +kernel
theorem dX5_opensFor_12 : decode cX5_opensFor 12 = .ok (.aload_n 0, 1) := by decide +kernel
theorem dX5_opensFor_13 : decode cX5_opensFor 13 = .ok (.getfield 202, 3) := by decide +kernel
theorem dX5_opensFor_16 : decode cX5_opensFor 16 = .ok (.if_icmp .le 7, 3) := by decide +kernel
theorem dX5_opensFor_19 : decode cX5_opensFor 19 = .ok (.iload_n 2, 1) := by decide +kernel
theorem dX5_opensFor_20 : decode cX5_opensFor 20 = .ok (.goto 7, 3) := by decide +kernel
theorem dX5_opensFor_23 : decode cX5_opensFor 23 = .ok (.aload_n 0, 1) := by decide +kernel
theorem dX5_opensFor_24 : decode cX5_opensFor 24 = .ok (.getfield 202, 3) := by decide +kernel
theorem dX5_opensFor_27 : decode cX5_opensFor 27 = .ok (.iastore, 1) := by decide +kernel
theorem dX5_opensFor_28 : decode cX5_opensFor 28 = .ok (.aload_n 0, 1) := by decide +kernel
theorem dX5_opensFor_29 : decode cX5_opensFor 29 = .ok (.getfield 205, 3) := by decide +kernel
theorem dX5_opensFor_32 : decode cX5_opensFor 32 = .ok (.ifCond .le 27, 3) := by decide +kernel
theorem dX5_opensFor_35 : decode cX5_opensFor 35 = .ok (.aload_n 0, 1) := by decide +kernel
theorem dX5_opensFor_36 : decode cX5_opensFor 36 = .ok (.getfield 67, 3) := by decide +kernel
theorem dX5_opensFor_39 : decode cX5_opensFor 39 = .ok (.iload_n 1, 1) := by decide +kernel
theorem dX5_opensFor_40 : decode cX5_opensFor 40 = .ok (.iaload, 1) := by decide +kernel
theorem dX5_opensFor_41 : decode cX5_opensFor 41 = .ok (.aload_n 0, 1) := by decide +kernel
theorem dX5_opensFor_42 : decode cX5_opensFor 42 = .ok (.getfield 202, 3) := by decide +kernel
theorem dX5_opensFor_45 : decode cX5_opensFor 45 = .ok (.isub, 1) := by decide +kernel
theorem dX5_opensFor_46 : decode cX5_opensFor 46 = .ok (.aload_n 0, 1) := by decide +kernel
theorem dX5_opensFor_47 : decode cX5_opensFor 47 = .ok (.getfield 34, 3) := by decide +kernel
theorem dX5_opensFor_50 : decode cX5_opensFor 50 = .ok (.iconst 0, 1) := by decide +kernel
theorem dX5_opensFor_51 : decode cX5_opensFor 51 = .ok (.iaload, 1) := by decide +kernel
theorem dX5_opensFor_52 : decode cX5_opensFor 52 = .ok (.if_icmp .ge 7, 3) := by decide +kernel
theorem dX5_opensFor_55 : decode cX5_opensFor 55 = .ok (.iconst 1, 1) := by decide +kernel
theorem dX5_opensFor_56 : decode cX5_opensFor 56 = .ok (.goto 4, 3) := by decide +kernel
theorem dX5_opensFor_59 : decode cX5_opensFor 59 = .ok (.iconst 0, 1) := by decide +kernel
theorem dX5_opensFor_60 : decode cX5_opensFor 60 = .ok (.istore_n 3, 1) := by decide +kernel
theorem dX5_opensFor_61 : decode cX5_opensFor 61 = .ok (.aload_n 0, 1) := by decide +kernel
theorem dX5_opensFor_62 : decode cX5_opensFor 62 = .ok (.getfield 34, 3) := by decide +kernel
theorem dX5_opensFor_65 : decode cX5_opensFor 65 = .ok (.iconst 1, 1) := by decide +kernel
theorem dX5_opensFor_66 : decode cX5_opensFor 66 = .ok (.iaload, 1) := by decide +kernel
theorem dX5_opensFor_67 : decode cX5_opensFor 67 = .ok (.aload_n 0, 1) := by decide +kernel
theorem dX5_opensFor_68 : decode cX5_opensFor 68 = .ok (.getfield 25, 3) := by decide +kernel
theorem dX5_opensFor_71 : decode cX5_opensFor 71 = .ok (.iload_n 1, 1) := by decide +kernel
theorem dX5_opensFor_72 : decode cX5_opensFor 72 = .ok (.iaload, 1) := by decide +kernel
theorem dX5_opensFor_73 : decode cX5_opensFor 73 = .ok (.iadd, 1) := by decide +kernel
theorem dX5_opensFor_74 : decode cX5_opensFor 74 = .ok (.aload_n 0, 1) := by decide +kernel
theorem dX5_opensFor_75 : decode cX5_opensFor 75 = .ok (.getfield 13, 3) := by decide +kernel
theorem dX5_opensFor_78 : decode cX5_opensFor 78 = .ok (.iload_n 1, 1) := by decide +kernel
theorem dX5_opensFor_79 : decode cX5_opensFor 79 = .ok (.iaload, 1) := by decide +kernel
theorem dX5_opensFor_80 : decode cX5_opensFor 80 = .ok (.iconst 4, 1) := by decide +kernel
theorem dX5_opensFor_81 : decode cX5_opensFor 81 = .ok (.if_icmp .ne 7, 3) := by decide +kernel
theorem dX5_opensFor_84 : decode cX5_opensFor 84 = .ok (.iconst 1, 1) := by decide +kernel
theorem dX5_opensFor_85 : decode cX5_opensFor 85 = .ok (.goto 4, 3) := by decide +kernel
theorem dX5_opensFor_88 : decode cX5_opensFor 88 = .ok (.iconst 0, 1) := by decide +kernel
theorem dX5_opensFor_89 : decode cX5_opensFor 89 = .ok (.isub, 1) := by decide +kernel
theorem dX5_opensFor_90 : decode cX5_opensFor 90 = .ok (.istore 4, 2) := by decide +kernel
theorem dX5_opensFor_92 : decode cX5_opensFor 92 = .ok (.aload_n 0, 1) := by decide +kernel
theorem dX5_opensFor_93 : decode cX5_opensFor 93 = .ok (.getfield 73, 3) := by decide +kernel
theorem dX5_opensFor_96 : decode cX5_opensFor 96 = .ok (.iload_n 1, 1) := by decide +kernel
theorem dX5_opensFor_97 : decode cX5_opensFor 97 = .ok (.iload_n 3, 1) := by decide +kernel
theorem dX5_opensFor_98 : decode cX5_opensFor 98 = .ok (.ifCond .ne 8, 3) := by decide +kernel
theorem dX5_opensFor_101 : decode cX5_opensFor 101 = .ok (.iload 4, 2) := by decide +kernel
theorem dX5_opensFor_103 : decode cX5_opensFor 103 = .ok (.ifCond .ge 7, 3) := by decide +kernel
theorem dX5_opensFor_106 : decode cX5_opensFor 106 = .ok (.iconst 0, 1) := by decide +kernel
theorem dX5_opensFor_107 : decode cX5_opensFor 107 = .ok (.goto 5, 3) := by decide +kernel
theorem dX5_opensFor_110 : decode cX5_opensFor 110 = .ok (.iload 4, 2) := by decide +kernel
theorem dX5_opensFor_112 : decode cX5_opensFor 112 = .ok (.iastore, 1) := by decide +kernel
theorem dX5_opensFor_113 : decode cX5_opensFor 113 = .ok (.aload_n 0, 1) := by decide +kernel
theorem dX5_opensFor_114 : decode cX5_opensFor 114 = .ok (.getfield 70, 3) := by decide +kernel
theorem dX5_opensFor_117 : decode cX5_opensFor 117 = .ok (.iload_n 1, 1) := by decide +kernel
theorem dX5_opensFor_118 : decode cX5_opensFor 118 = .ok (.aload_n 0, 1) := by decide +kernel
theorem dX5_opensFor_119 : decode cX5_opensFor 119 = .ok (.getfield 67, 3) := by decide +kernel
theorem dX5_opensFor_122 : decode cX5_opensFor 122 = .ok (.iload_n 1, 1) := by decide +kernel
theorem dX5_opensFor_123 : decode cX5_opensFor 123 = .ok (.iaload, 1) := by decide +kernel
theorem dX5_opensFor_124 : decode cX5_opensFor 124 = .ok (.aload_n 0, 1) := by decide +kernel
theorem dX5_opensFor_125 : decode cX5_opensFor 125 = .ok (.getfield 73, 3) := by decide +kernel
theorem dX5_opensFor_128 : decode cX5_opensFor 128 = .ok (.iload_n 1, 1) := by decide +kernel
theorem dX5_opensFor_129 : decode cX5_opensFor 129 = .ok (.iaload, 1) := by decide +kernel
theorem dX5_opensFor_130 : decode cX5_opensFor 130 = .ok (.iadd, 1) := by decide +kernel
theorem dX5_opensFor_131 : decode cX5_opensFor 131 = .ok (.iastore, 1) := by decide +kernel
theorem dX5_opensFor_132 : decode cX5_opensFor 132 = .ok (.aload_n 0, 1) := by decide +kernel
theorem dX5_opensFor_133 : decode cX5_opensFor 133 = .ok (.getfield 79, 3) := by decide +kernel
theorem dX5_opensFor_136 : decode cX5_opensFor 136 = .ok (.iload_n 1, 1) := by decide +kernel
theorem dX5_opensFor_137 : decode cX5_opensFor 137 = .ok (.bipush (-9), 2) := by decide +kernel
theorem dX5_opensFor_139 : decode cX5_opensFor 139 = .ok (.iastore, 1) := by decide +kernel
theorem dX5_opensFor_140 : decode cX5_opensFor 140 = .ok (.aload_n 0, 1) := by decide +kernel
theorem dX5_opensFor_141 : decode cX5_opensFor 141 = .ok (.getfield 82, 3) := by decide +kernel
theorem dX5_opensFor_144 : decode cX5_opensFor 144 = .ok (.iload_n 1, 1) := by decide +kernel
theorem dX5_opensFor_145 : decode cX5_opensFor 145 = .ok (.iconst 0, 1) := by decide +kernel
theorem dX5_opensFor_146 : decode cX5_opensFor 146 = .ok (.iastore, 1) := by decide +kernel
theorem dX5_opensFor_147 : decode cX5_opensFor 147 = .ok (.return_, 1) := by decide +kernel
theorem dX5_isHeldFor_0 : decode cX5_isHeldFor 0 = .ok (.aload_n 0, 1) := by decide +kernel
theorem dX5_isHeldFor_1 : decode cX5_isHeldFor 1 = .ok (.getfield 76, 3) := by decide +kernel
theorem dX5_isHeldFor_4 : decode cX5_isHeldFor 4 = .ok (.iload_n 2, 1) := by decide +kernel
theorem dX5_isHeldFor_5 : decode cX5_isHeldFor 5 = .ok (.iload_n 3, 1) := by decide +kernel
theorem dX5_isHeldFor_6 : decode cX5_isHeldFor 6 = .ok (.iastore, 1) := by decide +kernel
theorem dX5_isHeldFor_7 : decode cX5_isHeldFor 7 = .ok (.aload_n 0, 1) := by decide +kernel
theorem dX5_isHeldFor_8 : decode cX5_isHeldFor 8 = .ok (.getfield 70, 3) := by decide +kernel
theorem dX5_isHeldFor_11 : decode cX5_isHeldFor 11 = .ok (.iload_n 1, 1) := by decide +kernel
theorem dX5_isHeldFor_12 : decode cX5_isHeldFor 12 = .ok (.aload_n 0, 1) := by decide +kernel
theorem dX5_isHeldFor_13 : decode cX5_isHeldFor 13 = .ok (.getfield 70, 3) := by decide +kernel
theorem dX5_isHeldFor_16 : decode cX5_isHeldFor 16 = .ok (.iload_n 2, 1) := by decide +kernel
theorem dX5_isHeldFor_17 : decode cX5_isHeldFor 17 = .ok (.iaload, 1) := by decide +kernel
theorem dX5_isHeldFor_18 : decode cX5_isHeldFor 18 = .ok (.iload_n 3, 1) := by decide +kernel
theorem dX5_isHeldFor_19 : decode cX5_isHeldFor 19 = .ok (.iadd, 1) := by decide +kernel
theorem dX5_isHeldFor_20 : decode cX5_isHeldFor 20 = .ok (.iastore, 1) := by decide +kernel
theorem dX5_isHeldFor_21 : decode cX5_isHeldFor 21 = .ok (.aload_n 0, 1) := by decide +kernel
theorem dX5_isHeldFor_22 : decode cX5_isHeldFor 22 = .ok (.getfield 67, 3) := by decide +kernel
theorem dX5_isHeldFor_25 : decode cX5_isHeldFor 25 = .ok (.iload_n 1, 1) := by decide +kernel
theorem dX5_isHeldFor_26 : decode cX5_isHeldFor 26 = .ok (.aload_n 0, 1) := by decide +kernel
theorem dX5_isHeldFor_27 : decode cX5_isHeldFor 27 = .ok (.getfield 70, 3) := by decide +kernel
theorem dX5_isHeldFor_30 : decode cX5_isHeldFor 30 = .ok (.iload_n 1, 1) := by decide +kernel
theorem dX5_isHeldFor_31 : decode cX5_isHeldFor 31 = .ok (.iaload, 1) := by decide +kernel
theorem dX5_isHeldFor_32 : decode cX5_isHeldFor 32 = .ok (.iastore, 1) := by decide +kernel
theorem dX5_isHeldFor_33 : decode cX5_isHeldFor 33 = .ok (.aload_n 0, 1) := by decide +kernel
theorem dX5_isHeldFor_34 : decode cX5_isHeldFor 34 = .ok (.getfield 73, 3) := by decide +kernel
theorem dX5_isHeldFor_37 : decode cX5_isHeldFor 37 = .ok (.iload_n 1, 1) := by decide +kernel
theorem dX5_isHeldFor_38 : decode cX5_isHeldFor 38 = .ok (.iconst 0, 1) := by decide +kernel
theorem dX5_isHeldFor_39 : decode cX5_isHeldFor 39 = .ok (.iastore, 1) := by decide +kernel
theorem dX5_isHeldFor_40 : decode cX5_isHeldFor 40 = .ok (.aload_n 0, 1) := by decide +kernel
theorem dX5_isHeldFor_41 : decode cX5_isHeldFor 41 = .ok (.getfield 79, 3) := by decide +kernel
theorem dX5_isHeldFor_44 : decode cX5_isHeldFor 44 = .ok (.iload_n 1, 1) := by decide +kernel
theorem dX5_isHeldFor_45 : decode cX5_isHeldFor 45 = .ok (.iload_n 2, 1) := by decide +kernel
theorem dX5_isHeldFor_46 : decode cX5_isHeldFor 46 = .ok (.iastore, 1) := by decide +kernel
theorem dX5_isHeldFor_47 : decode cX5_isHeldFor 47 = .ok (.aload_n 0, 1) := by decide +kernel
theorem dX5_isHeldFor_48 : decode cX5_isHeldFor 48 = .ok (.getfield 82, 3) := by decide +kernel
theorem dX5_isHeldFor_51 : decode cX5_isHeldFor 51 = .ok (.iload_n 1, 1) := by decide +kernel
theorem dX5_isHeldFor_52 : decode cX5_isHeldFor 52 = .ok (.aload_n 0, 1) := by decide +kernel
theorem dX5_isHeldFor_53 : decode cX5_isHeldFor 53 = .ok (.iload_n 1, 1) := by decide +kernel
theorem dX5_isHeldFor_54 : decode cX5_isHeldFor 54 = .ok (.invokevirtual 180, 3) := by decide +kernel
theorem dX5_isHeldFor_57 : decode cX5_isHeldFor 57 = .ok (.aload_n 0, 1) := by decide +kernel
theorem dX5_isHeldFor_58 : decode cX5_isHeldFor 58 = .ok (.getfield 22, 3) := by decide +kernel
theorem dX5_isHeldFor_61 : decode cX5_isHeldFor 61 = .ok (.iload_n 1, 1) := by decide +kernel
theorem dX5_isHeldFor_62 : decode cX5_isHeldFor 62 = .ok (.iaload, 1) := by decide +kernel
theorem dX5_isHeldFor_63 : decode cX5_isHeldFor 63 = .ok (.if_icmp .le 7, 3) := by decide +kernel
theorem dX5_isHeldFor_66 : decode cX5_isHeldFor 66 = .ok (.iload_n 3, 1) := by decide +kernel
theorem dX5_isHeldFor_67 : decode cX5_isHeldFor 67 = .ok (.goto 4, 3) := by decide +kernel
theorem dX5_isHeldFor_70 : decode cX5_isHeldFor 70 = .ok (.iconst 0, 1) := by decide +kernel
theorem dX5_isHeldFor_71 : decode cX5_isHeldFor 71 = .ok (.iastore, 1) := by decide +kernel
theorem dX5_isHeldFor_72 : decode cX5_isHeldFor 72 = .ok (.return_, 1) := by decide +kernel
theorem dX5_goes_0 : decode cX5_goes 0 = .ok (.iload_n 1, 1) := by decide +kernel
theorem dX5_goes_1 : decode cX5_goes 1 = .ok (.istore_n 2, 1) := by decide +kernel
theorem dX5_goes_2 : decode cX5_goes 2 = .ok (.aload_n 0, 1) := by decide +kernel
theorem dX5_goes_3 : decode cX5_goes 3 = .ok (.iconst 0, 1) := by decide +kernel
theorem dX5_goes_4 : decode cX5_goes 4 = .ok (.putfield 202, 3) := by decide +kernel
theorem dX5_goes_7 : decode cX5_goes 7 = .ok (.aload_n 0, 1) := by decide +kernel
theorem dX5_goes_8 : decode cX5_goes 8 = .ok (.iconst 0, 1) := by decide +kernel
theorem dX5_goes_9 : decode cX5_goes 9 = .ok (.putfield 205, 3) := by decide +kernel
theorem dX5_goes_12 : decode cX5_goes 12 = .ok (.aload_n 0, 1) := by decide +kernel
theorem dX5_goes_13 : decode cX5_goes 13 = .ok (.iconst 0, 1) := by decide +kernel
theorem dX5_goes_14 : decode cX5_goes 14 = .ok (.putfield 208, 3) := by decide +kernel
theorem dX5_goes_17 : decode cX5_goes 17 = .ok (.iload_n 2, 1) := by decide +kernel
theorem dX5_goes_18 : decode cX5_goes 18 = .ok (.ifCond .eq 160, 3) := by decide +kernel
theorem dX5_goes_21 : decode cX5_goes 21 = .ok (.aload_n 0, 1) := by decide +kernel
theorem dX5_goes_22 : decode cX5_goes 22 = .ok (.iload_n 2, 1) := by decide +kernel
theorem dX5_goes_23 : decode cX5_goes 23 = .ok (.invokevirtual 211, 3) := by decide +kernel
theorem dX5_goes_26 : decode cX5_goes 26 = .ok (.istore_n 3, 1) := by decide +kernel
theorem dX5_goes_27 : decode cX5_goes 27 = .ok (.aload_n 0, 1) := by decide +kernel
theorem dX5_goes_28 : decode cX5_goes 28 = .ok (.iload_n 3, 1) := by decide +kernel
theorem dX5_goes_29 : decode cX5_goes 29 = .ok (.invokevirtual 214, 3) := by decide +kernel
theorem dX5_goes_32 : decode cX5_goes 32 = .ok (.aload_n 0, 1) := by decide +kernel
theorem dX5_goes_33 : decode cX5_goes 33 = .ok (.getfield 85, 3) := by decide +kernel
theorem dX5_goes_36 : decode cX5_goes 36 = .ok (.aload_n 0, 1) := by decide +kernel
theorem dX5_goes_37 : decode cX5_goes 37 = .ok (.getfield 208, 3) := by decide +kernel
theorem dX5_goes_40 : decode cX5_goes 40 = .ok (.aload_n 0, 1) := by decide +kernel
theorem dX5_goes_41 : decode cX5_goes 41 = .ok (.getfield 67, 3) := by decide +kernel
theorem dX5_goes_44 : decode cX5_goes 44 = .ok (.iload_n 3, 1) := by decide +kernel
theorem dX5_goes_45 : decode cX5_goes 45 = .ok (.iaload, 1) := by decide +kernel
theorem dX5_goes_46 : decode cX5_goes 46 = .ok (.iastore, 1) := by decide +kernel
theorem dX5_goes_47 : decode cX5_goes 47 = .ok (.iconst 1, 1) := by decide +kernel
theorem dX5_goes_48 : decode cX5_goes 48 = .ok (.istore 4, 2) := by decide +kernel
theorem dX5_goes_50 : decode cX5_goes 50 = .ok (.iload 4, 2) := by decide +kernel
theorem dX5_goes_52 : decode cX5_goes 52 = .ok (.ifCond .le 83, 3) := by decide +kernel
theorem dX5_goes_55 : decode cX5_goes 55 = .ok (.aload_n 0, 1) := by decide +kernel
theorem dX5_goes_56 : decode cX5_goes 56 = .ok (.getfield 76, 3) := by decide +kernel
theorem dX5_goes_59 : decode cX5_goes 59 = .ok (.iload_n 3, 1) := by decide +kernel
theorem dX5_goes_60 : decode cX5_goes 60 = .ok (.iconst 0, 1) := by decide +kernel
theorem dX5_goes_61 : decode cX5_goes 61 = .ok (.iastore, 1) := by decide +kernel
theorem dX5_goes_62 : decode cX5_goes 62 = .ok (.aload_n 0, 1) := by decide +kernel
theorem dX5_goes_63 : decode cX5_goes 63 = .ok (.getfield 64, 3) := by decide +kernel
theorem dX5_goes_66 : decode cX5_goes 66 = .ok (.aload_n 0, 1) := by decide +kernel
theorem dX5_goes_67 : decode cX5_goes 67 = .ok (.getfield 205, 3) := by decide +kernel
theorem dX5_goes_70 : decode cX5_goes 70 = .ok (.iload_n 3, 1) := by decide +kernel
theorem dX5_goes_71 : decode cX5_goes 71 = .ok (.iastore, 1) := by decide +kernel
theorem dX5_goes_72 : decode cX5_goes 72 = .ok (.aload_n 0, 1) := by decide +kernel
theorem dX5_goes_73 : decode cX5_goes 73 = .ok (.dup, 1) := by decide +kernel
theorem dX5_goes_74 : decode cX5_goes 74 = .ok (.getfield 205, 3) := by decide +kernel
theorem dX5_goes_77 : decode cX5_goes 77 = .ok (.iconst 1, 1) := by decide +kernel
theorem dX5_goes_78 : decode cX5_goes 78 = .ok (.iadd, 1) := by decide +kernel
theorem dX5_goes_79 : decode cX5_goes 79 = .ok (.putfield 205, 3) := by decide +kernel
theorem dX5_goes_82 : decode cX5_goes 82 = .ok (.iload_n 2, 1) := by decide +kernel
theorem dX5_goes_83 : decode cX5_goes 83 = .ok (.iconst 1, 1) := by decide +kernel
theorem dX5_goes_84 : decode cX5_goes 84 = .ok (.iload_n 3, 1) := by decide +kernel
theorem dX5_goes_85 : decode cX5_goes 85 = .ok (.ishl, 1) := by decide +kernel
theorem dX5_goes_86 : decode cX5_goes 86 = .ok (.iconst (-1), 1) := by decide +kernel
theorem dX5_goes_87 : decode cX5_goes 87 = .ok (.ixor, 1) := by decide +kernel
theorem dX5_goes_88 : decode cX5_goes 88 = .ok (.iand, 1) := by decide +kernel
theorem dX5_goes_89 : decode cX5_goes 89 = .ok (.istore_n 2, 1) := by decide +kernel
theorem dX5_goes_90 : decode cX5_goes 90 = .ok (.aload_n 0, 1) := by decide +kernel
theorem dX5_goes_91 : decode cX5_goes 91 = .ok (.iload_n 2, 1) := by decide +kernel
theorem dX5_goes_92 : decode cX5_goes 92 = .ok (.invokevirtual 211, 3) := by decide +kernel
theorem dX5_goes_95 : decode cX5_goes 95 = .ok (.istore 5, 2) := by decide +kernel
theorem dX5_goes_97 : decode cX5_goes 97 = .ok (.iload 5, 2) := by decide +kernel
theorem dX5_goes_99 : decode cX5_goes 99 = .ok (.ifCond .ge 7, 3) := by decide +kernel
theorem dX5_goes_102 : decode cX5_goes 102 = .ok (.iconst 0, 1) := by decide +kernel
theorem dX5_goes_103 : decode cX5_goes 103 = .ok (.goto 10, 3) := by decide +kernel
theorem dX5_goes_106 : decode cX5_goes 106 = .ok (.aload_n 0, 1) := by decide +kernel
theorem dX5_goes_107 : decode cX5_goes 107 = .ok (.iload_n 3, 1) := by decide +kernel
theorem dX5_goes_108 : decode cX5_goes 108 = .ok (.iload 5, 2) := by decide +kernel
theorem dX5_goes_110 : decode cX5_goes 110 = .ok (.invokevirtual 218, 3) := by decide +kernel
theorem dX5_goes_113 : decode cX5_goes 113 = .ok (.istore 4, 2) := by decide +kernel
theorem dX5_goes_115 : decode cX5_goes 115 = .ok (.iload 4, 2) := by decide +kernel
theorem dX5_goes_117 : decode cX5_goes 117 = .ok (.ifCond .le 15, 3) := by decide +kernel
theorem dX5_goes_120 : decode cX5_goes 120 = .ok (.aload_n 0, 1) := by decide +kernel
theorem dX5_goes_121 : decode cX5_goes 121 = .ok (.iload 5, 2) := by decide +kernel
theorem dX5_goes_123 : decode cX5_goes 123 = .ok (.iload_n 3, 1) := by decide +kernel
theorem dX5_goes_124 : decode cX5_goes 124 = .ok (.iload 4, 2) := by decide +kernel
theorem dX5_goes_126 : decode cX5_goes 126 = .ok (.invokevirtual 221, 3) := by decide +kernel
theorem dX5_goes_129 : decode cX5_goes 129 = .ok (.iload 5, 2) := by decide +kernel
theorem dX5_goes_131 : decode cX5_goes 131 = .ok (.istore_n 3, 1) := by decide +kernel
theorem dX5_goes_132 : decode cX5_goes 132 = .ok (.goto (-82), 3) := by decide +kernel
theorem dX5_goes_135 : decode cX5_goes 135 = .ok (.aload_n 0, 1) := by decide +kernel
theorem dX5_goes_136 : decode cX5_goes 136 = .ok (.aload_n 0, 1) := by decide +kernel
theorem dX5_goes_137 : decode cX5_goes 137 = .ok (.getfield 70, 3) := by decide +kernel
theorem dX5_goes_140 : decode cX5_goes 140 = .ok (.iload_n 3, 1) := by decide +kernel
theorem dX5_goes_141 : decode cX5_goes 141 = .ok (.iaload, 1) := by decide +kernel
theorem dX5_goes_142 : decode cX5_goes 142 = .ok (.putfield 202, 3) := by decide +kernel
theorem dX5_goes_145 : decode cX5_goes 145 = .ok (.aload_n 0, 1) := by decide +kernel
theorem dX5_goes_146 : decode cX5_goes 146 = .ok (.getfield 88, 3) := by decide +kernel
theorem dX5_goes_149 : decode cX5_goes 149 = .ok (.aload_n 0, 1) := by decide +kernel
theorem dX5_goes_150 : decode cX5_goes 150 = .ok (.getfield 208, 3) := by decide +kernel
theorem dX5_goes_153 : decode cX5_goes 153 = .ok (.aload_n 0, 1) := by decide +kernel
theorem dX5_goes_154 : decode cX5_goes 154 = .ok (.getfield 202, 3) := by decide +kernel
theorem dX5_goes_157 : decode cX5_goes 157 = .ok (.aload_n 0, 1) := by decide +kernel
theorem dX5_goes_158 : decode cX5_goes 158 = .ok (.getfield 34, 3) := by decide +kernel
theorem dX5_goes_161 : decode cX5_goes 161 = .ok (.iconst 0, 1) := by decide +kernel
theorem dX5_goes_162 : decode cX5_goes 162 = .ok (.iaload, 1) := by decide +kernel
theorem dX5_goes_163 : decode cX5_goes 163 = .ok (.iadd, 1) := by decide +kernel
theorem dX5_goes_164 : decode cX5_goes 164 = .ok (.iastore, 1) := by decide +kernel
theorem dX5_goes_165 : decode cX5_goes 165 = .ok (.aload_n 0, 1) := by decide +kernel
theorem dX5_goes_166 : decode cX5_goes 166 = .ok (.dup, 1) := by decide +kernel
theorem dX5_goes_167 : decode cX5_goes 167 = .ok (.getfield 208, 3) := by decide +kernel
theorem dX5_goes_170 : decode cX5_goes 170 = .ok (.iconst 1, 1) := by decide +kernel
theorem dX5_goes_171 : decode cX5_goes 171 = .ok (.iadd, 1) := by decide +kernel
theorem dX5_goes_172 : decode cX5_goes 172 = .ok (.putfield 208, 3) := by decide +kernel
theorem dX5_goes_175 : decode cX5_goes 175 = .ok (.goto (-158), 3) := by decide +kernel
theorem dX5_goes_178 : decode cX5_goes 178 = .ok (.return_, 1) := by decide +kernel
theorem dX5_goesAll_0 : decode cX5_goesAll 0 = .ok (.aload_n 0, 1) := by decide +kernel
theorem dX5_goesAll_1 : decode cX5_goesAll 1 = .ok (.iconst 1, 1) := by decide +kernel
theorem dX5_goesAll_2 : decode cX5_goesAll 2 = .ok (.aload_n 0, 1) := by decide +kernel
theorem dX5_goesAll_3 : decode cX5_goesAll 3 = .ok (.getfield 97, 3) := by decide +kernel
theorem dX5_goesAll_6 : decode cX5_goesAll 6 = .ok (.ishl, 1) := by decide +kernel
theorem dX5_goesAll_7 : decode cX5_goesAll 7 = .ok (.iconst 1, 1) := by decide +kernel
theorem dX5_goesAll_8 : decode cX5_goesAll 8 = .ok (.isub, 1) := by decide +kernel
theorem dX5_goesAll_9 : decode cX5_goesAll 9 = .ok (.invokevirtual 225, 3) := by decide +kernel
theorem dX5_goesAll_12 : decode cX5_goesAll 12 = .ok (.return_, 1) := by decide +kernel
theorem dX5_lossOf_0 : decode cX5_lossOf 0 = .ok (.aload_n 0, 1) := by decide +kernel
theorem dX5_lossOf_1 : decode cX5_lossOf 1 = .ok (.getfield 31, 3) := by decide +kernel
theorem dX5_lossOf_4 : decode cX5_lossOf 4 = .ok (.iload_n 1, 1) := by decide +kernel
theorem dX5_lossOf_5 : decode cX5_lossOf 5 = .ok (.iaload, 1) := by decide +kernel
theorem dX5_lossOf_6 : decode cX5_lossOf 6 = .ok (.aload_n 0, 1) := by decide +kernel
theorem dX5_lossOf_7 : decode cX5_lossOf 7 = .ok (.getfield 73, 3) := by decide +kernel
theorem dX5_lossOf_10 : decode cX5_lossOf 10 = .ok (.iload_n 1, 1) := by decide +kernel
theorem dX5_lossOf_11 : decode cX5_lossOf 11 = .ok (.iaload, 1) := by decide +kernel
theorem dX5_lossOf_12 : decode cX5_lossOf 12 = .ok (.aload_n 0, 1) := by decide +kernel
theorem dX5_lossOf_13 : decode cX5_lossOf 13 = .ok (.getfield 76, 3) := by decide +kernel
theorem dX5_lossOf_16 : decode cX5_lossOf 16 = .ok (.iload_n 1, 1) := by decide +kernel
theorem dX5_lossOf_17 : decode cX5_lossOf 17 = .ok (.iaload, 1) := by decide +kernel
theorem dX5_lossOf_18 : decode cX5_lossOf 18 = .ok (.iadd, 1) := by decide +kernel
theorem dX5_lossOf_19 : decode cX5_lossOf 19 = .ok (.imul, 1) := by decide +kernel
theorem dX5_lossOf_20 : decode cX5_lossOf 20 = .ok (.aload_n 0, 1) := by decide +kernel
theorem dX5_lossOf_21 : decode cX5_lossOf 21 = .ok (.getfield 82, 3) := by decide +kernel
theorem dX5_lossOf_24 : decode cX5_lossOf 24 = .ok (.iload_n 1, 1) := by decide +kernel
theorem dX5_lossOf_25 : decode cX5_lossOf 25 = .ok (.iaload, 1) := by decide +kernel
theorem dX5_lossOf_26 : decode cX5_lossOf 26 = .ok (.iadd, 1) := by decide +kernel
theorem dX5_lossOf_27 : decode cX5_lossOf 27 = .ok (.ireturn, 1) := by decide +kernel
theorem dX5_lossOfAll_0 : decode cX5_lossOfAll 0 = .ok (.iconst 0, 1) := by decide +kernel
theorem dX5_lossOfAll_1 : decode cX5_lossOfAll 1 = .ok (.istore_n 1, 1) := by decide +kernel
theorem dX5_lossOfAll_2 : decode cX5_lossOfAll 2 = .ok (.iconst 0, 1) := by decide +kernel
theorem dX5_lossOfAll_3 : decode cX5_lossOfAll 3 = .ok (.istore_n 2, 1) := by decide +kernel
theorem dX5_lossOfAll_4 : decode cX5_lossOfAll 4 = .ok (.iload_n 2, 1) := by decide +kernel
theorem dX5_lossOfAll_5 : decode cX5_lossOfAll 5 = .ok (.aload_n 0, 1) := by decide +kernel
theorem dX5_lossOfAll_6 : decode cX5_lossOfAll 6 = .ok (.getfield 205, 3) := by decide +kernel
theorem dX5_lossOfAll_9 : decode cX5_lossOfAll 9 = .ok (.if_icmp .ge 22, 3) := by decide +kernel
theorem dX5_lossOfAll_12 : decode cX5_lossOfAll 12 = .ok (.iload_n 1, 1) := by decide +kernel
theorem dX5_lossOfAll_13 : decode cX5_lossOfAll 13 = .ok (.aload_n 0, 1) := by decide +kernel
theorem dX5_lossOfAll_14 : decode cX5_lossOfAll 14 = .ok (.aload_n 0, 1) := by decide +kernel
theorem dX5_lossOfAll_15 : decode cX5_lossOfAll 15 = .ok (.getfield 64, 3) := by decide +kernel
theorem dX5_lossOfAll_18 : decode cX5_lossOfAll 18 = .ok (.iload_n 2, 1) := by decide +kernel
theorem dX5_lossOfAll_19 : decode cX5_lossOfAll 19 = .ok (.iaload, 1) := by decide +kernel
theorem dX5_lossOfAll_20 : decode cX5_lossOfAll 20 = .ok (.invokevirtual 228, 3) := by decide +kernel
theorem dX5_lossOfAll_23 : decode cX5_lossOfAll 23 = .ok (.iadd, 1) := by decide +kernel
theorem dX5_lossOfAll_24 : decode cX5_lossOfAll 24 = .ok (.istore_n 1, 1) := by decide +kernel
theorem dX5_lossOfAll_25 : decode cX5_lossOfAll 25 = .ok (.iinc 2 1, 3) := by decide +kernel
theorem dX5_lossOfAll_28 : decode cX5_lossOfAll 28 = .ok (.goto (-24), 3) := by decide +kernel
theorem dX5_lossOfAll_31 : decode cX5_lossOfAll 31 = .ok (.iload_n 1, 1) := by decide +kernel
theorem dX5_lossOfAll_32 : decode cX5_lossOfAll 32 = .ok (.ireturn, 1) := by decide +kernel
theorem dX5_order_0 : decode cX5_order 0 = .ok (.iload_n 1, 1) := by decide +kernel
theorem dX5_order_1 : decode cX5_order 1 = .ok (.ifCond .ge 10, 3) := by decide +kernel
theorem dX5_order_4 : decode cX5_order 4 = .ok (.aload_n 0, 1) := by decide +kernel
theorem dX5_order_5 : decode cX5_order 5 = .ok (.bipush (-4), 2) := by decide +kernel
theorem dX5_order_7 : decode cX5_order 7 = .ok (.invokevirtual 108, 3) := by decide +kernel
theorem dX5_order_10 : decode cX5_order 10 = .ok (.ireturn, 1) := by decide +kernel
theorem dX5_order_11 : decode cX5_order 11 = .ok (.aload_n 0, 1) := by decide +kernel
theorem dX5_order_12 : decode cX5_order 12 = .ok (.invokevirtual 231, 3) := by decide +kernel
theorem dX5_order_15 : decode cX5_order 15 = .ok (.iload_n 1, 1) := by decide +kernel
theorem dX5_order_16 : decode cX5_order 16 = .ok (.aload_n 0, 1) := by decide +kernel
theorem dX5_order_17 : decode cX5_order 17 = .ok (.getfield 205, 3) := by decide +kernel
theorem dX5_order_20 : decode cX5_order 20 = .ok (.if_icmp .ge 12, 3) := by decide +kernel
theorem dX5_order_23 : decode cX5_order 23 = .ok (.aload_n 0, 1) := by decide +kernel
theorem dX5_order_24 : decode cX5_order 24 = .ok (.getfield 64, 3) := by decide +kernel
theorem dX5_order_27 : decode cX5_order 27 = .ok (.iload_n 1, 1) := by decide +kernel
theorem dX5_order_28 : decode cX5_order 28 = .ok (.iaload, 1) := by decide +kernel
theorem dX5_order_29 : decode cX5_order 29 = .ok (.goto 5, 3) := by decide +kernel
theorem dX5_order_32 : decode cX5_order 32 = .ok (.bipush (-9), 2) := by decide +kernel
theorem dX5_order_34 : decode cX5_order 34 = .ok (.ireturn, 1) := by decide +kernel
theorem dX5_comes_0 : decode cX5_comes 0 = .ok (.aload_n 0, 1) := by decide +kernel
theorem dX5_comes_1 : decode cX5_comes 1 = .ok (.iload_n 1, 1) := by decide +kernel
theorem dX5_comes_2 : decode cX5_comes 2 = .ok (.invokevirtual 177, 3) := by decide +kernel
theorem dX5_comes_5 : decode cX5_comes 5 = .ok (.ifCond .ne 9, 3) := by decide +kernel
theorem dX5_comes_8 : decode cX5_comes 8 = .ok (.aload_n 0, 1) := by decide +kernel
theorem dX5_comes_9 : decode cX5_comes 9 = .ok (.iconst (-1), 1) := by decide +kernel
theorem dX5_comes_10 : decode cX5_comes 10 = .ok (.invokevirtual 108, 3) := by decide +kernel
theorem dX5_comes_13 : decode cX5_comes 13 = .ok (.ireturn, 1) := by decide +kernel
theorem dX5_comes_14 : decode cX5_comes 14 = .ok (.aload_n 0, 1) := by decide +kernel
theorem dX5_comes_15 : decode cX5_comes 15 = .ok (.invokevirtual 231, 3) := by decide +kernel
theorem dX5_comes_18 : decode cX5_comes 18 = .ok (.aload_n 0, 1) := by decide +kernel
theorem dX5_comes_19 : decode cX5_comes 19 = .ok (.getfield 67, 3) := by decide +kernel
theorem dX5_comes_22 : decode cX5_comes 22 = .ok (.iload_n 1, 1) := by decide +kernel
theorem dX5_comes_23 : decode cX5_comes 23 = .ok (.iaload, 1) := by decide +kernel
theorem dX5_comes_24 : decode cX5_comes 24 = .ok (.ireturn, 1) := by decide +kernel
theorem dX5_through_0 : decode cX5_through 0 = .ok (.aload_n 0, 1) := by decide +kernel
theorem dX5_through_1 : decode cX5_through 1 = .ok (.iload_n 1, 1) := by decide +kernel
theorem dX5_through_2 : decode cX5_through 2 = .ok (.invokevirtual 177, 3) := by decide +kernel
theorem dX5_through_5 : decode cX5_through 5 = .ok (.ifCond .ne 9, 3) := by decide +kernel
theorem dX5_through_8 : decode cX5_through 8 = .ok (.aload_n 0, 1) := by decide +kernel
theorem dX5_through_9 : decode cX5_through 9 = .ok (.iconst (-1), 1) := by decide +kernel
theorem dX5_through_10 : decode cX5_through 10 = .ok (.invokevirtual 108, 3) := by decide +kernel
theorem dX5_through_13 : decode cX5_through 13 = .ok (.ireturn, 1) := by decide +kernel
theorem dX5_through_14 : decode cX5_through 14 = .ok (.aload_n 0, 1) := by decide +kernel
theorem dX5_through_15 : decode cX5_through 15 = .ok (.invokevirtual 231, 3) := by decide +kernel
theorem dX5_through_18 : decode cX5_through 18 = .ok (.aload_n 0, 1) := by decide +kernel
theorem dX5_through_19 : decode cX5_through 19 = .ok (.getfield 70, 3) := by decide +kernel
theorem dX5_through_22 : decode cX5_through 22 = .ok (.iload_n 1, 1) := by decide +kernel
theorem dX5_through_23 : decode cX5_through 23 = .ok (.iaload, 1) := by decide +kernel
theorem dX5_through_24 : decode cX5_through 24 = .ok (.ireturn, 1) := by decide +kernel
theorem dX5_opens_0 : decode cX5_opens 0 = .ok (.aload_n 0, 1) := by decide +kernel
theorem dX5_opens_1 : decode cX5_opens 1 = .ok (.iload_n 1, 1) := by decide +kernel
theorem dX5_opens_2 : decode cX5_opens 2 = .ok (.invokevirtual 177, 3) := by decide +kernel
theorem dX5_opens_5 : decode cX5_opens 5 = .ok (.ifCond .ne 9, 3) := by decide +kernel
theorem dX5_opens_8 : decode cX5_opens 8 = .ok (.aload_n 0, 1) := by decide +kernel
theorem dX5_opens_9 : decode cX5_opens 9 = .ok (.iconst (-1), 1) := by decide +kernel
theorem dX5_opens_10 : decode cX5_opens 10 = .ok (.invokevirtual 108, 3) := by decide +kernel
theorem dX5_opens_13 : decode cX5_opens 13 = .ok (.ireturn, 1) := by decide +kernel
theorem dX5_opens_14 : decode cX5_opens 14 = .ok (.aload_n 0, 1) := by decide +kernel
theorem dX5_opens_15 : decode cX5_opens 15 = .ok (.invokevirtual 231, 3) := by decide +kernel
theorem dX5_opens_18 : decode cX5_opens 18 = .ok (.aload_n 0, 1) := by decide +kernel
theorem dX5_opens_19 : decode cX5_opens 19 = .ok (.getfield 73, 3) := by decide +kernel
theorem dX5_opens_22 : decode cX5_opens 22 = .ok (.iload_n 1, 1) := by decide +kernel
theorem dX5_opens_23 : decode cX5_opens 23 = .ok (.iaload, 1) := by decide +kernel
theorem dX5_opens_24 : decode cX5_opens 24 = .ok (.ireturn, 1) := by decide +kernel
theorem dX5_stands_0 : decode cX5_stands 0 = .ok (.aload_n 0, 1) := by decide +kernel
theorem dX5_stands_1 : decode cX5_stands 1 = .ok (.iload_n 1, 1) := by decide +kernel
theorem dX5_stands_2 : decode cX5_stands 2 = .ok (.invokevirtual 177, 3) := by decide +kernel
theorem dX5_stands_5 : decode cX5_stands 5 = .ok (.ifCond .ne 9, 3) := by decide +kernel
theorem dX5_stands_8 : decode cX5_stands 8 = .ok (.aload_n 0, 1) := by decide +kernel
theorem dX5_stands_9 : decode cX5_stands 9 = .ok (.iconst (-1), 1) := by decide +kernel
theorem dX5_stands_10 : decode cX5_stands 10 = .ok (.invokevirtual 108, 3) := by decide +kernel
theorem dX5_stands_13 : decode cX5_stands 13 = .ok (.ireturn, 1) := by decide +kernel
theorem dX5_stands_14 : decode cX5_stands 14 = .ok (.aload_n 0, 1) := by decide +kernel
theorem dX5_stands_15 : decode cX5_stands 15 = .ok (.invokevirtual 231, 3) := by decide +kernel
theorem dX5_stands_18 : decode cX5_stands 18 = .ok (.aload_n 0, 1) := by decide +kernel
theorem dX5_stands_19 : decode cX5_stands 19 = .ok (.getfield 76, 3) := by decide +kernel
theorem dX5_stands_22 : decode cX5_stands 22 = .ok (.iload_n 1, 1) := by decide +kernel
theorem dX5_stands_23 : decode cX5_stands 23 = .ok (.iaload, 1) := by decide +kernel
theorem dX5_stands_24 : decode cX5_stands 24 = .ok (.ireturn, 1) := by decide +kernel
theorem dX5_by_0 : decode cX5_by 0 = .ok (.aload_n 0, 1) := by decide +kernel
theorem dX5_by_1 : decode cX5_by 1 = .ok (.iload_n 1, 1) := by decide +kernel
theorem dX5_by_2 : decode cX5_by 2 = .ok (.invokevirtual 177, 3) := by decide +kernel
theorem dX5_by_5 : decode cX5_by 5 = .ok (.ifCond .ne 9, 3) := by decide +kernel
theorem dX5_by_8 : decode cX5_by 8 = .ok (.aload_n 0, 1) := by decide +kernel
theorem dX5_by_9 : decode cX5_by 9 = .ok (.iconst (-1), 1) := by decide +kernel
theorem dX5_by_10 : decode cX5_by 10 = .ok (.invokevirtual 108, 3) := by decide +kernel
theorem dX5_by_13 : decode cX5_by 13 = .ok (.ireturn, 1) := by decide +kernel
theorem dX5_by_14 : decode cX5_by 14 = .ok (.aload_n 0, 1) := by decide +kernel
theorem dX5_by_15 : decode cX5_by 15 = .ok (.invokevirtual 231, 3) := by decide +kernel
theorem dX5_by_18 : decode cX5_by 18 = .ok (.aload_n 0, 1) := by decide +kernel
theorem dX5_by_19 : decode cX5_by 19 = .ok (.getfield 79, 3) := by decide +kernel
theorem dX5_by_22 : decode cX5_by 22 = .ok (.iload_n 1, 1) := by decide +kernel
theorem dX5_by_23 : decode cX5_by 23 = .ok (.iaload, 1) := by decide +kernel
theorem dX5_by_24 : decode cX5_by 24 = .ok (.ireturn, 1) := by decide +kernel
theorem dX5_runs_0 : decode cX5_runs 0 = .ok (.aload_n 0, 1) := by decide +kernel
theorem dX5_runs_1 : decode cX5_runs 1 = .ok (.iload_n 1, 1) := by decide +kernel
theorem dX5_runs_2 : decode cX5_runs 2 = .ok (.invokevirtual 177, 3) := by decide +kernel
theorem dX5_runs_5 : decode cX5_runs 5 = .ok (.ifCond .ne 9, 3) := by decide +kernel
theorem dX5_runs_8 : decode cX5_runs 8 = .ok (.aload_n 0, 1) := by decide +kernel
theorem dX5_runs_9 : decode cX5_runs 9 = .ok (.iconst (-1), 1) := by decide +kernel
theorem dX5_runs_10 : decode cX5_runs 10 = .ok (.invokevirtual 108, 3) := by decide +kernel
theorem dX5_runs_13 : decode cX5_runs 13 = .ok (.ireturn, 1) := by decide +kernel
theorem dX5_runs_14 : decode cX5_runs 14 = .ok (.aload_n 0, 1) := by decide +kernel
theorem dX5_runs_15 : decode cX5_runs 15 = .ok (.invokevirtual 231, 3) := by decide +kernel
theorem dX5_runs_18 : decode cX5_runs 18 = .ok (.aload_n 0, 1) := by decide +kernel
theorem dX5_runs_19 : decode cX5_runs 19 = .ok (.getfield 82, 3) := by decide +kernel
theorem dX5_runs_22 : decode cX5_runs 22 = .ok (.iload_n 1, 1) := by decide +kernel
theorem dX5_runs_23 : decode cX5_runs 23 = .ok (.iaload, 1) := by decide +kernel
theorem dX5_runs_24 : decode cX5_runs 24 = .ok (.ireturn, 1) := by decide +kernel
theorem dX5_loss_0 : decode cX5_loss 0 = .ok (.iload_n 1, 1) := by decide +kernel
theorem dX5_loss_1 : decode cX5_loss 1 = .ok (.iconst (-1), 1) := by decide +kernel
theorem dX5_loss_2 : decode cX5_loss 2 = .ok (.if_icmp .eq 17, 3) := by decide +kernel
theorem dX5_loss_5 : decode cX5_loss 5 = .ok (.aload_n 0, 1) := by decide +kernel
theorem dX5_loss_6 : decode cX5_loss 6 = .ok (.iload_n 1, 1) := by decide +kernel
theorem dX5_loss_7 : decode cX5_loss 7 = .ok (.invokevirtual 177, 3) := by decide +kernel
theorem dX5_loss_10 : decode cX5_loss 10 = .ok (.ifCond .ne 9, 3) := by decide +kernel
theorem dX5_loss_13 : decode cX5_loss 13 = .ok (.aload_n 0, 1) := by decide +kernel
theorem dX5_loss_14 : decode cX5_loss 14 = .ok (.iconst (-1), 1) := by decide +kernel
theorem dX5_loss_15 : decode cX5_loss 15 = .ok (.invokevirtual 108, 3) := by decide +kernel
theorem dX5_loss_18 : decode cX5_loss 18 = .ok (.ireturn, 1) := by decide +kernel
theorem dX5_loss_19 : decode cX5_loss 19 = .ok (.aload_n 0, 1) := by decide +kernel
theorem dX5_loss_20 : decode cX5_loss 20 = .ok (.invokevirtual 231, 3) := by decide +kernel
theorem dX5_loss_23 : decode cX5_loss 23 = .ok (.iload_n 1, 1) := by decide +kernel
theorem dX5_loss_24 : decode cX5_loss 24 = .ok (.iconst (-1), 1) := by decide +kernel
theorem dX5_loss_25 : decode cX5_loss 25 = .ok (.if_icmp .ne 10, 3) := by decide +kernel
theorem dX5_loss_28 : decode cX5_loss 28 = .ok (.aload_n 0, 1) := by decide +kernel
theorem dX5_loss_29 : decode cX5_loss 29 = .ok (.invokevirtual 234, 3) := by decide +kernel
theorem dX5_loss_32 : decode cX5_loss 32 = .ok (.goto 8, 3) := by decide +kernel
theorem dX5_loss_35 : decode cX5_loss 35 = .ok (.aload_n 0, 1) := by decide +kernel
theorem dX5_loss_36 : decode cX5_loss 36 = .ok (.iload_n 1, 1) := by decide +kernel
theorem dX5_loss_37 : decode cX5_loss 37 = .ok (.invokevirtual 228, 3) := by decide +kernel
theorem dX5_loss_40 : decode cX5_loss 40 = .ok (.ireturn, 1) := by decide +kernel
theorem dX5_heldMany_0 : decode cX5_heldMany 0 = .ok (.iconst 0, 1) := by decide +kernel
theorem dX5_heldMany_1 : decode cX5_heldMany 1 = .ok (.istore_n 1, 1) := by decide +kernel
theorem dX5_heldMany_2 : decode cX5_heldMany 2 = .ok (.iconst 0, 1) := by decide +kernel
theorem dX5_heldMany_3 : decode cX5_heldMany 3 = .ok (.istore_n 2, 1) := by decide +kernel
theorem dX5_heldMany_4 : decode cX5_heldMany 4 = .ok (.iload_n 2, 1) := by decide +kernel
theorem dX5_heldMany_5 : decode cX5_heldMany 5 = .ok (.aload_n 0, 1) := by decide +kernel
theorem dX5_heldMany_6 : decode cX5_heldMany 6 = .ok (.getfield 97, 3) := by decide +kernel
theorem dX5_heldMany_9 : decode cX5_heldMany 9 = .ok (.if_icmp .ge 26, 3) := by decide +kernel
theorem dX5_heldMany_12 : decode cX5_heldMany 12 = .ok (.iload_n 1, 1) := by decide +kernel
theorem dX5_heldMany_13 : decode cX5_heldMany 13 = .ok (.aload_n 0, 1) := by decide +kernel
theorem dX5_heldMany_14 : decode cX5_heldMany 14 = .ok (.getfield 79, 3) := by decide +kernel
theorem dX5_heldMany_17 : decode cX5_heldMany 17 = .ok (.iload_n 2, 1) := by decide +kernel
theorem dX5_heldMany_18 : decode cX5_heldMany 18 = .ok (.iaload, 1) := by decide +kernel
theorem dX5_heldMany_19 : decode cX5_heldMany 19 = .ok (.ifCond .lt 7, 3) := by decide +kernel
theorem dX5_heldMany_22 : decode cX5_heldMany 22 = .ok (.iconst 1, 1) := by decide +kernel
theorem dX5_heldMany_23 : decode cX5_heldMany 23 = .ok (.goto 4, 3) := by decide +kernel
theorem dX5_heldMany_26 : decode cX5_heldMany 26 = .ok (.iconst 0, 1) := by decide +kernel
theorem dX5_heldMany_27 : decode cX5_heldMany 27 = .ok (.iadd, 1) := by decide +kernel
theorem dX5_heldMany_28 : decode cX5_heldMany 28 = .ok (.istore_n 1, 1) := by decide +kernel
theorem dX5_heldMany_29 : decode cX5_heldMany 29 = .ok (.iinc 2 1, 3) := by decide +kernel
theorem dX5_heldMany_32 : decode cX5_heldMany 32 = .ok (.goto (-28), 3) := by decide +kernel
theorem dX5_heldMany_35 : decode cX5_heldMany 35 = .ok (.iload_n 1, 1) := by decide +kernel
theorem dX5_heldMany_36 : decode cX5_heldMany 36 = .ok (.ireturn, 1) := by decide +kernel
theorem dX5_holds_0 : decode cX5_holds 0 = .ok (.aload_n 0, 1) := by decide +kernel
theorem dX5_holds_1 : decode cX5_holds 1 = .ok (.invokevirtual 231, 3) := by decide +kernel
theorem dX5_holds_4 : decode cX5_holds 4 = .ok (.aload_n 0, 1) := by decide +kernel
theorem dX5_holds_5 : decode cX5_holds 5 = .ok (.invokevirtual 237, 3) := by decide +kernel
theorem dX5_holds_8 : decode cX5_holds 8 = .ok (.ireturn, 1) := by decide +kernel
theorem dX5_longest_0 : decode cX5_longest 0 = .ok (.aload_n 0, 1) := by decide +kernel
theorem dX5_longest_1 : decode cX5_longest 1 = .ok (.invokevirtual 231, 3) := by decide +kernel
theorem dX5_longest_4 : decode cX5_longest 4 = .ok (.iconst 0, 1) := by decide +kernel
theorem dX5_longest_5 : decode cX5_longest 5 = .ok (.istore_n 1, 1) := by decide +kernel
theorem dX5_longest_6 : decode cX5_longest 6 = .ok (.iconst 0, 1) := by decide +kernel
theorem dX5_longest_7 : decode cX5_longest 7 = .ok (.istore_n 2, 1) := by decide +kernel
theorem dX5_longest_8 : decode cX5_longest 8 = .ok (.iload_n 2, 1) := by decide +kernel
theorem dX5_longest_9 : decode cX5_longest 9 = .ok (.aload_n 0, 1) := by decide +kernel
theorem dX5_longest_10 : decode cX5_longest 10 = .ok (.getfield 97, 3) := by decide +kernel
theorem dX5_longest_13 : decode cX5_longest 13 = .ok (.if_icmp .ge 30, 3) := by decide +kernel
theorem dX5_longest_16 : decode cX5_longest 16 = .ok (.aload_n 0, 1) := by decide +kernel
theorem dX5_longest_17 : decode cX5_longest 17 = .ok (.getfield 76, 3) := by decide +kernel
theorem dX5_longest_20 : decode cX5_longest 20 = .ok (.iload_n 2, 1) := by decide +kernel
theorem dX5_longest_21 : decode cX5_longest 21 = .ok (.iaload, 1) := by decide +kernel
theorem dX5_longest_22 : decode cX5_longest 22 = .ok (.iload_n 1, 1) := by decide +kernel
theorem dX5_longest_23 : decode cX5_longest 23 = .ok (.if_icmp .le 12, 3) := by decide +kernel
theorem dX5_longest_26 : decode cX5_longest 26 = .ok (.aload_n 0, 1) := by decide +kernel
theorem dX5_longest_27 : decode cX5_longest 27 = .ok (.getfield 76, 3) := by decide +kernel
theorem dX5_longest_30 : decode cX5_longest 30 = .ok (.iload_n 2, 1) := by decide +kernel
theorem dX5_longest_31 : decode cX5_longest 31 = .ok (.iaload, 1) := by decide +kernel
theorem dX5_longest_32 : decode cX5_longest 32 = .ok (.goto 4, 3) := by decide +kernel
theorem dX5_longest_35 : decode cX5_longest 35 = .ok (.iload_n 1, 1) := by decide +kernel
theorem dX5_longest_36 : decode cX5_longest 36 = .ok (.istore_n 1, 1) := by decide +kernel
theorem dX5_longest_37 : decode cX5_longest 37 = .ok (.iinc 2 1, 3) := by decide +kernel
theorem dX5_longest_40 : decode cX5_longest 40 = .ok (.goto (-32), 3) := by decide +kernel
theorem dX5_longest_43 : decode cX5_longest 43 = .ok (.iload_n 1, 1) := by decide +kernel
theorem dX5_longest_44 : decode cX5_longest 44 = .ok (.ireturn, 1) := by decide +kernel
theorem dX5_away_0 : decode cX5_away 0 = .ok (.aload_n 0, 1) := by decide +kernel
theorem dX5_away_1 : decode cX5_away 1 = .ok (.invokevirtual 231, 3) := by decide +kernel
theorem dX5_away_4 : decode cX5_away 4 = .ok (.aload_n 0, 1) := by decide +kernel
theorem dX5_away_5 : decode cX5_away 5 = .ok (.getfield 205, 3) := by decide +kernel
theorem dX5_away_8 : decode cX5_away 8 = .ok (.ifCond .ne 8, 3) := by decide +kernel
theorem dX5_away_11 : decode cX5_away 11 = .ok (.bipush (-9), 2) := by decide +kernel
theorem dX5_away_13 : decode cX5_away 13 = .ok (.goto 26, 3) := by decide +kernel
theorem dX5_away_16 : decode cX5_away 16 = .ok (.aload_n 0, 1) := by decide +kernel
theorem dX5_away_17 : decode cX5_away 17 = .ok (.getfield 70, 3) := by decide +kernel
theorem dX5_away_20 : decode cX5_away 20 = .ok (.aload_n 0, 1) := by decide +kernel
theorem dX5_away_21 : decode cX5_away 21 = .ok (.getfield 64, 3) := by decide +kernel
theorem dX5_away_24 : decode cX5_away 24 = .ok (.iconst 0, 1) := by decide +kernel
theorem dX5_away_25 : decode cX5_away 25 = .ok (.iaload, 1) := by decide +kernel
theorem dX5_away_26 : decode cX5_away 26 = .ok (.iaload, 1) := by decide +kernel
theorem dX5_away_27 : decode cX5_away 27 = .ok (.aload_n 0, 1) := by decide +kernel
theorem dX5_away_28 : decode cX5_away 28 = .ok (.getfield 76, 3) := by decide +kernel
theorem dX5_away_31 : decode cX5_away 31 = .ok (.aload_n 0, 1) := by decide +kernel
theorem dX5_away_32 : decode cX5_away 32 = .ok (.getfield 64, 3) := by decide +kernel
theorem dX5_away_35 : decode cX5_away 35 = .ok (.iconst 0, 1) := by decide +kernel
theorem dX5_away_36 : decode cX5_away 36 = .ok (.iaload, 1) := by decide +kernel
theorem dX5_away_37 : decode cX5_away 37 = .ok (.iaload, 1) := by decide +kernel
theorem dX5_away_38 : decode cX5_away 38 = .ok (.iadd, 1) := by decide +kernel
theorem dX5_away_39 : decode cX5_away 39 = .ok (.ireturn, 1) := by decide +kernel
theorem dX5_openSeconds_0 : decode cX5_openSeconds 0 = .ok (.iconst 0, 1) := by decide +kernel
theorem dX5_openSeconds_1 : decode cX5_openSeconds 1 = .ok (.istore_n 1, 1) := by decide +kernel
theorem dX5_openSeconds_2 : decode cX5_openSeconds 2 = .ok (.iconst 0, 1) := by decide +kernel
theorem dX5_openSeconds_3 : decode cX5_openSeconds 3 = .ok (.istore_n 2, 1) := by decide +kernel
theorem dX5_openSeconds_4 : decode cX5_openSeconds 4 = .ok (.iconst 0, 1) := by decide +kernel
theorem dX5_openSeconds_5 : decode cX5_openSeconds 5 = .ok (.istore_n 3, 1) := by decide +kernel
theorem dX5_openSeconds_6 : decode cX5_openSeconds 6 = .ok (.iload_n 3, 1) := by decide +kernel
theorem dX5_openSeconds_7 : decode cX5_openSeconds 7 = .ok (.aload_n 0, 1) := by decide +kernel
theorem dX5_openSeconds_8 : decode cX5_openSeconds 8 = .ok (.getfield 208, 3) := by decide +kernel
theorem dX5_openSeconds_11 : decode cX5_openSeconds 11 = .ok (.if_icmp .ge 64, 3) := by decide +kernel
theorem dX5_openSeconds_14 : decode cX5_openSeconds 14 = .ok (.aload_n 0, 1) := by decide +kernel
theorem dX5_openSeconds_15 : decode cX5_openSeconds 15 = .ok (.getfield 85, 3) := by decide +kernel
theorem dX5_openSeconds_18 : decode cX5_openSeconds 18 = .ok (.iload_n 3, 1) := by decide +kernel
theorem dX5_openSeconds_19 : decode cX5_openSeconds 19 = .ok (.iaload, 1) := by decide +kernel
theorem dX5_openSeconds_20 : decode cX5_openSeconds 20 = .ok (.iload_n 2, 1) := by decide +kernel
theorem dX5_openSeconds_21 : decode cX5_openSeconds 21 = .ok (.if_icmp .le 12, 3) := by decide +kernel
theorem dX5_openSeconds_24 : decode cX5_openSeconds 24 = .ok (.aload_n 0, 1) := by decide +kernel
theorem dX5_openSeconds_25 : decode cX5_openSeconds 25 = .ok (.getfield 85, 3) := by decide +kernel
theorem dX5_openSeconds_28 : decode cX5_openSeconds 28 = .ok (.iload_n 3, 1) := by decide +kernel
theorem dX5_openSeconds_29 : decode cX5_openSeconds 29 = .ok (.iaload, 1) := by decide +kernel
theorem dX5_openSeconds_30 : decode cX5_openSeconds 30 = .ok (.goto 4, 3) := by decide +kernel
theorem dX5_openSeconds_33 : decode cX5_openSeconds 33 = .ok (.iload_n 2, 1) := by decide +kernel
theorem dX5_openSeconds_34 : decode cX5_openSeconds 34 = .ok (.istore 4, 2) := by decide +kernel
theorem dX5_openSeconds_36 : decode cX5_openSeconds 36 = .ok (.aload_n 0, 1) := by decide +kernel
theorem dX5_openSeconds_37 : decode cX5_openSeconds 37 = .ok (.getfield 88, 3) := by decide +kernel
theorem dX5_openSeconds_40 : decode cX5_openSeconds 40 = .ok (.iload_n 3, 1) := by decide +kernel
theorem dX5_openSeconds_41 : decode cX5_openSeconds 41 = .ok (.iaload, 1) := by decide +kernel
theorem dX5_openSeconds_42 : decode cX5_openSeconds 42 = .ok (.iload 4, 2) := by decide +kernel
theorem dX5_openSeconds_44 : decode cX5_openSeconds 44 = .ok (.if_icmp .gt 6, 3) := by decide +kernel
theorem dX5_openSeconds_47 : decode cX5_openSeconds 47 = .ok (.goto 22, 3) := by decide +kernel
theorem dX5_openSeconds_50 : decode cX5_openSeconds 50 = .ok (.iload_n 1, 1) := by decide +kernel
theorem dX5_openSeconds_51 : decode cX5_openSeconds 51 = .ok (.aload_n 0, 1) := by decide +kernel
theorem dX5_openSeconds_52 : decode cX5_openSeconds 52 = .ok (.getfield 88, 3) := by decide +kernel
theorem dX5_openSeconds_55 : decode cX5_openSeconds 55 = .ok (.iload_n 3, 1) := by decide +kernel
theorem dX5_openSeconds_56 : decode cX5_openSeconds 56 = .ok (.iaload, 1) := by decide +kernel
theorem dX5_openSeconds_57 : decode cX5_openSeconds 57 = .ok (.iload 4, 2) := by decide +kernel
theorem dX5_openSeconds_59 : decode cX5_openSeconds 59 = .ok (.isub, 1) := by decide +kernel
theorem dX5_openSeconds_60 : decode cX5_openSeconds 60 = .ok (.iadd, 1) := by decide +kernel
theorem dX5_openSeconds_61 : decode cX5_openSeconds 61 = .ok (.istore_n 1, 1) := by decide +kernel
theorem dX5_openSeconds_62 : decode cX5_openSeconds 62 = .ok (.aload_n 0, 1) := by decide +kernel
theorem dX5_openSeconds_63 : decode cX5_openSeconds 63 = .ok (.getfield 88, 3) := by decide +kernel
theorem dX5_openSeconds_66 : decode cX5_openSeconds 66 = .ok (.iload_n 3, 1) := by decide +kernel
theorem dX5_openSeconds_67 : decode cX5_openSeconds 67 = .ok (.iaload, 1) := by decide +kernel
theorem dX5_openSeconds_68 : decode cX5_openSeconds 68 = .ok (.istore_n 2, 1) := by decide +kernel
theorem dX5_openSeconds_69 : decode cX5_openSeconds 69 = .ok (.iinc 3 1, 3) := by decide +kernel
theorem dX5_openSeconds_72 : decode cX5_openSeconds 72 = .ok (.goto (-66), 3) := by decide +kernel
theorem dX5_openSeconds_75 : decode cX5_openSeconds 75 = .ok (.iload_n 1, 1) := by decide +kernel
theorem dX5_openSeconds_76 : decode cX5_openSeconds 76 = .ok (.ireturn, 1) := by decide +kernel
theorem dX5_open_0 : decode cX5_open 0 = .ok (.aload_n 0, 1) := by decide +kernel
theorem dX5_open_1 : decode cX5_open 1 = .ok (.invokevirtual 231, 3) := by decide +kernel
theorem dX5_open_4 : decode cX5_open 4 = .ok (.aload_n 0, 1) := by decide +kernel
theorem dX5_open_5 : decode cX5_open 5 = .ok (.invokevirtual 240, 3) := by decide +kernel
theorem dX5_open_8 : decode cX5_open 8 = .ok (.ireturn, 1) := by decide +kernel
theorem dX5_coals_0 : decode cX5_coals 0 = .ok (.aload_n 0, 1) := by decide +kernel
theorem dX5_coals_1 : decode cX5_coals 1 = .ok (.invokevirtual 231, 3) := by decide +kernel
theorem dX5_coals_4 : decode cX5_coals 4 = .ok (.aload_n 0, 1) := by decide +kernel
theorem dX5_coals_5 : decode cX5_coals 5 = .ok (.invokevirtual 240, 3) := by decide +kernel
theorem dX5_coals_8 : decode cX5_coals 8 = .ok (.aload_n 0, 1) := by decide +kernel
theorem dX5_coals_9 : decode cX5_coals 9 = .ok (.getfield 34, 3) := by decide +kernel
theorem dX5_coals_12 : decode cX5_coals 12 = .ok (.iconst 2, 1) := by decide +kernel
theorem dX5_coals_13 : decode cX5_coals 13 = .ok (.iaload, 1) := by decide +kernel
theorem dX5_coals_14 : decode cX5_coals 14 = .ok (.imul, 1) := by decide +kernel
theorem dX5_coals_15 : decode cX5_coals 15 = .ok (.ireturn, 1) := by decide +kernel
theorem dX5_lossBy_0 : decode cX5_lossBy 0 = .ok (.aload_n 0, 1) := by decide +kernel
theorem dX5_lossBy_1 : decode cX5_lossBy 1 = .ok (.getfield 34, 3) := by decide +kernel
theorem dX5_lossBy_4 : decode cX5_lossBy 4 = .ok (.iconst 4, 1) := by decide +kernel
theorem dX5_lossBy_5 : decode cX5_lossBy 5 = .ok (.iaload, 1) := by decide +kernel
theorem dX5_lossBy_6 : decode cX5_lossBy 6 = .ok (.istore_n 3, 1) := by decide +kernel
theorem dX5_lossBy_7 : decode cX5_lossBy 7 = .ok (.aload_n 0, 1) := by decide +kernel
theorem dX5_lossBy_8 : decode cX5_lossBy 8 = .ok (.getfield 34, 3) := by decide +kernel
theorem dX5_lossBy_11 : decode cX5_lossBy 11 = .ok (.iconst 3, 1) := by decide +kernel
theorem dX5_lossBy_12 : decode cX5_lossBy 12 = .ok (.iaload, 1) := by decide +kernel
theorem dX5_lossBy_13 : decode cX5_lossBy 13 = .ok (.istore 4, 2) := by decide +kernel
theorem dX5_lossBy_15 : decode cX5_lossBy 15 = .ok (.aload_n 0, 1) := by decide +kernel
theorem dX5_lossBy_16 : decode cX5_lossBy 16 = .ok (.getfield 34, 3) := by decide +kernel
theorem dX5_lossBy_19 : decode cX5_lossBy 19 = .ok (.iconst 4, 1) := by decide +kernel
theorem dX5_lossBy_20 : decode cX5_lossBy 20 = .ok (.iload_n 1, 1) := by decide +kernel
theorem dX5_lossBy_21 : decode cX5_lossBy 21 = .ok (.iastore, 1) := by decide +kernel
theorem dX5_lossBy_22 : decode cX5_lossBy 22 = .ok (.aload_n 0, 1) := by decide +kernel
theorem dX5_lossBy_23 : decode cX5_lossBy 23 = .ok (.getfield 34, 3) := by decide +kernel
theorem dX5_lossBy_26 : decode cX5_lossBy 26 = .ok (.iconst 3, 1) := by decide +kernel
theorem dX5_lossBy_27 : decode cX5_lossBy 27 = .ok (.iload_n 2, 1) := by decide +kernel
theorem dX5_lossBy_28 : decode cX5_lossBy 28 = .ok (.iastore, 1) := by decide +kernel
theorem dX5_lossBy_29 : decode cX5_lossBy 29 = .ok (.aload_n 0, 1) := by decide +kernel
theorem dX5_lossBy_30 : decode cX5_lossBy 30 = .ok (.invokevirtual 231, 3) := by decide +kernel
theorem dX5_lossBy_33 : decode cX5_lossBy 33 = .ok (.aload_n 0, 1) := by decide +kernel
theorem dX5_lossBy_34 : decode cX5_lossBy 34 = .ok (.getfield 34, 3) := by decide +kernel
theorem dX5_lossBy_37 : decode cX5_lossBy 37 = .ok (.iconst 4, 1) := by decide +kernel
theorem dX5_lossBy_38 : decode cX5_lossBy 38 = .ok (.iload_n 3, 1) := by decide +kernel
theorem dX5_lossBy_39 : decode cX5_lossBy 39 = .ok (.iastore, 1) := by decide +kernel
theorem dX5_lossBy_40 : decode cX5_lossBy 40 = .ok (.aload_n 0, 1) := by decide +kernel
theorem dX5_lossBy_41 : decode cX5_lossBy 41 = .ok (.getfield 34, 3) := by decide +kernel
theorem dX5_lossBy_44 : decode cX5_lossBy 44 = .ok (.iconst 3, 1) := by decide +kernel
theorem dX5_lossBy_45 : decode cX5_lossBy 45 = .ok (.iload 4, 2) := by decide +kernel
theorem dX5_lossBy_47 : decode cX5_lossBy 47 = .ok (.iastore, 1) := by decide +kernel
theorem dX5_lossBy_48 : decode cX5_lossBy 48 = .ok (.aload_n 0, 1) := by decide +kernel
theorem dX5_lossBy_49 : decode cX5_lossBy 49 = .ok (.invokevirtual 234, 3) := by decide +kernel
theorem dX5_lossBy_52 : decode cX5_lossBy 52 = .ok (.ireturn, 1) := by decide +kernel
theorem dX5_byOther_0 : decode cX5_byOther 0 = .ok (.iload_n 1, 1) := by decide +kernel
theorem dX5_byOther_1 : decode cX5_byOther 1 = .ok (.iconst 0, 1) := by decide +kernel
theorem dX5_byOther_2 : decode cX5_byOther 2 = .ok (.bipush 6, 2) := by decide +kernel
theorem dX5_byOther_4 : decode cX5_byOther 4 = .ok (.invokestatic 119, 3) := by decide +kernel
theorem dX5_byOther_7 : decode cX5_byOther 7 = .ok (.ifCond .ne 8, 3) := by decide +kernel
theorem dX5_byOther_10 : decode cX5_byOther 10 = .ok (.bipush (-2), 2) := by decide +kernel
theorem dX5_byOther_12 : decode cX5_byOther 12 = .ok (.goto 10, 3) := by decide +kernel
theorem dX5_byOther_15 : decode cX5_byOther 15 = .ok (.iload_n 2, 1) := by decide +kernel
theorem dX5_byOther_16 : decode cX5_byOther 16 = .ok (.iconst 0, 1) := by decide +kernel
theorem dX5_byOther_17 : decode cX5_byOther 17 = .ok (.bipush 40, 2) := by decide +kernel
theorem dX5_byOther_19 : decode cX5_byOther 19 = .ok (.invokestatic 101, 3) := by decide +kernel
theorem dX5_byOther_22 : decode cX5_byOther 22 = .ok (.istore_n 3, 1) := by decide +kernel
theorem dX5_byOther_23 : decode cX5_byOther 23 = .ok (.iload_n 3, 1) := by decide +kernel
theorem dX5_byOther_24 : decode cX5_byOther 24 = .ok (.ifCond .eq 11, 3) := by decide +kernel
theorem dX5_byOther_27 : decode cX5_byOther 27 = .ok (.aload_n 0, 1) := by decide +kernel
theorem dX5_byOther_28 : decode cX5_byOther 28 = .ok (.iload_n 3, 1) := by decide +kernel
theorem dX5_byOther_29 : decode cX5_byOther 29 = .ok (.invokevirtual 108, 3) := by decide +kernel
theorem dX5_byOther_32 : decode cX5_byOther 32 = .ok (.goto 9, 3) := by decide +kernel
theorem dX5_byOther_35 : decode cX5_byOther 35 = .ok (.aload_n 0, 1) := by decide +kernel
theorem dX5_byOther_36 : decode cX5_byOther 36 = .ok (.iload_n 1, 1) := by decide +kernel
theorem dX5_byOther_37 : decode cX5_byOther 37 = .ok (.iload_n 2, 1) := by decide +kernel
theorem dX5_byOther_38 : decode cX5_byOther 38 = .ok (.invokevirtual 243, 3) := by decide +kernel
theorem dX5_byOther_41 : decode cX5_byOther 41 = .ok (.ireturn, 1) := by decide +kernel
theorem dX5_bestFar_0 : decode cX5_bestFar 0 = .ok (.iconst 0, 1) := by decide +kernel
theorem dX5_bestFar_1 : decode cX5_bestFar 1 = .ok (.istore_n 1, 1) := by decide +kernel
theorem dX5_bestFar_2 : decode cX5_bestFar 2 = .ok (.iconst 1, 1) := by decide +kernel
theorem dX5_bestFar_3 : decode cX5_bestFar 3 = .ok (.istore_n 2, 1) := by decide +kernel
theorem dX5_bestFar_4 : decode cX5_bestFar 4 = .ok (.iload_n 2, 1) := by decide +kernel
theorem dX5_bestFar_5 : decode cX5_bestFar 5 = .ok (.bipush 40, 2) := by decide +kernel
theorem dX5_bestFar_7 : decode cX5_bestFar 7 = .ok (.if_icmp .gt 40, 3) := by decide +kernel
theorem dX5_bestFar_10 : decode cX5_bestFar 10 = .ok (.aload_n 0, 1) := by decide +kernel
theorem dX5_bestFar_11 : decode cX5_bestFar 11 = .ok (.aload_n 0, 1) := by decide +kernel
theorem dX5_bestFar_12 : decode cX5_bestFar 12 = .ok (.getfield 34, 3) := by decide +kernel
theorem dX5_bestFar_15 : decode cX5_bestFar 15 = .ok (.iconst 4, 1) := by decide +kernel
theorem dX5_bestFar_16 : decode cX5_bestFar 16 = .ok (.iaload, 1) := by decide +kernel
theorem dX5_bestFar_17 : decode cX5_bestFar 17 = .ok (.iload_n 2, 1) := by decide +kernel
theorem dX5_bestFar_18 : decode cX5_bestFar 18 = .ok (.invokevirtual 243, 3) := by decide +kernel
theorem dX5_bestFar_21 : decode cX5_bestFar 21 = .ok (.aload_n 0, 1) := by decide +kernel
theorem dX5_bestFar_22 : decode cX5_bestFar 22 = .ok (.aload_n 0, 1) := by decide +kernel
theorem dX5_bestFar_23 : decode cX5_bestFar 23 = .ok (.getfield 34, 3) := by decide +kernel
theorem dX5_bestFar_26 : decode cX5_bestFar 26 = .ok (.iconst 4, 1) := by decide +kernel
theorem dX5_bestFar_27 : decode cX5_bestFar 27 = .ok (.iaload, 1) := by decide +kernel
theorem dX5_bestFar_28 : decode cX5_bestFar 28 = .ok (.iload_n 1, 1) := by decide +kernel
theorem dX5_bestFar_29 : decode cX5_bestFar 29 = .ok (.invokevirtual 243, 3) := by decide +kernel
theorem dX5_bestFar_32 : decode cX5_bestFar 32 = .ok (.if_icmp .ge 7, 3) := by decide +kernel
theorem dX5_bestFar_35 : decode cX5_bestFar 35 = .ok (.iload_n 2, 1) := by decide +kernel
theorem dX5_bestFar_36 : decode cX5_bestFar 36 = .ok (.goto 4, 3) := by decide +kernel
theorem dX5_bestFar_39 : decode cX5_bestFar 39 = .ok (.iload_n 1, 1) := by decide +kernel
theorem dX5_bestFar_40 : decode cX5_bestFar 40 = .ok (.istore_n 1, 1) := by decide +kernel
theorem dX5_bestFar_41 : decode cX5_bestFar 41 = .ok (.iinc 2 1, 3) := by decide +kernel
theorem dX5_bestFar_44 : decode cX5_bestFar 44 = .ok (.goto (-40), 3) := by decide +kernel
theorem dX5_bestFar_47 : decode cX5_bestFar 47 = .ok (.iload_n 1, 1) := by decide +kernel
theorem dX5_bestFar_48 : decode cX5_bestFar 48 = .ok (.ireturn, 1) := by decide +kernel
theorem dX5_bestCustom_0 : decode cX5_bestCustom 0 = .ok (.iconst 0, 1) := by decide +kernel
theorem dX5_bestCustom_1 : decode cX5_bestCustom 1 = .ok (.istore_n 1, 1) := by decide +kernel
theorem dX5_bestCustom_2 : decode cX5_bestCustom 2 = .ok (.iconst 1, 1) := by decide +kernel
theorem dX5_bestCustom_3 : decode cX5_bestCustom 3 = .ok (.istore_n 2, 1) := by decide +kernel
theorem dX5_bestCustom_4 : decode cX5_bestCustom 4 = .ok (.iload_n 2, 1) := by decide +kernel
theorem dX5_bestCustom_5 : decode cX5_bestCustom 5 = .ok (.bipush 7, 2) := by decide +kernel
theorem dX5_bestCustom_7 : decode cX5_bestCustom 7 = .ok (.if_icmp .ge 40, 3) := by decide +kernel
theorem dX5_bestCustom_10 : decode cX5_bestCustom 10 = .ok (.aload_n 0, 1) := by decide +kernel
theorem dX5_bestCustom_11 : decode cX5_bestCustom 11 = .ok (.iload_n 2, 1) := by decide +kernel
theorem dX5_bestCustom_12 : decode cX5_bestCustom 12 = .ok (.aload_n 0, 1) := by decide +kernel
theorem dX5_bestCustom_13 : decode cX5_bestCustom 13 = .ok (.getfield 34, 3) := by decide +kernel
theorem dX5_bestCustom_16 : decode cX5_bestCustom 16 = .ok (.iconst 3, 1) := by decide +kernel
theorem dX5_bestCustom_17 : decode cX5_bestCustom 17 = .ok (.iaload, 1) := by decide +kernel
theorem dX5_bestCustom_18 : decode cX5_bestCustom 18 = .ok (.invokevirtual 243, 3) := by decide +kernel
theorem dX5_bestCustom_21 : decode cX5_bestCustom 21 = .ok (.aload_n 0, 1) := by decide +kernel
theorem dX5_bestCustom_22 : decode cX5_bestCustom 22 = .ok (.iload_n 1, 1) := by decide +kernel
theorem dX5_bestCustom_23 : decode cX5_bestCustom 23 = .ok (.aload_n 0, 1) := by decide +kernel
theorem dX5_bestCustom_24 : decode cX5_bestCustom 24 = .ok (.getfield 34, 3) := by decide +kernel
theorem dX5_bestCustom_27 : decode cX5_bestCustom 27 = .ok (.iconst 3, 1) := by decide +kernel
theorem dX5_bestCustom_28 : decode cX5_bestCustom 28 = .ok (.iaload, 1) := by decide +kernel
theorem dX5_bestCustom_29 : decode cX5_bestCustom 29 = .ok (.invokevirtual 243, 3) := by decide +kernel
theorem dX5_bestCustom_32 : decode cX5_bestCustom 32 = .ok (.if_icmp .ge 7, 3) := by decide +kernel
theorem dX5_bestCustom_35 : decode cX5_bestCustom 35 = .ok (.iload_n 2, 1) := by decide +kernel
theorem dX5_bestCustom_36 : decode cX5_bestCustom 36 = .ok (.goto 4, 3) := by decide +kernel
theorem dX5_bestCustom_39 : decode cX5_bestCustom 39 = .ok (.iload_n 1, 1) := by decide +kernel
theorem dX5_bestCustom_40 : decode cX5_bestCustom 40 = .ok (.istore_n 1, 1) := by decide +kernel
theorem dX5_bestCustom_41 : decode cX5_bestCustom 41 = .ok (.iinc 2 1, 3) := by decide +kernel
theorem dX5_bestCustom_44 : decode cX5_bestCustom 44 = .ok (.goto (-40), 3) := by decide +kernel
theorem dX5_bestCustom_47 : decode cX5_bestCustom 47 = .ok (.iload_n 1, 1) := by decide +kernel
theorem dX5_bestCustom_48 : decode cX5_bestCustom 48 = .ok (.ireturn, 1) := by decide +kernel
theorem dX5_bestShuts_0 : decode cX5_bestShuts 0 = .ok (.aload_n 0, 1) := by decide +kernel
theorem dX5_bestShuts_1 : decode cX5_bestShuts 1 = .ok (.getfield 34, 3) := by decide +kernel
theorem dX5_bestShuts_4 : decode cX5_bestShuts 4 = .ok (.iconst 0, 1) := by decide +kernel
theorem dX5_bestShuts_5 : decode cX5_bestShuts 5 = .ok (.iaload, 1) := by decide +kernel
theorem dX5_bestShuts_6 : decode cX5_bestShuts 6 = .ok (.istore_n 1, 1) := by decide +kernel
theorem dX5_bestShuts_7 : decode cX5_bestShuts 7 = .ok (.iconst 0, 1) := by decide +kernel
theorem dX5_bestShuts_8 : decode cX5_bestShuts 8 = .ok (.istore_n 2, 1) := by decide +kernel
theorem dX5_bestShuts_9 : decode cX5_bestShuts 9 = .ok (.iconst 0, 1) := by decide +kernel
theorem dX5_bestShuts_10 : decode cX5_bestShuts 10 = .ok (.istore_n 3, 1) := by decide +kernel
theorem dX5_bestShuts_11 : decode cX5_bestShuts 11 = .ok (.iconst 1, 1) := by decide +kernel
theorem dX5_bestShuts_12 : decode cX5_bestShuts 12 = .ok (.istore 4, 2) := by decide +kernel
theorem dX5_bestShuts_14 : decode cX5_bestShuts 14 = .ok (.iload 4, 2) := by decide +kernel
theorem dX5_bestShuts_16 : decode cX5_bestShuts 16 = .ok (.bipush 10, 2) := by decide +kernel
theorem dX5_bestShuts_18 : decode cX5_bestShuts 18 = .ok (.if_icmp .ge 58, 3) := by decide +kernel
theorem dX5_bestShuts_21 : decode cX5_bestShuts 21 = .ok (.aload_n 0, 1) := by decide +kernel
theorem dX5_bestShuts_22 : decode cX5_bestShuts 22 = .ok (.getfield 34, 3) := by decide +kernel
theorem dX5_bestShuts_25 : decode cX5_bestShuts 25 = .ok (.iconst 0, 1) := by decide +kernel
theorem dX5_bestShuts_26 : decode cX5_bestShuts 26 = .ok (.iload 4, 2) := by decide +kernel
theorem dX5_bestShuts_28 : decode cX5_bestShuts 28 = .ok (.iastore, 1) := by decide +kernel
theorem dX5_bestShuts_29 : decode cX5_bestShuts 29 = .ok (.aload_n 0, 1) := by decide +kernel
theorem dX5_bestShuts_30 : decode cX5_bestShuts 30 = .ok (.invokevirtual 231, 3) := by decide +kernel
theorem dX5_bestShuts_33 : decode cX5_bestShuts 33 = .ok (.aload_n 0, 1) := by decide +kernel
theorem dX5_bestShuts_34 : decode cX5_bestShuts 34 = .ok (.invokevirtual 234, 3) := by decide +kernel
theorem dX5_bestShuts_37 : decode cX5_bestShuts 37 = .ok (.aload_n 0, 1) := by decide +kernel
theorem dX5_bestShuts_38 : decode cX5_bestShuts 38 = .ok (.invokevirtual 240, 3) := by decide +kernel
theorem dX5_bestShuts_41 : decode cX5_bestShuts 41 = .ok (.aload_n 0, 1) := by decide +kernel
theorem dX5_bestShuts_42 : decode cX5_bestShuts 42 = .ok (.getfield 34, 3) := by decide +kernel
theorem dX5_bestShuts_45 : decode cX5_bestShuts 45 = .ok (.iconst 2, 1) := by decide +kernel
theorem dX5_bestShuts_46 : decode cX5_bestShuts 46 = .ok (.iaload, 1) := by decide +kernel
theorem dX5_bestShuts_47 : decode cX5_bestShuts 47 = .ok (.imul, 1) := by decide +kernel
theorem dX5_bestShuts_48 : decode cX5_bestShuts 48 = .ok (.iadd, 1) := by decide +kernel
theorem dX5_bestShuts_49 : decode cX5_bestShuts 49 = .ok (.istore 5, 2) := by decide +kernel
theorem dX5_bestShuts_51 : decode cX5_bestShuts 51 = .ok (.iload_n 2, 1) := by decide +kernel
theorem dX5_bestShuts_52 : decode cX5_bestShuts 52 = .ok (.ifCond .le 12, 3) := by decide +kernel
theorem dX5_bestShuts_55 : decode cX5_bestShuts 55 = .ok (.iload 5, 2) := by decide +kernel
theorem dX5_bestShuts_57 : decode cX5_bestShuts 57 = .ok (.iload_n 3, 1) := by decide +kernel
theorem dX5_bestShuts_58 : decode cX5_bestShuts 58 = .ok (.if_icmp .lt 6, 3) := by decide +kernel
theorem dX5_bestShuts_61 : decode cX5_bestShuts 61 = .ok (.goto 9, 3) := by decide +kernel
theorem dX5_bestShuts_64 : decode cX5_bestShuts 64 = .ok (.iload 4, 2) := by decide +kernel
theorem dX5_bestShuts_66 : decode cX5_bestShuts 66 = .ok (.istore_n 2, 1) := by decide +kernel
theorem dX5_bestShuts_67 : decode cX5_bestShuts 67 = .ok (.iload 5, 2) := by decide +kernel
theorem dX5_bestShuts_69 : decode cX5_bestShuts 69 = .ok (.istore_n 3, 1) := by decide +kernel
theorem dX5_bestShuts_70 : decode cX5_bestShuts 70 = .ok (.iinc 4 1, 3) := by decide +kernel
theorem dX5_bestShuts_73 : decode cX5_bestShuts 73 = .ok (.goto (-59), 3) := by decide +kernel
theorem dX5_bestShuts_76 : decode cX5_bestShuts 76 = .ok (.aload_n 0, 1) := by decide +kernel
theorem dX5_bestShuts_77 : decode cX5_bestShuts 77 = .ok (.getfield 34, 3) := by decide +kernel
theorem dX5_bestShuts_80 : decode cX5_bestShuts 80 = .ok (.iconst 0, 1) := by decide +kernel
theorem dX5_bestShuts_81 : decode cX5_bestShuts 81 = .ok (.iload_n 1, 1) := by decide +kernel
theorem dX5_bestShuts_82 : decode cX5_bestShuts 82 = .ok (.iastore, 1) := by decide +kernel
theorem dX5_bestShuts_83 : decode cX5_bestShuts 83 = .ok (.iload_n 2, 1) := by decide +kernel
theorem dX5_bestShuts_84 : decode cX5_bestShuts 84 = .ok (.ireturn, 1) := by decide +kernel
theorem dX5_worse_0 : decode cX5_worse 0 = .ok (.aload_n 0, 1) := by decide +kernel
theorem dX5_worse_1 : decode cX5_worse 1 = .ok (.iconst 0, 1) := by decide +kernel
theorem dX5_worse_2 : decode cX5_worse 2 = .ok (.aload_n 0, 1) := by decide +kernel
theorem dX5_worse_3 : decode cX5_worse 3 = .ok (.getfield 34, 3) := by decide +kernel
theorem dX5_worse_6 : decode cX5_worse 6 = .ok (.iconst 3, 1) := by decide +kernel
theorem dX5_worse_7 : decode cX5_worse 7 = .ok (.iaload, 1) := by decide +kernel
theorem dX5_worse_8 : decode cX5_worse 8 = .ok (.invokevirtual 243, 3) := by decide +kernel
theorem dX5_worse_11 : decode cX5_worse 11 = .ok (.pop, 1) := by decide +kernel
theorem dX5_worse_12 : decode cX5_worse 12 = .ok (.iconst 0, 1) := by decide +kernel
theorem dX5_worse_13 : decode cX5_worse 13 = .ok (.istore_n 1, 1) := by decide +kernel
theorem dX5_worse_14 : decode cX5_worse 14 = .ok (.iload_n 1, 1) := by decide +kernel
theorem dX5_worse_15 : decode cX5_worse 15 = .ok (.aload_n 0, 1) := by decide +kernel
theorem dX5_worse_16 : decode cX5_worse 16 = .ok (.getfield 97, 3) := by decide +kernel
theorem dX5_worse_19 : decode cX5_worse 19 = .ok (.if_icmp .ge 20, 3) := by decide +kernel
theorem dX5_worse_22 : decode cX5_worse 22 = .ok (.aload_n 0, 1) := by decide +kernel
theorem dX5_worse_23 : decode cX5_worse 23 = .ok (.getfield 91, 3) := by decide +kernel
theorem dX5_worse_26 : decode cX5_worse 26 = .ok (.iload_n 1, 1) := by decide +kernel
theorem dX5_worse_27 : decode cX5_worse 27 = .ok (.aload_n 0, 1) := by decide +kernel
theorem dX5_worse_28 : decode cX5_worse 28 = .ok (.iload_n 1, 1) := by decide +kernel
theorem dX5_worse_29 : decode cX5_worse 29 = .ok (.invokevirtual 228, 3) := by decide +kernel
theorem dX5_worse_32 : decode cX5_worse 32 = .ok (.iastore, 1) := by decide +kernel
theorem dX5_worse_33 : decode cX5_worse 33 = .ok (.iinc 1 1, 3) := by decide +kernel
theorem dX5_worse_36 : decode cX5_worse 36 = .ok (.goto (-22), 3) := by decide +kernel
theorem dX5_worse_39 : decode cX5_worse 39 = .ok (.aload_n 0, 1) := by decide +kernel
theorem dX5_worse_40 : decode cX5_worse 40 = .ok (.invokevirtual 231, 3) := by decide +kernel
theorem dX5_worse_43 : decode cX5_worse 43 = .ok (.iconst 0, 1) := by decide +kernel
theorem dX5_worse_44 : decode cX5_worse 44 = .ok (.istore_n 1, 1) := by decide +kernel
theorem dX5_worse_45 : decode cX5_worse 45 = .ok (.iconst 0, 1) := by decide +kernel
theorem dX5_worse_46 : decode cX5_worse 46 = .ok (.istore_n 2, 1) := by decide +kernel
theorem dX5_worse_47 : decode cX5_worse 47 = .ok (.iload_n 2, 1) := by decide +kernel
theorem dX5_worse_48 : decode cX5_worse 48 = .ok (.aload_n 0, 1) := by decide +kernel
theorem dX5_worse_49 : decode cX5_worse 49 = .ok (.getfield 97, 3) := by decide +kernel
theorem dX5_worse_52 : decode cX5_worse 52 = .ok (.if_icmp .ge 33, 3) := by decide +kernel
theorem dX5_worse_55 : decode cX5_worse 55 = .ok (.iload_n 1, 1) := by decide +kernel
theorem dX5_worse_56 : decode cX5_worse 56 = .ok (.aload_n 0, 1) := by decide +kernel
theorem dX5_worse_57 : decode cX5_worse 57 = .ok (.iload_n 2, 1) := by decide +kernel
theorem dX5_worse_58 : decode cX5_worse 58 = .ok (.invokevirtual 228, 3) := by decide +kernel
theorem dX5_worse_61 : decode cX5_worse 61 = .ok (.aload_n 0, 1) := by decide +kernel
theorem dX5_worse_62 : decode cX5_worse 62 = .ok (.getfield 91, 3) := by decide +kernel
theorem dX5_worse_65 : decode cX5_worse 65 = .ok (.iload_n 2, 1) := by decide +kernel
theorem dX5_worse_66 : decode cX5_worse 66 = .ok (.iaload, 1) := by decide +kernel
theorem dX5_worse_67 : decode cX5_worse 67 = .ok (.if_icmp .le 9, 3) := by decide +kernel
theorem dX5_worse_70 : decode cX5_worse 70 = .ok (.iconst 1, 1) := by decide +kernel
theorem dX5_worse_71 : decode cX5_worse 71 = .ok (.iload_n 2, 1) := by decide +kernel
theorem dX5_worse_72 : decode cX5_worse 72 = .ok (.ishl, 1) := by decide +kernel
theorem dX5_worse_73 : decode cX5_worse 73 = .ok (.goto 4, 3) := by decide +kernel
theorem dX5_worse_76 : decode cX5_worse 76 = .ok (.iconst 0, 1) := by decide +kernel
theorem dX5_worse_77 : decode cX5_worse 77 = .ok (.ior, 1) := by decide +kernel
theorem dX5_worse_78 : decode cX5_worse 78 = .ok (.istore_n 1, 1) := by decide +kernel
theorem dX5_worse_79 : decode cX5_worse 79 = .ok (.iinc 2 1, 3) := by decide +kernel
theorem dX5_worse_82 : decode cX5_worse 82 = .ok (.goto (-35), 3) := by decide +kernel
theorem dX5_worse_85 : decode cX5_worse 85 = .ok (.iload_n 1, 1) := by decide +kernel
theorem dX5_worse_86 : decode cX5_worse 86 = .ok (.ireturn, 1) := by decide +kernel
theorem dX5_followed_0 : decode cX5_followed 0 = .ok (.aload_n 0, 1) := by decide +kernel
theorem dX5_followed_1 : decode cX5_followed 1 = .ok (.invokevirtual 231, 3) := by decide +kernel
theorem dX5_followed_4 : decode cX5_followed 4 = .ok (.iconst 0, 1) := by decide +kernel
theorem dX5_followed_5 : decode cX5_followed 5 = .ok (.istore_n 1, 1) := by decide +kernel
theorem dX5_followed_6 : decode cX5_followed 6 = .ok (.iconst 0, 1) := by decide +kernel
theorem dX5_followed_7 : decode cX5_followed 7 = .ok (.istore_n 2, 1) := by decide +kernel
theorem dX5_followed_8 : decode cX5_followed 8 = .ok (.iload_n 2, 1) := by decide +kernel
theorem dX5_followed_9 : decode cX5_followed 9 = .ok (.aload_n 0, 1) := by decide +kernel
theorem dX5_followed_10 : decode cX5_followed 10 = .ok (.getfield 97, 3) := by decide +kernel
theorem dX5_followed_13 : decode cX5_followed 13 = .ok (.if_icmp .ge 38, 3) := by decide +kernel
theorem dX5_followed_16 : decode cX5_followed 16 = .ok (.iload_n 1, 1) := by decide +kernel
theorem dX5_followed_17 : decode cX5_followed 17 = .ok (.aload_n 0, 1) := by decide +kernel
theorem dX5_followed_18 : decode cX5_followed 18 = .ok (.getfield 13, 3) := by decide +kernel
theorem dX5_followed_21 : decode cX5_followed 21 = .ok (.iload_n 2, 1) := by decide +kernel
theorem dX5_followed_22 : decode cX5_followed 22 = .ok (.iaload, 1) := by decide +kernel
theorem dX5_followed_23 : decode cX5_followed 23 = .ok (.iconst 4, 1) := by decide +kernel
theorem dX5_followed_24 : decode cX5_followed 24 = .ok (.if_icmp .eq 18, 3) := by decide +kernel
theorem dX5_followed_27 : decode cX5_followed 27 = .ok (.aload_n 0, 1) := by decide +kernel
theorem dX5_followed_28 : decode cX5_followed 28 = .ok (.getfield 73, 3) := by decide +kernel
theorem dX5_followed_31 : decode cX5_followed 31 = .ok (.iload_n 2, 1) := by decide +kernel
theorem dX5_followed_32 : decode cX5_followed 32 = .ok (.iaload, 1) := by decide +kernel
theorem dX5_followed_33 : decode cX5_followed 33 = .ok (.ifCond .ne 9, 3) := by decide +kernel
theorem dX5_followed_36 : decode cX5_followed 36 = .ok (.iconst 1, 1) := by decide +kernel
theorem dX5_followed_37 : decode cX5_followed 37 = .ok (.iload_n 2, 1) := by decide +kernel
theorem dX5_followed_38 : decode cX5_followed 38 = .ok (.ishl, 1) := by decide +kernel
theorem dX5_followed_39 : decode cX5_followed 39 = .ok (.goto 4, 3) := by decide +kernel
theorem dX5_followed_42 : decode cX5_followed 42 = .ok (.iconst 0, 1) := by decide +kernel
theorem dX5_followed_43 : decode cX5_followed 43 = .ok (.ior, 1) := by decide +kernel
theorem dX5_followed_44 : decode cX5_followed 44 = .ok (.istore_n 1, 1) := by decide +kernel
theorem dX5_followed_45 : decode cX5_followed 45 = .ok (.iinc 2 1, 3) := by decide +kernel
theorem dX5_followed_48 : decode cX5_followed 48 = .ok (.goto (-40), 3) := by decide +kernel
theorem dX5_followed_51 : decode cX5_followed 51 = .ok (.iload_n 1, 1) := by decide +kernel
theorem dX5_followed_52 : decode cX5_followed 52 = .ok (.ireturn, 1) := by decide +kernel
theorem dX5_porter_0 : decode cX5_porter 0 = .ok (.aload_n 0, 1) := by decide +kernel
theorem dX5_porter_1 : decode cX5_porter 1 = .ok (.iconst 0, 1) := by decide +kernel
theorem dX5_porter_2 : decode cX5_porter 2 = .ok (.aload_n 0, 1) := by decide +kernel
theorem dX5_porter_3 : decode cX5_porter 3 = .ok (.getfield 34, 3) := by decide +kernel
theorem dX5_porter_6 : decode cX5_porter 6 = .ok (.iconst 3, 1) := by decide +kernel
theorem dX5_porter_7 : decode cX5_porter 7 = .ok (.iaload, 1) := by decide +kernel
theorem dX5_porter_8 : decode cX5_porter 8 = .ok (.invokevirtual 243, 3) := by decide +kernel
theorem dX5_porter_11 : decode cX5_porter 11 = .ok (.ireturn, 1) := by decide +kernel
theorem dX5_alone_0 : decode cX5_alone 0 = .ok (.aload_n 0, 1) := by decide +kernel
theorem dX5_alone_1 : decode cX5_alone 1 = .ok (.iload_n 1, 1) := by decide +kernel
theorem dX5_alone_2 : decode cX5_alone 2 = .ok (.invokevirtual 177, 3) := by decide +kernel
theorem dX5_alone_5 : decode cX5_alone 5 = .ok (.ifCond .ne 9, 3) := by decide +kernel
theorem dX5_alone_8 : decode cX5_alone 8 = .ok (.aload_n 0, 1) := by decide +kernel
theorem dX5_alone_9 : decode cX5_alone 9 = .ok (.iconst (-1), 1) := by decide +kernel
theorem dX5_alone_10 : decode cX5_alone 10 = .ok (.invokevirtual 108, 3) := by decide +kernel
theorem dX5_alone_13 : decode cX5_alone 13 = .ok (.ireturn, 1) := by decide +kernel
theorem dX5_alone_14 : decode cX5_alone 14 = .ok (.aload_n 0, 1) := by decide +kernel
theorem dX5_alone_15 : decode cX5_alone 15 = .ok (.iconst 1, 1) := by decide +kernel
theorem dX5_alone_16 : decode cX5_alone 16 = .ok (.aload_n 0, 1) := by decide +kernel
theorem dX5_alone_17 : decode cX5_alone 17 = .ok (.getfield 97, 3) := by decide +kernel
theorem dX5_alone_20 : decode cX5_alone 20 = .ok (.ishl, 1) := by decide +kernel
theorem dX5_alone_21 : decode cX5_alone 21 = .ok (.iconst 1, 1) := by decide +kernel
theorem dX5_alone_22 : decode cX5_alone 22 = .ok (.isub, 1) := by decide +kernel
theorem dX5_alone_23 : decode cX5_alone 23 = .ok (.iconst 1, 1) := by decide +kernel
theorem dX5_alone_24 : decode cX5_alone 24 = .ok (.iload_n 1, 1) := by decide +kernel
theorem dX5_alone_25 : decode cX5_alone 25 = .ok (.ishl, 1) := by decide +kernel
theorem dX5_alone_26 : decode cX5_alone 26 = .ok (.iconst (-1), 1) := by decide +kernel
theorem dX5_alone_27 : decode cX5_alone 27 = .ok (.ixor, 1) := by decide +kernel
theorem dX5_alone_28 : decode cX5_alone 28 = .ok (.iand, 1) := by decide +kernel
theorem dX5_alone_29 : decode cX5_alone 29 = .ok (.invokevirtual 225, 3) := by decide +kernel
theorem dX5_alone_32 : decode cX5_alone 32 = .ok (.aload_n 0, 1) := by decide +kernel
theorem dX5_alone_33 : decode cX5_alone 33 = .ok (.invokevirtual 234, 3) := by decide +kernel
theorem dX5_alone_36 : decode cX5_alone 36 = .ok (.ireturn, 1) := by decide +kernel
theorem dX5_filmFar_0 : decode cX5_filmFar 0 = .ok (.iload_n 0, 1) := by decide +kernel
theorem dX5_filmFar_1 : decode cX5_filmFar 1 = .ok (.iconst 2, 1) := by decide +kernel
theorem dX5_filmFar_2 : decode cX5_filmFar 2 = .ok (.if_icmp .ne 11, 3) := by decide +kernel
theorem dX5_filmFar_5 : decode cX5_filmFar 5 = .ok (.iload_n 1, 1) := by decide +kernel
theorem dX5_filmFar_6 : decode cX5_filmFar 6 = .ok (.iconst 4, 1) := by decide +kernel
theorem dX5_filmFar_7 : decode cX5_filmFar 7 = .ok (.iload_n 2, 1) := by decide +kernel
theorem dX5_filmFar_8 : decode cX5_filmFar 8 = .ok (.imul, 1) := by decide +kernel
theorem dX5_filmFar_9 : decode cX5_filmFar 9 = .ok (.iadd, 1) := by decide +kernel
theorem dX5_filmFar_10 : decode cX5_filmFar 10 = .ok (.goto 17, 3) := by decide +kernel
theorem dX5_filmFar_13 : decode cX5_filmFar 13 = .ok (.iload_n 0, 1) := by decide +kernel
theorem dX5_filmFar_14 : decode cX5_filmFar 14 = .ok (.iconst 3, 1) := by decide +kernel
theorem dX5_filmFar_15 : decode cX5_filmFar 15 = .ok (.if_icmp .ne 11, 3) := by decide +kernel
theorem dX5_filmFar_18 : decode cX5_filmFar 18 = .ok (.iload_n 1, 1) := by decide +kernel
theorem dX5_filmFar_19 : decode cX5_filmFar 19 = .ok (.iconst 2, 1) := by decide +kernel
theorem dX5_filmFar_20 : decode cX5_filmFar 20 = .ok (.iload_n 3, 1) := by decide +kernel
theorem dX5_filmFar_21 : decode cX5_filmFar 21 = .ok (.imul, 1) := by decide +kernel
theorem dX5_filmFar_22 : decode cX5_filmFar 22 = .ok (.iadd, 1) := by decide +kernel
theorem dX5_filmFar_23 : decode cX5_filmFar 23 = .ok (.goto 4, 3) := by decide +kernel
theorem dX5_filmFar_26 : decode cX5_filmFar 26 = .ok (.iload_n 1, 1) := by decide +kernel
theorem dX5_filmFar_27 : decode cX5_filmFar 27 = .ok (.ireturn, 1) := by decide +kernel
theorem dX5_notFilm_0 : decode cX5_notFilm 0 = .ok (.iload_n 0, 1) := by decide +kernel
theorem dX5_notFilm_1 : decode cX5_notFilm 1 = .ok (.iconst 1, 1) := by decide +kernel
theorem dX5_notFilm_2 : decode cX5_notFilm 2 = .ok (.if_icmp .lt 7, 3) := by decide +kernel
theorem dX5_notFilm_5 : decode cX5_notFilm 5 = .ok (.iload_n 2, 1) := by decide +kernel
theorem dX5_notFilm_6 : decode cX5_notFilm 6 = .ok (.ifCond .ge 6, 3) := by decide +kernel
theorem dX5_notFilm_9 : decode cX5_notFilm 9 = .ok (.bipush (-4), 2) := by decide +kernel
theorem dX5_notFilm_11 : decode cX5_notFilm 11 = .ok (.ireturn, 1) := by decide +kernel
theorem dX5_notFilm_12 : decode cX5_notFilm 12 = .ok (.iload_n 0, 1) := by decide +kernel
theorem dX5_notFilm_13 : decode cX5_notFilm 13 = .ok (.bipush 40, 2) := by decide +kernel
theorem dX5_notFilm_15 : decode cX5_notFilm 15 = .ok (.if_icmp .gt 8, 3) := by decide +kernel
theorem dX5_notFilm_18 : decode cX5_notFilm 18 = .ok (.iload_n 2, 1) := by decide +kernel
theorem dX5_notFilm_19 : decode cX5_notFilm 19 = .ok (.iconst 2, 1) := by decide +kernel
theorem dX5_notFilm_20 : decode cX5_notFilm 20 = .ok (.if_icmp .le 6, 3) := by decide +kernel
theorem dX5_notFilm_23 : decode cX5_notFilm 23 = .ok (.bipush (-6), 2) := by decide +kernel
theorem dX5_notFilm_25 : decode cX5_notFilm 25 = .ok (.ireturn, 1) := by decide +kernel
theorem dX5_notFilm_26 : decode cX5_notFilm 26 = .ok (.iload_n 1, 1) := by decide +kernel
theorem dX5_notFilm_27 : decode cX5_notFilm 27 = .ok (.iconst 0, 1) := by decide +kernel
theorem dX5_notFilm_28 : decode cX5_notFilm 28 = .ok (.iconst 1, 1) := by decide +kernel
theorem dX5_notFilm_29 : decode cX5_notFilm 29 = .ok (.invokestatic 119, 3) := by decide +kernel
theorem dX5_notFilm_32 : decode cX5_notFilm 32 = .ok (.ifCond .eq 16, 3) := by decide +kernel
theorem dX5_notFilm_35 : decode cX5_notFilm 35 = .ok (.iload_n 3, 1) := by decide +kernel
theorem dX5_notFilm_36 : decode cX5_notFilm 36 = .ok (.iconst 0, 1) := by decide +kernel
theorem dX5_notFilm_37 : decode cX5_notFilm 37 = .ok (.iconst 1, 1) := by decide +kernel
theorem dX5_notFilm_38 : decode cX5_notFilm 38 = .ok (.invokestatic 119, 3) := by decide +kernel
theorem dX5_notFilm_41 : decode cX5_notFilm 41 = .ok (.ifCond .eq 7, 3) := by decide +kernel
theorem dX5_notFilm_44 : decode cX5_notFilm 44 = .ok (.iconst 0, 1) := by decide +kernel
theorem dX5_notFilm_45 : decode cX5_notFilm 45 = .ok (.goto 5, 3) := by decide +kernel
theorem dX5_notFilm_48 : decode cX5_notFilm 48 = .ok (.bipush (-2), 2) := by decide +kernel
theorem dX5_notFilm_50 : decode cX5_notFilm 50 = .ok (.ireturn, 1) := by decide +kernel
theorem dX5_addsFilm_0 : decode cX5_addsFilm 0 = .ok (.aload_n 0, 1) := by decide +kernel
theorem dX5_addsFilm_1 : decode cX5_addsFilm 1 = .ok (.getfield 37, 3) := by decide +kernel
theorem dX5_addsFilm_4 : decode cX5_addsFilm 4 = .ok (.aload_n 0, 1) := by decide +kernel
theorem dX5_addsFilm_5 : decode cX5_addsFilm 5 = .ok (.getfield 171, 3) := by decide +kernel
theorem dX5_addsFilm_8 : decode cX5_addsFilm 8 = .ok (.iload_n 1, 1) := by decide +kernel
theorem dX5_addsFilm_9 : decode cX5_addsFilm 9 = .ok (.iastore, 1) := by decide +kernel
theorem dX5_addsFilm_10 : decode cX5_addsFilm 10 = .ok (.aload_n 0, 1) := by decide +kernel
theorem dX5_addsFilm_11 : decode cX5_addsFilm 11 = .ok (.getfield 40, 3) := by decide +kernel
theorem dX5_addsFilm_14 : decode cX5_addsFilm 14 = .ok (.aload_n 0, 1) := by decide +kernel
theorem dX5_addsFilm_15 : decode cX5_addsFilm 15 = .ok (.getfield 171, 3) := by decide +kernel
theorem dX5_addsFilm_18 : decode cX5_addsFilm 18 = .ok (.iload_n 2, 1) := by decide +kernel
theorem dX5_addsFilm_19 : decode cX5_addsFilm 19 = .ok (.iastore, 1) := by decide +kernel
theorem dX5_addsFilm_20 : decode cX5_addsFilm 20 = .ok (.aload_n 0, 1) := by decide +kernel
theorem dX5_addsFilm_21 : decode cX5_addsFilm 21 = .ok (.getfield 43, 3) := by decide +kernel
theorem dX5_addsFilm_24 : decode cX5_addsFilm 24 = .ok (.aload_n 0, 1) := by decide +kernel
theorem dX5_addsFilm_25 : decode cX5_addsFilm 25 = .ok (.getfield 171, 3) := by decide +kernel
theorem dX5_addsFilm_28 : decode cX5_addsFilm 28 = .ok (.iload_n 3, 1) := by decide +kernel
theorem dX5_addsFilm_29 : decode cX5_addsFilm 29 = .ok (.iastore, 1) := by decide +kernel
theorem dX5_addsFilm_30 : decode cX5_addsFilm 30 = .ok (.aload_n 0, 1) := by decide +kernel
theorem dX5_addsFilm_31 : decode cX5_addsFilm 31 = .ok (.getfield 46, 3) := by decide +kernel
theorem dX5_addsFilm_34 : decode cX5_addsFilm 34 = .ok (.aload_n 0, 1) := by decide +kernel
theorem dX5_addsFilm_35 : decode cX5_addsFilm 35 = .ok (.getfield 171, 3) := by decide +kernel
theorem dX5_addsFilm_38 : decode cX5_addsFilm 38 = .ok (.iload 4, 2) := by decide +kernel
theorem dX5_addsFilm_40 : decode cX5_addsFilm 40 = .ok (.iastore, 1) := by decide +kernel
theorem dX5_addsFilm_41 : decode cX5_addsFilm 41 = .ok (.aload_n 0, 1) := by decide +kernel
theorem dX5_addsFilm_42 : decode cX5_addsFilm 42 = .ok (.dup, 1) := by decide +kernel
theorem dX5_addsFilm_43 : decode cX5_addsFilm 43 = .ok (.getfield 171, 3) := by decide +kernel
theorem dX5_addsFilm_46 : decode cX5_addsFilm 46 = .ok (.iconst 1, 1) := by decide +kernel
theorem dX5_addsFilm_47 : decode cX5_addsFilm 47 = .ok (.iadd, 1) := by decide +kernel
theorem dX5_addsFilm_48 : decode cX5_addsFilm 48 = .ok (.putfield 171, 3) := by decide +kernel
theorem dX5_addsFilm_51 : decode cX5_addsFilm 51 = .ok (.return_, 1) := by decide +kernel
theorem dX5_film_0 : decode cX5_film 0 = .ok (.iload_n 1, 1) := by decide +kernel
theorem dX5_film_1 : decode cX5_film 1 = .ok (.iload_n 2, 1) := by decide +kernel
theorem dX5_film_2 : decode cX5_film 2 = .ok (.iload_n 3, 1) := by decide +kernel
theorem dX5_film_3 : decode cX5_film 3 = .ok (.iload 4, 2) := by decide +kernel
theorem dX5_film_5 : decode cX5_film 5 = .ok (.invokestatic 246, 3) := by decide +kernel
theorem dX5_film_8 : decode cX5_film 8 = .ok (.istore 5, 2) := by decide +kernel
theorem dX5_film_10 : decode cX5_film 10 = .ok (.iload 5, 2) := by decide +kernel
theorem dX5_film_12 : decode cX5_film 12 = .ok (.ifCond .ne 16, 3) := by decide +kernel
theorem dX5_film_15 : decode cX5_film 15 = .ok (.aload_n 0, 1) := by decide +kernel
theorem dX5_film_16 : decode cX5_film 16 = .ok (.getfield 171, 3) := by decide +kernel
theorem dX5_film_19 : decode cX5_film 19 = .ok (.bipush 10, 2) := by decide +kernel
theorem dX5_film_21 : decode cX5_film 21 = .ok (.if_icmp .ne 7, 3) := by decide +kernel
theorem dX5_film_24 : decode cX5_film 24 = .ok (.bipush (-6), 2) := by decide +kernel
theorem dX5_film_26 : decode cX5_film 26 = .ok (.istore 5, 2) := by decide +kernel
theorem dX5_film_28 : decode cX5_film 28 = .ok (.iload 5, 2) := by decide +kernel
theorem dX5_film_30 : decode cX5_film 30 = .ok (.ifCond .eq 10, 3) := by decide +kernel
theorem dX5_film_33 : decode cX5_film 33 = .ok (.aload_n 0, 1) := by decide +kernel
theorem dX5_film_34 : decode cX5_film 34 = .ok (.iload 5, 2) := by decide +kernel
theorem dX5_film_36 : decode cX5_film 36 = .ok (.invokevirtual 108, 3) := by decide +kernel
theorem dX5_film_39 : decode cX5_film 39 = .ok (.ireturn, 1) := by decide +kernel
theorem dX5_film_40 : decode cX5_film 40 = .ok (.aload_n 0, 1) := by decide +kernel
theorem dX5_film_41 : decode cX5_film 41 = .ok (.iload_n 1, 1) := by decide +kernel
theorem dX5_film_42 : decode cX5_film 42 = .ok (.iload_n 2, 1) := by decide +kernel
theorem dX5_film_43 : decode cX5_film 43 = .ok (.iload_n 3, 1) := by decide +kernel
theorem dX5_film_44 : decode cX5_film 44 = .ok (.iload 4, 2) := by decide +kernel
theorem dX5_film_46 : decode cX5_film 46 = .ok (.invokevirtual 250, 3) := by decide +kernel
theorem dX5_film_49 : decode cX5_film 49 = .ok (.aload_n 0, 1) := by decide +kernel
theorem dX5_film_50 : decode cX5_film 50 = .ok (.getfield 171, 3) := by decide +kernel
theorem dX5_film_53 : decode cX5_film 53 = .ok (.ireturn, 1) := by decide +kernel
theorem dX5_told_0 : decode cX5_told 0 = .ok (.iload_n 1, 1) := by decide +kernel
theorem dX5_told_1 : decode cX5_told 1 = .ok (.iload_n 2, 1) := by decide +kernel
theorem dX5_told_2 : decode cX5_told 2 = .ok (.iload_n 3, 1) := by decide +kernel
theorem dX5_told_3 : decode cX5_told 3 = .ok (.iconst 0, 1) := by decide +kernel
theorem dX5_told_4 : decode cX5_told 4 = .ok (.invokestatic 246, 3) := by decide +kernel
theorem dX5_told_7 : decode cX5_told 7 = .ok (.istore 4, 2) := by decide +kernel
theorem dX5_told_9 : decode cX5_told 9 = .ok (.iload 4, 2) := by decide +kernel
theorem dX5_told_11 : decode cX5_told 11 = .ok (.ifCond .ne 16, 3) := by decide +kernel
theorem dX5_told_14 : decode cX5_told 14 = .ok (.aload_n 0, 1) := by decide +kernel
theorem dX5_told_15 : decode cX5_told 15 = .ok (.getfield 171, 3) := by decide +kernel
theorem dX5_told_18 : decode cX5_told 18 = .ok (.bipush 10, 2) := by decide +kernel
theorem dX5_told_20 : decode cX5_told 20 = .ok (.if_icmp .ne 7, 3) := by decide +kernel
theorem dX5_told_23 : decode cX5_told 23 = .ok (.bipush (-6), 2) := by decide +kernel
theorem dX5_told_25 : decode cX5_told 25 = .ok (.istore 4, 2) := by decide +kernel
theorem dX5_told_27 : decode cX5_told 27 = .ok (.iload 4, 2) := by decide +kernel
theorem dX5_told_29 : decode cX5_told 29 = .ok (.ifCond .ne 21, 3) := by decide +kernel
theorem dX5_told_32 : decode cX5_told 32 = .ok (.aload_n 0, 1) := by decide +kernel
theorem dX5_told_33 : decode cX5_told 33 = .ok (.getfield 34, 3) := by decide +kernel
theorem dX5_told_36 : decode cX5_told 36 = .ok (.iconst 4, 1) := by decide +kernel
theorem dX5_told_37 : decode cX5_told 37 = .ok (.iaload, 1) := by decide +kernel
theorem dX5_told_38 : decode cX5_told 38 = .ok (.iconst 1, 1) := by decide +kernel
theorem dX5_told_39 : decode cX5_told 39 = .ok (.iconst 3, 1) := by decide +kernel
theorem dX5_told_40 : decode cX5_told 40 = .ok (.invokestatic 119, 3) := by decide +kernel
theorem dX5_told_43 : decode cX5_told 43 = .ok (.ifCond .ne 7, 3) := by decide +kernel
theorem dX5_told_46 : decode cX5_told 46 = .ok (.bipush (-3), 2) := by decide +kernel
theorem dX5_told_48 : decode cX5_told 48 = .ok (.istore 4, 2) := by decide +kernel
theorem dX5_told_50 : decode cX5_told 50 = .ok (.iload 4, 2) := by decide +kernel
theorem dX5_told_52 : decode cX5_told 52 = .ok (.ifCond .eq 10, 3) := by decide +kernel
theorem dX5_told_55 : decode cX5_told 55 = .ok (.aload_n 0, 1) := by decide +kernel
theorem dX5_told_56 : decode cX5_told 56 = .ok (.iload 4, 2) := by decide +kernel
theorem dX5_told_58 : decode cX5_told 58 = .ok (.invokevirtual 108, 3) := by decide +kernel
theorem dX5_told_61 : decode cX5_told 61 = .ok (.ireturn, 1) := by decide +kernel
theorem dX5_told_62 : decode cX5_told 62 = .ok (.iload_n 1, 1) := by decide +kernel
theorem dX5_told_63 : decode cX5_told 63 = .ok (.aload_n 0, 1) := by decide +kernel
theorem dX5_told_64 : decode cX5_told 64 = .ok (.getfield 34, 3) := by decide +kernel
theorem dX5_told_67 : decode cX5_told 67 = .ok (.iconst 4, 1) := by decide +kernel
theorem dX5_told_68 : decode cX5_told 68 = .ok (.iaload, 1) := by decide +kernel
theorem dX5_told_69 : decode cX5_told 69 = .ok (.aload_n 0, 1) := by decide +kernel
theorem dX5_told_70 : decode cX5_told 70 = .ok (.getfield 34, 3) := by decide +kernel
theorem dX5_told_73 : decode cX5_told 73 = .ok (.iconst 3, 1) := by decide +kernel
theorem dX5_told_74 : decode cX5_told 74 = .ok (.iaload, 1) := by decide +kernel
theorem dX5_told_75 : decode cX5_told 75 = .ok (.iload_n 2, 1) := by decide +kernel
theorem dX5_told_76 : decode cX5_told 76 = .ok (.iload_n 3, 1) := by decide +kernel
theorem dX5_told_77 : decode cX5_told 77 = .ok (.invokestatic 254, 3) := by decide +kernel
theorem dX5_told_80 : decode cX5_told 80 = .ok (.if_icmp .gt 7, 3) := by decide +kernel
theorem dX5_told_83 : decode cX5_told 83 = .ok (.iconst 1, 1) := by decide +kernel
theorem dX5_told_84 : decode cX5_told 84 = .ok (.goto 4, 3) := by decide +kernel
theorem dX5_told_87 : decode cX5_told 87 = .ok (.iconst 0, 1) := by decide +kernel
theorem dX5_told_88 : decode cX5_told 88 = .ok (.istore 5, 2) := by decide +kernel
theorem dX5_told_90 : decode cX5_told 90 = .ok (.aload_n 0, 1) := by decide +kernel
theorem dX5_told_91 : decode cX5_told 91 = .ok (.iload_n 1, 1) := by decide +kernel
theorem dX5_told_92 : decode cX5_told 92 = .ok (.iload_n 2, 1) := by decide +kernel
theorem dX5_told_93 : decode cX5_told 93 = .ok (.iload_n 3, 1) := by decide +kernel
theorem dX5_told_94 : decode cX5_told 94 = .ok (.iload 5, 2) := by decide +kernel
theorem dX5_told_96 : decode cX5_told 96 = .ok (.invokevirtual 250, 3) := by decide +kernel
theorem dX5_told_99 : decode cX5_told 99 = .ok (.iload 5, 2) := by decide +kernel
theorem dX5_told_101 : decode cX5_told 101 = .ok (.ireturn, 1) := by decide +kernel
theorem dX5_doFit_0 : decode cX5_doFit 0 = .ok (.iconst 0, 1) := by decide +kernel
theorem dX5_doFit_1 : decode cX5_doFit 1 = .ok (.istore_n 3, 1) := by decide +kernel
theorem dX5_doFit_2 : decode cX5_doFit 2 = .ok (.iload_n 3, 1) := by decide +kernel
theorem dX5_doFit_3 : decode cX5_doFit 3 = .ok (.aload_n 0, 1) := by decide +kernel
theorem dX5_doFit_4 : decode cX5_doFit 4 = .ok (.getfield 171, 3) := by decide +kernel
theorem dX5_doFit_7 : decode cX5_doFit 7 = .ok (.if_icmp .ge 64, 3) := by decide +kernel
theorem dX5_doFit_10 : decode cX5_doFit 10 = .ok (.aload_n 0, 1) := by decide +kernel
theorem dX5_doFit_11 : decode cX5_doFit 11 = .ok (.getfield 37, 3) := by decide +kernel
theorem dX5_doFit_14 : decode cX5_doFit 14 = .ok (.iload_n 3, 1) := by decide +kernel
theorem dX5_doFit_15 : decode cX5_doFit 15 = .ok (.iaload, 1) := by decide +kernel
theorem dX5_doFit_16 : decode cX5_doFit 16 = .ok (.iload_n 1, 1) := by decide +kernel
theorem dX5_doFit_17 : decode cX5_doFit 17 = .ok (.iload_n 2, 1) := by decide +kernel
theorem dX5_doFit_18 : decode cX5_doFit 18 = .ok (.aload_n 0, 1) := by decide +kernel
theorem dX5_doFit_19 : decode cX5_doFit 19 = .ok (.getfield 40, 3) := by decide +kernel
theorem dX5_doFit_22 : decode cX5_doFit 22 = .ok (.iload_n 3, 1) := by decide +kernel
theorem dX5_doFit_23 : decode cX5_doFit 23 = .ok (.iaload, 1) := by decide +kernel
theorem dX5_doFit_24 : decode cX5_doFit 24 = .ok (.aload_n 0, 1) := by decide +kernel
theorem dX5_doFit_25 : decode cX5_doFit 25 = .ok (.getfield 43, 3) := by decide +kernel
theorem dX5_doFit_28 : decode cX5_doFit 28 = .ok (.iload_n 3, 1) := by decide +kernel
theorem dX5_doFit_29 : decode cX5_doFit 29 = .ok (.iaload, 1) := by decide +kernel
theorem dX5_doFit_30 : decode cX5_doFit 30 = .ok (.invokestatic 254, 3) := by decide +kernel
theorem dX5_doFit_33 : decode cX5_doFit 33 = .ok (.if_icmp .gt 7, 3) := by decide +kernel
theorem dX5_doFit_36 : decode cX5_doFit 36 = .ok (.iconst 1, 1) := by decide +kernel
theorem dX5_doFit_37 : decode cX5_doFit 37 = .ok (.goto 4, 3) := by decide +kernel
theorem dX5_doFit_40 : decode cX5_doFit 40 = .ok (.iconst 0, 1) := by decide +kernel
theorem dX5_doFit_41 : decode cX5_doFit 41 = .ok (.istore 4, 2) := by decide +kernel
theorem dX5_doFit_43 : decode cX5_doFit 43 = .ok (.iload 4, 2) := by decide +kernel
theorem dX5_doFit_45 : decode cX5_doFit 45 = .ok (.aload_n 0, 1) := by decide +kernel
theorem dX5_doFit_46 : decode cX5_doFit 46 = .ok (.getfield 46, 3) := by decide +kernel
theorem dX5_doFit_49 : decode cX5_doFit 49 = .ok (.iload_n 3, 1) := by decide +kernel
theorem dX5_doFit_50 : decode cX5_doFit 50 = .ok (.iaload, 1) := by decide +kernel
theorem dX5_doFit_51 : decode cX5_doFit 51 = .ok (.iconst 1, 1) := by decide +kernel
theorem dX5_doFit_52 : decode cX5_doFit 52 = .ok (.if_icmp .ne 7, 3) := by decide +kernel
theorem dX5_doFit_55 : decode cX5_doFit 55 = .ok (.iconst 1, 1) := by decide +kernel
theorem dX5_doFit_56 : decode cX5_doFit 56 = .ok (.goto 4, 3) := by decide +kernel
theorem dX5_doFit_59 : decode cX5_doFit 59 = .ok (.iconst 0, 1) := by decide +kernel
theorem dX5_doFit_60 : decode cX5_doFit 60 = .ok (.if_icmp .eq 5, 3) := by decide +kernel
theorem dX5_doFit_63 : decode cX5_doFit 63 = .ok (.iconst 0, 1) := by decide +kernel
theorem dX5_doFit_64 : decode cX5_doFit 64 = .ok (.ireturn, 1) := by decide +kernel
theorem dX5_doFit_65 : decode cX5_doFit 65 = .ok (.iinc 3 1, 3) := by decide +kernel
theorem dX5_doFit_68 : decode cX5_doFit 68 = .ok (.goto (-66), 3) := by decide +kernel
theorem dX5_doFit_71 : decode cX5_doFit 71 = .ok (.iconst 1, 1) := by decide +kernel
theorem dX5_doFit_72 : decode cX5_doFit 72 = .ok (.ireturn, 1) := by decide +kernel
theorem dX5_fitting_0 : decode cX5_fitting 0 = .ok (.iload_n 1, 1) := by decide +kernel
theorem dX5_fitting_1 : decode cX5_fitting 1 = .ok (.iconst 1, 1) := by decide +kernel
theorem dX5_fitting_2 : decode cX5_fitting 2 = .ok (.iconst 3, 1) := by decide +kernel
theorem dX5_fitting_3 : decode cX5_fitting 3 = .ok (.invokestatic 119, 3) := by decide +kernel
theorem dX5_fitting_6 : decode cX5_fitting 6 = .ok (.ifCond .eq 12, 3) := by decide +kernel
theorem dX5_fitting_9 : decode cX5_fitting 9 = .ok (.iload_n 2, 1) := by decide +kernel
theorem dX5_fitting_10 : decode cX5_fitting 10 = .ok (.iconst 0, 1) := by decide +kernel
theorem dX5_fitting_11 : decode cX5_fitting 11 = .ok (.iconst 2, 1) := by decide +kernel
theorem dX5_fitting_12 : decode cX5_fitting 12 = .ok (.invokestatic 119, 3) := by decide +kernel
theorem dX5_fitting_15 : decode cX5_fitting 15 = .ok (.ifCond .ne 10, 3) := by decide +kernel
theorem dX5_fitting_18 : decode cX5_fitting 18 = .ok (.aload_n 0, 1) := by decide +kernel
theorem dX5_fitting_19 : decode cX5_fitting 19 = .ok (.bipush (-2), 2) := by decide +kernel
theorem dX5_fitting_21 : decode cX5_fitting 21 = .ok (.invokevirtual 108, 3) := by decide +kernel
theorem dX5_fitting_24 : decode cX5_fitting 24 = .ok (.ireturn, 1) := by decide +kernel
theorem dX5_fitting_25 : decode cX5_fitting 25 = .ok (.iconst 0, 1) := by decide +kernel
theorem dX5_fitting_26 : decode cX5_fitting 26 = .ok (.istore_n 3, 1) := by decide +kernel
theorem dX5_fitting_27 : decode cX5_fitting 27 = .ok (.bipush (-9), 2) := by decide +kernel
theorem dX5_fitting_29 : decode cX5_fitting 29 = .ok (.istore 4, 2) := by decide +kernel
theorem dX5_fitting_31 : decode cX5_fitting 31 = .ok (.bipush (-9), 2) := by decide +kernel
theorem dX5_fitting_33 : decode cX5_fitting 33 = .ok (.istore 5, 2) := by decide +kernel
theorem dX5_fitting_35 : decode cX5_fitting 35 = .ok (.iconst 0, 1) := by decide +kernel
theorem dX5_fitting_36 : decode cX5_fitting 36 = .ok (.istore 6, 2) := by decide +kernel
theorem dX5_fitting_38 : decode cX5_fitting 38 = .ok (.iload 6, 2) := by decide +kernel
theorem dX5_fitting_40 : decode cX5_fitting 40 = .ok (.bipush 40, 2) := by decide +kernel
theorem dX5_fitting_42 : decode cX5_fitting 42 = .ok (.if_icmp .gt 43, 3) := by decide +kernel
theorem dX5_fitting_45 : decode cX5_fitting 45 = .ok (.aload_n 0, 1) := by decide +kernel
theorem dX5_fitting_46 : decode cX5_fitting 46 = .ok (.iload_n 1, 1) := by decide +kernel
theorem dX5_fitting_47 : decode cX5_fitting 47 = .ok (.iload 6, 2) := by decide +kernel
theorem dX5_fitting_49 : decode cX5_fitting 49 = .ok (.invokevirtual 257, 3) := by decide +kernel
theorem dX5_fitting_52 : decode cX5_fitting 52 = .ok (.ifCond .ne 6, 3) := by decide +kernel
theorem dX5_fitting_55 : decode cX5_fitting 55 = .ok (.goto 24, 3) := by decide +kernel
theorem dX5_fitting_58 : decode cX5_fitting 58 = .ok (.iinc 3 1, 3) := by decide +kernel
theorem dX5_fitting_61 : decode cX5_fitting 61 = .ok (.iload 4, 2) := by decide +kernel
theorem dX5_fitting_63 : decode cX5_fitting 63 = .ok (.ifCond .ge 8, 3) := by decide +kernel
theorem dX5_fitting_66 : decode cX5_fitting 66 = .ok (.iload 6, 2) := by decide +kernel
theorem dX5_fitting_68 : decode cX5_fitting 68 = .ok (.goto 5, 3) := by decide +kernel
theorem dX5_fitting_71 : decode cX5_fitting 71 = .ok (.iload 4, 2) := by decide +kernel
theorem dX5_fitting_73 : decode cX5_fitting 73 = .ok (.istore 4, 2) := by decide +kernel
theorem dX5_fitting_75 : decode cX5_fitting 75 = .ok (.iload 6, 2) := by decide +kernel
theorem dX5_fitting_77 : decode cX5_fitting 77 = .ok (.istore 5, 2) := by decide +kernel
theorem dX5_fitting_79 : decode cX5_fitting 79 = .ok (.iinc 6 1, 3) := by decide +kernel
theorem dX5_fitting_82 : decode cX5_fitting 82 = .ok (.goto (-44), 3) := by decide +kernel
theorem dX5_fitting_85 : decode cX5_fitting 85 = .ok (.iload_n 2, 1) := by decide +kernel
theorem dX5_fitting_86 : decode cX5_fitting 86 = .ok (.ifCond .ne 7, 3) := by decide +kernel
theorem dX5_fitting_89 : decode cX5_fitting 89 = .ok (.iload_n 3, 1) := by decide +kernel
theorem dX5_fitting_90 : decode cX5_fitting 90 = .ok (.goto 15, 3) := by decide +kernel
theorem dX5_fitting_93 : decode cX5_fitting 93 = .ok (.iload_n 2, 1) := by decide +kernel
theorem dX5_fitting_94 : decode cX5_fitting 94 = .ok (.iconst 1, 1) := by decide +kernel
theorem dX5_fitting_95 : decode cX5_fitting 95 = .ok (.if_icmp .ne 8, 3) := by decide +kernel
theorem dX5_fitting_98 : decode cX5_fitting 98 = .ok (.iload 4, 2) := by decide +kernel
theorem dX5_fitting_100 : decode cX5_fitting 100 = .ok (.goto 5, 3) := by decide +kernel
theorem dX5_fitting_103 : decode cX5_fitting 103 = .ok (.iload 5, 2) := by decide +kernel
theorem dX5_fitting_105 : decode cX5_fitting 105 = .ok (.ireturn, 1) := by decide +kernel
theorem dX5_seeds_0 : decode cX5_seeds 0 = .ok (.iload_n 1, 1) := by decide +kernel
theorem dX5_seeds_1 : decode cX5_seeds 1 = .ok (.iconst 1, 1) := by decide +kernel
theorem dX5_seeds_2 : decode cX5_seeds 2 = .ok (.bipush 20, 2) := by decide +kernel
theorem dX5_seeds_4 : decode cX5_seeds 4 = .ok (.invokestatic 101, 3) := by decide +kernel
theorem dX5_seeds_7 : decode cX5_seeds 7 = .ok (.istore_n 3, 1) := by decide +kernel
theorem dX5_seeds_8 : decode cX5_seeds 8 = .ok (.iload_n 3, 1) := by decide +kernel
theorem dX5_seeds_9 : decode cX5_seeds 9 = .ok (.ifCond .eq 9, 3) := by decide +kernel
theorem dX5_seeds_12 : decode cX5_seeds 12 = .ok (.aload_n 0, 1) := by decide +kernel
theorem dX5_seeds_13 : decode cX5_seeds 13 = .ok (.iload_n 3, 1) := by decide +kernel
theorem dX5_seeds_14 : decode cX5_seeds 14 = .ok (.invokevirtual 108, 3) := by decide +kernel
theorem dX5_seeds_17 : decode cX5_seeds 17 = .ok (.ireturn, 1) := by decide +kernel
theorem dX5_seeds_18 : decode cX5_seeds 18 = .ok (.aload_n 0, 1) := by decide +kernel
theorem dX5_seeds_19 : decode cX5_seeds 19 = .ok (.iconst 1, 1) := by decide +kernel
theorem dX5_seeds_20 : decode cX5_seeds 20 = .ok (.iconst 1, 1) := by decide +kernel
theorem dX5_seeds_21 : decode cX5_seeds 21 = .ok (.invokevirtual 150, 3) := by decide +kernel
theorem dX5_seeds_24 : decode cX5_seeds 24 = .ok (.iload_n 2, 1) := by decide +kernel
theorem dX5_seeds_25 : decode cX5_seeds 25 = .ok (.istore 4, 2) := by decide +kernel
theorem dX5_seeds_27 : decode cX5_seeds 27 = .ok (.iconst 0, 1) := by decide +kernel
theorem dX5_seeds_28 : decode cX5_seeds 28 = .ok (.istore 5, 2) := by decide +kernel
theorem dX5_seeds_30 : decode cX5_seeds 30 = .ok (.iconst 0, 1) := by decide +kernel
theorem dX5_seeds_31 : decode cX5_seeds 31 = .ok (.istore 6, 2) := by decide +kernel
theorem dX5_seeds_33 : decode cX5_seeds 33 = .ok (.iload 6, 2) := by decide +kernel
theorem dX5_seeds_35 : decode cX5_seeds 35 = .ok (.iload_n 1, 1) := by decide +kernel
theorem dX5_seeds_36 : decode cX5_seeds 36 = .ok (.if_icmp .ge 71, 3) := by decide +kernel
theorem dX5_seeds_39 : decode cX5_seeds 39 = .ok (.iconst 0, 1) := by decide +kernel
theorem dX5_seeds_40 : decode cX5_seeds 40 = .ok (.istore 7, 2) := by decide +kernel
theorem dX5_seeds_42 : decode cX5_seeds 42 = .ok (.iload 7, 2) := by decide +kernel
theorem dX5_seeds_44 : decode cX5_seeds 44 = .ok (.aload_n 0, 1) := by decide +kernel
theorem dX5_seeds_45 : decode cX5_seeds 45 = .ok (.getfield 97, 3) := by decide +kernel
theorem dX5_seeds_48 : decode cX5_seeds 48 = .ok (.if_icmp .ge 40, 3) := by decide +kernel
theorem dX5_seeds_51 : decode cX5_seeds 51 = .ok (.iload 4, 2) := by decide +kernel
theorem dX5_seeds_53 : decode cX5_seeds 53 = .ok (.ldc_w 260, 3) := by decide +kernel
theorem dX5_seeds_56 : decode cX5_seeds 56 = .ok (.imul, 1) := by decide +kernel
theorem dX5_seeds_57 : decode cX5_seeds 57 = .ok (.ldc_w 261, 3) := by decide +kernel
theorem dX5_seeds_60 : decode cX5_seeds 60 = .ok (.iadd, 1) := by decide +kernel
theorem dX5_seeds_61 : decode cX5_seeds 61 = .ok (.istore 4, 2) := by decide +kernel
theorem dX5_seeds_63 : decode cX5_seeds 63 = .ok (.aload_n 0, 1) := by decide +kernel
theorem dX5_seeds_64 : decode cX5_seeds 64 = .ok (.getfield 28, 3) := by decide +kernel
theorem dX5_seeds_67 : decode cX5_seeds 67 = .ok (.iload 7, 2) := by decide +kernel
theorem dX5_seeds_69 : decode cX5_seeds 69 = .ok (.iload 4, 2) := by decide +kernel
theorem dX5_seeds_71 : decode cX5_seeds 71 = .ok (.ldc_w 262, 3) := by decide +kernel
theorem dX5_seeds_74 : decode cX5_seeds 74 = .ok (.iand, 1) := by decide +kernel
theorem dX5_seeds_75 : decode cX5_seeds 75 = .ok (.sipush 256, 3) := by decide +kernel
theorem dX5_seeds_78 : decode cX5_seeds 78 = .ok (.idiv, 1) := by decide +kernel
theorem dX5_seeds_79 : decode cX5_seeds 79 = .ok (.iconst 2, 1) := by decide +kernel
theorem dX5_seeds_80 : decode cX5_seeds 80 = .ok (.irem, 1) := by decide +kernel
theorem dX5_seeds_81 : decode cX5_seeds 81 = .ok (.iastore, 1) := by decide +kernel
theorem dX5_seeds_82 : decode cX5_seeds 82 = .ok (.iinc 7 1, 3) := by decide +kernel
theorem dX5_seeds_85 : decode cX5_seeds 85 = .ok (.goto (-43), 3) := by decide +kernel
theorem dX5_seeds_88 : decode cX5_seeds 88 = .ok (.aload_n 0, 1) := by decide +kernel
theorem dX5_seeds_89 : decode cX5_seeds 89 = .ok (.invokevirtual 231, 3) := by decide +kernel
theorem dX5_seeds_92 : decode cX5_seeds 92 = .ok (.iload 5, 2) := by decide +kernel
theorem dX5_seeds_94 : decode cX5_seeds 94 = .ok (.aload_n 0, 1) := by decide +kernel
theorem dX5_seeds_95 : decode cX5_seeds 95 = .ok (.invokevirtual 237, 3) := by decide +kernel
theorem dX5_seeds_98 : decode cX5_seeds 98 = .ok (.iadd, 1) := by decide +kernel
theorem dX5_seeds_99 : decode cX5_seeds 99 = .ok (.istore 5, 2) := by decide +kernel
theorem dX5_seeds_101 : decode cX5_seeds 101 = .ok (.iinc 6 1, 3) := by decide +kernel
theorem dX5_seeds_104 : decode cX5_seeds 104 = .ok (.goto (-71), 3) := by decide +kernel
theorem dX5_seeds_107 : decode cX5_seeds 107 = .ok (.aload_n 0, 1) := by decide +kernel
theorem dX5_seeds_108 : decode cX5_seeds 108 = .ok (.iconst 1, 1) := by decide +kernel
theorem dX5_seeds_109 : decode cX5_seeds 109 = .ok (.iconst 0, 1) := by decide +kernel
theorem dX5_seeds_110 : decode cX5_seeds 110 = .ok (.invokevirtual 150, 3) := by decide +kernel
theorem dX5_seeds_113 : decode cX5_seeds 113 = .ok (.iload 5, 2) := by decide +kernel
theorem dX5_seeds_115 : decode cX5_seeds 115 = .ok (.ireturn, 1) := by decide +kernel
theorem dX5_row_0 : decode cX5_row 0 = .ok (.iload_n 1, 1) := by decide +kernel
theorem dX5_row_1 : decode cX5_row 1 = .ok (.iconst 0, 1) := by decide +kernel
theorem dX5_row_2 : decode cX5_row 2 = .ok (.bipush 9, 2) := by decide +kernel
theorem dX5_row_4 : decode cX5_row 4 = .ok (.invokestatic 101, 3) := by decide +kernel
theorem dX5_row_7 : decode cX5_row 7 = .ok (.istore_n 2, 1) := by decide +kernel
theorem dX5_row_8 : decode cX5_row 8 = .ok (.iload_n 2, 1) := by decide +kernel
theorem dX5_row_9 : decode cX5_row 9 = .ok (.ifCond .ne 15, 3) := by decide +kernel
theorem dX5_row_12 : decode cX5_row 12 = .ok (.aload_n 0, 1) := by decide +kernel
theorem dX5_row_13 : decode cX5_row 13 = .ok (.getfield 263, 3) := by decide +kernel
theorem dX5_row_16 : decode cX5_row 16 = .ok (.bipush 8, 2) := by decide +kernel
theorem dX5_row_18 : decode cX5_row 18 = .ok (.if_icmp .ne 6, 3) := by decide +kernel
theorem dX5_row_21 : decode cX5_row 21 = .ok (.bipush (-6), 2) := by decide +kernel
theorem dX5_row_23 : decode cX5_row 23 = .ok (.istore_n 2, 1) := by decide +kernel
theorem dX5_row_24 : decode cX5_row 24 = .ok (.iload_n 2, 1) := by decide +kernel
theorem dX5_row_25 : decode cX5_row 25 = .ok (.ifCond .eq 9, 3) := by decide +kernel
theorem dX5_row_28 : decode cX5_row 28 = .ok (.aload_n 0, 1) := by decide +kernel
theorem dX5_row_29 : decode cX5_row 29 = .ok (.iload_n 2, 1) := by decide +kernel
theorem dX5_row_30 : decode cX5_row 30 = .ok (.invokevirtual 108, 3) := by decide +kernel
theorem dX5_row_33 : decode cX5_row 33 = .ok (.ireturn, 1) := by decide +kernel
theorem dX5_row_34 : decode cX5_row 34 = .ok (.aload_n 0, 1) := by decide +kernel
theorem dX5_row_35 : decode cX5_row 35 = .ok (.getfield 94, 3) := by decide +kernel
theorem dX5_row_38 : decode cX5_row 38 = .ok (.aload_n 0, 1) := by decide +kernel
theorem dX5_row_39 : decode cX5_row 39 = .ok (.getfield 263, 3) := by decide +kernel
theorem dX5_row_42 : decode cX5_row 42 = .ok (.iload_n 1, 1) := by decide +kernel
theorem dX5_row_43 : decode cX5_row 43 = .ok (.iastore, 1) := by decide +kernel
theorem dX5_row_44 : decode cX5_row 44 = .ok (.aload_n 0, 1) := by decide +kernel
theorem dX5_row_45 : decode cX5_row 45 = .ok (.dup, 1) := by decide +kernel
theorem dX5_row_46 : decode cX5_row 46 = .ok (.getfield 263, 3) := by decide +kernel
theorem dX5_row_49 : decode cX5_row 49 = .ok (.iconst 1, 1) := by decide +kernel
theorem dX5_row_50 : decode cX5_row 50 = .ok (.iadd, 1) := by decide +kernel
theorem dX5_row_51 : decode cX5_row 51 = .ok (.putfield 263, 3) := by decide +kernel
theorem dX5_row_54 : decode cX5_row 54 = .ok (.aload_n 0, 1) := by decide +kernel
theorem dX5_row_55 : decode cX5_row 55 = .ok (.getfield 263, 3) := by decide +kernel
theorem dX5_row_58 : decode cX5_row 58 = .ok (.ireturn, 1) := by decide +kernel
theorem dX5_judge_0 : decode cX5_judge 0 = .ok (.aload_n 0, 1) := by decide +kernel
theorem dX5_judge_1 : decode cX5_judge 1 = .ok (.getfield 263, 3) := by decide +kernel
theorem dX5_judge_4 : decode cX5_judge 4 = .ok (.istore_n 1, 1) := by decide +kernel
theorem dX5_judge_5 : decode cX5_judge 5 = .ok (.aload_n 0, 1) := by decide +kernel
theorem dX5_judge_6 : decode cX5_judge 6 = .ok (.iconst 0, 1) := by decide +kernel
theorem dX5_judge_7 : decode cX5_judge 7 = .ok (.putfield 263, 3) := by decide +kernel
theorem dX5_judge_10 : decode cX5_judge 10 = .ok (.aload_n 0, 1) := by decide +kernel
theorem dX5_judge_11 : decode cX5_judge 11 = .ok (.invokevirtual 231, 3) := by decide +kernel
theorem dX5_judge_14 : decode cX5_judge 14 = .ok (.iload_n 1, 1) := by decide +kernel
theorem dX5_judge_15 : decode cX5_judge 15 = .ok (.aload_n 0, 1) := by decide +kernel
theorem dX5_judge_16 : decode cX5_judge 16 = .ok (.getfield 205, 3) := by decide +kernel
theorem dX5_judge_19 : decode cX5_judge 19 = .ok (.if_icmp .ge 7, 3) := by decide +kernel
theorem dX5_judge_22 : decode cX5_judge 22 = .ok (.iload_n 1, 1) := by decide +kernel
theorem dX5_judge_23 : decode cX5_judge 23 = .ok (.goto 7, 3) := by decide +kernel
theorem dX5_judge_26 : decode cX5_judge 26 = .ok (.aload_n 0, 1) := by decide +kernel
theorem dX5_judge_27 : decode cX5_judge 27 = .ok (.getfield 205, 3) := by decide +kernel
theorem dX5_judge_30 : decode cX5_judge 30 = .ok (.istore_n 2, 1) := by decide +kernel
theorem dX5_judge_31 : decode cX5_judge 31 = .ok (.iconst 0, 1) := by decide +kernel
theorem dX5_judge_32 : decode cX5_judge 32 = .ok (.istore_n 3, 1) := by decide +kernel
theorem dX5_judge_33 : decode cX5_judge 33 = .ok (.iload_n 3, 1) := by decide +kernel
theorem dX5_judge_34 : decode cX5_judge 34 = .ok (.iload_n 2, 1) := by decide +kernel
theorem dX5_judge_35 : decode cX5_judge 35 = .ok (.if_icmp .ge 26, 3) := by decide +kernel
theorem dX5_judge_38 : decode cX5_judge 38 = .ok (.aload_n 0, 1) := by decide +kernel
theorem dX5_judge_39 : decode cX5_judge 39 = .ok (.getfield 94, 3) := by decide +kernel
theorem dX5_judge_42 : decode cX5_judge 42 = .ok (.iload_n 3, 1) := by decide +kernel
theorem dX5_judge_43 : decode cX5_judge 43 = .ok (.iaload, 1) := by decide +kernel
theorem dX5_judge_44 : decode cX5_judge 44 = .ok (.aload_n 0, 1) := by decide +kernel
theorem dX5_judge_45 : decode cX5_judge 45 = .ok (.getfield 64, 3) := by decide +kernel
theorem dX5_judge_48 : decode cX5_judge 48 = .ok (.iload_n 3, 1) := by decide +kernel
theorem dX5_judge_49 : decode cX5_judge 49 = .ok (.iaload, 1) := by decide +kernel
theorem dX5_judge_50 : decode cX5_judge 50 = .ok (.if_icmp .eq 5, 3) := by decide +kernel
theorem dX5_judge_53 : decode cX5_judge 53 = .ok (.iload_n 3, 1) := by decide +kernel
theorem dX5_judge_54 : decode cX5_judge 54 = .ok (.ireturn, 1) := by decide +kernel
theorem dX5_judge_55 : decode cX5_judge 55 = .ok (.iinc 3 1, 3) := by decide +kernel
theorem dX5_judge_58 : decode cX5_judge 58 = .ok (.goto (-25), 3) := by decide +kernel
theorem dX5_judge_61 : decode cX5_judge 61 = .ok (.iload_n 1, 1) := by decide +kernel
theorem dX5_judge_62 : decode cX5_judge 62 = .ok (.aload_n 0, 1) := by decide +kernel
theorem dX5_judge_63 : decode cX5_judge 63 = .ok (.getfield 205, 3) := by decide +kernel
theorem dX5_judge_66 : decode cX5_judge 66 = .ok (.if_icmp .ne 8, 3) := by decide +kernel
theorem dX5_judge_69 : decode cX5_judge 69 = .ok (.bipush (-9), 2) := by decide +kernel
theorem dX5_judge_71 : decode cX5_judge 71 = .ok (.goto 4, 3) := by decide +kernel
theorem dX5_judge_74 : decode cX5_judge 74 = .ok (.iload_n 2, 1) := by decide +kernel
theorem dX5_judge_75 : decode cX5_judge 75 = .ok (.ireturn, 1) := by decide +kernel
theorem dX5_count_0 : decode cX5_count 0 = .ok (.iload_n 1, 1) := by decide +kernel
theorem dX5_count_1 : decode cX5_count 1 = .ok (.bipush 11, 2) := by decide +kernel
theorem dX5_count_3 : decode cX5_count 3 = .ok (.bipush 16, 2) := by decide +kernel
theorem dX5_count_5 : decode cX5_count 5 = .ok (.invokestatic 119, 3) := by decide +kernel
theorem dX5_count_8 : decode cX5_count 8 = .ok (.ifCond .eq 13, 3) := by decide +kernel
theorem dX5_count_11 : decode cX5_count 11 = .ok (.aload_n 0, 1) := by decide +kernel
theorem dX5_count_12 : decode cX5_count 12 = .ok (.getfield 7, 3) := by decide +kernel
theorem dX5_count_15 : decode cX5_count 15 = .ok (.iload_n 1, 1) := by decide +kernel
theorem dX5_count_16 : decode cX5_count 16 = .ok (.bipush 10, 2) := by decide +kernel
theorem dX5_count_18 : decode cX5_count 18 = .ok (.isub, 1) := by decide +kernel
theorem dX5_count_19 : decode cX5_count 19 = .ok (.iaload, 1) := by decide +kernel
theorem dX5_count_20 : decode cX5_count 20 = .ok (.ireturn, 1) := by decide +kernel
theorem dX5_count_21 : decode cX5_count 21 = .ok (.iload_n 1, 1) := by decide +kernel
theorem dX5_count_22 : decode cX5_count 22 = .ok (.tableswitch 105 0 8 #[50, 55, 62, 69, 76, 83, 90, 95, 100], 50) := by decide +kernel
theorem dX5_count_72 : decode cX5_count 72 = .ok (.aload_n 0, 1) := by decide +kernel
theorem dX5_count_73 : decode cX5_count 73 = .ok (.getfield 97, 3) := by decide +kernel
theorem dX5_count_76 : decode cX5_count 76 = .ok (.ireturn, 1) := by decide +kernel
theorem dX5_count_77 : decode cX5_count 77 = .ok (.aload_n 0, 1) := by decide +kernel
theorem dX5_count_78 : decode cX5_count 78 = .ok (.getfield 34, 3) := by decide +kernel
theorem dX5_count_81 : decode cX5_count 81 = .ok (.iconst 0, 1) := by decide +kernel
theorem dX5_count_82 : decode cX5_count 82 = .ok (.iaload, 1) := by decide +kernel
theorem dX5_count_83 : decode cX5_count 83 = .ok (.ireturn, 1) := by decide +kernel
theorem dX5_count_84 : decode cX5_count 84 = .ok (.aload_n 0, 1) := by decide +kernel
theorem dX5_count_85 : decode cX5_count 85 = .ok (.getfield 34, 3) := by decide +kernel
theorem dX5_count_88 : decode cX5_count 88 = .ok (.iconst 1, 1) := by decide +kernel
theorem dX5_count_89 : decode cX5_count 89 = .ok (.iaload, 1) := by decide +kernel
theorem dX5_count_90 : decode cX5_count 90 = .ok (.ireturn, 1) := by decide +kernel
theorem dX5_count_91 : decode cX5_count 91 = .ok (.aload_n 0, 1) := by decide +kernel
theorem dX5_count_92 : decode cX5_count 92 = .ok (.getfield 34, 3) := by decide +kernel
theorem dX5_count_95 : decode cX5_count 95 = .ok (.iconst 2, 1) := by decide +kernel
theorem dX5_count_96 : decode cX5_count 96 = .ok (.iaload, 1) := by decide +kernel
theorem dX5_count_97 : decode cX5_count 97 = .ok (.ireturn, 1) := by decide +kernel
theorem dX5_count_98 : decode cX5_count 98 = .ok (.aload_n 0, 1) := by decide +kernel
theorem dX5_count_99 : decode cX5_count 99 = .ok (.getfield 34, 3) := by decide +kernel
theorem dX5_count_102 : decode cX5_count 102 = .ok (.iconst 4, 1) := by decide +kernel
theorem dX5_count_103 : decode cX5_count 103 = .ok (.iaload, 1) := by decide +kernel
theorem dX5_count_104 : decode cX5_count 104 = .ok (.ireturn, 1) := by decide +kernel
theorem dX5_count_105 : decode cX5_count 105 = .ok (.aload_n 0, 1) := by decide +kernel
theorem dX5_count_106 : decode cX5_count 106 = .ok (.getfield 34, 3) := by decide +kernel
theorem dX5_count_109 : decode cX5_count 109 = .ok (.iconst 3, 1) := by decide +kernel
theorem dX5_count_110 : decode cX5_count 110 = .ok (.iaload, 1) := by decide +kernel
theorem dX5_count_111 : decode cX5_count 111 = .ok (.ireturn, 1) := by decide +kernel
theorem dX5_count_112 : decode cX5_count 112 = .ok (.aload_n 0, 1) := by decide +kernel
theorem dX5_count_113 : decode cX5_count 113 = .ok (.getfield 171, 3) := by decide +kernel
theorem dX5_count_116 : decode cX5_count 116 = .ok (.ireturn, 1) := by decide +kernel
theorem dX5_count_117 : decode cX5_count 117 = .ok (.aload_n 0, 1) := by decide +kernel
theorem dX5_count_118 : decode cX5_count 118 = .ok (.getfield 263, 3) := by decide +kernel
theorem dX5_count_121 : decode cX5_count 121 = .ok (.ireturn, 1) := by decide +kernel
theorem dX5_count_122 : decode cX5_count 122 = .ok (.aload_n 0, 1) := by decide +kernel
theorem dX5_count_123 : decode cX5_count 123 = .ok (.getfield 105, 3) := by decide +kernel
theorem dX5_count_126 : decode cX5_count 126 = .ok (.ireturn, 1) := by decide +kernel
theorem dX5_count_127 : decode cX5_count 127 = .ok (.bipush (-9), 2) := by decide +kernel
theorem dX5_count_129 : decode cX5_count 129 = .ok (.ireturn, 1) := by decide +kernel
theorem dL_law_0 : decode cL_law 0 = .ok (.new 7, 3) := by decide +kernel
theorem dL_law_3 : decode cL_law 3 = .ok (.dup, 1) := by decide +kernel
theorem dL_law_4 : decode cL_law 4 = .ok (.invokespecial 9, 3) := by decide +kernel
theorem dL_law_7 : decode cL_law 7 = .ok (.astore_n 1, 1) := by decide +kernel
theorem dL_law_8 : decode cL_law 8 = .ok (.new 10, 3) := by decide +kernel
theorem dL_law_11 : decode cL_law 11 = .ok (.dup, 1) := by decide +kernel
theorem dL_law_12 : decode cL_law 12 = .ok (.invokespecial 12, 3) := by decide +kernel
theorem dL_law_15 : decode cL_law 15 = .ok (.astore_n 2, 1) := by decide +kernel
theorem dL_law_16 : decode cL_law 16 = .ok (.iconst 0, 1) := by decide +kernel
theorem dL_law_17 : decode cL_law 17 = .ok (.istore_n 3, 1) := by decide +kernel
theorem dL_law_18 : decode cL_law 18 = .ok (.iload_n 3, 1) := by decide +kernel
theorem dL_law_19 : decode cL_law 19 = .ok (.aload_n 0, 1) := by decide +kernel
theorem dL_law_20 : decode cL_law 20 = .ok (.arraylength, 1) := by decide +kernel
theorem dL_law_21 : decode cL_law 21 = .ok (.iconst 5, 1) := by decide +kernel
theorem dL_law_22 : decode cL_law 22 = .ok (.isub, 1) := by decide +kernel
theorem dL_law_23 : decode cL_law 23 = .ok (.if_icmp .gt 1000, 3) := by decide +kernel
theorem dL_law_26 : decode cL_law 26 = .ok (.aload_n 0, 1) := by decide +kernel
theorem dL_law_27 : decode cL_law 27 = .ok (.iload_n 3, 1) := by decide +kernel
theorem dL_law_28 : decode cL_law 28 = .ok (.iaload, 1) := by decide +kernel
theorem dL_law_29 : decode cL_law 29 = .ok (.bipush 63, 2) := by decide +kernel
theorem dL_law_31 : decode cL_law 31 = .ok (.iand, 1) := by decide +kernel
theorem dL_law_32 : decode cL_law 32 = .ok (.tableswitch 985 0 36 #[164, 187, 200, 233, 266, 289, 332, 355, 378, 401, 424, 447, 470, 493, 516, 539, 552, 565, 578, 591, 604, 637, 650, 663, 676, 689, 702, 715, 738, 791, 834, 867, 900, 923, 936, 949, 962], 164) := by decide +kernel
theorem dL_law_196 : decode cL_law 196 = .ok (.aload_n 1, 1) := by decide +kernel
theorem dL_law_197 : decode cL_law 197 = .ok (.aload_n 0, 1) := by decide +kernel
theorem dL_law_198 : decode cL_law 198 = .ok (.iload_n 3, 1) := by decide +kernel
theorem dL_law_199 : decode cL_law 199 = .ok (.iconst 1, 1) := by decide +kernel
theorem dL_law_200 : decode cL_law 200 = .ok (.iadd, 1) := by decide +kernel
theorem dL_law_201 : decode cL_law 201 = .ok (.iaload, 1) := by decide +kernel
theorem dL_law_202 : decode cL_law 202 = .ok (.invokevirtual 13, 3) := by decide +kernel
theorem dL_law_205 : decode cL_law 205 = .ok (.aload_n 2, 1) := by decide +kernel
theorem dL_law_206 : decode cL_law 206 = .ok (.aload_n 0, 1) := by decide +kernel
theorem dL_law_207 : decode cL_law 207 = .ok (.iload_n 3, 1) := by decide +kernel
theorem dL_law_208 : decode cL_law 208 = .ok (.iconst 1, 1) := by decide +kernel
theorem dL_law_209 : decode cL_law 209 = .ok (.iadd, 1) := by decide +kernel
theorem dL_law_210 : decode cL_law 210 = .ok (.iaload, 1) := by decide +kernel
theorem dL_law_211 : decode cL_law 211 = .ok (.invokevirtual 17, 3) := by decide +kernel
theorem dL_law_214 : decode cL_law 214 = .ok (.if_icmp .eq 803, 3) := by decide +kernel
theorem dL_law_217 : decode cL_law 217 = .ok (.iconst 0, 1) := by decide +kernel
theorem dL_law_218 : decode cL_law 218 = .ok (.ireturn, 1) := by decide +kernel
theorem dL_law_219 : decode cL_law 219 = .ok (.aload_n 1, 1) := by decide +kernel
theorem dL_law_220 : decode cL_law 220 = .ok (.invokevirtual 18, 3) := by decide +kernel
theorem dL_law_223 : decode cL_law 223 = .ok (.aload_n 2, 1) := by decide +kernel
theorem dL_law_224 : decode cL_law 224 = .ok (.invokevirtual 22, 3) := by decide +kernel
theorem dL_law_227 : decode cL_law 227 = .ok (.if_icmp .eq 790, 3) := by decide +kernel
theorem dL_law_230 : decode cL_law 230 = .ok (.iconst 0, 1) := by decide +kernel
theorem dL_law_231 : decode cL_law 231 = .ok (.ireturn, 1) := by decide +kernel
theorem dL_law_232 : decode cL_law 232 = .ok (.aload_n 1, 1) := by decide +kernel
theorem dL_law_233 : decode cL_law 233 = .ok (.aload_n 0, 1) := by decide +kernel
theorem dL_law_234 : decode cL_law 234 = .ok (.iload_n 3, 1) := by decide +kernel
theorem dL_law_235 : decode cL_law 235 = .ok (.iconst 1, 1) := by decide +kernel
theorem dL_law_236 : decode cL_law 236 = .ok (.iadd, 1) := by decide +kernel
theorem dL_law_237 : decode cL_law 237 = .ok (.iaload, 1) := by decide +kernel
theorem dL_law_238 : decode cL_law 238 = .ok (.aload_n 0, 1) := by decide +kernel
theorem dL_law_239 : decode cL_law 239 = .ok (.iload_n 3, 1) := by decide +kernel
theorem dL_law_240 : decode cL_law 240 = .ok (.iconst 2, 1) := by decide +kernel
theorem dL_law_241 : decode cL_law 241 = .ok (.iadd, 1) := by decide +kernel
theorem dL_law_242 : decode cL_law 242 = .ok (.iaload, 1) := by decide +kernel
theorem dL_law_243 : decode cL_law 243 = .ok (.invokevirtual 23, 3) := by decide +kernel
theorem dL_law_246 : decode cL_law 246 = .ok (.aload_n 2, 1) := by decide +kernel
theorem dL_law_247 : decode cL_law 247 = .ok (.aload_n 0, 1) := by decide +kernel
theorem dL_law_248 : decode cL_law 248 = .ok (.iload_n 3, 1) := by decide +kernel
theorem dL_law_249 : decode cL_law 249 = .ok (.iconst 1, 1) := by decide +kernel
theorem dL_law_250 : decode cL_law 250 = .ok (.iadd, 1) := by decide +kernel
theorem dL_law_251 : decode cL_law 251 = .ok (.iaload, 1) := by decide +kernel
theorem dL_law_252 : decode cL_law 252 = .ok (.aload_n 0, 1) := by decide +kernel
theorem dL_law_253 : decode cL_law 253 = .ok (.iload_n 3, 1) := by decide +kernel
theorem dL_law_254 : decode cL_law 254 = .ok (.iconst 2, 1) := by decide +kernel
theorem dL_law_255 : decode cL_law 255 = .ok (.iadd, 1) := by decide +kernel
theorem dL_law_256 : decode cL_law 256 = .ok (.iaload, 1) := by decide +kernel
theorem dL_law_257 : decode cL_law 257 = .ok (.invokevirtual 27, 3) := by decide +kernel
theorem dL_law_260 : decode cL_law 260 = .ok (.if_icmp .eq 757, 3) := by decide +kernel
theorem dL_law_263 : decode cL_law 263 = .ok (.iconst 0, 1) := by decide +kernel
theorem dL_law_264 : decode cL_law 264 = .ok (.ireturn, 1) := by decide +kernel
theorem dL_law_265 : decode cL_law 265 = .ok (.aload_n 1, 1) := by decide +kernel
theorem dL_law_266 : decode cL_law 266 = .ok (.aload_n 0, 1) := by decide +kernel
theorem dL_law_267 : decode cL_law 267 = .ok (.iload_n 3, 1) := by decide +kernel
theorem dL_law_268 : decode cL_law 268 = .ok (.iconst 1, 1) := by decide +kernel
theorem dL_law_269 : decode cL_law 269 = .ok (.iadd, 1) := by decide +kernel
theorem dL_law_270 : decode cL_law 270 = .ok (.iaload, 1) := by decide +kernel
theorem dL_law_271 : decode cL_law 271 = .ok (.aload_n 0, 1) := by decide +kernel
theorem dL_law_272 : decode cL_law 272 = .ok (.iload_n 3, 1) := by decide +kernel
theorem dL_law_273 : decode cL_law 273 = .ok (.iconst 2, 1) := by decide +kernel
theorem dL_law_274 : decode cL_law 274 = .ok (.iadd, 1) := by decide +kernel
theorem dL_law_275 : decode cL_law 275 = .ok (.iaload, 1) := by decide +kernel
theorem dL_law_276 : decode cL_law 276 = .ok (.invokevirtual 28, 3) := by decide +kernel
theorem dL_law_279 : decode cL_law 279 = .ok (.aload_n 2, 1) := by decide +kernel
theorem dL_law_280 : decode cL_law 280 = .ok (.aload_n 0, 1) := by decide +kernel
theorem dL_law_281 : decode cL_law 281 = .ok (.iload_n 3, 1) := by decide +kernel
theorem dL_law_282 : decode cL_law 282 = .ok (.iconst 1, 1) := by decide +kernel
theorem dL_law_283 : decode cL_law 283 = .ok (.iadd, 1) := by decide +kernel
theorem dL_law_284 : decode cL_law 284 = .ok (.iaload, 1) := by decide +kernel
theorem dL_law_285 : decode cL_law 285 = .ok (.aload_n 0, 1) := by decide +kernel
theorem dL_law_286 : decode cL_law 286 = .ok (.iload_n 3, 1) := by decide +kernel
theorem dL_law_287 : decode cL_law 287 = .ok (.iconst 2, 1) := by decide +kernel
theorem dL_law_288 : decode cL_law 288 = .ok (.iadd, 1) := by decide +kernel
theorem dL_law_289 : decode cL_law 289 = .ok (.iaload, 1) := by decide +kernel
theorem dL_law_290 : decode cL_law 290 = .ok (.invokevirtual 31, 3) := by decide +kernel
theorem dL_law_293 : decode cL_law 293 = .ok (.if_icmp .eq 724, 3) := by decide +kernel
theorem dL_law_296 : decode cL_law 296 = .ok (.iconst 0, 1) := by decide +kernel
theorem dL_law_297 : decode cL_law 297 = .ok (.ireturn, 1) := by decide +kernel
theorem dL_law_298 : decode cL_law 298 = .ok (.aload_n 1, 1) := by decide +kernel
theorem dL_law_299 : decode cL_law 299 = .ok (.aload_n 0, 1) := by decide +kernel
theorem dL_law_300 : decode cL_law 300 = .ok (.iload_n 3, 1) := by decide +kernel
theorem dL_law_301 : decode cL_law 301 = .ok (.iconst 1, 1) := by decide +kernel
theorem dL_law_302 : decode cL_law 302 = .ok (.iadd, 1) := by decide +kernel
theorem dL_law_303 : decode cL_law 303 = .ok (.iaload, 1) := by decide +kernel
theorem dL_law_304 : decode cL_law 304 = .ok (.invokevirtual 32, 3) := by decide +kernel
theorem dL_law_307 : decode cL_law 307 = .ok (.aload_n 2, 1) := by decide +kernel
theorem dL_law_308 : decode cL_law 308 = .ok (.aload_n 0, 1) := by decide +kernel
theorem dL_law_309 : decode cL_law 309 = .ok (.iload_n 3, 1) := by decide +kernel
theorem dL_law_310 : decode cL_law 310 = .ok (.iconst 1, 1) := by decide +kernel
theorem dL_law_311 : decode cL_law 311 = .ok (.iadd, 1) := by decide +kernel
theorem dL_law_312 : decode cL_law 312 = .ok (.iaload, 1) := by decide +kernel
theorem dL_law_313 : decode cL_law 313 = .ok (.invokevirtual 35, 3) := by decide +kernel
theorem dL_law_316 : decode cL_law 316 = .ok (.if_icmp .eq 701, 3) := by decide +kernel
theorem dL_law_319 : decode cL_law 319 = .ok (.iconst 0, 1) := by decide +kernel
theorem dL_law_320 : decode cL_law 320 = .ok (.ireturn, 1) := by decide +kernel
theorem dL_law_321 : decode cL_law 321 = .ok (.aload_n 1, 1) := by decide +kernel
theorem dL_law_322 : decode cL_law 322 = .ok (.aload_n 0, 1) := by decide +kernel
theorem dL_law_323 : decode cL_law 323 = .ok (.iload_n 3, 1) := by decide +kernel
theorem dL_law_324 : decode cL_law 324 = .ok (.iconst 1, 1) := by decide +kernel
theorem dL_law_325 : decode cL_law 325 = .ok (.iadd, 1) := by decide +kernel
theorem dL_law_326 : decode cL_law 326 = .ok (.iaload, 1) := by decide +kernel
theorem dL_law_327 : decode cL_law 327 = .ok (.aload_n 0, 1) := by decide +kernel
theorem dL_law_328 : decode cL_law 328 = .ok (.iload_n 3, 1) := by decide +kernel
theorem dL_law_329 : decode cL_law 329 = .ok (.iconst 2, 1) := by decide +kernel
theorem dL_law_330 : decode cL_law 330 = .ok (.iadd, 1) := by decide +kernel
theorem dL_law_331 : decode cL_law 331 = .ok (.iaload, 1) := by decide +kernel
theorem dL_law_332 : decode cL_law 332 = .ok (.aload_n 0, 1) := by decide +kernel
theorem dL_law_333 : decode cL_law 333 = .ok (.iload_n 3, 1) := by decide +kernel
theorem dL_law_334 : decode cL_law 334 = .ok (.iconst 3, 1) := by decide +kernel
theorem dL_law_335 : decode cL_law 335 = .ok (.iadd, 1) := by decide +kernel
theorem dL_law_336 : decode cL_law 336 = .ok (.iaload, 1) := by decide +kernel
theorem dL_law_337 : decode cL_law 337 = .ok (.invokevirtual 36, 3) := by decide +kernel
theorem dL_law_340 : decode cL_law 340 = .ok (.aload_n 2, 1) := by decide +kernel
theorem dL_law_341 : decode cL_law 341 = .ok (.aload_n 0, 1) := by decide +kernel
theorem dL_law_342 : decode cL_law 342 = .ok (.iload_n 3, 1) := by decide +kernel
theorem dL_law_343 : decode cL_law 343 = .ok (.iconst 1, 1) := by decide +kernel
theorem dL_law_344 : decode cL_law 344 = .ok (.iadd, 1) := by decide +kernel
theorem dL_law_345 : decode cL_law 345 = .ok (.iaload, 1) := by decide +kernel
theorem dL_law_346 : decode cL_law 346 = .ok (.aload_n 0, 1) := by decide +kernel
theorem dL_law_347 : decode cL_law 347 = .ok (.iload_n 3, 1) := by decide +kernel
theorem dL_law_348 : decode cL_law 348 = .ok (.iconst 2, 1) := by decide +kernel
theorem dL_law_349 : decode cL_law 349 = .ok (.iadd, 1) := by decide +kernel
theorem dL_law_350 : decode cL_law 350 = .ok (.iaload, 1) := by decide +kernel
theorem dL_law_351 : decode cL_law 351 = .ok (.aload_n 0, 1) := by decide +kernel
theorem dL_law_352 : decode cL_law 352 = .ok (.iload_n 3, 1) := by decide +kernel
theorem dL_law_353 : decode cL_law 353 = .ok (.iconst 3, 1) := by decide +kernel
theorem dL_law_354 : decode cL_law 354 = .ok (.iadd, 1) := by decide +kernel
theorem dL_law_355 : decode cL_law 355 = .ok (.iaload, 1) := by decide +kernel
theorem dL_law_356 : decode cL_law 356 = .ok (.invokevirtual 40, 3) := by decide +kernel
theorem dL_law_359 : decode cL_law 359 = .ok (.if_icmp .eq 658, 3) := by decide +kernel
theorem dL_law_362 : decode cL_law 362 = .ok (.iconst 0, 1) := by decide +kernel
theorem dL_law_363 : decode cL_law 363 = .ok (.ireturn, 1) := by decide +kernel
theorem dL_law_364 : decode cL_law 364 = .ok (.aload_n 1, 1) := by decide +kernel
theorem dL_law_365 : decode cL_law 365 = .ok (.aload_n 0, 1) := by decide +kernel
theorem dL_law_366 : decode cL_law 366 = .ok (.iload_n 3, 1) := by decide +kernel
theorem dL_law_367 : decode cL_law 367 = .ok (.iconst 1, 1) := by decide +kernel
theorem dL_law_368 : decode cL_law 368 = .ok (.iadd, 1) := by decide +kernel
theorem dL_law_369 : decode cL_law 369 = .ok (.iaload, 1) := by decide +kernel
theorem dL_law_370 : decode cL_law 370 = .ok (.invokevirtual 41, 3) := by decide +kernel
theorem dL_law_373 : decode cL_law 373 = .ok (.aload_n 2, 1) := by decide +kernel
theorem dL_law_374 : decode cL_law 374 = .ok (.aload_n 0, 1) := by decide +kernel
theorem dL_law_375 : decode cL_law 375 = .ok (.iload_n 3, 1) := by decide +kernel
theorem dL_law_376 : decode cL_law 376 = .ok (.iconst 1, 1) := by decide +kernel
theorem dL_law_377 : decode cL_law 377 = .ok (.iadd, 1) := by decide +kernel
theorem dL_law_378 : decode cL_law 378 = .ok (.iaload, 1) := by decide +kernel
theorem dL_law_379 : decode cL_law 379 = .ok (.invokevirtual 44, 3) := by decide +kernel
theorem dL_law_382 : decode cL_law 382 = .ok (.if_icmp .eq 635, 3) := by decide +kernel
theorem dL_law_385 : decode cL_law 385 = .ok (.iconst 0, 1) := by decide +kernel
theorem dL_law_386 : decode cL_law 386 = .ok (.ireturn, 1) := by decide +kernel
theorem dL_law_387 : decode cL_law 387 = .ok (.aload_n 1, 1) := by decide +kernel
theorem dL_law_388 : decode cL_law 388 = .ok (.aload_n 0, 1) := by decide +kernel
theorem dL_law_389 : decode cL_law 389 = .ok (.iload_n 3, 1) := by decide +kernel
theorem dL_law_390 : decode cL_law 390 = .ok (.iconst 1, 1) := by decide +kernel
theorem dL_law_391 : decode cL_law 391 = .ok (.iadd, 1) := by decide +kernel
theorem dL_law_392 : decode cL_law 392 = .ok (.iaload, 1) := by decide +kernel
theorem dL_law_393 : decode cL_law 393 = .ok (.invokevirtual 45, 3) := by decide +kernel
theorem dL_law_396 : decode cL_law 396 = .ok (.aload_n 2, 1) := by decide +kernel
theorem dL_law_397 : decode cL_law 397 = .ok (.aload_n 0, 1) := by decide +kernel
theorem dL_law_398 : decode cL_law 398 = .ok (.iload_n 3, 1) := by decide +kernel
theorem dL_law_399 : decode cL_law 399 = .ok (.iconst 1, 1) := by decide +kernel
theorem dL_law_400 : decode cL_law 400 = .ok (.iadd, 1) := by decide +kernel
theorem dL_law_401 : decode cL_law 401 = .ok (.iaload, 1) := by decide +kernel
theorem dL_law_402 : decode cL_law 402 = .ok (.invokevirtual 48, 3) := by decide +kernel
theorem dL_law_405 : decode cL_law 405 = .ok (.if_icmp .eq 612, 3) := by decide +kernel
theorem dL_law_408 : decode cL_law 408 = .ok (.iconst 0, 1) := by decide +kernel
theorem dL_law_409 : decode cL_law 409 = .ok (.ireturn, 1) := by decide +kernel
theorem dL_law_410 : decode cL_law 410 = .ok (.aload_n 1, 1) := by decide +kernel
theorem dL_law_411 : decode cL_law 411 = .ok (.aload_n 0, 1) := by decide +kernel
theorem dL_law_412 : decode cL_law 412 = .ok (.iload_n 3, 1) := by decide +kernel
theorem dL_law_413 : decode cL_law 413 = .ok (.iconst 1, 1) := by decide +kernel
theorem dL_law_414 : decode cL_law 414 = .ok (.iadd, 1) := by decide +kernel
theorem dL_law_415 : decode cL_law 415 = .ok (.iaload, 1) := by decide +kernel
theorem dL_law_416 : decode cL_law 416 = .ok (.invokevirtual 49, 3) := by decide +kernel
theorem dL_law_419 : decode cL_law 419 = .ok (.aload_n 2, 1) := by decide +kernel
theorem dL_law_420 : decode cL_law 420 = .ok (.aload_n 0, 1) := by decide +kernel
theorem dL_law_421 : decode cL_law 421 = .ok (.iload_n 3, 1) := by decide +kernel
theorem dL_law_422 : decode cL_law 422 = .ok (.iconst 1, 1) := by decide +kernel
theorem dL_law_423 : decode cL_law 423 = .ok (.iadd, 1) := by decide +kernel
theorem dL_law_424 : decode cL_law 424 = .ok (.iaload, 1) := by decide +kernel
theorem dL_law_425 : decode cL_law 425 = .ok (.invokevirtual 52, 3) := by decide +kernel
theorem dL_law_428 : decode cL_law 428 = .ok (.if_icmp .eq 589, 3) := by decide +kernel
theorem dL_law_431 : decode cL_law 431 = .ok (.iconst 0, 1) := by decide +kernel
theorem dL_law_432 : decode cL_law 432 = .ok (.ireturn, 1) := by decide +kernel
theorem dL_law_433 : decode cL_law 433 = .ok (.aload_n 1, 1) := by decide +kernel
theorem dL_law_434 : decode cL_law 434 = .ok (.aload_n 0, 1) := by decide +kernel
theorem dL_law_435 : decode cL_law 435 = .ok (.iload_n 3, 1) := by decide +kernel
theorem dL_law_436 : decode cL_law 436 = .ok (.iconst 1, 1) := by decide +kernel
theorem dL_law_437 : decode cL_law 437 = .ok (.iadd, 1) := by decide +kernel
theorem dL_law_438 : decode cL_law 438 = .ok (.iaload, 1) := by decide +kernel
theorem dL_law_439 : decode cL_law 439 = .ok (.invokevirtual 53, 3) := by decide +kernel
theorem dL_law_442 : decode cL_law 442 = .ok (.aload_n 2, 1) := by decide +kernel
theorem dL_law_443 : decode cL_law 443 = .ok (.aload_n 0, 1) := by decide +kernel
theorem dL_law_444 : decode cL_law 444 = .ok (.iload_n 3, 1) := by decide +kernel
theorem dL_law_445 : decode cL_law 445 = .ok (.iconst 1, 1) := by decide +kernel
theorem dL_law_446 : decode cL_law 446 = .ok (.iadd, 1) := by decide +kernel
theorem dL_law_447 : decode cL_law 447 = .ok (.iaload, 1) := by decide +kernel
theorem dL_law_448 : decode cL_law 448 = .ok (.invokevirtual 56, 3) := by decide +kernel
theorem dL_law_451 : decode cL_law 451 = .ok (.if_icmp .eq 566, 3) := by decide +kernel
theorem dL_law_454 : decode cL_law 454 = .ok (.iconst 0, 1) := by decide +kernel
theorem dL_law_455 : decode cL_law 455 = .ok (.ireturn, 1) := by decide +kernel
theorem dL_law_456 : decode cL_law 456 = .ok (.aload_n 1, 1) := by decide +kernel
theorem dL_law_457 : decode cL_law 457 = .ok (.aload_n 0, 1) := by decide +kernel
theorem dL_law_458 : decode cL_law 458 = .ok (.iload_n 3, 1) := by decide +kernel
theorem dL_law_459 : decode cL_law 459 = .ok (.iconst 1, 1) := by decide +kernel
theorem dL_law_460 : decode cL_law 460 = .ok (.iadd, 1) := by decide +kernel
theorem dL_law_461 : decode cL_law 461 = .ok (.iaload, 1) := by decide +kernel
theorem dL_law_462 : decode cL_law 462 = .ok (.invokevirtual 57, 3) := by decide +kernel
theorem dL_law_465 : decode cL_law 465 = .ok (.aload_n 2, 1) := by decide +kernel
theorem dL_law_466 : decode cL_law 466 = .ok (.aload_n 0, 1) := by decide +kernel
theorem dL_law_467 : decode cL_law 467 = .ok (.iload_n 3, 1) := by decide +kernel
theorem dL_law_468 : decode cL_law 468 = .ok (.iconst 1, 1) := by decide +kernel
theorem dL_law_469 : decode cL_law 469 = .ok (.iadd, 1) := by decide +kernel
theorem dL_law_470 : decode cL_law 470 = .ok (.iaload, 1) := by decide +kernel
theorem dL_law_471 : decode cL_law 471 = .ok (.invokevirtual 60, 3) := by decide +kernel
theorem dL_law_474 : decode cL_law 474 = .ok (.if_icmp .eq 543, 3) := by decide +kernel
theorem dL_law_477 : decode cL_law 477 = .ok (.iconst 0, 1) := by decide +kernel
theorem dL_law_478 : decode cL_law 478 = .ok (.ireturn, 1) := by decide +kernel
theorem dL_law_479 : decode cL_law 479 = .ok (.aload_n 1, 1) := by decide +kernel
theorem dL_law_480 : decode cL_law 480 = .ok (.aload_n 0, 1) := by decide +kernel
theorem dL_law_481 : decode cL_law 481 = .ok (.iload_n 3, 1) := by decide +kernel
theorem dL_law_482 : decode cL_law 482 = .ok (.iconst 1, 1) := by decide +kernel
theorem dL_law_483 : decode cL_law 483 = .ok (.iadd, 1) := by decide +kernel
theorem dL_law_484 : decode cL_law 484 = .ok (.iaload, 1) := by decide +kernel
theorem dL_law_485 : decode cL_law 485 = .ok (.invokevirtual 61, 3) := by decide +kernel
theorem dL_law_488 : decode cL_law 488 = .ok (.aload_n 2, 1) := by decide +kernel
theorem dL_law_489 : decode cL_law 489 = .ok (.aload_n 0, 1) := by decide +kernel
theorem dL_law_490 : decode cL_law 490 = .ok (.iload_n 3, 1) := by decide +kernel
theorem dL_law_491 : decode cL_law 491 = .ok (.iconst 1, 1) := by decide +kernel
theorem dL_law_492 : decode cL_law 492 = .ok (.iadd, 1) := by decide +kernel
theorem dL_law_493 : decode cL_law 493 = .ok (.iaload, 1) := by decide +kernel
theorem dL_law_494 : decode cL_law 494 = .ok (.invokevirtual 64, 3) := by decide +kernel
theorem dL_law_497 : decode cL_law 497 = .ok (.if_icmp .eq 520, 3) := by decide +kernel
theorem dL_law_500 : decode cL_law 500 = .ok (.iconst 0, 1) := by decide +kernel
theorem dL_law_501 : decode cL_law 501 = .ok (.ireturn, 1) := by decide +kernel
theorem dL_law_502 : decode cL_law 502 = .ok (.aload_n 1, 1) := by decide +kernel
theorem dL_law_503 : decode cL_law 503 = .ok (.aload_n 0, 1) := by decide +kernel
theorem dL_law_504 : decode cL_law 504 = .ok (.iload_n 3, 1) := by decide +kernel
theorem dL_law_505 : decode cL_law 505 = .ok (.iconst 1, 1) := by decide +kernel
theorem dL_law_506 : decode cL_law 506 = .ok (.iadd, 1) := by decide +kernel
theorem dL_law_507 : decode cL_law 507 = .ok (.iaload, 1) := by decide +kernel
theorem dL_law_508 : decode cL_law 508 = .ok (.invokevirtual 65, 3) := by decide +kernel
theorem dL_law_511 : decode cL_law 511 = .ok (.aload_n 2, 1) := by decide +kernel
theorem dL_law_512 : decode cL_law 512 = .ok (.aload_n 0, 1) := by decide +kernel
theorem dL_law_513 : decode cL_law 513 = .ok (.iload_n 3, 1) := by decide +kernel
theorem dL_law_514 : decode cL_law 514 = .ok (.iconst 1, 1) := by decide +kernel
theorem dL_law_515 : decode cL_law 515 = .ok (.iadd, 1) := by decide +kernel
theorem dL_law_516 : decode cL_law 516 = .ok (.iaload, 1) := by decide +kernel
theorem dL_law_517 : decode cL_law 517 = .ok (.invokevirtual 68, 3) := by decide +kernel
theorem dL_law_520 : decode cL_law 520 = .ok (.if_icmp .eq 497, 3) := by decide +kernel
theorem dL_law_523 : decode cL_law 523 = .ok (.iconst 0, 1) := by decide +kernel
theorem dL_law_524 : decode cL_law 524 = .ok (.ireturn, 1) := by decide +kernel
theorem dL_law_525 : decode cL_law 525 = .ok (.aload_n 1, 1) := by decide +kernel
theorem dL_law_526 : decode cL_law 526 = .ok (.aload_n 0, 1) := by decide +kernel
theorem dL_law_527 : decode cL_law 527 = .ok (.iload_n 3, 1) := by decide +kernel
theorem dL_law_528 : decode cL_law 528 = .ok (.iconst 1, 1) := by decide +kernel
theorem dL_law_529 : decode cL_law 529 = .ok (.iadd, 1) := by decide +kernel
theorem dL_law_530 : decode cL_law 530 = .ok (.iaload, 1) := by decide +kernel
theorem dL_law_531 : decode cL_law 531 = .ok (.invokevirtual 69, 3) := by decide +kernel
theorem dL_law_534 : decode cL_law 534 = .ok (.aload_n 2, 1) := by decide +kernel
theorem dL_law_535 : decode cL_law 535 = .ok (.aload_n 0, 1) := by decide +kernel
theorem dL_law_536 : decode cL_law 536 = .ok (.iload_n 3, 1) := by decide +kernel
theorem dL_law_537 : decode cL_law 537 = .ok (.iconst 1, 1) := by decide +kernel
theorem dL_law_538 : decode cL_law 538 = .ok (.iadd, 1) := by decide +kernel
theorem dL_law_539 : decode cL_law 539 = .ok (.iaload, 1) := by decide +kernel
theorem dL_law_540 : decode cL_law 540 = .ok (.invokevirtual 72, 3) := by decide +kernel
theorem dL_law_543 : decode cL_law 543 = .ok (.if_icmp .eq 474, 3) := by decide +kernel
theorem dL_law_546 : decode cL_law 546 = .ok (.iconst 0, 1) := by decide +kernel
theorem dL_law_547 : decode cL_law 547 = .ok (.ireturn, 1) := by decide +kernel
theorem dL_law_548 : decode cL_law 548 = .ok (.aload_n 1, 1) := by decide +kernel
theorem dL_law_549 : decode cL_law 549 = .ok (.aload_n 0, 1) := by decide +kernel
theorem dL_law_550 : decode cL_law 550 = .ok (.iload_n 3, 1) := by decide +kernel
theorem dL_law_551 : decode cL_law 551 = .ok (.iconst 1, 1) := by decide +kernel
theorem dL_law_552 : decode cL_law 552 = .ok (.iadd, 1) := by decide +kernel
theorem dL_law_553 : decode cL_law 553 = .ok (.iaload, 1) := by decide +kernel
theorem dL_law_554 : decode cL_law 554 = .ok (.invokevirtual 73, 3) := by decide +kernel
theorem dL_law_557 : decode cL_law 557 = .ok (.aload_n 2, 1) := by decide +kernel
theorem dL_law_558 : decode cL_law 558 = .ok (.aload_n 0, 1) := by decide +kernel
theorem dL_law_559 : decode cL_law 559 = .ok (.iload_n 3, 1) := by decide +kernel
theorem dL_law_560 : decode cL_law 560 = .ok (.iconst 1, 1) := by decide +kernel
theorem dL_law_561 : decode cL_law 561 = .ok (.iadd, 1) := by decide +kernel
theorem dL_law_562 : decode cL_law 562 = .ok (.iaload, 1) := by decide +kernel
theorem dL_law_563 : decode cL_law 563 = .ok (.invokevirtual 76, 3) := by decide +kernel
theorem dL_law_566 : decode cL_law 566 = .ok (.if_icmp .eq 451, 3) := by decide +kernel
theorem dL_law_569 : decode cL_law 569 = .ok (.iconst 0, 1) := by decide +kernel
theorem dL_law_570 : decode cL_law 570 = .ok (.ireturn, 1) := by decide +kernel
theorem dL_law_571 : decode cL_law 571 = .ok (.aload_n 1, 1) := by decide +kernel
theorem dL_law_572 : decode cL_law 572 = .ok (.invokevirtual 77, 3) := by decide +kernel
theorem dL_law_575 : decode cL_law 575 = .ok (.aload_n 2, 1) := by decide +kernel
theorem dL_law_576 : decode cL_law 576 = .ok (.invokevirtual 80, 3) := by decide +kernel
theorem dL_law_579 : decode cL_law 579 = .ok (.if_icmp .eq 438, 3) := by decide +kernel
theorem dL_law_582 : decode cL_law 582 = .ok (.iconst 0, 1) := by decide +kernel
theorem dL_law_583 : decode cL_law 583 = .ok (.ireturn, 1) := by decide +kernel
theorem dL_law_584 : decode cL_law 584 = .ok (.aload_n 1, 1) := by decide +kernel
theorem dL_law_585 : decode cL_law 585 = .ok (.invokevirtual 81, 3) := by decide +kernel
theorem dL_law_588 : decode cL_law 588 = .ok (.aload_n 2, 1) := by decide +kernel
theorem dL_law_589 : decode cL_law 589 = .ok (.invokevirtual 84, 3) := by decide +kernel
theorem dL_law_592 : decode cL_law 592 = .ok (.if_icmp .eq 425, 3) := by decide +kernel
theorem dL_law_595 : decode cL_law 595 = .ok (.iconst 0, 1) := by decide +kernel
theorem dL_law_596 : decode cL_law 596 = .ok (.ireturn, 1) := by decide +kernel
theorem dL_law_597 : decode cL_law 597 = .ok (.aload_n 1, 1) := by decide +kernel
theorem dL_law_598 : decode cL_law 598 = .ok (.invokevirtual 85, 3) := by decide +kernel
theorem dL_law_601 : decode cL_law 601 = .ok (.aload_n 2, 1) := by decide +kernel
theorem dL_law_602 : decode cL_law 602 = .ok (.invokevirtual 88, 3) := by decide +kernel
theorem dL_law_605 : decode cL_law 605 = .ok (.if_icmp .eq 412, 3) := by decide +kernel
theorem dL_law_608 : decode cL_law 608 = .ok (.iconst 0, 1) := by decide +kernel
theorem dL_law_609 : decode cL_law 609 = .ok (.ireturn, 1) := by decide +kernel
theorem dL_law_610 : decode cL_law 610 = .ok (.aload_n 1, 1) := by decide +kernel
theorem dL_law_611 : decode cL_law 611 = .ok (.invokevirtual 89, 3) := by decide +kernel
theorem dL_law_614 : decode cL_law 614 = .ok (.aload_n 2, 1) := by decide +kernel
theorem dL_law_615 : decode cL_law 615 = .ok (.invokevirtual 92, 3) := by decide +kernel
theorem dL_law_618 : decode cL_law 618 = .ok (.if_icmp .eq 399, 3) := by decide +kernel
theorem dL_law_621 : decode cL_law 621 = .ok (.iconst 0, 1) := by decide +kernel
theorem dL_law_622 : decode cL_law 622 = .ok (.ireturn, 1) := by decide +kernel
theorem dL_law_623 : decode cL_law 623 = .ok (.aload_n 1, 1) := by decide +kernel
theorem dL_law_624 : decode cL_law 624 = .ok (.invokevirtual 93, 3) := by decide +kernel
theorem dL_law_627 : decode cL_law 627 = .ok (.aload_n 2, 1) := by decide +kernel
theorem dL_law_628 : decode cL_law 628 = .ok (.invokevirtual 96, 3) := by decide +kernel
theorem dL_law_631 : decode cL_law 631 = .ok (.if_icmp .eq 386, 3) := by decide +kernel
theorem dL_law_634 : decode cL_law 634 = .ok (.iconst 0, 1) := by decide +kernel
theorem dL_law_635 : decode cL_law 635 = .ok (.ireturn, 1) := by decide +kernel
theorem dL_law_636 : decode cL_law 636 = .ok (.aload_n 1, 1) := by decide +kernel
theorem dL_law_637 : decode cL_law 637 = .ok (.aload_n 0, 1) := by decide +kernel
theorem dL_law_638 : decode cL_law 638 = .ok (.iload_n 3, 1) := by decide +kernel
theorem dL_law_639 : decode cL_law 639 = .ok (.iconst 1, 1) := by decide +kernel
theorem dL_law_640 : decode cL_law 640 = .ok (.iadd, 1) := by decide +kernel
theorem dL_law_641 : decode cL_law 641 = .ok (.iaload, 1) := by decide +kernel
theorem dL_law_642 : decode cL_law 642 = .ok (.aload_n 0, 1) := by decide +kernel
theorem dL_law_643 : decode cL_law 643 = .ok (.iload_n 3, 1) := by decide +kernel
theorem dL_law_644 : decode cL_law 644 = .ok (.iconst 2, 1) := by decide +kernel
theorem dL_law_645 : decode cL_law 645 = .ok (.iadd, 1) := by decide +kernel
theorem dL_law_646 : decode cL_law 646 = .ok (.iaload, 1) := by decide +kernel
theorem dL_law_647 : decode cL_law 647 = .ok (.invokevirtual 97, 3) := by decide +kernel
theorem dL_law_650 : decode cL_law 650 = .ok (.aload_n 2, 1) := by decide +kernel
theorem dL_law_651 : decode cL_law 651 = .ok (.aload_n 0, 1) := by decide +kernel
theorem dL_law_652 : decode cL_law 652 = .ok (.iload_n 3, 1) := by decide +kernel
theorem dL_law_653 : decode cL_law 653 = .ok (.iconst 1, 1) := by decide +kernel
theorem dL_law_654 : decode cL_law 654 = .ok (.iadd, 1) := by decide +kernel
theorem dL_law_655 : decode cL_law 655 = .ok (.iaload, 1) := by decide +kernel
theorem dL_law_656 : decode cL_law 656 = .ok (.aload_n 0, 1) := by decide +kernel
theorem dL_law_657 : decode cL_law 657 = .ok (.iload_n 3, 1) := by decide +kernel
theorem dL_law_658 : decode cL_law 658 = .ok (.iconst 2, 1) := by decide +kernel
theorem dL_law_659 : decode cL_law 659 = .ok (.iadd, 1) := by decide +kernel
theorem dL_law_660 : decode cL_law 660 = .ok (.iaload, 1) := by decide +kernel
theorem dL_law_661 : decode cL_law 661 = .ok (.invokevirtual 100, 3) := by decide +kernel
theorem dL_law_664 : decode cL_law 664 = .ok (.if_icmp .eq 353, 3) := by decide +kernel
theorem dL_law_667 : decode cL_law 667 = .ok (.iconst 0, 1) := by decide +kernel
theorem dL_law_668 : decode cL_law 668 = .ok (.ireturn, 1) := by decide +kernel
theorem dL_law_669 : decode cL_law 669 = .ok (.aload_n 1, 1) := by decide +kernel
theorem dL_law_670 : decode cL_law 670 = .ok (.invokevirtual 101, 3) := by decide +kernel
theorem dL_law_673 : decode cL_law 673 = .ok (.aload_n 2, 1) := by decide +kernel
theorem dL_law_674 : decode cL_law 674 = .ok (.invokevirtual 104, 3) := by decide +kernel
theorem dL_law_677 : decode cL_law 677 = .ok (.if_icmp .eq 340, 3) := by decide +kernel
theorem dL_law_680 : decode cL_law 680 = .ok (.iconst 0, 1) := by decide +kernel
theorem dL_law_681 : decode cL_law 681 = .ok (.ireturn, 1) := by decide +kernel
theorem dL_law_682 : decode cL_law 682 = .ok (.aload_n 1, 1) := by decide +kernel
theorem dL_law_683 : decode cL_law 683 = .ok (.invokevirtual 105, 3) := by decide +kernel
theorem dL_law_686 : decode cL_law 686 = .ok (.aload_n 2, 1) := by decide +kernel
theorem dL_law_687 : decode cL_law 687 = .ok (.invokevirtual 108, 3) := by decide +kernel
theorem dL_law_690 : decode cL_law 690 = .ok (.if_icmp .eq 327, 3) := by decide +kernel
theorem dL_law_693 : decode cL_law 693 = .ok (.iconst 0, 1) := by decide +kernel
theorem dL_law_694 : decode cL_law 694 = .ok (.ireturn, 1) := by decide +kernel
theorem dL_law_695 : decode cL_law 695 = .ok (.aload_n 1, 1) := by decide +kernel
theorem dL_law_696 : decode cL_law 696 = .ok (.invokevirtual 109, 3) := by decide +kernel
theorem dL_law_699 : decode cL_law 699 = .ok (.aload_n 2, 1) := by decide +kernel
theorem dL_law_700 : decode cL_law 700 = .ok (.invokevirtual 112, 3) := by decide +kernel
theorem dL_law_703 : decode cL_law 703 = .ok (.if_icmp .eq 314, 3) := by decide +kernel
theorem dL_law_706 : decode cL_law 706 = .ok (.iconst 0, 1) := by decide +kernel
theorem dL_law_707 : decode cL_law 707 = .ok (.ireturn, 1) := by decide +kernel
theorem dL_law_708 : decode cL_law 708 = .ok (.aload_n 1, 1) := by decide +kernel
theorem dL_law_709 : decode cL_law 709 = .ok (.invokevirtual 113, 3) := by decide +kernel
theorem dL_law_712 : decode cL_law 712 = .ok (.aload_n 2, 1) := by decide +kernel
theorem dL_law_713 : decode cL_law 713 = .ok (.invokevirtual 116, 3) := by decide +kernel
theorem dL_law_716 : decode cL_law 716 = .ok (.if_icmp .eq 301, 3) := by decide +kernel
theorem dL_law_719 : decode cL_law 719 = .ok (.iconst 0, 1) := by decide +kernel
theorem dL_law_720 : decode cL_law 720 = .ok (.ireturn, 1) := by decide +kernel
theorem dL_law_721 : decode cL_law 721 = .ok (.aload_n 1, 1) := by decide +kernel
theorem dL_law_722 : decode cL_law 722 = .ok (.invokevirtual 117, 3) := by decide +kernel
theorem dL_law_725 : decode cL_law 725 = .ok (.aload_n 2, 1) := by decide +kernel
theorem dL_law_726 : decode cL_law 726 = .ok (.invokevirtual 120, 3) := by decide +kernel
theorem dL_law_729 : decode cL_law 729 = .ok (.if_icmp .eq 288, 3) := by decide +kernel
theorem dL_law_732 : decode cL_law 732 = .ok (.iconst 0, 1) := by decide +kernel
theorem dL_law_733 : decode cL_law 733 = .ok (.ireturn, 1) := by decide +kernel
theorem dL_law_734 : decode cL_law 734 = .ok (.aload_n 1, 1) := by decide +kernel
theorem dL_law_735 : decode cL_law 735 = .ok (.invokevirtual 121, 3) := by decide +kernel
theorem dL_law_738 : decode cL_law 738 = .ok (.aload_n 2, 1) := by decide +kernel
theorem dL_law_739 : decode cL_law 739 = .ok (.invokevirtual 124, 3) := by decide +kernel
theorem dL_law_742 : decode cL_law 742 = .ok (.if_icmp .eq 275, 3) := by decide +kernel
theorem dL_law_745 : decode cL_law 745 = .ok (.iconst 0, 1) := by decide +kernel
theorem dL_law_746 : decode cL_law 746 = .ok (.ireturn, 1) := by decide +kernel
theorem dL_law_747 : decode cL_law 747 = .ok (.aload_n 1, 1) := by decide +kernel
theorem dL_law_748 : decode cL_law 748 = .ok (.aload_n 0, 1) := by decide +kernel
theorem dL_law_749 : decode cL_law 749 = .ok (.iload_n 3, 1) := by decide +kernel
theorem dL_law_750 : decode cL_law 750 = .ok (.iconst 1, 1) := by decide +kernel
theorem dL_law_751 : decode cL_law 751 = .ok (.iadd, 1) := by decide +kernel
theorem dL_law_752 : decode cL_law 752 = .ok (.iaload, 1) := by decide +kernel
theorem dL_law_753 : decode cL_law 753 = .ok (.invokevirtual 125, 3) := by decide +kernel
theorem dL_law_756 : decode cL_law 756 = .ok (.aload_n 2, 1) := by decide +kernel
theorem dL_law_757 : decode cL_law 757 = .ok (.aload_n 0, 1) := by decide +kernel
theorem dL_law_758 : decode cL_law 758 = .ok (.iload_n 3, 1) := by decide +kernel
theorem dL_law_759 : decode cL_law 759 = .ok (.iconst 1, 1) := by decide +kernel
theorem dL_law_760 : decode cL_law 760 = .ok (.iadd, 1) := by decide +kernel
theorem dL_law_761 : decode cL_law 761 = .ok (.iaload, 1) := by decide +kernel
theorem dL_law_762 : decode cL_law 762 = .ok (.invokevirtual 128, 3) := by decide +kernel
theorem dL_law_765 : decode cL_law 765 = .ok (.if_icmp .eq 252, 3) := by decide +kernel
theorem dL_law_768 : decode cL_law 768 = .ok (.iconst 0, 1) := by decide +kernel
theorem dL_law_769 : decode cL_law 769 = .ok (.ireturn, 1) := by decide +kernel
theorem dL_law_770 : decode cL_law 770 = .ok (.aload_n 1, 1) := by decide +kernel
theorem dL_law_771 : decode cL_law 771 = .ok (.aload_n 0, 1) := by decide +kernel
theorem dL_law_772 : decode cL_law 772 = .ok (.iload_n 3, 1) := by decide +kernel
theorem dL_law_773 : decode cL_law 773 = .ok (.iconst 1, 1) := by decide +kernel
theorem dL_law_774 : decode cL_law 774 = .ok (.iadd, 1) := by decide +kernel
theorem dL_law_775 : decode cL_law 775 = .ok (.iaload, 1) := by decide +kernel
theorem dL_law_776 : decode cL_law 776 = .ok (.aload_n 0, 1) := by decide +kernel
theorem dL_law_777 : decode cL_law 777 = .ok (.iload_n 3, 1) := by decide +kernel
theorem dL_law_778 : decode cL_law 778 = .ok (.iconst 2, 1) := by decide +kernel
theorem dL_law_779 : decode cL_law 779 = .ok (.iadd, 1) := by decide +kernel
theorem dL_law_780 : decode cL_law 780 = .ok (.iaload, 1) := by decide +kernel
theorem dL_law_781 : decode cL_law 781 = .ok (.aload_n 0, 1) := by decide +kernel
theorem dL_law_782 : decode cL_law 782 = .ok (.iload_n 3, 1) := by decide +kernel
theorem dL_law_783 : decode cL_law 783 = .ok (.iconst 3, 1) := by decide +kernel
theorem dL_law_784 : decode cL_law 784 = .ok (.iadd, 1) := by decide +kernel
theorem dL_law_785 : decode cL_law 785 = .ok (.iaload, 1) := by decide +kernel
theorem dL_law_786 : decode cL_law 786 = .ok (.aload_n 0, 1) := by decide +kernel
theorem dL_law_787 : decode cL_law 787 = .ok (.iload_n 3, 1) := by decide +kernel
theorem dL_law_788 : decode cL_law 788 = .ok (.iconst 4, 1) := by decide +kernel
theorem dL_law_789 : decode cL_law 789 = .ok (.iadd, 1) := by decide +kernel
theorem dL_law_790 : decode cL_law 790 = .ok (.iaload, 1) := by decide +kernel
theorem dL_law_791 : decode cL_law 791 = .ok (.invokevirtual 129, 3) := by decide +kernel
theorem dL_law_794 : decode cL_law 794 = .ok (.aload_n 2, 1) := by decide +kernel
theorem dL_law_795 : decode cL_law 795 = .ok (.aload_n 0, 1) := by decide +kernel
theorem dL_law_796 : decode cL_law 796 = .ok (.iload_n 3, 1) := by decide +kernel
theorem dL_law_797 : decode cL_law 797 = .ok (.iconst 1, 1) := by decide +kernel
theorem dL_law_798 : decode cL_law 798 = .ok (.iadd, 1) := by decide +kernel
theorem dL_law_799 : decode cL_law 799 = .ok (.iaload, 1) := by decide +kernel
theorem dL_law_800 : decode cL_law 800 = .ok (.aload_n 0, 1) := by decide +kernel
theorem dL_law_801 : decode cL_law 801 = .ok (.iload_n 3, 1) := by decide +kernel
theorem dL_law_802 : decode cL_law 802 = .ok (.iconst 2, 1) := by decide +kernel
theorem dL_law_803 : decode cL_law 803 = .ok (.iadd, 1) := by decide +kernel
theorem dL_law_804 : decode cL_law 804 = .ok (.iaload, 1) := by decide +kernel
theorem dL_law_805 : decode cL_law 805 = .ok (.aload_n 0, 1) := by decide +kernel
theorem dL_law_806 : decode cL_law 806 = .ok (.iload_n 3, 1) := by decide +kernel
theorem dL_law_807 : decode cL_law 807 = .ok (.iconst 3, 1) := by decide +kernel
theorem dL_law_808 : decode cL_law 808 = .ok (.iadd, 1) := by decide +kernel
theorem dL_law_809 : decode cL_law 809 = .ok (.iaload, 1) := by decide +kernel
theorem dL_law_810 : decode cL_law 810 = .ok (.aload_n 0, 1) := by decide +kernel
theorem dL_law_811 : decode cL_law 811 = .ok (.iload_n 3, 1) := by decide +kernel
theorem dL_law_812 : decode cL_law 812 = .ok (.iconst 4, 1) := by decide +kernel
theorem dL_law_813 : decode cL_law 813 = .ok (.iadd, 1) := by decide +kernel
theorem dL_law_814 : decode cL_law 814 = .ok (.iaload, 1) := by decide +kernel
theorem dL_law_815 : decode cL_law 815 = .ok (.invokevirtual 133, 3) := by decide +kernel
theorem dL_law_818 : decode cL_law 818 = .ok (.if_icmp .eq 199, 3) := by decide +kernel
theorem dL_law_821 : decode cL_law 821 = .ok (.iconst 0, 1) := by decide +kernel
theorem dL_law_822 : decode cL_law 822 = .ok (.ireturn, 1) := by decide +kernel
theorem dL_law_823 : decode cL_law 823 = .ok (.aload_n 1, 1) := by decide +kernel
theorem dL_law_824 : decode cL_law 824 = .ok (.aload_n 0, 1) := by decide +kernel
theorem dL_law_825 : decode cL_law 825 = .ok (.iload_n 3, 1) := by decide +kernel
theorem dL_law_826 : decode cL_law 826 = .ok (.iconst 1, 1) := by decide +kernel
theorem dL_law_827 : decode cL_law 827 = .ok (.iadd, 1) := by decide +kernel
theorem dL_law_828 : decode cL_law 828 = .ok (.iaload, 1) := by decide +kernel
theorem dL_law_829 : decode cL_law 829 = .ok (.aload_n 0, 1) := by decide +kernel
theorem dL_law_830 : decode cL_law 830 = .ok (.iload_n 3, 1) := by decide +kernel
theorem dL_law_831 : decode cL_law 831 = .ok (.iconst 2, 1) := by decide +kernel
theorem dL_law_832 : decode cL_law 832 = .ok (.iadd, 1) := by decide +kernel
theorem dL_law_833 : decode cL_law 833 = .ok (.iaload, 1) := by decide +kernel
theorem dL_law_834 : decode cL_law 834 = .ok (.aload_n 0, 1) := by decide +kernel
theorem dL_law_835 : decode cL_law 835 = .ok (.iload_n 3, 1) := by decide +kernel
theorem dL_law_836 : decode cL_law 836 = .ok (.iconst 3, 1) := by decide +kernel
theorem dL_law_837 : decode cL_law 837 = .ok (.iadd, 1) := by decide +kernel
theorem dL_law_838 : decode cL_law 838 = .ok (.iaload, 1) := by decide +kernel
theorem dL_law_839 : decode cL_law 839 = .ok (.invokevirtual 134, 3) := by decide +kernel
theorem dL_law_842 : decode cL_law 842 = .ok (.aload_n 2, 1) := by decide +kernel
theorem dL_law_843 : decode cL_law 843 = .ok (.aload_n 0, 1) := by decide +kernel
theorem dL_law_844 : decode cL_law 844 = .ok (.iload_n 3, 1) := by decide +kernel
theorem dL_law_845 : decode cL_law 845 = .ok (.iconst 1, 1) := by decide +kernel
theorem dL_law_846 : decode cL_law 846 = .ok (.iadd, 1) := by decide +kernel
theorem dL_law_847 : decode cL_law 847 = .ok (.iaload, 1) := by decide +kernel
theorem dL_law_848 : decode cL_law 848 = .ok (.aload_n 0, 1) := by decide +kernel
theorem dL_law_849 : decode cL_law 849 = .ok (.iload_n 3, 1) := by decide +kernel
theorem dL_law_850 : decode cL_law 850 = .ok (.iconst 2, 1) := by decide +kernel
theorem dL_law_851 : decode cL_law 851 = .ok (.iadd, 1) := by decide +kernel
theorem dL_law_852 : decode cL_law 852 = .ok (.iaload, 1) := by decide +kernel
theorem dL_law_853 : decode cL_law 853 = .ok (.aload_n 0, 1) := by decide +kernel
theorem dL_law_854 : decode cL_law 854 = .ok (.iload_n 3, 1) := by decide +kernel
theorem dL_law_855 : decode cL_law 855 = .ok (.iconst 3, 1) := by decide +kernel
theorem dL_law_856 : decode cL_law 856 = .ok (.iadd, 1) := by decide +kernel
theorem dL_law_857 : decode cL_law 857 = .ok (.iaload, 1) := by decide +kernel
theorem dL_law_858 : decode cL_law 858 = .ok (.invokevirtual 137, 3) := by decide +kernel
theorem dL_law_861 : decode cL_law 861 = .ok (.if_icmp .eq 156, 3) := by decide +kernel
theorem dL_law_864 : decode cL_law 864 = .ok (.iconst 0, 1) := by decide +kernel
theorem dL_law_865 : decode cL_law 865 = .ok (.ireturn, 1) := by decide +kernel
theorem dL_law_866 : decode cL_law 866 = .ok (.aload_n 1, 1) := by decide +kernel
theorem dL_law_867 : decode cL_law 867 = .ok (.aload_n 0, 1) := by decide +kernel
theorem dL_law_868 : decode cL_law 868 = .ok (.iload_n 3, 1) := by decide +kernel
theorem dL_law_869 : decode cL_law 869 = .ok (.iconst 1, 1) := by decide +kernel
theorem dL_law_870 : decode cL_law 870 = .ok (.iadd, 1) := by decide +kernel
theorem dL_law_871 : decode cL_law 871 = .ok (.iaload, 1) := by decide +kernel
theorem dL_law_872 : decode cL_law 872 = .ok (.aload_n 0, 1) := by decide +kernel
theorem dL_law_873 : decode cL_law 873 = .ok (.iload_n 3, 1) := by decide +kernel
theorem dL_law_874 : decode cL_law 874 = .ok (.iconst 2, 1) := by decide +kernel
theorem dL_law_875 : decode cL_law 875 = .ok (.iadd, 1) := by decide +kernel
theorem dL_law_876 : decode cL_law 876 = .ok (.iaload, 1) := by decide +kernel
theorem dL_law_877 : decode cL_law 877 = .ok (.invokevirtual 138, 3) := by decide +kernel
theorem dL_law_880 : decode cL_law 880 = .ok (.aload_n 2, 1) := by decide +kernel
theorem dL_law_881 : decode cL_law 881 = .ok (.aload_n 0, 1) := by decide +kernel
theorem dL_law_882 : decode cL_law 882 = .ok (.iload_n 3, 1) := by decide +kernel
theorem dL_law_883 : decode cL_law 883 = .ok (.iconst 1, 1) := by decide +kernel
theorem dL_law_884 : decode cL_law 884 = .ok (.iadd, 1) := by decide +kernel
theorem dL_law_885 : decode cL_law 885 = .ok (.iaload, 1) := by decide +kernel
theorem dL_law_886 : decode cL_law 886 = .ok (.aload_n 0, 1) := by decide +kernel
theorem dL_law_887 : decode cL_law 887 = .ok (.iload_n 3, 1) := by decide +kernel
theorem dL_law_888 : decode cL_law 888 = .ok (.iconst 2, 1) := by decide +kernel
theorem dL_law_889 : decode cL_law 889 = .ok (.iadd, 1) := by decide +kernel
theorem dL_law_890 : decode cL_law 890 = .ok (.iaload, 1) := by decide +kernel
theorem dL_law_891 : decode cL_law 891 = .ok (.invokevirtual 141, 3) := by decide +kernel
theorem dL_law_894 : decode cL_law 894 = .ok (.if_icmp .eq 123, 3) := by decide +kernel
theorem dL_law_897 : decode cL_law 897 = .ok (.iconst 0, 1) := by decide +kernel
theorem dL_law_898 : decode cL_law 898 = .ok (.ireturn, 1) := by decide +kernel
theorem dL_law_899 : decode cL_law 899 = .ok (.aload_n 1, 1) := by decide +kernel
theorem dL_law_900 : decode cL_law 900 = .ok (.aload_n 0, 1) := by decide +kernel
theorem dL_law_901 : decode cL_law 901 = .ok (.iload_n 3, 1) := by decide +kernel
theorem dL_law_902 : decode cL_law 902 = .ok (.iconst 1, 1) := by decide +kernel
theorem dL_law_903 : decode cL_law 903 = .ok (.iadd, 1) := by decide +kernel
theorem dL_law_904 : decode cL_law 904 = .ok (.iaload, 1) := by decide +kernel
theorem dL_law_905 : decode cL_law 905 = .ok (.aload_n 0, 1) := by decide +kernel
theorem dL_law_906 : decode cL_law 906 = .ok (.iload_n 3, 1) := by decide +kernel
theorem dL_law_907 : decode cL_law 907 = .ok (.iconst 2, 1) := by decide +kernel
theorem dL_law_908 : decode cL_law 908 = .ok (.iadd, 1) := by decide +kernel
theorem dL_law_909 : decode cL_law 909 = .ok (.iaload, 1) := by decide +kernel
theorem dL_law_910 : decode cL_law 910 = .ok (.invokevirtual 142, 3) := by decide +kernel
theorem dL_law_913 : decode cL_law 913 = .ok (.aload_n 2, 1) := by decide +kernel
theorem dL_law_914 : decode cL_law 914 = .ok (.aload_n 0, 1) := by decide +kernel
theorem dL_law_915 : decode cL_law 915 = .ok (.iload_n 3, 1) := by decide +kernel
theorem dL_law_916 : decode cL_law 916 = .ok (.iconst 1, 1) := by decide +kernel
theorem dL_law_917 : decode cL_law 917 = .ok (.iadd, 1) := by decide +kernel
theorem dL_law_918 : decode cL_law 918 = .ok (.iaload, 1) := by decide +kernel
theorem dL_law_919 : decode cL_law 919 = .ok (.aload_n 0, 1) := by decide +kernel
theorem dL_law_920 : decode cL_law 920 = .ok (.iload_n 3, 1) := by decide +kernel
theorem dL_law_921 : decode cL_law 921 = .ok (.iconst 2, 1) := by decide +kernel
theorem dL_law_922 : decode cL_law 922 = .ok (.iadd, 1) := by decide +kernel
theorem dL_law_923 : decode cL_law 923 = .ok (.iaload, 1) := by decide +kernel
theorem dL_law_924 : decode cL_law 924 = .ok (.invokevirtual 145, 3) := by decide +kernel
theorem dL_law_927 : decode cL_law 927 = .ok (.if_icmp .eq 90, 3) := by decide +kernel
theorem dL_law_930 : decode cL_law 930 = .ok (.iconst 0, 1) := by decide +kernel
theorem dL_law_931 : decode cL_law 931 = .ok (.ireturn, 1) := by decide +kernel
theorem dL_law_932 : decode cL_law 932 = .ok (.aload_n 1, 1) := by decide +kernel
theorem dL_law_933 : decode cL_law 933 = .ok (.aload_n 0, 1) := by decide +kernel
theorem dL_law_934 : decode cL_law 934 = .ok (.iload_n 3, 1) := by decide +kernel
theorem dL_law_935 : decode cL_law 935 = .ok (.iconst 1, 1) := by decide +kernel
theorem dL_law_936 : decode cL_law 936 = .ok (.iadd, 1) := by decide +kernel
theorem dL_law_937 : decode cL_law 937 = .ok (.iaload, 1) := by decide +kernel
theorem dL_law_938 : decode cL_law 938 = .ok (.invokevirtual 146, 3) := by decide +kernel
theorem dL_law_941 : decode cL_law 941 = .ok (.aload_n 2, 1) := by decide +kernel
theorem dL_law_942 : decode cL_law 942 = .ok (.aload_n 0, 1) := by decide +kernel
theorem dL_law_943 : decode cL_law 943 = .ok (.iload_n 3, 1) := by decide +kernel
theorem dL_law_944 : decode cL_law 944 = .ok (.iconst 1, 1) := by decide +kernel
theorem dL_law_945 : decode cL_law 945 = .ok (.iadd, 1) := by decide +kernel
theorem dL_law_946 : decode cL_law 946 = .ok (.iaload, 1) := by decide +kernel
theorem dL_law_947 : decode cL_law 947 = .ok (.invokevirtual 149, 3) := by decide +kernel
theorem dL_law_950 : decode cL_law 950 = .ok (.if_icmp .eq 67, 3) := by decide +kernel
theorem dL_law_953 : decode cL_law 953 = .ok (.iconst 0, 1) := by decide +kernel
theorem dL_law_954 : decode cL_law 954 = .ok (.ireturn, 1) := by decide +kernel
theorem dL_law_955 : decode cL_law 955 = .ok (.aload_n 1, 1) := by decide +kernel
theorem dL_law_956 : decode cL_law 956 = .ok (.invokevirtual 150, 3) := by decide +kernel
theorem dL_law_959 : decode cL_law 959 = .ok (.aload_n 2, 1) := by decide +kernel
theorem dL_law_960 : decode cL_law 960 = .ok (.invokevirtual 153, 3) := by decide +kernel
theorem dL_law_963 : decode cL_law 963 = .ok (.if_icmp .eq 54, 3) := by decide +kernel
theorem dL_law_966 : decode cL_law 966 = .ok (.iconst 0, 1) := by decide +kernel
theorem dL_law_967 : decode cL_law 967 = .ok (.ireturn, 1) := by decide +kernel
theorem dL_law_968 : decode cL_law 968 = .ok (.aload_n 1, 1) := by decide +kernel
theorem dL_law_969 : decode cL_law 969 = .ok (.invokevirtual 154, 3) := by decide +kernel
theorem dL_law_972 : decode cL_law 972 = .ok (.aload_n 2, 1) := by decide +kernel
theorem dL_law_973 : decode cL_law 973 = .ok (.invokevirtual 157, 3) := by decide +kernel
theorem dL_law_976 : decode cL_law 976 = .ok (.if_icmp .eq 41, 3) := by decide +kernel
theorem dL_law_979 : decode cL_law 979 = .ok (.iconst 0, 1) := by decide +kernel
theorem dL_law_980 : decode cL_law 980 = .ok (.ireturn, 1) := by decide +kernel
theorem dL_law_981 : decode cL_law 981 = .ok (.aload_n 1, 1) := by decide +kernel
theorem dL_law_982 : decode cL_law 982 = .ok (.invokevirtual 158, 3) := by decide +kernel
theorem dL_law_985 : decode cL_law 985 = .ok (.aload_n 2, 1) := by decide +kernel
theorem dL_law_986 : decode cL_law 986 = .ok (.invokevirtual 161, 3) := by decide +kernel
theorem dL_law_989 : decode cL_law 989 = .ok (.if_icmp .eq 28, 3) := by decide +kernel
theorem dL_law_992 : decode cL_law 992 = .ok (.iconst 0, 1) := by decide +kernel
theorem dL_law_993 : decode cL_law 993 = .ok (.ireturn, 1) := by decide +kernel
theorem dL_law_994 : decode cL_law 994 = .ok (.aload_n 1, 1) := by decide +kernel
theorem dL_law_995 : decode cL_law 995 = .ok (.aload_n 0, 1) := by decide +kernel
theorem dL_law_996 : decode cL_law 996 = .ok (.iload_n 3, 1) := by decide +kernel
theorem dL_law_997 : decode cL_law 997 = .ok (.iconst 1, 1) := by decide +kernel
theorem dL_law_998 : decode cL_law 998 = .ok (.iadd, 1) := by decide +kernel
theorem dL_law_999 : decode cL_law 999 = .ok (.iaload, 1) := by decide +kernel
theorem dL_law_1000 : decode cL_law 1000 = .ok (.invokevirtual 162, 3) := by decide +kernel
theorem dL_law_1003 : decode cL_law 1003 = .ok (.aload_n 2, 1) := by decide +kernel
theorem dL_law_1004 : decode cL_law 1004 = .ok (.aload_n 0, 1) := by decide +kernel
theorem dL_law_1005 : decode cL_law 1005 = .ok (.iload_n 3, 1) := by decide +kernel
theorem dL_law_1006 : decode cL_law 1006 = .ok (.iconst 1, 1) := by decide +kernel
theorem dL_law_1007 : decode cL_law 1007 = .ok (.iadd, 1) := by decide +kernel
theorem dL_law_1008 : decode cL_law 1008 = .ok (.iaload, 1) := by decide +kernel
theorem dL_law_1009 : decode cL_law 1009 = .ok (.invokevirtual 165, 3) := by decide +kernel
theorem dL_law_1012 : decode cL_law 1012 = .ok (.if_icmp .eq 5, 3) := by decide +kernel
theorem dL_law_1015 : decode cL_law 1015 = .ok (.iconst 0, 1) := by decide +kernel
theorem dL_law_1016 : decode cL_law 1016 = .ok (.ireturn, 1) := by decide +kernel
theorem dL_law_1017 : decode cL_law 1017 = .ok (.iinc 3 5, 3) := by decide +kernel
theorem dL_law_1020 : decode cL_law 1020 = .ok (.goto (-1002), 3) := by decide +kernel
theorem dL_law_1023 : decode cL_law 1023 = .ok (.iconst 1, 1) := by decide +kernel
theorem dL_law_1024 : decode cL_law 1024 = .ok (.ireturn, 1) := by decide +kernel

theorem dX9_init_0 : decode cX9_init 0 = .ok (.aload_n 0, 1) := by decide +kernel
theorem dX9_init_1 : decode cX9_init 1 = .ok (.invokespecial 1, 3) := by decide +kernel
theorem dX9_init_4 : decode cX9_init 4 = .ok (.aload_n 0, 1) := by decide +kernel
theorem dX9_init_5 : decode cX9_init 5 = .ok (.sipush 2400, 3) := by decide +kernel
theorem dX9_init_8 : decode cX9_init 8 = .ok (.newarray .int, 2) := by decide +kernel
theorem dX9_init_10 : decode cX9_init 10 = .ok (.putfield 7, 3) := by decide +kernel
theorem dX9_init_13 : decode cX9_init 13 = .ok (.aload_n 0, 1) := by decide +kernel
theorem dX9_init_14 : decode cX9_init 14 = .ok (.sipush 12000, 3) := by decide +kernel
theorem dX9_init_17 : decode cX9_init 17 = .ok (.newarray .int, 2) := by decide +kernel
theorem dX9_init_19 : decode cX9_init 19 = .ok (.putfield 13, 3) := by decide +kernel
theorem dX9_init_22 : decode cX9_init 22 = .ok (.aload_n 0, 1) := by decide +kernel
theorem dX9_init_23 : decode cX9_init 23 = .ok (.sipush 2400, 3) := by decide +kernel
theorem dX9_init_26 : decode cX9_init 26 = .ok (.newarray .int, 2) := by decide +kernel
theorem dX9_init_28 : decode cX9_init 28 = .ok (.putfield 16, 3) := by decide +kernel
theorem dX9_init_31 : decode cX9_init 31 = .ok (.aload_n 0, 1) := by decide +kernel
theorem dX9_init_32 : decode cX9_init 32 = .ok (.bipush 60, 2) := by decide +kernel
theorem dX9_init_34 : decode cX9_init 34 = .ok (.newarray .int, 2) := by decide +kernel
theorem dX9_init_36 : decode cX9_init 36 = .ok (.putfield 19, 3) := by decide +kernel
theorem dX9_init_39 : decode cX9_init 39 = .ok (.aload_n 0, 1) := by decide +kernel
theorem dX9_init_40 : decode cX9_init 40 = .ok (.bipush 60, 2) := by decide +kernel
theorem dX9_init_42 : decode cX9_init 42 = .ok (.newarray .int, 2) := by decide +kernel
theorem dX9_init_44 : decode cX9_init 44 = .ok (.putfield 22, 3) := by decide +kernel
theorem dX9_init_47 : decode cX9_init 47 = .ok (.aload_n 0, 1) := by decide +kernel
theorem dX9_init_48 : decode cX9_init 48 = .ok (.bipush 60, 2) := by decide +kernel
theorem dX9_init_50 : decode cX9_init 50 = .ok (.newarray .int, 2) := by decide +kernel
theorem dX9_init_52 : decode cX9_init 52 = .ok (.putfield 25, 3) := by decide +kernel
theorem dX9_init_55 : decode cX9_init 55 = .ok (.aload_n 0, 1) := by decide +kernel
theorem dX9_init_56 : decode cX9_init 56 = .ok (.bipush 60, 2) := by decide +kernel
theorem dX9_init_58 : decode cX9_init 58 = .ok (.newarray .int, 2) := by decide +kernel
theorem dX9_init_60 : decode cX9_init 60 = .ok (.putfield 28, 3) := by decide +kernel
theorem dX9_init_63 : decode cX9_init 63 = .ok (.aload_n 0, 1) := by decide +kernel
theorem dX9_init_64 : decode cX9_init 64 = .ok (.bipush 60, 2) := by decide +kernel
theorem dX9_init_66 : decode cX9_init 66 = .ok (.newarray .int, 2) := by decide +kernel
theorem dX9_init_68 : decode cX9_init 68 = .ok (.putfield 31, 3) := by decide +kernel
theorem dX9_init_71 : decode cX9_init 71 = .ok (.aload_n 0, 1) := by decide +kernel
theorem dX9_init_72 : decode cX9_init 72 = .ok (.iload_n 1, 1) := by decide +kernel
theorem dX9_init_73 : decode cX9_init 73 = .ok (.iconst 2, 1) := by decide +kernel
theorem dX9_init_74 : decode cX9_init 74 = .ok (.if_icmp .ge 7, 3) := by decide +kernel
theorem dX9_init_77 : decode cX9_init 77 = .ok (.iconst 2, 1) := by decide +kernel
theorem dX9_init_78 : decode cX9_init 78 = .ok (.goto 13, 3) := by decide +kernel
theorem dX9_init_81 : decode cX9_init 81 = .ok (.iload_n 1, 1) := by decide +kernel
theorem dX9_init_82 : decode cX9_init 82 = .ok (.iconst 5, 1) := by decide +kernel
theorem dX9_init_83 : decode cX9_init 83 = .ok (.if_icmp .le 7, 3) := by decide +kernel
theorem dX9_init_86 : decode cX9_init 86 = .ok (.iconst 5, 1) := by decide +kernel
theorem dX9_init_87 : decode cX9_init 87 = .ok (.goto 4, 3) := by decide +kernel
theorem dX9_init_90 : decode cX9_init 90 = .ok (.iload_n 1, 1) := by decide +kernel
theorem dX9_init_91 : decode cX9_init 91 = .ok (.putfield 34, 3) := by decide +kernel
theorem dX9_init_94 : decode cX9_init 94 = .ok (.aload_n 0, 1) := by decide +kernel
theorem dX9_init_95 : decode cX9_init 95 = .ok (.iconst 0, 1) := by decide +kernel
theorem dX9_init_96 : decode cX9_init 96 = .ok (.bipush 100, 2) := by decide +kernel
theorem dX9_init_98 : decode cX9_init 98 = .ok (.bipush 50, 2) := by decide +kernel
theorem dX9_init_100 : decode cX9_init 100 = .ok (.invokevirtual 38, 3) := by decide +kernel
theorem dX9_init_103 : decode cX9_init 103 = .ok (.return_, 1) := by decide +kernel
theorem dX9_thrown_0 : decode cX9_thrown 0 = .ok (.aload_n 0, 1) := by decide +kernel
theorem dX9_thrown_1 : decode cX9_thrown 1 = .ok (.getfield 42, 3) := by decide +kernel
theorem dX9_thrown_4 : decode cX9_thrown 4 = .ok (.ireturn, 1) := by decide +kernel
theorem dX9_in_0 : decode cX9_in 0 = .ok (.iload_n 0, 1) := by decide +kernel
theorem dX9_in_1 : decode cX9_in 1 = .ok (.iload_n 1, 1) := by decide +kernel
theorem dX9_in_2 : decode cX9_in 2 = .ok (.if_icmp .lt 12, 3) := by decide +kernel
theorem dX9_in_5 : decode cX9_in 5 = .ok (.iload_n 0, 1) := by decide +kernel
theorem dX9_in_6 : decode cX9_in 6 = .ok (.iload_n 2, 1) := by decide +kernel
theorem dX9_in_7 : decode cX9_in 7 = .ok (.if_icmp .gt 7, 3) := by decide +kernel
theorem dX9_in_10 : decode cX9_in 10 = .ok (.iconst 1, 1) := by decide +kernel
theorem dX9_in_11 : decode cX9_in 11 = .ok (.goto 4, 3) := by decide +kernel
theorem dX9_in_14 : decode cX9_in 14 = .ok (.iconst 0, 1) := by decide +kernel
theorem dX9_in_15 : decode cX9_in 15 = .ok (.ireturn, 1) := by decide +kernel
theorem dX9_fails_0 : decode cX9_fails 0 = .ok (.aload_n 0, 1) := by decide +kernel
theorem dX9_fails_1 : decode cX9_fails 1 = .ok (.iload_n 1, 1) := by decide +kernel
theorem dX9_fails_2 : decode cX9_fails 2 = .ok (.putfield 42, 3) := by decide +kernel
theorem dX9_fails_5 : decode cX9_fails 5 = .ok (.iconst 0, 1) := by decide +kernel
theorem dX9_fails_6 : decode cX9_fails 6 = .ok (.ireturn, 1) := by decide +kernel
theorem dX9_starts_0 : decode cX9_starts 0 = .ok (.iconst 0, 1) := by decide +kernel
theorem dX9_starts_1 : decode cX9_starts 1 = .ok (.istore 4, 2) := by decide +kernel
theorem dX9_starts_3 : decode cX9_starts 3 = .ok (.iload 4, 2) := by decide +kernel
theorem dX9_starts_5 : decode cX9_starts 5 = .ok (.sipush 2400, 3) := by decide +kernel
theorem dX9_starts_8 : decode cX9_starts 8 = .ok (.if_icmp .ge 17, 3) := by decide +kernel
theorem dX9_starts_11 : decode cX9_starts 11 = .ok (.aload_n 0, 1) := by decide +kernel
theorem dX9_starts_12 : decode cX9_starts 12 = .ok (.getfield 7, 3) := by decide +kernel
theorem dX9_starts_15 : decode cX9_starts 15 = .ok (.iload 4, 2) := by decide +kernel
theorem dX9_starts_17 : decode cX9_starts 17 = .ok (.iconst 0, 1) := by decide +kernel
theorem dX9_starts_18 : decode cX9_starts 18 = .ok (.iastore, 1) := by decide +kernel
theorem dX9_starts_19 : decode cX9_starts 19 = .ok (.iinc 4 1, 3) := by decide +kernel
theorem dX9_starts_22 : decode cX9_starts 22 = .ok (.goto (-19), 3) := by decide +kernel
theorem dX9_starts_25 : decode cX9_starts 25 = .ok (.aload_n 0, 1) := by decide +kernel
theorem dX9_starts_26 : decode cX9_starts 26 = .ok (.getfield 7, 3) := by decide +kernel
theorem dX9_starts_29 : decode cX9_starts 29 = .ok (.iconst 1, 1) := by decide +kernel
theorem dX9_starts_30 : decode cX9_starts 30 = .ok (.iload_n 1, 1) := by decide +kernel
theorem dX9_starts_31 : decode cX9_starts 31 = .ok (.iastore, 1) := by decide +kernel
theorem dX9_starts_32 : decode cX9_starts 32 = .ok (.aload_n 0, 1) := by decide +kernel
theorem dX9_starts_33 : decode cX9_starts 33 = .ok (.getfield 7, 3) := by decide +kernel
theorem dX9_starts_36 : decode cX9_starts 36 = .ok (.iconst 2, 1) := by decide +kernel
theorem dX9_starts_37 : decode cX9_starts 37 = .ok (.iload_n 2, 1) := by decide +kernel
theorem dX9_starts_38 : decode cX9_starts 38 = .ok (.iastore, 1) := by decide +kernel
theorem dX9_starts_39 : decode cX9_starts 39 = .ok (.aload_n 0, 1) := by decide +kernel
theorem dX9_starts_40 : decode cX9_starts 40 = .ok (.getfield 7, 3) := by decide +kernel
theorem dX9_starts_43 : decode cX9_starts 43 = .ok (.iconst 3, 1) := by decide +kernel
theorem dX9_starts_44 : decode cX9_starts 44 = .ok (.iload_n 3, 1) := by decide +kernel
theorem dX9_starts_45 : decode cX9_starts 45 = .ok (.iastore, 1) := by decide +kernel
theorem dX9_starts_46 : decode cX9_starts 46 = .ok (.aload_n 0, 1) := by decide +kernel
theorem dX9_starts_47 : decode cX9_starts 47 = .ok (.iconst 0, 1) := by decide +kernel
theorem dX9_starts_48 : decode cX9_starts 48 = .ok (.putfield 45, 3) := by decide +kernel
theorem dX9_starts_51 : decode cX9_starts 51 = .ok (.return_, 1) := by decide +kernel
theorem dX9_act_0 : decode cX9_act 0 = .ok (.aload_n 0, 1) := by decide +kernel
theorem dX9_act_1 : decode cX9_act 1 = .ok (.getfield 45, 3) := by decide +kernel
theorem dX9_act_4 : decode cX9_act 4 = .ok (.iconst 5, 1) := by decide +kernel
theorem dX9_act_5 : decode cX9_act 5 = .ok (.if_icmp .ne 44, 3) := by decide +kernel
theorem dX9_act_8 : decode cX9_act 8 = .ok (.iconst 0, 1) := by decide +kernel
theorem dX9_act_9 : decode cX9_act 9 = .ok (.istore_n 1, 1) := by decide +kernel
theorem dX9_act_10 : decode cX9_act 10 = .ok (.iload_n 1, 1) := by decide +kernel
theorem dX9_act_11 : decode cX9_act 11 = .ok (.sipush 9600, 3) := by decide +kernel
theorem dX9_act_14 : decode cX9_act 14 = .ok (.if_icmp .ge 25, 3) := by decide +kernel
theorem dX9_act_17 : decode cX9_act 17 = .ok (.aload_n 0, 1) := by decide +kernel
theorem dX9_act_18 : decode cX9_act 18 = .ok (.getfield 13, 3) := by decide +kernel
theorem dX9_act_21 : decode cX9_act 21 = .ok (.iload_n 1, 1) := by decide +kernel
theorem dX9_act_22 : decode cX9_act 22 = .ok (.aload_n 0, 1) := by decide +kernel
theorem dX9_act_23 : decode cX9_act 23 = .ok (.getfield 13, 3) := by decide +kernel
theorem dX9_act_26 : decode cX9_act 26 = .ok (.iload_n 1, 1) := by decide +kernel
theorem dX9_act_27 : decode cX9_act 27 = .ok (.sipush 2400, 3) := by decide +kernel
theorem dX9_act_30 : decode cX9_act 30 = .ok (.iadd, 1) := by decide +kernel
theorem dX9_act_31 : decode cX9_act 31 = .ok (.iaload, 1) := by decide +kernel
theorem dX9_act_32 : decode cX9_act 32 = .ok (.iastore, 1) := by decide +kernel
theorem dX9_act_33 : decode cX9_act 33 = .ok (.iinc 1 1, 3) := by decide +kernel
theorem dX9_act_36 : decode cX9_act 36 = .ok (.goto (-26), 3) := by decide +kernel
theorem dX9_act_39 : decode cX9_act 39 = .ok (.aload_n 0, 1) := by decide +kernel
theorem dX9_act_40 : decode cX9_act 40 = .ok (.dup, 1) := by decide +kernel
theorem dX9_act_41 : decode cX9_act 41 = .ok (.getfield 45, 3) := by decide +kernel
theorem dX9_act_44 : decode cX9_act 44 = .ok (.iconst 1, 1) := by decide +kernel
theorem dX9_act_45 : decode cX9_act 45 = .ok (.isub, 1) := by decide +kernel
theorem dX9_act_46 : decode cX9_act 46 = .ok (.putfield 45, 3) := by decide +kernel
theorem dX9_act_49 : decode cX9_act 49 = .ok (.iconst 0, 1) := by decide +kernel
theorem dX9_act_50 : decode cX9_act 50 = .ok (.istore_n 1, 1) := by decide +kernel
theorem dX9_act_51 : decode cX9_act 51 = .ok (.iload_n 1, 1) := by decide +kernel
theorem dX9_act_52 : decode cX9_act 52 = .ok (.sipush 2400, 3) := by decide +kernel
theorem dX9_act_55 : decode cX9_act 55 = .ok (.if_icmp .ge 30, 3) := by decide +kernel
theorem dX9_act_58 : decode cX9_act 58 = .ok (.aload_n 0, 1) := by decide +kernel
theorem dX9_act_59 : decode cX9_act 59 = .ok (.getfield 13, 3) := by decide +kernel
theorem dX9_act_62 : decode cX9_act 62 = .ok (.sipush 2400, 3) := by decide +kernel
theorem dX9_act_65 : decode cX9_act 65 = .ok (.aload_n 0, 1) := by decide +kernel
theorem dX9_act_66 : decode cX9_act 66 = .ok (.getfield 45, 3) := by decide +kernel
theorem dX9_act_69 : decode cX9_act 69 = .ok (.imul, 1) := by decide +kernel
theorem dX9_act_70 : decode cX9_act 70 = .ok (.iload_n 1, 1) := by decide +kernel
theorem dX9_act_71 : decode cX9_act 71 = .ok (.iadd, 1) := by decide +kernel
theorem dX9_act_72 : decode cX9_act 72 = .ok (.aload_n 0, 1) := by decide +kernel
theorem dX9_act_73 : decode cX9_act 73 = .ok (.getfield 7, 3) := by decide +kernel
theorem dX9_act_76 : decode cX9_act 76 = .ok (.iload_n 1, 1) := by decide +kernel
theorem dX9_act_77 : decode cX9_act 77 = .ok (.iaload, 1) := by decide +kernel
theorem dX9_act_78 : decode cX9_act 78 = .ok (.iastore, 1) := by decide +kernel
theorem dX9_act_79 : decode cX9_act 79 = .ok (.iinc 1 1, 3) := by decide +kernel
theorem dX9_act_82 : decode cX9_act 82 = .ok (.goto (-31), 3) := by decide +kernel
theorem dX9_act_85 : decode cX9_act 85 = .ok (.aload_n 0, 1) := by decide +kernel
theorem dX9_act_86 : decode cX9_act 86 = .ok (.dup, 1) := by decide +kernel
theorem dX9_act_87 : decode cX9_act 87 = .ok (.getfield 45, 3) := by decide +kernel
theorem dX9_act_90 : decode cX9_act 90 = .ok (.iconst 1, 1) := by decide +kernel
theorem dX9_act_91 : decode cX9_act 91 = .ok (.iadd, 1) := by decide +kernel
theorem dX9_act_92 : decode cX9_act 92 = .ok (.putfield 45, 3) := by decide +kernel
theorem dX9_act_95 : decode cX9_act 95 = .ok (.return_, 1) := by decide +kernel
theorem dX9_isSite_0 : decode cX9_isSite 0 = .ok (.iload_n 1, 1) := by decide +kernel
theorem dX9_isSite_1 : decode cX9_isSite 1 = .ok (.iconst 0, 1) := by decide +kernel
theorem dX9_isSite_2 : decode cX9_isSite 2 = .ok (.aload_n 0, 1) := by decide +kernel
theorem dX9_isSite_3 : decode cX9_isSite 3 = .ok (.getfield 34, 3) := by decide +kernel
theorem dX9_isSite_6 : decode cX9_isSite 6 = .ok (.iconst 1, 1) := by decide +kernel
theorem dX9_isSite_7 : decode cX9_isSite 7 = .ok (.isub, 1) := by decide +kernel
theorem dX9_isSite_8 : decode cX9_isSite 8 = .ok (.invokestatic 48, 3) := by decide +kernel
theorem dX9_isSite_11 : decode cX9_isSite 11 = .ok (.ireturn, 1) := by decide +kernel
theorem dX9_record_0 : decode cX9_record 0 = .ok (.bipush 60, 2) := by decide +kernel
theorem dX9_record_2 : decode cX9_record 2 = .ok (.bipush 30, 2) := by decide +kernel
theorem dX9_record_4 : decode cX9_record 4 = .ok (.iconst 5, 1) := by decide +kernel
theorem dX9_record_5 : decode cX9_record 5 = .ok (.iload_n 0, 1) := by decide +kernel
theorem dX9_record_6 : decode cX9_record 6 = .ok (.imul, 1) := by decide +kernel
theorem dX9_record_7 : decode cX9_record 7 = .ok (.iload_n 1, 1) := by decide +kernel
theorem dX9_record_8 : decode cX9_record 8 = .ok (.iadd, 1) := by decide +kernel
theorem dX9_record_9 : decode cX9_record 9 = .ok (.imul, 1) := by decide +kernel
theorem dX9_record_10 : decode cX9_record 10 = .ok (.iadd, 1) := by decide +kernel
theorem dX9_record_11 : decode cX9_record 11 = .ok (.ireturn, 1) := by decide +kernel
theorem dX9_mineAt_0 : decode cX9_mineAt 0 = .ok (.iload_n 1, 1) := by decide +kernel
theorem dX9_mineAt_1 : decode cX9_mineAt 1 = .ok (.iload_n 1, 1) := by decide +kernel
theorem dX9_mineAt_2 : decode cX9_mineAt 2 = .ok (.invokestatic 52, 3) := by decide +kernel
theorem dX9_mineAt_5 : decode cX9_mineAt 5 = .ok (.ireturn, 1) := by decide +kernel
theorem dX9_changed_0 : decode cX9_changed 0 = .ok (.aload_n 0, 1) := by decide +kernel
theorem dX9_changed_1 : decode cX9_changed 1 = .ok (.getfield 7, 3) := by decide +kernel
theorem dX9_changed_4 : decode cX9_changed 4 = .ok (.aload_n 0, 1) := by decide +kernel
theorem dX9_changed_5 : decode cX9_changed 5 = .ok (.iload_n 1, 1) := by decide +kernel
theorem dX9_changed_6 : decode cX9_changed 6 = .ok (.invokevirtual 56, 3) := by decide +kernel
theorem dX9_changed_9 : decode cX9_changed 9 = .ok (.iconst 0, 1) := by decide +kernel
theorem dX9_changed_10 : decode cX9_changed 10 = .ok (.iadd, 1) := by decide +kernel
theorem dX9_changed_11 : decode cX9_changed 11 = .ok (.dup2, 1) := by decide +kernel
theorem dX9_changed_12 : decode cX9_changed 12 = .ok (.iaload, 1) := by decide +kernel
theorem dX9_changed_13 : decode cX9_changed 13 = .ok (.iconst 1, 1) := by decide +kernel
theorem dX9_changed_14 : decode cX9_changed 14 = .ok (.iadd, 1) := by decide +kernel
theorem dX9_changed_15 : decode cX9_changed 15 = .ok (.iastore, 1) := by decide +kernel
theorem dX9_changed_16 : decode cX9_changed 16 = .ok (.return_, 1) := by decide +kernel
theorem dX9_loanAt_0 : decode cX9_loanAt 0 = .ok (.bipush 10, 2) := by decide +kernel
theorem dX9_loanAt_2 : decode cX9_loanAt 2 = .ok (.iconst 5, 1) := by decide +kernel
theorem dX9_loanAt_3 : decode cX9_loanAt 3 = .ok (.iload_n 0, 1) := by decide +kernel
theorem dX9_loanAt_4 : decode cX9_loanAt 4 = .ok (.imul, 1) := by decide +kernel
theorem dX9_loanAt_5 : decode cX9_loanAt 5 = .ok (.iadd, 1) := by decide +kernel
theorem dX9_loanAt_6 : decode cX9_loanAt 6 = .ok (.ireturn, 1) := by decide +kernel
theorem dX9_timeOf_0 : decode cX9_timeOf 0 = .ok (.iload_n 1, 1) := by decide +kernel
theorem dX9_timeOf_1 : decode cX9_timeOf 1 = .ok (.iload_n 2, 1) := by decide +kernel
theorem dX9_timeOf_2 : decode cX9_timeOf 2 = .ok (.if_icmp .ne 12, 3) := by decide +kernel
theorem dX9_timeOf_5 : decode cX9_timeOf 5 = .ok (.aload_n 0, 1) := by decide +kernel
theorem dX9_timeOf_6 : decode cX9_timeOf 6 = .ok (.getfield 7, 3) := by decide +kernel
theorem dX9_timeOf_9 : decode cX9_timeOf 9 = .ok (.iconst 0, 1) := by decide +kernel
theorem dX9_timeOf_10 : decode cX9_timeOf 10 = .ok (.iaload, 1) := by decide +kernel
theorem dX9_timeOf_11 : decode cX9_timeOf 11 = .ok (.goto 15, 3) := by decide +kernel
theorem dX9_timeOf_14 : decode cX9_timeOf 14 = .ok (.aload_n 0, 1) := by decide +kernel
theorem dX9_timeOf_15 : decode cX9_timeOf 15 = .ok (.getfield 7, 3) := by decide +kernel
theorem dX9_timeOf_18 : decode cX9_timeOf 18 = .ok (.iload_n 1, 1) := by decide +kernel
theorem dX9_timeOf_19 : decode cX9_timeOf 19 = .ok (.iload_n 2, 1) := by decide +kernel
theorem dX9_timeOf_20 : decode cX9_timeOf 20 = .ok (.invokestatic 52, 3) := by decide +kernel
theorem dX9_timeOf_23 : decode cX9_timeOf 23 = .ok (.iconst 1, 1) := by decide +kernel
theorem dX9_timeOf_24 : decode cX9_timeOf 24 = .ok (.iadd, 1) := by decide +kernel
theorem dX9_timeOf_25 : decode cX9_timeOf 25 = .ok (.iaload, 1) := by decide +kernel
theorem dX9_timeOf_26 : decode cX9_timeOf 26 = .ok (.ireturn, 1) := by decide +kernel
theorem dX9_isBack_0 : decode cX9_isBack 0 = .ok (.iload_n 1, 1) := by decide +kernel
theorem dX9_isBack_1 : decode cX9_isBack 1 = .ok (.invokestatic 60, 3) := by decide +kernel
theorem dX9_isBack_4 : decode cX9_isBack 4 = .ok (.istore_n 2, 1) := by decide +kernel
theorem dX9_isBack_5 : decode cX9_isBack 5 = .ok (.aload_n 0, 1) := by decide +kernel
theorem dX9_isBack_6 : decode cX9_isBack 6 = .ok (.getfield 7, 3) := by decide +kernel
theorem dX9_isBack_9 : decode cX9_isBack 9 = .ok (.iconst 0, 1) := by decide +kernel
theorem dX9_isBack_10 : decode cX9_isBack 10 = .ok (.iaload, 1) := by decide +kernel
theorem dX9_isBack_11 : decode cX9_isBack 11 = .ok (.aload_n 0, 1) := by decide +kernel
theorem dX9_isBack_12 : decode cX9_isBack 12 = .ok (.getfield 7, 3) := by decide +kernel
theorem dX9_isBack_15 : decode cX9_isBack 15 = .ok (.iload_n 2, 1) := by decide +kernel
theorem dX9_isBack_16 : decode cX9_isBack 16 = .ok (.iconst 4, 1) := by decide +kernel
theorem dX9_isBack_17 : decode cX9_isBack 17 = .ok (.iadd, 1) := by decide +kernel
theorem dX9_isBack_18 : decode cX9_isBack 18 = .ok (.iaload, 1) := by decide +kernel
theorem dX9_isBack_19 : decode cX9_isBack 19 = .ok (.if_icmp .lt 36, 3) := by decide +kernel
theorem dX9_isBack_22 : decode cX9_isBack 22 = .ok (.aload_n 0, 1) := by decide +kernel
theorem dX9_isBack_23 : decode cX9_isBack 23 = .ok (.aload_n 0, 1) := by decide +kernel
theorem dX9_isBack_24 : decode cX9_isBack 24 = .ok (.getfield 7, 3) := by decide +kernel
theorem dX9_isBack_27 : decode cX9_isBack 27 = .ok (.iload_n 2, 1) := by decide +kernel
theorem dX9_isBack_28 : decode cX9_isBack 28 = .ok (.iaload, 1) := by decide +kernel
theorem dX9_isBack_29 : decode cX9_isBack 29 = .ok (.aload_n 0, 1) := by decide +kernel
theorem dX9_isBack_30 : decode cX9_isBack 30 = .ok (.getfield 7, 3) := by decide +kernel
theorem dX9_isBack_33 : decode cX9_isBack 33 = .ok (.iload_n 2, 1) := by decide +kernel
theorem dX9_isBack_34 : decode cX9_isBack 34 = .ok (.iconst 1, 1) := by decide +kernel
theorem dX9_isBack_35 : decode cX9_isBack 35 = .ok (.iadd, 1) := by decide +kernel
theorem dX9_isBack_36 : decode cX9_isBack 36 = .ok (.iaload, 1) := by decide +kernel
theorem dX9_isBack_37 : decode cX9_isBack 37 = .ok (.invokevirtual 63, 3) := by decide +kernel
theorem dX9_isBack_40 : decode cX9_isBack 40 = .ok (.aload_n 0, 1) := by decide +kernel
theorem dX9_isBack_41 : decode cX9_isBack 41 = .ok (.getfield 7, 3) := by decide +kernel
theorem dX9_isBack_44 : decode cX9_isBack 44 = .ok (.iload_n 2, 1) := by decide +kernel
theorem dX9_isBack_45 : decode cX9_isBack 45 = .ok (.iconst 4, 1) := by decide +kernel
theorem dX9_isBack_46 : decode cX9_isBack 46 = .ok (.iadd, 1) := by decide +kernel
theorem dX9_isBack_47 : decode cX9_isBack 47 = .ok (.iaload, 1) := by decide +kernel
theorem dX9_isBack_48 : decode cX9_isBack 48 = .ok (.if_icmp .lt 7, 3) := by decide +kernel
theorem dX9_isBack_51 : decode cX9_isBack 51 = .ok (.iconst 1, 1) := by decide +kernel
theorem dX9_isBack_52 : decode cX9_isBack 52 = .ok (.goto 4, 3) := by decide +kernel
theorem dX9_isBack_55 : decode cX9_isBack 55 = .ok (.iconst 0, 1) := by decide +kernel
theorem dX9_isBack_56 : decode cX9_isBack 56 = .ok (.ireturn, 1) := by decide +kernel
theorem dX9_usedOf_0 : decode cX9_usedOf 0 = .ok (.aload_n 0, 1) := by decide +kernel
theorem dX9_usedOf_1 : decode cX9_usedOf 1 = .ok (.getfield 7, 3) := by decide +kernel
theorem dX9_usedOf_4 : decode cX9_usedOf 4 = .ok (.iload_n 1, 1) := by decide +kernel
theorem dX9_usedOf_5 : decode cX9_usedOf 5 = .ok (.aload_n 0, 1) := by decide +kernel
theorem dX9_usedOf_6 : decode cX9_usedOf 6 = .ok (.getfield 7, 3) := by decide +kernel
theorem dX9_usedOf_9 : decode cX9_usedOf 9 = .ok (.iload_n 2, 1) := by decide +kernel
theorem dX9_usedOf_10 : decode cX9_usedOf 10 = .ok (.invokestatic 60, 3) := by decide +kernel
theorem dX9_usedOf_13 : decode cX9_usedOf 13 = .ok (.iconst 1, 1) := by decide +kernel
theorem dX9_usedOf_14 : decode cX9_usedOf 14 = .ok (.iadd, 1) := by decide +kernel
theorem dX9_usedOf_15 : decode cX9_usedOf 15 = .ok (.iaload, 1) := by decide +kernel
theorem dX9_usedOf_16 : decode cX9_usedOf 16 = .ok (.invokestatic 52, 3) := by decide +kernel
theorem dX9_usedOf_19 : decode cX9_usedOf 19 = .ok (.bipush 17, 2) := by decide +kernel
theorem dX9_usedOf_21 : decode cX9_usedOf 21 = .ok (.iadd, 1) := by decide +kernel
theorem dX9_usedOf_22 : decode cX9_usedOf 22 = .ok (.iload_n 2, 1) := by decide +kernel
theorem dX9_usedOf_23 : decode cX9_usedOf 23 = .ok (.iadd, 1) := by decide +kernel
theorem dX9_usedOf_24 : decode cX9_usedOf 24 = .ok (.iaload, 1) := by decide +kernel
theorem dX9_usedOf_25 : decode cX9_usedOf 25 = .ok (.ireturn, 1) := by decide +kernel
theorem dX9_isKnown_0 : decode cX9_isKnown 0 = .ok (.iload_n 1, 1) := by decide +kernel
theorem dX9_isKnown_1 : decode cX9_isKnown 1 = .ok (.invokestatic 60, 3) := by decide +kernel
theorem dX9_isKnown_4 : decode cX9_isKnown 4 = .ok (.istore_n 2, 1) := by decide +kernel
theorem dX9_isKnown_5 : decode cX9_isKnown 5 = .ok (.aload_n 0, 1) := by decide +kernel
theorem dX9_isKnown_6 : decode cX9_isKnown 6 = .ok (.getfield 7, 3) := by decide +kernel
theorem dX9_isKnown_9 : decode cX9_isKnown 9 = .ok (.aload_n 0, 1) := by decide +kernel
theorem dX9_isKnown_10 : decode cX9_isKnown 10 = .ok (.getfield 7, 3) := by decide +kernel
theorem dX9_isKnown_13 : decode cX9_isKnown 13 = .ok (.iload_n 2, 1) := by decide +kernel
theorem dX9_isKnown_14 : decode cX9_isKnown 14 = .ok (.iconst 1, 1) := by decide +kernel
theorem dX9_isKnown_15 : decode cX9_isKnown 15 = .ok (.iadd, 1) := by decide +kernel
theorem dX9_isKnown_16 : decode cX9_isKnown 16 = .ok (.iaload, 1) := by decide +kernel
theorem dX9_isKnown_17 : decode cX9_isKnown 17 = .ok (.aload_n 0, 1) := by decide +kernel
theorem dX9_isKnown_18 : decode cX9_isKnown 18 = .ok (.getfield 7, 3) := by decide +kernel
theorem dX9_isKnown_21 : decode cX9_isKnown 21 = .ok (.iload_n 2, 1) := by decide +kernel
theorem dX9_isKnown_22 : decode cX9_isKnown 22 = .ok (.iaload, 1) := by decide +kernel
theorem dX9_isKnown_23 : decode cX9_isKnown 23 = .ok (.invokestatic 52, 3) := by decide +kernel
theorem dX9_isKnown_26 : decode cX9_isKnown 26 = .ok (.bipush 16, 2) := by decide +kernel
theorem dX9_isKnown_28 : decode cX9_isKnown 28 = .ok (.iadd, 1) := by decide +kernel
theorem dX9_isKnown_29 : decode cX9_isKnown 29 = .ok (.iaload, 1) := by decide +kernel
theorem dX9_isKnown_30 : decode cX9_isKnown 30 = .ok (.iload_n 1, 1) := by decide +kernel
theorem dX9_isKnown_31 : decode cX9_isKnown 31 = .ok (.ishr, 1) := by decide +kernel
theorem dX9_isKnown_32 : decode cX9_isKnown 32 = .ok (.iconst 1, 1) := by decide +kernel
theorem dX9_isKnown_33 : decode cX9_isKnown 33 = .ok (.iand, 1) := by decide +kernel
theorem dX9_isKnown_34 : decode cX9_isKnown 34 = .ok (.iconst 1, 1) := by decide +kernel
theorem dX9_isKnown_35 : decode cX9_isKnown 35 = .ok (.if_icmp .ne 7, 3) := by decide +kernel
theorem dX9_isKnown_38 : decode cX9_isKnown 38 = .ok (.iconst 1, 1) := by decide +kernel
theorem dX9_isKnown_39 : decode cX9_isKnown 39 = .ok (.goto 4, 3) := by decide +kernel
theorem dX9_isKnown_42 : decode cX9_isKnown 42 = .ok (.iconst 0, 1) := by decide +kernel
theorem dX9_isKnown_43 : decode cX9_isKnown 43 = .ok (.ireturn, 1) := by decide +kernel
theorem dX9_restOf_0 : decode cX9_restOf 0 = .ok (.iload_n 1, 1) := by decide +kernel
theorem dX9_restOf_1 : decode cX9_restOf 1 = .ok (.invokestatic 60, 3) := by decide +kernel
theorem dX9_restOf_4 : decode cX9_restOf 4 = .ok (.istore_n 2, 1) := by decide +kernel
theorem dX9_restOf_5 : decode cX9_restOf 5 = .ok (.aload_n 0, 1) := by decide +kernel
theorem dX9_restOf_6 : decode cX9_restOf 6 = .ok (.iload_n 1, 1) := by decide +kernel
theorem dX9_restOf_7 : decode cX9_restOf 7 = .ok (.invokevirtual 66, 3) := by decide +kernel
theorem dX9_restOf_10 : decode cX9_restOf 10 = .ok (.ifCond .eq 45, 3) := by decide +kernel
theorem dX9_restOf_13 : decode cX9_restOf 13 = .ok (.aload_n 0, 1) := by decide +kernel
theorem dX9_restOf_14 : decode cX9_restOf 14 = .ok (.getfield 7, 3) := by decide +kernel
theorem dX9_restOf_17 : decode cX9_restOf 17 = .ok (.iconst 0, 1) := by decide +kernel
theorem dX9_restOf_18 : decode cX9_restOf 18 = .ok (.iaload, 1) := by decide +kernel
theorem dX9_restOf_19 : decode cX9_restOf 19 = .ok (.aload_n 0, 1) := by decide +kernel
theorem dX9_restOf_20 : decode cX9_restOf 20 = .ok (.getfield 7, 3) := by decide +kernel
theorem dX9_restOf_23 : decode cX9_restOf 23 = .ok (.iload_n 2, 1) := by decide +kernel
theorem dX9_restOf_24 : decode cX9_restOf 24 = .ok (.iconst 4, 1) := by decide +kernel
theorem dX9_restOf_25 : decode cX9_restOf 25 = .ok (.iadd, 1) := by decide +kernel
theorem dX9_restOf_26 : decode cX9_restOf 26 = .ok (.iaload, 1) := by decide +kernel
theorem dX9_restOf_27 : decode cX9_restOf 27 = .ok (.if_icmp .ge 28, 3) := by decide +kernel
theorem dX9_restOf_30 : decode cX9_restOf 30 = .ok (.aload_n 0, 1) := by decide +kernel
theorem dX9_restOf_31 : decode cX9_restOf 31 = .ok (.getfield 7, 3) := by decide +kernel
theorem dX9_restOf_34 : decode cX9_restOf 34 = .ok (.iload_n 2, 1) := by decide +kernel
theorem dX9_restOf_35 : decode cX9_restOf 35 = .ok (.iconst 3, 1) := by decide +kernel
theorem dX9_restOf_36 : decode cX9_restOf 36 = .ok (.iadd, 1) := by decide +kernel
theorem dX9_restOf_37 : decode cX9_restOf 37 = .ok (.iaload, 1) := by decide +kernel
theorem dX9_restOf_38 : decode cX9_restOf 38 = .ok (.aload_n 0, 1) := by decide +kernel
theorem dX9_restOf_39 : decode cX9_restOf 39 = .ok (.aload_n 0, 1) := by decide +kernel
theorem dX9_restOf_40 : decode cX9_restOf 40 = .ok (.getfield 7, 3) := by decide +kernel
theorem dX9_restOf_43 : decode cX9_restOf 43 = .ok (.iload_n 2, 1) := by decide +kernel
theorem dX9_restOf_44 : decode cX9_restOf 44 = .ok (.iconst 1, 1) := by decide +kernel
theorem dX9_restOf_45 : decode cX9_restOf 45 = .ok (.iadd, 1) := by decide +kernel
theorem dX9_restOf_46 : decode cX9_restOf 46 = .ok (.iaload, 1) := by decide +kernel
theorem dX9_restOf_47 : decode cX9_restOf 47 = .ok (.iload_n 1, 1) := by decide +kernel
theorem dX9_restOf_48 : decode cX9_restOf 48 = .ok (.invokevirtual 70, 3) := by decide +kernel
theorem dX9_restOf_51 : decode cX9_restOf 51 = .ok (.isub, 1) := by decide +kernel
theorem dX9_restOf_52 : decode cX9_restOf 52 = .ok (.goto 4, 3) := by decide +kernel
theorem dX9_restOf_55 : decode cX9_restOf 55 = .ok (.iconst 0, 1) := by decide +kernel
theorem dX9_restOf_56 : decode cX9_restOf 56 = .ok (.ireturn, 1) := by decide +kernel
theorem dX9_ownRights_0 : decode cX9_ownRights 0 = .ok (.aload_n 0, 1) := by decide +kernel
theorem dX9_ownRights_1 : decode cX9_ownRights 1 = .ok (.iload_n 1, 1) := by decide +kernel
theorem dX9_ownRights_2 : decode cX9_ownRights 2 = .ok (.invokevirtual 56, 3) := by decide +kernel
theorem dX9_ownRights_5 : decode cX9_ownRights 5 = .ok (.istore_n 3, 1) := by decide +kernel
theorem dX9_ownRights_6 : decode cX9_ownRights 6 = .ok (.aload_n 0, 1) := by decide +kernel
theorem dX9_ownRights_7 : decode cX9_ownRights 7 = .ok (.getfield 7, 3) := by decide +kernel
theorem dX9_ownRights_10 : decode cX9_ownRights 10 = .ok (.iload_n 3, 1) := by decide +kernel
theorem dX9_ownRights_11 : decode cX9_ownRights 11 = .ok (.iconst 3, 1) := by decide +kernel
theorem dX9_ownRights_12 : decode cX9_ownRights 12 = .ok (.iadd, 1) := by decide +kernel
theorem dX9_ownRights_13 : decode cX9_ownRights 13 = .ok (.iaload, 1) := by decide +kernel
theorem dX9_ownRights_14 : decode cX9_ownRights 14 = .ok (.aload_n 0, 1) := by decide +kernel
theorem dX9_ownRights_15 : decode cX9_ownRights 15 = .ok (.getfield 7, 3) := by decide +kernel
theorem dX9_ownRights_18 : decode cX9_ownRights 18 = .ok (.iload_n 3, 1) := by decide +kernel
theorem dX9_ownRights_19 : decode cX9_ownRights 19 = .ok (.iconst 2, 1) := by decide +kernel
theorem dX9_ownRights_20 : decode cX9_ownRights 20 = .ok (.iadd, 1) := by decide +kernel
theorem dX9_ownRights_21 : decode cX9_ownRights 21 = .ok (.iaload, 1) := by decide +kernel
theorem dX9_ownRights_22 : decode cX9_ownRights 22 = .ok (.isub, 1) := by decide +kernel
theorem dX9_ownRights_23 : decode cX9_ownRights 23 = .ok (.istore 4, 2) := by decide +kernel
theorem dX9_ownRights_25 : decode cX9_ownRights 25 = .ok (.iload_n 2, 1) := by decide +kernel
theorem dX9_ownRights_26 : decode cX9_ownRights 26 = .ok (.ifCond .ne 8, 3) := by decide +kernel
theorem dX9_ownRights_29 : decode cX9_ownRights 29 = .ok (.iload 4, 2) := by decide +kernel
theorem dX9_ownRights_31 : decode cX9_ownRights 31 = .ok (.goto 6, 3) := by decide +kernel
theorem dX9_ownRights_34 : decode cX9_ownRights 34 = .ok (.iload 4, 2) := by decide +kernel
theorem dX9_ownRights_36 : decode cX9_ownRights 36 = .ok (.ineg, 1) := by decide +kernel
theorem dX9_ownRights_37 : decode cX9_ownRights 37 = .ok (.istore 5, 2) := by decide +kernel
theorem dX9_ownRights_39 : decode cX9_ownRights 39 = .ok (.iload_n 1, 1) := by decide +kernel
theorem dX9_ownRights_40 : decode cX9_ownRights 40 = .ok (.ifCond .ne 41, 3) := by decide +kernel
theorem dX9_ownRights_43 : decode cX9_ownRights 43 = .ok (.iload 5, 2) := by decide +kernel
theorem dX9_ownRights_45 : decode cX9_ownRights 45 = .ok (.iload_n 2, 1) := by decide +kernel
theorem dX9_ownRights_46 : decode cX9_ownRights 46 = .ok (.ifCond .ne 19, 3) := by decide +kernel
theorem dX9_ownRights_49 : decode cX9_ownRights 49 = .ok (.aload_n 0, 1) := by decide +kernel
theorem dX9_ownRights_50 : decode cX9_ownRights 50 = .ok (.getfield 7, 3) := by decide +kernel
theorem dX9_ownRights_53 : decode cX9_ownRights 53 = .ok (.iconst 2, 1) := by decide +kernel
theorem dX9_ownRights_54 : decode cX9_ownRights 54 = .ok (.iaload, 1) := by decide +kernel
theorem dX9_ownRights_55 : decode cX9_ownRights 55 = .ok (.aload_n 0, 1) := by decide +kernel
theorem dX9_ownRights_56 : decode cX9_ownRights 56 = .ok (.getfield 7, 3) := by decide +kernel
theorem dX9_ownRights_59 : decode cX9_ownRights 59 = .ok (.iconst 3, 1) := by decide +kernel
theorem dX9_ownRights_60 : decode cX9_ownRights 60 = .ok (.iaload, 1) := by decide +kernel
theorem dX9_ownRights_61 : decode cX9_ownRights 61 = .ok (.isub, 1) := by decide +kernel
theorem dX9_ownRights_62 : decode cX9_ownRights 62 = .ok (.goto 16, 3) := by decide +kernel
theorem dX9_ownRights_65 : decode cX9_ownRights 65 = .ok (.aload_n 0, 1) := by decide +kernel
theorem dX9_ownRights_66 : decode cX9_ownRights 66 = .ok (.getfield 7, 3) := by decide +kernel
theorem dX9_ownRights_69 : decode cX9_ownRights 69 = .ok (.iconst 3, 1) := by decide +kernel
theorem dX9_ownRights_70 : decode cX9_ownRights 70 = .ok (.iaload, 1) := by decide +kernel
theorem dX9_ownRights_71 : decode cX9_ownRights 71 = .ok (.aload_n 0, 1) := by decide +kernel
theorem dX9_ownRights_72 : decode cX9_ownRights 72 = .ok (.getfield 7, 3) := by decide +kernel
theorem dX9_ownRights_75 : decode cX9_ownRights 75 = .ok (.iconst 1, 1) := by decide +kernel
theorem dX9_ownRights_76 : decode cX9_ownRights 76 = .ok (.iaload, 1) := by decide +kernel
theorem dX9_ownRights_77 : decode cX9_ownRights 77 = .ok (.isub, 1) := by decide +kernel
theorem dX9_ownRights_78 : decode cX9_ownRights 78 = .ok (.iadd, 1) := by decide +kernel
theorem dX9_ownRights_79 : decode cX9_ownRights 79 = .ok (.istore 5, 2) := by decide +kernel
theorem dX9_ownRights_81 : decode cX9_ownRights 81 = .ok (.iconst 0, 1) := by decide +kernel
theorem dX9_ownRights_82 : decode cX9_ownRights 82 = .ok (.istore 6, 2) := by decide +kernel
theorem dX9_ownRights_84 : decode cX9_ownRights 84 = .ok (.iload 6, 2) := by decide +kernel
theorem dX9_ownRights_86 : decode cX9_ownRights 86 = .ok (.aload_n 0, 1) := by decide +kernel
theorem dX9_ownRights_87 : decode cX9_ownRights 87 = .ok (.getfield 34, 3) := by decide +kernel
theorem dX9_ownRights_90 : decode cX9_ownRights 90 = .ok (.if_icmp .ge 55, 3) := by decide +kernel
theorem dX9_ownRights_93 : decode cX9_ownRights 93 = .ok (.iload 6, 2) := by decide +kernel
theorem dX9_ownRights_95 : decode cX9_ownRights 95 = .ok (.iload_n 1, 1) := by decide +kernel
theorem dX9_ownRights_96 : decode cX9_ownRights 96 = .ok (.if_icmp .eq 43, 3) := by decide +kernel
theorem dX9_ownRights_99 : decode cX9_ownRights 99 = .ok (.iload 5, 2) := by decide +kernel
theorem dX9_ownRights_101 : decode cX9_ownRights 101 = .ok (.aload_n 0, 1) := by decide +kernel
theorem dX9_ownRights_102 : decode cX9_ownRights 102 = .ok (.getfield 7, 3) := by decide +kernel
theorem dX9_ownRights_105 : decode cX9_ownRights 105 = .ok (.iload_n 1, 1) := by decide +kernel
theorem dX9_ownRights_106 : decode cX9_ownRights 106 = .ok (.iload 6, 2) := by decide +kernel
theorem dX9_ownRights_108 : decode cX9_ownRights 108 = .ok (.invokestatic 52, 3) := by decide +kernel
theorem dX9_ownRights_111 : decode cX9_ownRights 111 = .ok (.iconst 4, 1) := by decide +kernel
theorem dX9_ownRights_112 : decode cX9_ownRights 112 = .ok (.iadd, 1) := by decide +kernel
theorem dX9_ownRights_113 : decode cX9_ownRights 113 = .ok (.iconst 5, 1) := by decide +kernel
theorem dX9_ownRights_114 : decode cX9_ownRights 114 = .ok (.iload_n 2, 1) := by decide +kernel
theorem dX9_ownRights_115 : decode cX9_ownRights 115 = .ok (.imul, 1) := by decide +kernel
theorem dX9_ownRights_116 : decode cX9_ownRights 116 = .ok (.iadd, 1) := by decide +kernel
theorem dX9_ownRights_117 : decode cX9_ownRights 117 = .ok (.iload_n 1, 1) := by decide +kernel
theorem dX9_ownRights_118 : decode cX9_ownRights 118 = .ok (.iadd, 1) := by decide +kernel
theorem dX9_ownRights_119 : decode cX9_ownRights 119 = .ok (.iaload, 1) := by decide +kernel
theorem dX9_ownRights_120 : decode cX9_ownRights 120 = .ok (.aload_n 0, 1) := by decide +kernel
theorem dX9_ownRights_121 : decode cX9_ownRights 121 = .ok (.getfield 7, 3) := by decide +kernel
theorem dX9_ownRights_124 : decode cX9_ownRights 124 = .ok (.iload_n 3, 1) := by decide +kernel
theorem dX9_ownRights_125 : decode cX9_ownRights 125 = .ok (.iconst 4, 1) := by decide +kernel
theorem dX9_ownRights_126 : decode cX9_ownRights 126 = .ok (.iadd, 1) := by decide +kernel
theorem dX9_ownRights_127 : decode cX9_ownRights 127 = .ok (.iconst 5, 1) := by decide +kernel
theorem dX9_ownRights_128 : decode cX9_ownRights 128 = .ok (.iload_n 2, 1) := by decide +kernel
theorem dX9_ownRights_129 : decode cX9_ownRights 129 = .ok (.imul, 1) := by decide +kernel
theorem dX9_ownRights_130 : decode cX9_ownRights 130 = .ok (.iadd, 1) := by decide +kernel
theorem dX9_ownRights_131 : decode cX9_ownRights 131 = .ok (.iload 6, 2) := by decide +kernel
theorem dX9_ownRights_133 : decode cX9_ownRights 133 = .ok (.iadd, 1) := by decide +kernel
theorem dX9_ownRights_134 : decode cX9_ownRights 134 = .ok (.iaload, 1) := by decide +kernel
theorem dX9_ownRights_135 : decode cX9_ownRights 135 = .ok (.isub, 1) := by decide +kernel
theorem dX9_ownRights_136 : decode cX9_ownRights 136 = .ok (.iadd, 1) := by decide +kernel
theorem dX9_ownRights_137 : decode cX9_ownRights 137 = .ok (.istore 5, 2) := by decide +kernel
theorem dX9_ownRights_139 : decode cX9_ownRights 139 = .ok (.iinc 6 1, 3) := by decide +kernel
theorem dX9_ownRights_142 : decode cX9_ownRights 142 = .ok (.goto (-58), 3) := by decide +kernel
theorem dX9_ownRights_145 : decode cX9_ownRights 145 = .ok (.iconst 0, 1) := by decide +kernel
theorem dX9_ownRights_146 : decode cX9_ownRights 146 = .ok (.istore 6, 2) := by decide +kernel
theorem dX9_ownRights_148 : decode cX9_ownRights 148 = .ok (.iload 6, 2) := by decide +kernel
theorem dX9_ownRights_150 : decode cX9_ownRights 150 = .ok (.aload_n 0, 1) := by decide +kernel
theorem dX9_ownRights_151 : decode cX9_ownRights 151 = .ok (.getfield 7, 3) := by decide +kernel
theorem dX9_ownRights_154 : decode cX9_ownRights 154 = .ok (.iconst 4, 1) := by decide +kernel
theorem dX9_ownRights_155 : decode cX9_ownRights 155 = .ok (.iaload, 1) := by decide +kernel
theorem dX9_ownRights_156 : decode cX9_ownRights 156 = .ok (.if_icmp .ge 111, 3) := by decide +kernel
theorem dX9_ownRights_159 : decode cX9_ownRights 159 = .ok (.iload 6, 2) := by decide +kernel
theorem dX9_ownRights_161 : decode cX9_ownRights 161 = .ok (.invokestatic 60, 3) := by decide +kernel
theorem dX9_ownRights_164 : decode cX9_ownRights 164 = .ok (.istore 7, 2) := by decide +kernel
theorem dX9_ownRights_166 : decode cX9_ownRights 166 = .ok (.aload_n 0, 1) := by decide +kernel
theorem dX9_ownRights_167 : decode cX9_ownRights 167 = .ok (.getfield 7, 3) := by decide +kernel
theorem dX9_ownRights_170 : decode cX9_ownRights 170 = .ok (.iload 7, 2) := by decide +kernel
theorem dX9_ownRights_172 : decode cX9_ownRights 172 = .ok (.iconst 2, 1) := by decide +kernel
theorem dX9_ownRights_173 : decode cX9_ownRights 173 = .ok (.iadd, 1) := by decide +kernel
theorem dX9_ownRights_174 : decode cX9_ownRights 174 = .ok (.iaload, 1) := by decide +kernel
theorem dX9_ownRights_175 : decode cX9_ownRights 175 = .ok (.iload_n 2, 1) := by decide +kernel
theorem dX9_ownRights_176 : decode cX9_ownRights 176 = .ok (.if_icmp .ne 85, 3) := by decide +kernel
theorem dX9_ownRights_179 : decode cX9_ownRights 179 = .ok (.iload 5, 2) := by decide +kernel
theorem dX9_ownRights_181 : decode cX9_ownRights 181 = .ok (.aload_n 0, 1) := by decide +kernel
theorem dX9_ownRights_182 : decode cX9_ownRights 182 = .ok (.getfield 7, 3) := by decide +kernel
theorem dX9_ownRights_185 : decode cX9_ownRights 185 = .ok (.iload 7, 2) := by decide +kernel
theorem dX9_ownRights_187 : decode cX9_ownRights 187 = .ok (.iconst 1, 1) := by decide +kernel
theorem dX9_ownRights_188 : decode cX9_ownRights 188 = .ok (.iadd, 1) := by decide +kernel
theorem dX9_ownRights_189 : decode cX9_ownRights 189 = .ok (.iaload, 1) := by decide +kernel
theorem dX9_ownRights_190 : decode cX9_ownRights 190 = .ok (.iload_n 1, 1) := by decide +kernel
theorem dX9_ownRights_191 : decode cX9_ownRights 191 = .ok (.if_icmp .ne 18, 3) := by decide +kernel
theorem dX9_ownRights_194 : decode cX9_ownRights 194 = .ok (.aload_n 0, 1) := by decide +kernel
theorem dX9_ownRights_195 : decode cX9_ownRights 195 = .ok (.getfield 7, 3) := by decide +kernel
theorem dX9_ownRights_198 : decode cX9_ownRights 198 = .ok (.iload_n 3, 1) := by decide +kernel
theorem dX9_ownRights_199 : decode cX9_ownRights 199 = .ok (.bipush 17, 2) := by decide +kernel
theorem dX9_ownRights_201 : decode cX9_ownRights 201 = .ok (.iadd, 1) := by decide +kernel
theorem dX9_ownRights_202 : decode cX9_ownRights 202 = .ok (.iload 6, 2) := by decide +kernel
theorem dX9_ownRights_204 : decode cX9_ownRights 204 = .ok (.iadd, 1) := by decide +kernel
theorem dX9_ownRights_205 : decode cX9_ownRights 205 = .ok (.iaload, 1) := by decide +kernel
theorem dX9_ownRights_206 : decode cX9_ownRights 206 = .ok (.goto 4, 3) := by decide +kernel
theorem dX9_ownRights_209 : decode cX9_ownRights 209 = .ok (.iconst 0, 1) := by decide +kernel
theorem dX9_ownRights_210 : decode cX9_ownRights 210 = .ok (.iadd, 1) := by decide +kernel
theorem dX9_ownRights_211 : decode cX9_ownRights 211 = .ok (.istore 5, 2) := by decide +kernel
theorem dX9_ownRights_213 : decode cX9_ownRights 213 = .ok (.iload 5, 2) := by decide +kernel
theorem dX9_ownRights_215 : decode cX9_ownRights 215 = .ok (.aload_n 0, 1) := by decide +kernel
theorem dX9_ownRights_216 : decode cX9_ownRights 216 = .ok (.getfield 7, 3) := by decide +kernel
theorem dX9_ownRights_219 : decode cX9_ownRights 219 = .ok (.iload 7, 2) := by decide +kernel
theorem dX9_ownRights_221 : decode cX9_ownRights 221 = .ok (.iaload, 1) := by decide +kernel
theorem dX9_ownRights_222 : decode cX9_ownRights 222 = .ok (.iload_n 1, 1) := by decide +kernel
theorem dX9_ownRights_223 : decode cX9_ownRights 223 = .ok (.if_icmp .ne 34, 3) := by decide +kernel
theorem dX9_ownRights_226 : decode cX9_ownRights 226 = .ok (.aload_n 0, 1) := by decide +kernel
theorem dX9_ownRights_227 : decode cX9_ownRights 227 = .ok (.iload 6, 2) := by decide +kernel
theorem dX9_ownRights_229 : decode cX9_ownRights 229 = .ok (.invokevirtual 73, 3) := by decide +kernel
theorem dX9_ownRights_232 : decode cX9_ownRights 232 = .ok (.ifCond .eq 13, 3) := by decide +kernel
theorem dX9_ownRights_235 : decode cX9_ownRights 235 = .ok (.aload_n 0, 1) := by decide +kernel
theorem dX9_ownRights_236 : decode cX9_ownRights 236 = .ok (.iload_n 1, 1) := by decide +kernel
theorem dX9_ownRights_237 : decode cX9_ownRights 237 = .ok (.iload 6, 2) := by decide +kernel
theorem dX9_ownRights_239 : decode cX9_ownRights 239 = .ok (.invokevirtual 70, 3) := by decide +kernel
theorem dX9_ownRights_242 : decode cX9_ownRights 242 = .ok (.goto 16, 3) := by decide +kernel
theorem dX9_ownRights_245 : decode cX9_ownRights 245 = .ok (.aload_n 0, 1) := by decide +kernel
theorem dX9_ownRights_246 : decode cX9_ownRights 246 = .ok (.getfield 7, 3) := by decide +kernel
theorem dX9_ownRights_249 : decode cX9_ownRights 249 = .ok (.iload 7, 2) := by decide +kernel
theorem dX9_ownRights_251 : decode cX9_ownRights 251 = .ok (.iconst 3, 1) := by decide +kernel
theorem dX9_ownRights_252 : decode cX9_ownRights 252 = .ok (.iadd, 1) := by decide +kernel
theorem dX9_ownRights_253 : decode cX9_ownRights 253 = .ok (.iaload, 1) := by decide +kernel
theorem dX9_ownRights_254 : decode cX9_ownRights 254 = .ok (.goto 4, 3) := by decide +kernel
theorem dX9_ownRights_257 : decode cX9_ownRights 257 = .ok (.iconst 0, 1) := by decide +kernel
theorem dX9_ownRights_258 : decode cX9_ownRights 258 = .ok (.isub, 1) := by decide +kernel
theorem dX9_ownRights_259 : decode cX9_ownRights 259 = .ok (.istore 5, 2) := by decide +kernel
theorem dX9_ownRights_261 : decode cX9_ownRights 261 = .ok (.iinc 6 1, 3) := by decide +kernel
theorem dX9_ownRights_264 : decode cX9_ownRights 264 = .ok (.goto (-116), 3) := by decide +kernel
theorem dX9_ownRights_267 : decode cX9_ownRights 267 = .ok (.iload 5, 2) := by decide +kernel
theorem dX9_ownRights_269 : decode cX9_ownRights 269 = .ok (.ireturn, 1) := by decide +kernel
theorem dX9_lentRights_0 : decode cX9_lentRights 0 = .ok (.iconst 0, 1) := by decide +kernel
theorem dX9_lentRights_1 : decode cX9_lentRights 1 = .ok (.istore_n 3, 1) := by decide +kernel
theorem dX9_lentRights_2 : decode cX9_lentRights 2 = .ok (.iconst 0, 1) := by decide +kernel
theorem dX9_lentRights_3 : decode cX9_lentRights 3 = .ok (.istore 4, 2) := by decide +kernel
theorem dX9_lentRights_5 : decode cX9_lentRights 5 = .ok (.iload 4, 2) := by decide +kernel
theorem dX9_lentRights_7 : decode cX9_lentRights 7 = .ok (.aload_n 0, 1) := by decide +kernel
theorem dX9_lentRights_8 : decode cX9_lentRights 8 = .ok (.getfield 7, 3) := by decide +kernel
theorem dX9_lentRights_11 : decode cX9_lentRights 11 = .ok (.iconst 4, 1) := by decide +kernel
theorem dX9_lentRights_12 : decode cX9_lentRights 12 = .ok (.iaload, 1) := by decide +kernel
theorem dX9_lentRights_13 : decode cX9_lentRights 13 = .ok (.if_icmp .ge 54, 3) := by decide +kernel
theorem dX9_lentRights_16 : decode cX9_lentRights 16 = .ok (.iload_n 3, 1) := by decide +kernel
theorem dX9_lentRights_17 : decode cX9_lentRights 17 = .ok (.aload_n 0, 1) := by decide +kernel
theorem dX9_lentRights_18 : decode cX9_lentRights 18 = .ok (.getfield 7, 3) := by decide +kernel
theorem dX9_lentRights_21 : decode cX9_lentRights 21 = .ok (.iload 4, 2) := by decide +kernel
theorem dX9_lentRights_23 : decode cX9_lentRights 23 = .ok (.invokestatic 60, 3) := by decide +kernel
theorem dX9_lentRights_26 : decode cX9_lentRights 26 = .ok (.iconst 1, 1) := by decide +kernel
theorem dX9_lentRights_27 : decode cX9_lentRights 27 = .ok (.iadd, 1) := by decide +kernel
theorem dX9_lentRights_28 : decode cX9_lentRights 28 = .ok (.iaload, 1) := by decide +kernel
theorem dX9_lentRights_29 : decode cX9_lentRights 29 = .ok (.iload_n 1, 1) := by decide +kernel
theorem dX9_lentRights_30 : decode cX9_lentRights 30 = .ok (.if_icmp .ne 28, 3) := by decide +kernel
theorem dX9_lentRights_33 : decode cX9_lentRights 33 = .ok (.aload_n 0, 1) := by decide +kernel
theorem dX9_lentRights_34 : decode cX9_lentRights 34 = .ok (.getfield 7, 3) := by decide +kernel
theorem dX9_lentRights_37 : decode cX9_lentRights 37 = .ok (.iload 4, 2) := by decide +kernel
theorem dX9_lentRights_39 : decode cX9_lentRights 39 = .ok (.invokestatic 60, 3) := by decide +kernel
theorem dX9_lentRights_42 : decode cX9_lentRights 42 = .ok (.iconst 2, 1) := by decide +kernel
theorem dX9_lentRights_43 : decode cX9_lentRights 43 = .ok (.iadd, 1) := by decide +kernel
theorem dX9_lentRights_44 : decode cX9_lentRights 44 = .ok (.iaload, 1) := by decide +kernel
theorem dX9_lentRights_45 : decode cX9_lentRights 45 = .ok (.iload_n 2, 1) := by decide +kernel
theorem dX9_lentRights_46 : decode cX9_lentRights 46 = .ok (.if_icmp .ne 12, 3) := by decide +kernel
theorem dX9_lentRights_49 : decode cX9_lentRights 49 = .ok (.aload_n 0, 1) := by decide +kernel
theorem dX9_lentRights_50 : decode cX9_lentRights 50 = .ok (.iload 4, 2) := by decide +kernel
theorem dX9_lentRights_52 : decode cX9_lentRights 52 = .ok (.invokevirtual 76, 3) := by decide +kernel
theorem dX9_lentRights_55 : decode cX9_lentRights 55 = .ok (.goto 4, 3) := by decide +kernel
theorem dX9_lentRights_58 : decode cX9_lentRights 58 = .ok (.iconst 0, 1) := by decide +kernel
theorem dX9_lentRights_59 : decode cX9_lentRights 59 = .ok (.iadd, 1) := by decide +kernel
theorem dX9_lentRights_60 : decode cX9_lentRights 60 = .ok (.istore_n 3, 1) := by decide +kernel
theorem dX9_lentRights_61 : decode cX9_lentRights 61 = .ok (.iinc 4 1, 3) := by decide +kernel
theorem dX9_lentRights_64 : decode cX9_lentRights 64 = .ok (.goto (-59), 3) := by decide +kernel
theorem dX9_lentRights_67 : decode cX9_lentRights 67 = .ok (.iload_n 3, 1) := by decide +kernel
theorem dX9_lentRights_68 : decode cX9_lentRights 68 = .ok (.ireturn, 1) := by decide +kernel
theorem dX9_allRights_0 : decode cX9_allRights 0 = .ok (.aload_n 0, 1) := by decide +kernel
theorem dX9_allRights_1 : decode cX9_allRights 1 = .ok (.iload_n 1, 1) := by decide +kernel
theorem dX9_allRights_2 : decode cX9_allRights 2 = .ok (.iload_n 2, 1) := by decide +kernel
theorem dX9_allRights_3 : decode cX9_allRights 3 = .ok (.invokevirtual 79, 3) := by decide +kernel
theorem dX9_allRights_6 : decode cX9_allRights 6 = .ok (.aload_n 0, 1) := by decide +kernel
theorem dX9_allRights_7 : decode cX9_allRights 7 = .ok (.iload_n 1, 1) := by decide +kernel
theorem dX9_allRights_8 : decode cX9_allRights 8 = .ok (.iload_n 2, 1) := by decide +kernel
theorem dX9_allRights_9 : decode cX9_allRights 9 = .ok (.invokevirtual 82, 3) := by decide +kernel
theorem dX9_allRights_12 : decode cX9_allRights 12 = .ok (.iadd, 1) := by decide +kernel
theorem dX9_allRights_13 : decode cX9_allRights 13 = .ok (.ireturn, 1) := by decide +kernel
theorem dX9_firstLoan_0 : decode cX9_firstLoan 0 = .ok (.iconst (-1), 1) := by decide +kernel
theorem dX9_firstLoan_1 : decode cX9_firstLoan 1 = .ok (.istore_n 3, 1) := by decide +kernel
theorem dX9_firstLoan_2 : decode cX9_firstLoan 2 = .ok (.iconst 0, 1) := by decide +kernel
theorem dX9_firstLoan_3 : decode cX9_firstLoan 3 = .ok (.istore 4, 2) := by decide +kernel
theorem dX9_firstLoan_5 : decode cX9_firstLoan 5 = .ok (.iload 4, 2) := by decide +kernel
theorem dX9_firstLoan_7 : decode cX9_firstLoan 7 = .ok (.aload_n 0, 1) := by decide +kernel
theorem dX9_firstLoan_8 : decode cX9_firstLoan 8 = .ok (.getfield 7, 3) := by decide +kernel
theorem dX9_firstLoan_11 : decode cX9_firstLoan 11 = .ok (.iconst 4, 1) := by decide +kernel
theorem dX9_firstLoan_12 : decode cX9_firstLoan 12 = .ok (.iaload, 1) := by decide +kernel
theorem dX9_firstLoan_13 : decode cX9_firstLoan 13 = .ok (.if_icmp .ge 97, 3) := by decide +kernel
theorem dX9_firstLoan_16 : decode cX9_firstLoan 16 = .ok (.iload 4, 2) := by decide +kernel
theorem dX9_firstLoan_18 : decode cX9_firstLoan 18 = .ok (.invokestatic 60, 3) := by decide +kernel
theorem dX9_firstLoan_21 : decode cX9_firstLoan 21 = .ok (.istore 5, 2) := by decide +kernel
theorem dX9_firstLoan_23 : decode cX9_firstLoan 23 = .ok (.aload_n 0, 1) := by decide +kernel
theorem dX9_firstLoan_24 : decode cX9_firstLoan 24 = .ok (.getfield 7, 3) := by decide +kernel
theorem dX9_firstLoan_27 : decode cX9_firstLoan 27 = .ok (.iload 5, 2) := by decide +kernel
theorem dX9_firstLoan_29 : decode cX9_firstLoan 29 = .ok (.iconst 1, 1) := by decide +kernel
theorem dX9_firstLoan_30 : decode cX9_firstLoan 30 = .ok (.iadd, 1) := by decide +kernel
theorem dX9_firstLoan_31 : decode cX9_firstLoan 31 = .ok (.iaload, 1) := by decide +kernel
theorem dX9_firstLoan_32 : decode cX9_firstLoan 32 = .ok (.iload_n 1, 1) := by decide +kernel
theorem dX9_firstLoan_33 : decode cX9_firstLoan 33 = .ok (.if_icmp .ne 29, 3) := by decide +kernel
theorem dX9_firstLoan_36 : decode cX9_firstLoan 36 = .ok (.aload_n 0, 1) := by decide +kernel
theorem dX9_firstLoan_37 : decode cX9_firstLoan 37 = .ok (.getfield 7, 3) := by decide +kernel
theorem dX9_firstLoan_40 : decode cX9_firstLoan 40 = .ok (.iload 5, 2) := by decide +kernel
theorem dX9_firstLoan_42 : decode cX9_firstLoan 42 = .ok (.iconst 2, 1) := by decide +kernel
theorem dX9_firstLoan_43 : decode cX9_firstLoan 43 = .ok (.iadd, 1) := by decide +kernel
theorem dX9_firstLoan_44 : decode cX9_firstLoan 44 = .ok (.iaload, 1) := by decide +kernel
theorem dX9_firstLoan_45 : decode cX9_firstLoan 45 = .ok (.iload_n 2, 1) := by decide +kernel
theorem dX9_firstLoan_46 : decode cX9_firstLoan 46 = .ok (.if_icmp .ne 16, 3) := by decide +kernel
theorem dX9_firstLoan_49 : decode cX9_firstLoan 49 = .ok (.aload_n 0, 1) := by decide +kernel
theorem dX9_firstLoan_50 : decode cX9_firstLoan 50 = .ok (.iload 4, 2) := by decide +kernel
theorem dX9_firstLoan_52 : decode cX9_firstLoan 52 = .ok (.invokevirtual 76, 3) := by decide +kernel
theorem dX9_firstLoan_55 : decode cX9_firstLoan 55 = .ok (.ifCond .le 7, 3) := by decide +kernel
theorem dX9_firstLoan_58 : decode cX9_firstLoan 58 = .ok (.iconst 1, 1) := by decide +kernel
theorem dX9_firstLoan_59 : decode cX9_firstLoan 59 = .ok (.goto 4, 3) := by decide +kernel
theorem dX9_firstLoan_62 : decode cX9_firstLoan 62 = .ok (.iconst 0, 1) := by decide +kernel
theorem dX9_firstLoan_63 : decode cX9_firstLoan 63 = .ok (.istore 6, 2) := by decide +kernel
theorem dX9_firstLoan_65 : decode cX9_firstLoan 65 = .ok (.iload 6, 2) := by decide +kernel
theorem dX9_firstLoan_67 : decode cX9_firstLoan 67 = .ok (.ifCond .eq 35, 3) := by decide +kernel
theorem dX9_firstLoan_70 : decode cX9_firstLoan 70 = .ok (.iload_n 3, 1) := by decide +kernel
theorem dX9_firstLoan_71 : decode cX9_firstLoan 71 = .ok (.ifCond .lt 26, 3) := by decide +kernel
theorem dX9_firstLoan_74 : decode cX9_firstLoan 74 = .ok (.aload_n 0, 1) := by decide +kernel
theorem dX9_firstLoan_75 : decode cX9_firstLoan 75 = .ok (.getfield 7, 3) := by decide +kernel
theorem dX9_firstLoan_78 : decode cX9_firstLoan 78 = .ok (.iload 5, 2) := by decide +kernel
theorem dX9_firstLoan_80 : decode cX9_firstLoan 80 = .ok (.iconst 4, 1) := by decide +kernel
theorem dX9_firstLoan_81 : decode cX9_firstLoan 81 = .ok (.iadd, 1) := by decide +kernel
theorem dX9_firstLoan_82 : decode cX9_firstLoan 82 = .ok (.iaload, 1) := by decide +kernel
theorem dX9_firstLoan_83 : decode cX9_firstLoan 83 = .ok (.aload_n 0, 1) := by decide +kernel
theorem dX9_firstLoan_84 : decode cX9_firstLoan 84 = .ok (.getfield 7, 3) := by decide +kernel
theorem dX9_firstLoan_87 : decode cX9_firstLoan 87 = .ok (.iload_n 3, 1) := by decide +kernel
theorem dX9_firstLoan_88 : decode cX9_firstLoan 88 = .ok (.invokestatic 60, 3) := by decide +kernel
theorem dX9_firstLoan_91 : decode cX9_firstLoan 91 = .ok (.iconst 4, 1) := by decide +kernel
theorem dX9_firstLoan_92 : decode cX9_firstLoan 92 = .ok (.iadd, 1) := by decide +kernel
theorem dX9_firstLoan_93 : decode cX9_firstLoan 93 = .ok (.iaload, 1) := by decide +kernel
theorem dX9_firstLoan_94 : decode cX9_firstLoan 94 = .ok (.if_icmp .ge 8, 3) := by decide +kernel
theorem dX9_firstLoan_97 : decode cX9_firstLoan 97 = .ok (.iload 4, 2) := by decide +kernel
theorem dX9_firstLoan_99 : decode cX9_firstLoan 99 = .ok (.goto 4, 3) := by decide +kernel
theorem dX9_firstLoan_102 : decode cX9_firstLoan 102 = .ok (.iload_n 3, 1) := by decide +kernel
theorem dX9_firstLoan_103 : decode cX9_firstLoan 103 = .ok (.istore_n 3, 1) := by decide +kernel
theorem dX9_firstLoan_104 : decode cX9_firstLoan 104 = .ok (.iinc 4 1, 3) := by decide +kernel
theorem dX9_firstLoan_107 : decode cX9_firstLoan 107 = .ok (.goto (-102), 3) := by decide +kernel
theorem dX9_firstLoan_110 : decode cX9_firstLoan 110 = .ok (.iload_n 3, 1) := by decide +kernel
theorem dX9_firstLoan_111 : decode cX9_firstLoan 111 = .ok (.ireturn, 1) := by decide +kernel
theorem dX9_uses_0 : decode cX9_uses 0 = .ok (.iload_n 3, 1) := by decide +kernel
theorem dX9_uses_1 : decode cX9_uses 1 = .ok (.aload_n 0, 1) := by decide +kernel
theorem dX9_uses_2 : decode cX9_uses 2 = .ok (.iload_n 1, 1) := by decide +kernel
theorem dX9_uses_3 : decode cX9_uses 3 = .ok (.iload_n 2, 1) := by decide +kernel
theorem dX9_uses_4 : decode cX9_uses 4 = .ok (.invokevirtual 85, 3) := by decide +kernel
theorem dX9_uses_7 : decode cX9_uses 7 = .ok (.isub, 1) := by decide +kernel
theorem dX9_uses_8 : decode cX9_uses 8 = .ok (.istore 4, 2) := by decide +kernel
theorem dX9_uses_10 : decode cX9_uses 10 = .ok (.iload 4, 2) := by decide +kernel
theorem dX9_uses_12 : decode cX9_uses 12 = .ok (.ifCond .le 59, 3) := by decide +kernel
theorem dX9_uses_15 : decode cX9_uses 15 = .ok (.aload_n 0, 1) := by decide +kernel
theorem dX9_uses_16 : decode cX9_uses 16 = .ok (.getfield 7, 3) := by decide +kernel
theorem dX9_uses_19 : decode cX9_uses 19 = .ok (.aload_n 0, 1) := by decide +kernel
theorem dX9_uses_20 : decode cX9_uses 20 = .ok (.iload_n 1, 1) := by decide +kernel
theorem dX9_uses_21 : decode cX9_uses 21 = .ok (.invokevirtual 56, 3) := by decide +kernel
theorem dX9_uses_24 : decode cX9_uses 24 = .ok (.bipush 14, 2) := by decide +kernel
theorem dX9_uses_26 : decode cX9_uses 26 = .ok (.iadd, 1) := by decide +kernel
theorem dX9_uses_27 : decode cX9_uses 27 = .ok (.iload_n 2, 1) := by decide +kernel
theorem dX9_uses_28 : decode cX9_uses 28 = .ok (.iadd, 1) := by decide +kernel
theorem dX9_uses_29 : decode cX9_uses 29 = .ok (.iaload, 1) := by decide +kernel
theorem dX9_uses_30 : decode cX9_uses 30 = .ok (.iload 4, 2) := by decide +kernel
theorem dX9_uses_32 : decode cX9_uses 32 = .ok (.iadd, 1) := by decide +kernel
theorem dX9_uses_33 : decode cX9_uses 33 = .ok (.istore 5, 2) := by decide +kernel
theorem dX9_uses_35 : decode cX9_uses 35 = .ok (.aload_n 0, 1) := by decide +kernel
theorem dX9_uses_36 : decode cX9_uses 36 = .ok (.getfield 7, 3) := by decide +kernel
theorem dX9_uses_39 : decode cX9_uses 39 = .ok (.aload_n 0, 1) := by decide +kernel
theorem dX9_uses_40 : decode cX9_uses 40 = .ok (.iload_n 1, 1) := by decide +kernel
theorem dX9_uses_41 : decode cX9_uses 41 = .ok (.invokevirtual 56, 3) := by decide +kernel
theorem dX9_uses_44 : decode cX9_uses 44 = .ok (.bipush 14, 2) := by decide +kernel
theorem dX9_uses_46 : decode cX9_uses 46 = .ok (.iadd, 1) := by decide +kernel
theorem dX9_uses_47 : decode cX9_uses 47 = .ok (.iload_n 2, 1) := by decide +kernel
theorem dX9_uses_48 : decode cX9_uses 48 = .ok (.iadd, 1) := by decide +kernel
theorem dX9_uses_49 : decode cX9_uses 49 = .ok (.iload 5, 2) := by decide +kernel
theorem dX9_uses_51 : decode cX9_uses 51 = .ok (.ldc 88, 2) := by decide +kernel
theorem dX9_uses_53 : decode cX9_uses 53 = .ok (.if_icmp .le 8, 3) := by decide +kernel
theorem dX9_uses_56 : decode cX9_uses 56 = .ok (.ldc 88, 2) := by decide +kernel
theorem dX9_uses_58 : decode cX9_uses 58 = .ok (.goto 5, 3) := by decide +kernel
theorem dX9_uses_61 : decode cX9_uses 61 = .ok (.iload 5, 2) := by decide +kernel
theorem dX9_uses_63 : decode cX9_uses 63 = .ok (.iastore, 1) := by decide +kernel
theorem dX9_uses_64 : decode cX9_uses 64 = .ok (.aload_n 0, 1) := by decide +kernel
theorem dX9_uses_65 : decode cX9_uses 65 = .ok (.iload_n 1, 1) := by decide +kernel
theorem dX9_uses_66 : decode cX9_uses 66 = .ok (.invokevirtual 89, 3) := by decide +kernel
theorem dX9_uses_69 : decode cX9_uses 69 = .ok (.iconst 0, 1) := by decide +kernel
theorem dX9_uses_70 : decode cX9_uses 70 = .ok (.ireturn, 1) := by decide +kernel
theorem dX9_uses_71 : decode cX9_uses 71 = .ok (.iload_n 3, 1) := by decide +kernel
theorem dX9_uses_72 : decode cX9_uses 72 = .ok (.istore 5, 2) := by decide +kernel
theorem dX9_uses_74 : decode cX9_uses 74 = .ok (.aload_n 0, 1) := by decide +kernel
theorem dX9_uses_75 : decode cX9_uses 75 = .ok (.iload_n 1, 1) := by decide +kernel
theorem dX9_uses_76 : decode cX9_uses 76 = .ok (.iload_n 2, 1) := by decide +kernel
theorem dX9_uses_77 : decode cX9_uses 77 = .ok (.invokevirtual 93, 3) := by decide +kernel
theorem dX9_uses_80 : decode cX9_uses 80 = .ok (.istore 6, 2) := by decide +kernel
theorem dX9_uses_82 : decode cX9_uses 82 = .ok (.iload 6, 2) := by decide +kernel
theorem dX9_uses_84 : decode cX9_uses 84 = .ok (.ifCond .lt 71, 3) := by decide +kernel
theorem dX9_uses_87 : decode cX9_uses 87 = .ok (.iload 5, 2) := by decide +kernel
theorem dX9_uses_89 : decode cX9_uses 89 = .ok (.ifCond .le 66, 3) := by decide +kernel
theorem dX9_uses_92 : decode cX9_uses 92 = .ok (.aload_n 0, 1) := by decide +kernel
theorem dX9_uses_93 : decode cX9_uses 93 = .ok (.iload 6, 2) := by decide +kernel
theorem dX9_uses_95 : decode cX9_uses 95 = .ok (.invokevirtual 76, 3) := by decide +kernel
theorem dX9_uses_98 : decode cX9_uses 98 = .ok (.iload 5, 2) := by decide +kernel
theorem dX9_uses_100 : decode cX9_uses 100 = .ok (.if_icmp .ge 12, 3) := by decide +kernel
theorem dX9_uses_103 : decode cX9_uses 103 = .ok (.aload_n 0, 1) := by decide +kernel
theorem dX9_uses_104 : decode cX9_uses 104 = .ok (.iload 6, 2) := by decide +kernel
theorem dX9_uses_106 : decode cX9_uses 106 = .ok (.invokevirtual 76, 3) := by decide +kernel
theorem dX9_uses_109 : decode cX9_uses 109 = .ok (.goto 5, 3) := by decide +kernel
theorem dX9_uses_112 : decode cX9_uses 112 = .ok (.iload 5, 2) := by decide +kernel
theorem dX9_uses_114 : decode cX9_uses 114 = .ok (.istore 7, 2) := by decide +kernel
theorem dX9_uses_116 : decode cX9_uses 116 = .ok (.aload_n 0, 1) := by decide +kernel
theorem dX9_uses_117 : decode cX9_uses 117 = .ok (.getfield 7, 3) := by decide +kernel
theorem dX9_uses_120 : decode cX9_uses 120 = .ok (.aload_n 0, 1) := by decide +kernel
theorem dX9_uses_121 : decode cX9_uses 121 = .ok (.iload_n 1, 1) := by decide +kernel
theorem dX9_uses_122 : decode cX9_uses 122 = .ok (.invokevirtual 56, 3) := by decide +kernel
theorem dX9_uses_125 : decode cX9_uses 125 = .ok (.bipush 17, 2) := by decide +kernel
theorem dX9_uses_127 : decode cX9_uses 127 = .ok (.iadd, 1) := by decide +kernel
theorem dX9_uses_128 : decode cX9_uses 128 = .ok (.iload 6, 2) := by decide +kernel
theorem dX9_uses_130 : decode cX9_uses 130 = .ok (.iadd, 1) := by decide +kernel
theorem dX9_uses_131 : decode cX9_uses 131 = .ok (.dup2, 1) := by decide +kernel
theorem dX9_uses_132 : decode cX9_uses 132 = .ok (.iaload, 1) := by decide +kernel
theorem dX9_uses_133 : decode cX9_uses 133 = .ok (.iload 7, 2) := by decide +kernel
theorem dX9_uses_135 : decode cX9_uses 135 = .ok (.iadd, 1) := by decide +kernel
theorem dX9_uses_136 : decode cX9_uses 136 = .ok (.iastore, 1) := by decide +kernel
theorem dX9_uses_137 : decode cX9_uses 137 = .ok (.iload 5, 2) := by decide +kernel
theorem dX9_uses_139 : decode cX9_uses 139 = .ok (.iload 7, 2) := by decide +kernel
theorem dX9_uses_141 : decode cX9_uses 141 = .ok (.isub, 1) := by decide +kernel
theorem dX9_uses_142 : decode cX9_uses 142 = .ok (.istore 5, 2) := by decide +kernel
theorem dX9_uses_144 : decode cX9_uses 144 = .ok (.aload_n 0, 1) := by decide +kernel
theorem dX9_uses_145 : decode cX9_uses 145 = .ok (.iload_n 1, 1) := by decide +kernel
theorem dX9_uses_146 : decode cX9_uses 146 = .ok (.iload_n 2, 1) := by decide +kernel
theorem dX9_uses_147 : decode cX9_uses 147 = .ok (.invokevirtual 93, 3) := by decide +kernel
theorem dX9_uses_150 : decode cX9_uses 150 = .ok (.istore 6, 2) := by decide +kernel
theorem dX9_uses_152 : decode cX9_uses 152 = .ok (.goto (-70), 3) := by decide +kernel
theorem dX9_uses_155 : decode cX9_uses 155 = .ok (.aload_n 0, 1) := by decide +kernel
theorem dX9_uses_156 : decode cX9_uses 156 = .ok (.getfield 7, 3) := by decide +kernel
theorem dX9_uses_159 : decode cX9_uses 159 = .ok (.aload_n 0, 1) := by decide +kernel
theorem dX9_uses_160 : decode cX9_uses 160 = .ok (.iload_n 1, 1) := by decide +kernel
theorem dX9_uses_161 : decode cX9_uses 161 = .ok (.invokevirtual 56, 3) := by decide +kernel
theorem dX9_uses_164 : decode cX9_uses 164 = .ok (.iload_n 2, 1) := by decide +kernel
theorem dX9_uses_165 : decode cX9_uses 165 = .ok (.ifCond .ne 7, 3) := by decide +kernel
theorem dX9_uses_168 : decode cX9_uses 168 = .ok (.iconst 2, 1) := by decide +kernel
theorem dX9_uses_169 : decode cX9_uses 169 = .ok (.goto 4, 3) := by decide +kernel
theorem dX9_uses_172 : decode cX9_uses 172 = .ok (.iconst 3, 1) := by decide +kernel
theorem dX9_uses_173 : decode cX9_uses 173 = .ok (.iadd, 1) := by decide +kernel
theorem dX9_uses_174 : decode cX9_uses 174 = .ok (.dup2, 1) := by decide +kernel
theorem dX9_uses_175 : decode cX9_uses 175 = .ok (.iaload, 1) := by decide +kernel
theorem dX9_uses_176 : decode cX9_uses 176 = .ok (.iload_n 3, 1) := by decide +kernel
theorem dX9_uses_177 : decode cX9_uses 177 = .ok (.iadd, 1) := by decide +kernel
theorem dX9_uses_178 : decode cX9_uses 178 = .ok (.iastore, 1) := by decide +kernel
theorem dX9_uses_179 : decode cX9_uses 179 = .ok (.aload_n 0, 1) := by decide +kernel
theorem dX9_uses_180 : decode cX9_uses 180 = .ok (.iload_n 1, 1) := by decide +kernel
theorem dX9_uses_181 : decode cX9_uses 181 = .ok (.invokevirtual 89, 3) := by decide +kernel
theorem dX9_uses_184 : decode cX9_uses 184 = .ok (.iconst 1, 1) := by decide +kernel
theorem dX9_uses_185 : decode cX9_uses 185 = .ok (.ireturn, 1) := by decide +kernel
theorem dX9_change_0 : decode cX9_change 0 = .ok (.aload_n 0, 1) := by decide +kernel
theorem dX9_change_1 : decode cX9_change 1 = .ok (.aload_n 0, 1) := by decide +kernel
theorem dX9_change_2 : decode cX9_change 2 = .ok (.iload_n 1, 1) := by decide +kernel
theorem dX9_change_3 : decode cX9_change 3 = .ok (.invokevirtual 96, 3) := by decide +kernel
theorem dX9_change_6 : decode cX9_change 6 = .ok (.ifCond .ne 7, 3) := by decide +kernel
theorem dX9_change_9 : decode cX9_change 9 = .ok (.iconst 1, 1) := by decide +kernel
theorem dX9_change_10 : decode cX9_change 10 = .ok (.goto 19, 3) := by decide +kernel
theorem dX9_change_13 : decode cX9_change 13 = .ok (.iload_n 3, 1) := by decide +kernel
theorem dX9_change_14 : decode cX9_change 14 = .ok (.iconst 1, 1) := by decide +kernel
theorem dX9_change_15 : decode cX9_change 15 = .ok (.sipush 999, 3) := by decide +kernel
theorem dX9_change_18 : decode cX9_change 18 = .ok (.invokestatic 48, 3) := by decide +kernel
theorem dX9_change_21 : decode cX9_change 21 = .ok (.ifCond .ne 7, 3) := by decide +kernel
theorem dX9_change_24 : decode cX9_change 24 = .ok (.iconst 2, 1) := by decide +kernel
theorem dX9_change_25 : decode cX9_change 25 = .ok (.goto 4, 3) := by decide +kernel
theorem dX9_change_28 : decode cX9_change 28 = .ok (.iconst 0, 1) := by decide +kernel
theorem dX9_change_29 : decode cX9_change 29 = .ok (.putfield 42, 3) := by decide +kernel
theorem dX9_change_32 : decode cX9_change 32 = .ok (.aload_n 0, 1) := by decide +kernel
theorem dX9_change_33 : decode cX9_change 33 = .ok (.getfield 42, 3) := by decide +kernel
theorem dX9_change_36 : decode cX9_change 36 = .ok (.ifCond .eq 5, 3) := by decide +kernel
theorem dX9_change_39 : decode cX9_change 39 = .ok (.iconst 0, 1) := by decide +kernel
theorem dX9_change_40 : decode cX9_change 40 = .ok (.ireturn, 1) := by decide +kernel
theorem dX9_change_41 : decode cX9_change 41 = .ok (.aload_n 0, 1) := by decide +kernel
theorem dX9_change_42 : decode cX9_change 42 = .ok (.invokevirtual 99, 3) := by decide +kernel
theorem dX9_change_45 : decode cX9_change 45 = .ok (.aload_n 0, 1) := by decide +kernel
theorem dX9_change_46 : decode cX9_change 46 = .ok (.iload_n 1, 1) := by decide +kernel
theorem dX9_change_47 : decode cX9_change 47 = .ok (.iload_n 2, 1) := by decide +kernel
theorem dX9_change_48 : decode cX9_change 48 = .ok (.iload_n 3, 1) := by decide +kernel
theorem dX9_change_49 : decode cX9_change 49 = .ok (.invokevirtual 102, 3) := by decide +kernel
theorem dX9_change_52 : decode cX9_change 52 = .ok (.ireturn, 1) := by decide +kernel
theorem dX9_sites_0 : decode cX9_sites 0 = .ok (.aload_n 0, 1) := by decide +kernel
theorem dX9_sites_1 : decode cX9_sites 1 = .ok (.iconst 0, 1) := by decide +kernel
theorem dX9_sites_2 : decode cX9_sites 2 = .ok (.putfield 42, 3) := by decide +kernel
theorem dX9_sites_5 : decode cX9_sites 5 = .ok (.aload_n 0, 1) := by decide +kernel
theorem dX9_sites_6 : decode cX9_sites 6 = .ok (.getfield 34, 3) := by decide +kernel
theorem dX9_sites_9 : decode cX9_sites 9 = .ok (.ireturn, 1) := by decide +kernel
theorem dX9_valueNow_0 : decode cX9_valueNow 0 = .ok (.aload_n 0, 1) := by decide +kernel
theorem dX9_valueNow_1 : decode cX9_valueNow 1 = .ok (.getfield 7, 3) := by decide +kernel
theorem dX9_valueNow_4 : decode cX9_valueNow 4 = .ok (.iconst 3, 1) := by decide +kernel
theorem dX9_valueNow_5 : decode cX9_valueNow 5 = .ok (.iaload, 1) := by decide +kernel
theorem dX9_valueNow_6 : decode cX9_valueNow 6 = .ok (.istore_n 1, 1) := by decide +kernel
theorem dX9_valueNow_7 : decode cX9_valueNow 7 = .ok (.iconst 0, 1) := by decide +kernel
theorem dX9_valueNow_8 : decode cX9_valueNow 8 = .ok (.istore_n 2, 1) := by decide +kernel
theorem dX9_valueNow_9 : decode cX9_valueNow 9 = .ok (.iload_n 2, 1) := by decide +kernel
theorem dX9_valueNow_10 : decode cX9_valueNow 10 = .ok (.aload_n 0, 1) := by decide +kernel
theorem dX9_valueNow_11 : decode cX9_valueNow 11 = .ok (.getfield 34, 3) := by decide +kernel
theorem dX9_valueNow_14 : decode cX9_valueNow 14 = .ok (.if_icmp .ge 37, 3) := by decide +kernel
theorem dX9_valueNow_17 : decode cX9_valueNow 17 = .ok (.iload_n 1, 1) := by decide +kernel
theorem dX9_valueNow_18 : decode cX9_valueNow 18 = .ok (.aload_n 0, 1) := by decide +kernel
theorem dX9_valueNow_19 : decode cX9_valueNow 19 = .ok (.getfield 7, 3) := by decide +kernel
theorem dX9_valueNow_22 : decode cX9_valueNow 22 = .ok (.aload_n 0, 1) := by decide +kernel
theorem dX9_valueNow_23 : decode cX9_valueNow 23 = .ok (.iload_n 2, 1) := by decide +kernel
theorem dX9_valueNow_24 : decode cX9_valueNow 24 = .ok (.invokevirtual 56, 3) := by decide +kernel
theorem dX9_valueNow_27 : decode cX9_valueNow 27 = .ok (.iconst 2, 1) := by decide +kernel
theorem dX9_valueNow_28 : decode cX9_valueNow 28 = .ok (.iadd, 1) := by decide +kernel
theorem dX9_valueNow_29 : decode cX9_valueNow 29 = .ok (.iaload, 1) := by decide +kernel
theorem dX9_valueNow_30 : decode cX9_valueNow 30 = .ok (.aload_n 0, 1) := by decide +kernel
theorem dX9_valueNow_31 : decode cX9_valueNow 31 = .ok (.getfield 7, 3) := by decide +kernel
theorem dX9_valueNow_34 : decode cX9_valueNow 34 = .ok (.aload_n 0, 1) := by decide +kernel
theorem dX9_valueNow_35 : decode cX9_valueNow 35 = .ok (.iload_n 2, 1) := by decide +kernel
theorem dX9_valueNow_36 : decode cX9_valueNow 36 = .ok (.invokevirtual 56, 3) := by decide +kernel
theorem dX9_valueNow_39 : decode cX9_valueNow 39 = .ok (.iconst 3, 1) := by decide +kernel
theorem dX9_valueNow_40 : decode cX9_valueNow 40 = .ok (.iadd, 1) := by decide +kernel
theorem dX9_valueNow_41 : decode cX9_valueNow 41 = .ok (.iaload, 1) := by decide +kernel
theorem dX9_valueNow_42 : decode cX9_valueNow 42 = .ok (.isub, 1) := by decide +kernel
theorem dX9_valueNow_43 : decode cX9_valueNow 43 = .ok (.iadd, 1) := by decide +kernel
theorem dX9_valueNow_44 : decode cX9_valueNow 44 = .ok (.istore_n 1, 1) := by decide +kernel
theorem dX9_valueNow_45 : decode cX9_valueNow 45 = .ok (.iinc 2 1, 3) := by decide +kernel
theorem dX9_valueNow_48 : decode cX9_valueNow 48 = .ok (.goto (-39), 3) := by decide +kernel
theorem dX9_valueNow_51 : decode cX9_valueNow 51 = .ok (.iload_n 1, 1) := by decide +kernel
theorem dX9_valueNow_52 : decode cX9_valueNow 52 = .ok (.ireturn, 1) := by decide +kernel
theorem dX9_begin_0 : decode cX9_begin 0 = .ok (.aload_n 0, 1) := by decide +kernel
theorem dX9_begin_1 : decode cX9_begin 1 = .ok (.iconst 0, 1) := by decide +kernel
theorem dX9_begin_2 : decode cX9_begin 2 = .ok (.putfield 42, 3) := by decide +kernel
theorem dX9_begin_5 : decode cX9_begin 5 = .ok (.iload_n 1, 1) := by decide +kernel
theorem dX9_begin_6 : decode cX9_begin 6 = .ok (.sipush (-10000), 3) := by decide +kernel
theorem dX9_begin_9 : decode cX9_begin 9 = .ok (.sipush 10000, 3) := by decide +kernel
theorem dX9_begin_12 : decode cX9_begin 12 = .ok (.invokestatic 48, 3) := by decide +kernel
theorem dX9_begin_15 : decode cX9_begin 15 = .ok (.ifCond .eq 23, 3) := by decide +kernel
theorem dX9_begin_18 : decode cX9_begin 18 = .ok (.iload_n 2, 1) := by decide +kernel
theorem dX9_begin_19 : decode cX9_begin 19 = .ok (.iload_n 1, 1) := by decide +kernel
theorem dX9_begin_20 : decode cX9_begin 20 = .ok (.sipush 10000, 3) := by decide +kernel
theorem dX9_begin_23 : decode cX9_begin 23 = .ok (.invokestatic 48, 3) := by decide +kernel
theorem dX9_begin_26 : decode cX9_begin 26 = .ok (.ifCond .eq 12, 3) := by decide +kernel
theorem dX9_begin_29 : decode cX9_begin 29 = .ok (.iload_n 3, 1) := by decide +kernel
theorem dX9_begin_30 : decode cX9_begin 30 = .ok (.iload_n 1, 1) := by decide +kernel
theorem dX9_begin_31 : decode cX9_begin 31 = .ok (.iload_n 2, 1) := by decide +kernel
theorem dX9_begin_32 : decode cX9_begin 32 = .ok (.invokestatic 48, 3) := by decide +kernel
theorem dX9_begin_35 : decode cX9_begin 35 = .ok (.ifCond .ne 9, 3) := by decide +kernel
theorem dX9_begin_38 : decode cX9_begin 38 = .ok (.aload_n 0, 1) := by decide +kernel
theorem dX9_begin_39 : decode cX9_begin 39 = .ok (.iconst 1, 1) := by decide +kernel
theorem dX9_begin_40 : decode cX9_begin 40 = .ok (.invokevirtual 105, 3) := by decide +kernel
theorem dX9_begin_43 : decode cX9_begin 43 = .ok (.ireturn, 1) := by decide +kernel
theorem dX9_begin_44 : decode cX9_begin 44 = .ok (.aload_n 0, 1) := by decide +kernel
theorem dX9_begin_45 : decode cX9_begin 45 = .ok (.invokevirtual 108, 3) := by decide +kernel
theorem dX9_begin_48 : decode cX9_begin 48 = .ok (.istore 4, 2) := by decide +kernel
theorem dX9_begin_50 : decode cX9_begin 50 = .ok (.aload_n 0, 1) := by decide +kernel
theorem dX9_begin_51 : decode cX9_begin 51 = .ok (.iload_n 1, 1) := by decide +kernel
theorem dX9_begin_52 : decode cX9_begin 52 = .ok (.iload_n 2, 1) := by decide +kernel
theorem dX9_begin_53 : decode cX9_begin 53 = .ok (.iload_n 3, 1) := by decide +kernel
theorem dX9_begin_54 : decode cX9_begin 54 = .ok (.invokevirtual 38, 3) := by decide +kernel
theorem dX9_begin_57 : decode cX9_begin 57 = .ok (.iload 4, 2) := by decide +kernel
theorem dX9_begin_59 : decode cX9_begin 59 = .ok (.ireturn, 1) := by decide +kernel
theorem dX9_increase_0 : decode cX9_increase 0 = .ok (.aload_n 0, 1) := by decide +kernel
theorem dX9_increase_1 : decode cX9_increase 1 = .ok (.iload_n 1, 1) := by decide +kernel
theorem dX9_increase_2 : decode cX9_increase 2 = .ok (.iconst 0, 1) := by decide +kernel
theorem dX9_increase_3 : decode cX9_increase 3 = .ok (.iload_n 2, 1) := by decide +kernel
theorem dX9_increase_4 : decode cX9_increase 4 = .ok (.invokevirtual 112, 3) := by decide +kernel
theorem dX9_increase_7 : decode cX9_increase 7 = .ok (.ireturn, 1) := by decide +kernel
theorem dX9_decrease_0 : decode cX9_decrease 0 = .ok (.aload_n 0, 1) := by decide +kernel
theorem dX9_decrease_1 : decode cX9_decrease 1 = .ok (.iload_n 1, 1) := by decide +kernel
theorem dX9_decrease_2 : decode cX9_decrease 2 = .ok (.iconst 1, 1) := by decide +kernel
theorem dX9_decrease_3 : decode cX9_decrease 3 = .ok (.iload_n 2, 1) := by decide +kernel
theorem dX9_decrease_4 : decode cX9_decrease 4 = .ok (.invokevirtual 112, 3) := by decide +kernel
theorem dX9_decrease_7 : decode cX9_decrease 7 = .ok (.ireturn, 1) := by decide +kernel
theorem dX9_gives_0 : decode cX9_gives 0 = .ok (.aload_n 0, 1) := by decide +kernel
theorem dX9_gives_1 : decode cX9_gives 1 = .ok (.getfield 7, 3) := by decide +kernel
theorem dX9_gives_4 : decode cX9_gives 4 = .ok (.aload_n 0, 1) := by decide +kernel
theorem dX9_gives_5 : decode cX9_gives 5 = .ok (.iload_n 2, 1) := by decide +kernel
theorem dX9_gives_6 : decode cX9_gives 6 = .ok (.invokevirtual 56, 3) := by decide +kernel
theorem dX9_gives_9 : decode cX9_gives 9 = .ok (.iconst 4, 1) := by decide +kernel
theorem dX9_gives_10 : decode cX9_gives 10 = .ok (.iadd, 1) := by decide +kernel
theorem dX9_gives_11 : decode cX9_gives 11 = .ok (.iconst 5, 1) := by decide +kernel
theorem dX9_gives_12 : decode cX9_gives 12 = .ok (.iload_n 1, 1) := by decide +kernel
theorem dX9_gives_13 : decode cX9_gives 13 = .ok (.imul, 1) := by decide +kernel
theorem dX9_gives_14 : decode cX9_gives 14 = .ok (.iadd, 1) := by decide +kernel
theorem dX9_gives_15 : decode cX9_gives 15 = .ok (.iload_n 3, 1) := by decide +kernel
theorem dX9_gives_16 : decode cX9_gives 16 = .ok (.iadd, 1) := by decide +kernel
theorem dX9_gives_17 : decode cX9_gives 17 = .ok (.dup2, 1) := by decide +kernel
theorem dX9_gives_18 : decode cX9_gives 18 = .ok (.iaload, 1) := by decide +kernel
theorem dX9_gives_19 : decode cX9_gives 19 = .ok (.iload 4, 2) := by decide +kernel
theorem dX9_gives_21 : decode cX9_gives 21 = .ok (.iadd, 1) := by decide +kernel
theorem dX9_gives_22 : decode cX9_gives 22 = .ok (.iastore, 1) := by decide +kernel
theorem dX9_gives_23 : decode cX9_gives 23 = .ok (.aload_n 0, 1) := by decide +kernel
theorem dX9_gives_24 : decode cX9_gives 24 = .ok (.iload_n 2, 1) := by decide +kernel
theorem dX9_gives_25 : decode cX9_gives 25 = .ok (.invokevirtual 89, 3) := by decide +kernel
theorem dX9_gives_28 : decode cX9_gives 28 = .ok (.return_, 1) := by decide +kernel
theorem dX9_wrongPair_0 : decode cX9_wrongPair 0 = .ok (.aload_n 0, 1) := by decide +kernel
theorem dX9_wrongPair_1 : decode cX9_wrongPair 1 = .ok (.iload_n 2, 1) := by decide +kernel
theorem dX9_wrongPair_2 : decode cX9_wrongPair 2 = .ok (.invokevirtual 96, 3) := by decide +kernel
theorem dX9_wrongPair_5 : decode cX9_wrongPair 5 = .ok (.ifCond .eq 20, 3) := by decide +kernel
theorem dX9_wrongPair_8 : decode cX9_wrongPair 8 = .ok (.aload_n 0, 1) := by decide +kernel
theorem dX9_wrongPair_9 : decode cX9_wrongPair 9 = .ok (.iload_n 3, 1) := by decide +kernel
theorem dX9_wrongPair_10 : decode cX9_wrongPair 10 = .ok (.invokevirtual 96, 3) := by decide +kernel
theorem dX9_wrongPair_13 : decode cX9_wrongPair 13 = .ok (.ifCond .eq 12, 3) := by decide +kernel
theorem dX9_wrongPair_16 : decode cX9_wrongPair 16 = .ok (.iload_n 1, 1) := by decide +kernel
theorem dX9_wrongPair_17 : decode cX9_wrongPair 17 = .ok (.iconst 0, 1) := by decide +kernel
theorem dX9_wrongPair_18 : decode cX9_wrongPair 18 = .ok (.iconst 1, 1) := by decide +kernel
theorem dX9_wrongPair_19 : decode cX9_wrongPair 19 = .ok (.invokestatic 48, 3) := by decide +kernel
theorem dX9_wrongPair_22 : decode cX9_wrongPair 22 = .ok (.ifCond .ne 7, 3) := by decide +kernel
theorem dX9_wrongPair_25 : decode cX9_wrongPair 25 = .ok (.iconst 1, 1) := by decide +kernel
theorem dX9_wrongPair_26 : decode cX9_wrongPair 26 = .ok (.goto 18, 3) := by decide +kernel
theorem dX9_wrongPair_29 : decode cX9_wrongPair 29 = .ok (.iload_n 2, 1) := by decide +kernel
theorem dX9_wrongPair_30 : decode cX9_wrongPair 30 = .ok (.iload_n 3, 1) := by decide +kernel
theorem dX9_wrongPair_31 : decode cX9_wrongPair 31 = .ok (.if_icmp .eq 8, 3) := by decide +kernel
theorem dX9_wrongPair_34 : decode cX9_wrongPair 34 = .ok (.iload 4, 2) := by decide +kernel
theorem dX9_wrongPair_36 : decode cX9_wrongPair 36 = .ok (.ifCond .ne 7, 3) := by decide +kernel
theorem dX9_wrongPair_39 : decode cX9_wrongPair 39 = .ok (.iconst 2, 1) := by decide +kernel
theorem dX9_wrongPair_40 : decode cX9_wrongPair 40 = .ok (.goto 4, 3) := by decide +kernel
theorem dX9_wrongPair_43 : decode cX9_wrongPair 43 = .ok (.iconst 0, 1) := by decide +kernel
theorem dX9_wrongPair_44 : decode cX9_wrongPair 44 = .ok (.ireturn, 1) := by decide +kernel
theorem dX9_transfer_0 : decode cX9_transfer 0 = .ok (.aload_n 0, 1) := by decide +kernel
theorem dX9_transfer_1 : decode cX9_transfer 1 = .ok (.aload_n 0, 1) := by decide +kernel
theorem dX9_transfer_2 : decode cX9_transfer 2 = .ok (.iload_n 1, 1) := by decide +kernel
theorem dX9_transfer_3 : decode cX9_transfer 3 = .ok (.iload_n 2, 1) := by decide +kernel
theorem dX9_transfer_4 : decode cX9_transfer 4 = .ok (.iload_n 3, 1) := by decide +kernel
theorem dX9_transfer_5 : decode cX9_transfer 5 = .ok (.iload 4, 2) := by decide +kernel
theorem dX9_transfer_7 : decode cX9_transfer 7 = .ok (.iconst 1, 1) := by decide +kernel
theorem dX9_transfer_8 : decode cX9_transfer 8 = .ok (.sipush 999, 3) := by decide +kernel
theorem dX9_transfer_11 : decode cX9_transfer 11 = .ok (.invokestatic 48, 3) := by decide +kernel
theorem dX9_transfer_14 : decode cX9_transfer 14 = .ok (.invokevirtual 115, 3) := by decide +kernel
theorem dX9_transfer_17 : decode cX9_transfer 17 = .ok (.putfield 42, 3) := by decide +kernel
theorem dX9_transfer_20 : decode cX9_transfer 20 = .ok (.aload_n 0, 1) := by decide +kernel
theorem dX9_transfer_21 : decode cX9_transfer 21 = .ok (.getfield 42, 3) := by decide +kernel
theorem dX9_transfer_24 : decode cX9_transfer 24 = .ok (.ifCond .ne 19, 3) := by decide +kernel
theorem dX9_transfer_27 : decode cX9_transfer 27 = .ok (.aload_n 0, 1) := by decide +kernel
theorem dX9_transfer_28 : decode cX9_transfer 28 = .ok (.iload_n 2, 1) := by decide +kernel
theorem dX9_transfer_29 : decode cX9_transfer 29 = .ok (.iload_n 1, 1) := by decide +kernel
theorem dX9_transfer_30 : decode cX9_transfer 30 = .ok (.invokevirtual 79, 3) := by decide +kernel
theorem dX9_transfer_33 : decode cX9_transfer 33 = .ok (.iload 4, 2) := by decide +kernel
theorem dX9_transfer_35 : decode cX9_transfer 35 = .ok (.if_icmp .ge 8, 3) := by decide +kernel
theorem dX9_transfer_38 : decode cX9_transfer 38 = .ok (.aload_n 0, 1) := by decide +kernel
theorem dX9_transfer_39 : decode cX9_transfer 39 = .ok (.iconst 3, 1) := by decide +kernel
theorem dX9_transfer_40 : decode cX9_transfer 40 = .ok (.putfield 42, 3) := by decide +kernel
theorem dX9_transfer_43 : decode cX9_transfer 43 = .ok (.aload_n 0, 1) := by decide +kernel
theorem dX9_transfer_44 : decode cX9_transfer 44 = .ok (.getfield 42, 3) := by decide +kernel
theorem dX9_transfer_47 : decode cX9_transfer 47 = .ok (.ifCond .eq 5, 3) := by decide +kernel
theorem dX9_transfer_50 : decode cX9_transfer 50 = .ok (.iconst 0, 1) := by decide +kernel
theorem dX9_transfer_51 : decode cX9_transfer 51 = .ok (.ireturn, 1) := by decide +kernel
theorem dX9_transfer_52 : decode cX9_transfer 52 = .ok (.aload_n 0, 1) := by decide +kernel
theorem dX9_transfer_53 : decode cX9_transfer 53 = .ok (.invokevirtual 99, 3) := by decide +kernel
theorem dX9_transfer_56 : decode cX9_transfer 56 = .ok (.aload_n 0, 1) := by decide +kernel
theorem dX9_transfer_57 : decode cX9_transfer 57 = .ok (.iload_n 1, 1) := by decide +kernel
theorem dX9_transfer_58 : decode cX9_transfer 58 = .ok (.iload_n 2, 1) := by decide +kernel
theorem dX9_transfer_59 : decode cX9_transfer 59 = .ok (.iload_n 3, 1) := by decide +kernel
theorem dX9_transfer_60 : decode cX9_transfer 60 = .ok (.iload 4, 2) := by decide +kernel
theorem dX9_transfer_62 : decode cX9_transfer 62 = .ok (.invokevirtual 119, 3) := by decide +kernel
theorem dX9_transfer_65 : decode cX9_transfer 65 = .ok (.aload_n 0, 1) := by decide +kernel
theorem dX9_transfer_66 : decode cX9_transfer 66 = .ok (.iload_n 2, 1) := by decide +kernel
theorem dX9_transfer_67 : decode cX9_transfer 67 = .ok (.iload_n 1, 1) := by decide +kernel
theorem dX9_transfer_68 : decode cX9_transfer 68 = .ok (.invokevirtual 79, 3) := by decide +kernel
theorem dX9_transfer_71 : decode cX9_transfer 71 = .ok (.ireturn, 1) := by decide +kernel
theorem dX9_lend_0 : decode cX9_lend 0 = .ok (.aload_n 0, 1) := by decide +kernel
theorem dX9_lend_1 : decode cX9_lend 1 = .ok (.aload_n 0, 1) := by decide +kernel
theorem dX9_lend_2 : decode cX9_lend 2 = .ok (.iload_n 1, 1) := by decide +kernel
theorem dX9_lend_3 : decode cX9_lend 3 = .ok (.iload_n 2, 1) := by decide +kernel
theorem dX9_lend_4 : decode cX9_lend 4 = .ok (.iload_n 3, 1) := by decide +kernel
theorem dX9_lend_5 : decode cX9_lend 5 = .ok (.iload 4, 2) := by decide +kernel
theorem dX9_lend_7 : decode cX9_lend 7 = .ok (.iconst 1, 1) := by decide +kernel
theorem dX9_lend_8 : decode cX9_lend 8 = .ok (.sipush 999, 3) := by decide +kernel
theorem dX9_lend_11 : decode cX9_lend 11 = .ok (.invokestatic 48, 3) := by decide +kernel
theorem dX9_lend_14 : decode cX9_lend 14 = .ok (.ifCond .eq 19, 3) := by decide +kernel
theorem dX9_lend_17 : decode cX9_lend 17 = .ok (.iload 5, 2) := by decide +kernel
theorem dX9_lend_19 : decode cX9_lend 19 = .ok (.iconst 1, 1) := by decide +kernel
theorem dX9_lend_20 : decode cX9_lend 20 = .ok (.sipush 1000, 3) := by decide +kernel
theorem dX9_lend_23 : decode cX9_lend 23 = .ok (.invokestatic 48, 3) := by decide +kernel
theorem dX9_lend_26 : decode cX9_lend 26 = .ok (.ifCond .eq 7, 3) := by decide +kernel
theorem dX9_lend_29 : decode cX9_lend 29 = .ok (.iconst 1, 1) := by decide +kernel
theorem dX9_lend_30 : decode cX9_lend 30 = .ok (.goto 4, 3) := by decide +kernel
theorem dX9_lend_33 : decode cX9_lend 33 = .ok (.iconst 0, 1) := by decide +kernel
theorem dX9_lend_34 : decode cX9_lend 34 = .ok (.invokevirtual 115, 3) := by decide +kernel
theorem dX9_lend_37 : decode cX9_lend 37 = .ok (.putfield 42, 3) := by decide +kernel
theorem dX9_lend_40 : decode cX9_lend 40 = .ok (.aload_n 0, 1) := by decide +kernel
theorem dX9_lend_41 : decode cX9_lend 41 = .ok (.getfield 42, 3) := by decide +kernel
theorem dX9_lend_44 : decode cX9_lend 44 = .ok (.ifCond .ne 30, 3) := by decide +kernel
theorem dX9_lend_47 : decode cX9_lend 47 = .ok (.aload_n 0, 1) := by decide +kernel
theorem dX9_lend_48 : decode cX9_lend 48 = .ok (.getfield 7, 3) := by decide +kernel
theorem dX9_lend_51 : decode cX9_lend 51 = .ok (.iconst 4, 1) := by decide +kernel
theorem dX9_lend_52 : decode cX9_lend 52 = .ok (.iaload, 1) := by decide +kernel
theorem dX9_lend_53 : decode cX9_lend 53 = .ok (.bipush 10, 2) := by decide +kernel
theorem dX9_lend_55 : decode cX9_lend 55 = .ok (.if_icmp .eq 14, 3) := by decide +kernel
theorem dX9_lend_58 : decode cX9_lend 58 = .ok (.aload_n 0, 1) := by decide +kernel
theorem dX9_lend_59 : decode cX9_lend 59 = .ok (.iload_n 2, 1) := by decide +kernel
theorem dX9_lend_60 : decode cX9_lend 60 = .ok (.iload_n 1, 1) := by decide +kernel
theorem dX9_lend_61 : decode cX9_lend 61 = .ok (.invokevirtual 79, 3) := by decide +kernel
theorem dX9_lend_64 : decode cX9_lend 64 = .ok (.iload 4, 2) := by decide +kernel
theorem dX9_lend_66 : decode cX9_lend 66 = .ok (.if_icmp .ge 8, 3) := by decide +kernel
theorem dX9_lend_69 : decode cX9_lend 69 = .ok (.aload_n 0, 1) := by decide +kernel
theorem dX9_lend_70 : decode cX9_lend 70 = .ok (.iconst 3, 1) := by decide +kernel
theorem dX9_lend_71 : decode cX9_lend 71 = .ok (.putfield 42, 3) := by decide +kernel
theorem dX9_lend_74 : decode cX9_lend 74 = .ok (.aload_n 0, 1) := by decide +kernel
theorem dX9_lend_75 : decode cX9_lend 75 = .ok (.getfield 42, 3) := by decide +kernel
theorem dX9_lend_78 : decode cX9_lend 78 = .ok (.ifCond .eq 5, 3) := by decide +kernel
theorem dX9_lend_81 : decode cX9_lend 81 = .ok (.iconst 0, 1) := by decide +kernel
theorem dX9_lend_82 : decode cX9_lend 82 = .ok (.ireturn, 1) := by decide +kernel
theorem dX9_lend_83 : decode cX9_lend 83 = .ok (.aload_n 0, 1) := by decide +kernel
theorem dX9_lend_84 : decode cX9_lend 84 = .ok (.invokevirtual 99, 3) := by decide +kernel
theorem dX9_lend_87 : decode cX9_lend 87 = .ok (.aload_n 0, 1) := by decide +kernel
theorem dX9_lend_88 : decode cX9_lend 88 = .ok (.getfield 7, 3) := by decide +kernel
theorem dX9_lend_91 : decode cX9_lend 91 = .ok (.iconst 4, 1) := by decide +kernel
theorem dX9_lend_92 : decode cX9_lend 92 = .ok (.iaload, 1) := by decide +kernel
theorem dX9_lend_93 : decode cX9_lend 93 = .ok (.istore 6, 2) := by decide +kernel
theorem dX9_lend_95 : decode cX9_lend 95 = .ok (.iload 6, 2) := by decide +kernel
theorem dX9_lend_97 : decode cX9_lend 97 = .ok (.invokestatic 60, 3) := by decide +kernel
theorem dX9_lend_100 : decode cX9_lend 100 = .ok (.istore 7, 2) := by decide +kernel
theorem dX9_lend_102 : decode cX9_lend 102 = .ok (.aload_n 0, 1) := by decide +kernel
theorem dX9_lend_103 : decode cX9_lend 103 = .ok (.getfield 7, 3) := by decide +kernel
theorem dX9_lend_106 : decode cX9_lend 106 = .ok (.iload 7, 2) := by decide +kernel
theorem dX9_lend_108 : decode cX9_lend 108 = .ok (.iload_n 2, 1) := by decide +kernel
theorem dX9_lend_109 : decode cX9_lend 109 = .ok (.iastore, 1) := by decide +kernel
theorem dX9_lend_110 : decode cX9_lend 110 = .ok (.aload_n 0, 1) := by decide +kernel
theorem dX9_lend_111 : decode cX9_lend 111 = .ok (.getfield 7, 3) := by decide +kernel
theorem dX9_lend_114 : decode cX9_lend 114 = .ok (.iload 7, 2) := by decide +kernel
theorem dX9_lend_116 : decode cX9_lend 116 = .ok (.iconst 1, 1) := by decide +kernel
theorem dX9_lend_117 : decode cX9_lend 117 = .ok (.iadd, 1) := by decide +kernel
theorem dX9_lend_118 : decode cX9_lend 118 = .ok (.iload_n 3, 1) := by decide +kernel
theorem dX9_lend_119 : decode cX9_lend 119 = .ok (.iastore, 1) := by decide +kernel
theorem dX9_lend_120 : decode cX9_lend 120 = .ok (.aload_n 0, 1) := by decide +kernel
theorem dX9_lend_121 : decode cX9_lend 121 = .ok (.getfield 7, 3) := by decide +kernel
theorem dX9_lend_124 : decode cX9_lend 124 = .ok (.iload 7, 2) := by decide +kernel
theorem dX9_lend_126 : decode cX9_lend 126 = .ok (.iconst 2, 1) := by decide +kernel
theorem dX9_lend_127 : decode cX9_lend 127 = .ok (.iadd, 1) := by decide +kernel
theorem dX9_lend_128 : decode cX9_lend 128 = .ok (.iload_n 1, 1) := by decide +kernel
theorem dX9_lend_129 : decode cX9_lend 129 = .ok (.iastore, 1) := by decide +kernel
theorem dX9_lend_130 : decode cX9_lend 130 = .ok (.aload_n 0, 1) := by decide +kernel
theorem dX9_lend_131 : decode cX9_lend 131 = .ok (.getfield 7, 3) := by decide +kernel
theorem dX9_lend_134 : decode cX9_lend 134 = .ok (.iload 7, 2) := by decide +kernel
theorem dX9_lend_136 : decode cX9_lend 136 = .ok (.iconst 3, 1) := by decide +kernel
theorem dX9_lend_137 : decode cX9_lend 137 = .ok (.iadd, 1) := by decide +kernel
theorem dX9_lend_138 : decode cX9_lend 138 = .ok (.iload 4, 2) := by decide +kernel
theorem dX9_lend_140 : decode cX9_lend 140 = .ok (.iastore, 1) := by decide +kernel
theorem dX9_lend_141 : decode cX9_lend 141 = .ok (.aload_n 0, 1) := by decide +kernel
theorem dX9_lend_142 : decode cX9_lend 142 = .ok (.getfield 7, 3) := by decide +kernel
theorem dX9_lend_145 : decode cX9_lend 145 = .ok (.iload 7, 2) := by decide +kernel
theorem dX9_lend_147 : decode cX9_lend 147 = .ok (.iconst 4, 1) := by decide +kernel
theorem dX9_lend_148 : decode cX9_lend 148 = .ok (.iadd, 1) := by decide +kernel
theorem dX9_lend_149 : decode cX9_lend 149 = .ok (.aload_n 0, 1) := by decide +kernel
theorem dX9_lend_150 : decode cX9_lend 150 = .ok (.getfield 7, 3) := by decide +kernel
theorem dX9_lend_153 : decode cX9_lend 153 = .ok (.iconst 0, 1) := by decide +kernel
theorem dX9_lend_154 : decode cX9_lend 154 = .ok (.iaload, 1) := by decide +kernel
theorem dX9_lend_155 : decode cX9_lend 155 = .ok (.iload 5, 2) := by decide +kernel
theorem dX9_lend_157 : decode cX9_lend 157 = .ok (.iadd, 1) := by decide +kernel
theorem dX9_lend_158 : decode cX9_lend 158 = .ok (.iastore, 1) := by decide +kernel
theorem dX9_lend_159 : decode cX9_lend 159 = .ok (.aload_n 0, 1) := by decide +kernel
theorem dX9_lend_160 : decode cX9_lend 160 = .ok (.getfield 7, 3) := by decide +kernel
theorem dX9_lend_163 : decode cX9_lend 163 = .ok (.aload_n 0, 1) := by decide +kernel
theorem dX9_lend_164 : decode cX9_lend 164 = .ok (.iload_n 2, 1) := by decide +kernel
theorem dX9_lend_165 : decode cX9_lend 165 = .ok (.invokevirtual 56, 3) := by decide +kernel
theorem dX9_lend_168 : decode cX9_lend 168 = .ok (.bipush 16, 2) := by decide +kernel
theorem dX9_lend_170 : decode cX9_lend 170 = .ok (.iadd, 1) := by decide +kernel
theorem dX9_lend_171 : decode cX9_lend 171 = .ok (.dup2, 1) := by decide +kernel
theorem dX9_lend_172 : decode cX9_lend 172 = .ok (.iaload, 1) := by decide +kernel
theorem dX9_lend_173 : decode cX9_lend 173 = .ok (.iconst 1, 1) := by decide +kernel
theorem dX9_lend_174 : decode cX9_lend 174 = .ok (.iload 6, 2) := by decide +kernel
theorem dX9_lend_176 : decode cX9_lend 176 = .ok (.ishl, 1) := by decide +kernel
theorem dX9_lend_177 : decode cX9_lend 177 = .ok (.ior, 1) := by decide +kernel
theorem dX9_lend_178 : decode cX9_lend 178 = .ok (.iastore, 1) := by decide +kernel
theorem dX9_lend_179 : decode cX9_lend 179 = .ok (.aload_n 0, 1) := by decide +kernel
theorem dX9_lend_180 : decode cX9_lend 180 = .ok (.getfield 7, 3) := by decide +kernel
theorem dX9_lend_183 : decode cX9_lend 183 = .ok (.iconst 4, 1) := by decide +kernel
theorem dX9_lend_184 : decode cX9_lend 184 = .ok (.dup2, 1) := by decide +kernel
theorem dX9_lend_185 : decode cX9_lend 185 = .ok (.iaload, 1) := by decide +kernel
theorem dX9_lend_186 : decode cX9_lend 186 = .ok (.iconst 1, 1) := by decide +kernel
theorem dX9_lend_187 : decode cX9_lend 187 = .ok (.iadd, 1) := by decide +kernel
theorem dX9_lend_188 : decode cX9_lend 188 = .ok (.iastore, 1) := by decide +kernel
theorem dX9_lend_189 : decode cX9_lend 189 = .ok (.aload_n 0, 1) := by decide +kernel
theorem dX9_lend_190 : decode cX9_lend 190 = .ok (.iload_n 2, 1) := by decide +kernel
theorem dX9_lend_191 : decode cX9_lend 191 = .ok (.invokevirtual 89, 3) := by decide +kernel
theorem dX9_lend_194 : decode cX9_lend 194 = .ok (.iload 6, 2) := by decide +kernel
theorem dX9_lend_196 : decode cX9_lend 196 = .ok (.ireturn, 1) := by decide +kernel
theorem dX9_rebalance_0 : decode cX9_rebalance 0 = .ok (.aload_n 0, 1) := by decide +kernel
theorem dX9_rebalance_1 : decode cX9_rebalance 1 = .ok (.aload_n 0, 1) := by decide +kernel
theorem dX9_rebalance_2 : decode cX9_rebalance 2 = .ok (.iload_n 1, 1) := by decide +kernel
theorem dX9_rebalance_3 : decode cX9_rebalance 3 = .ok (.invokevirtual 96, 3) := by decide +kernel
theorem dX9_rebalance_6 : decode cX9_rebalance 6 = .ok (.ifCond .eq 16, 3) := by decide +kernel
theorem dX9_rebalance_9 : decode cX9_rebalance 9 = .ok (.iload_n 2, 1) := by decide +kernel
theorem dX9_rebalance_10 : decode cX9_rebalance 10 = .ok (.iconst 0, 1) := by decide +kernel
theorem dX9_rebalance_11 : decode cX9_rebalance 11 = .ok (.iconst 1, 1) := by decide +kernel
theorem dX9_rebalance_12 : decode cX9_rebalance 12 = .ok (.invokestatic 48, 3) := by decide +kernel
theorem dX9_rebalance_15 : decode cX9_rebalance 15 = .ok (.ifCond .eq 7, 3) := by decide +kernel
theorem dX9_rebalance_18 : decode cX9_rebalance 18 = .ok (.iconst 0, 1) := by decide +kernel
theorem dX9_rebalance_19 : decode cX9_rebalance 19 = .ok (.goto 4, 3) := by decide +kernel
theorem dX9_rebalance_22 : decode cX9_rebalance 22 = .ok (.iconst 1, 1) := by decide +kernel
theorem dX9_rebalance_23 : decode cX9_rebalance 23 = .ok (.putfield 42, 3) := by decide +kernel
theorem dX9_rebalance_26 : decode cX9_rebalance 26 = .ok (.aload_n 0, 1) := by decide +kernel
theorem dX9_rebalance_27 : decode cX9_rebalance 27 = .ok (.getfield 42, 3) := by decide +kernel
theorem dX9_rebalance_30 : decode cX9_rebalance 30 = .ok (.ifCond .eq 5, 3) := by decide +kernel
theorem dX9_rebalance_33 : decode cX9_rebalance 33 = .ok (.iconst 0, 1) := by decide +kernel
theorem dX9_rebalance_34 : decode cX9_rebalance 34 = .ok (.ireturn, 1) := by decide +kernel
theorem dX9_rebalance_35 : decode cX9_rebalance 35 = .ok (.lconst 0, 1) := by decide +kernel
theorem dX9_rebalance_36 : decode cX9_rebalance 36 = .ok (.lstore_n 3, 1) := by decide +kernel
theorem dX9_rebalance_37 : decode cX9_rebalance 37 = .ok (.iconst 0, 1) := by decide +kernel
theorem dX9_rebalance_38 : decode cX9_rebalance 38 = .ok (.istore 5, 2) := by decide +kernel
theorem dX9_rebalance_40 : decode cX9_rebalance 40 = .ok (.iload 5, 2) := by decide +kernel
theorem dX9_rebalance_42 : decode cX9_rebalance 42 = .ok (.aload_n 0, 1) := by decide +kernel
theorem dX9_rebalance_43 : decode cX9_rebalance 43 = .ok (.getfield 34, 3) := by decide +kernel
theorem dX9_rebalance_46 : decode cX9_rebalance 46 = .ok (.if_icmp .ge 29, 3) := by decide +kernel
theorem dX9_rebalance_49 : decode cX9_rebalance 49 = .ok (.lload_n 3, 1) := by decide +kernel
theorem dX9_rebalance_50 : decode cX9_rebalance 50 = .ok (.aload_n 0, 1) := by decide +kernel
theorem dX9_rebalance_51 : decode cX9_rebalance 51 = .ok (.getfield 7, 3) := by decide +kernel
theorem dX9_rebalance_54 : decode cX9_rebalance 54 = .ok (.iload_n 1, 1) := by decide +kernel
theorem dX9_rebalance_55 : decode cX9_rebalance 55 = .ok (.iload 5, 2) := by decide +kernel
theorem dX9_rebalance_57 : decode cX9_rebalance 57 = .ok (.invokestatic 52, 3) := by decide +kernel
theorem dX9_rebalance_60 : decode cX9_rebalance 60 = .ok (.bipush 14, 2) := by decide +kernel
theorem dX9_rebalance_62 : decode cX9_rebalance 62 = .ok (.iadd, 1) := by decide +kernel
theorem dX9_rebalance_63 : decode cX9_rebalance 63 = .ok (.iload_n 2, 1) := by decide +kernel
theorem dX9_rebalance_64 : decode cX9_rebalance 64 = .ok (.iadd, 1) := by decide +kernel
theorem dX9_rebalance_65 : decode cX9_rebalance 65 = .ok (.iaload, 1) := by decide +kernel
theorem dX9_rebalance_66 : decode cX9_rebalance 66 = .ok (.i2l, 1) := by decide +kernel
theorem dX9_rebalance_67 : decode cX9_rebalance 67 = .ok (.ladd, 1) := by decide +kernel
theorem dX9_rebalance_68 : decode cX9_rebalance 68 = .ok (.lstore_n 3, 1) := by decide +kernel
theorem dX9_rebalance_69 : decode cX9_rebalance 69 = .ok (.iinc 5 1, 3) := by decide +kernel
theorem dX9_rebalance_72 : decode cX9_rebalance 72 = .ok (.goto (-32), 3) := by decide +kernel
theorem dX9_rebalance_75 : decode cX9_rebalance 75 = .ok (.aload_n 0, 1) := by decide +kernel
theorem dX9_rebalance_76 : decode cX9_rebalance 76 = .ok (.iload_n 1, 1) := by decide +kernel
theorem dX9_rebalance_77 : decode cX9_rebalance 77 = .ok (.iload_n 2, 1) := by decide +kernel
theorem dX9_rebalance_78 : decode cX9_rebalance 78 = .ok (.invokevirtual 79, 3) := by decide +kernel
theorem dX9_rebalance_81 : decode cX9_rebalance 81 = .ok (.i2l, 1) := by decide +kernel
theorem dX9_rebalance_82 : decode cX9_rebalance 82 = .ok (.lstore 5, 2) := by decide +kernel
theorem dX9_rebalance_84 : decode cX9_rebalance 84 = .ok (.iconst 0, 1) := by decide +kernel
theorem dX9_rebalance_85 : decode cX9_rebalance 85 = .ok (.istore 7, 2) := by decide +kernel
theorem dX9_rebalance_87 : decode cX9_rebalance 87 = .ok (.iconst 0, 1) := by decide +kernel
theorem dX9_rebalance_88 : decode cX9_rebalance 88 = .ok (.istore 8, 2) := by decide +kernel
theorem dX9_rebalance_90 : decode cX9_rebalance 90 = .ok (.iload 8, 2) := by decide +kernel
theorem dX9_rebalance_92 : decode cX9_rebalance 92 = .ok (.aload_n 0, 1) := by decide +kernel
theorem dX9_rebalance_93 : decode cX9_rebalance 93 = .ok (.getfield 34, 3) := by decide +kernel
theorem dX9_rebalance_96 : decode cX9_rebalance 96 = .ok (.if_icmp .ge 86, 3) := by decide +kernel
theorem dX9_rebalance_99 : decode cX9_rebalance 99 = .ok (.lload_n 3, 1) := by decide +kernel
theorem dX9_rebalance_100 : decode cX9_rebalance 100 = .ok (.lconst 0, 1) := by decide +kernel
theorem dX9_rebalance_101 : decode cX9_rebalance 101 = .ok (.lcmp, 1) := by decide +kernel
theorem dX9_rebalance_102 : decode cX9_rebalance 102 = .ok (.ifCond .le 80, 3) := by decide +kernel
theorem dX9_rebalance_105 : decode cX9_rebalance 105 = .ok (.iload 8, 2) := by decide +kernel
theorem dX9_rebalance_107 : decode cX9_rebalance 107 = .ok (.iload_n 1, 1) := by decide +kernel
theorem dX9_rebalance_108 : decode cX9_rebalance 108 = .ok (.if_icmp .ne 7, 3) := by decide +kernel
theorem dX9_rebalance_111 : decode cX9_rebalance 111 = .ok (.iconst 0, 1) := by decide +kernel
theorem dX9_rebalance_112 : decode cX9_rebalance 112 = .ok (.goto 26, 3) := by decide +kernel
theorem dX9_rebalance_115 : decode cX9_rebalance 115 = .ok (.lload 5, 2) := by decide +kernel
theorem dX9_rebalance_117 : decode cX9_rebalance 117 = .ok (.aload_n 0, 1) := by decide +kernel
theorem dX9_rebalance_118 : decode cX9_rebalance 118 = .ok (.getfield 7, 3) := by decide +kernel
theorem dX9_rebalance_121 : decode cX9_rebalance 121 = .ok (.iload_n 1, 1) := by decide +kernel
theorem dX9_rebalance_122 : decode cX9_rebalance 122 = .ok (.iload 8, 2) := by decide +kernel
theorem dX9_rebalance_124 : decode cX9_rebalance 124 = .ok (.invokestatic 52, 3) := by decide +kernel
theorem dX9_rebalance_127 : decode cX9_rebalance 127 = .ok (.bipush 14, 2) := by decide +kernel
theorem dX9_rebalance_129 : decode cX9_rebalance 129 = .ok (.iadd, 1) := by decide +kernel
theorem dX9_rebalance_130 : decode cX9_rebalance 130 = .ok (.iload_n 2, 1) := by decide +kernel
theorem dX9_rebalance_131 : decode cX9_rebalance 131 = .ok (.iadd, 1) := by decide +kernel
theorem dX9_rebalance_132 : decode cX9_rebalance 132 = .ok (.iaload, 1) := by decide +kernel
theorem dX9_rebalance_133 : decode cX9_rebalance 133 = .ok (.i2l, 1) := by decide +kernel
theorem dX9_rebalance_134 : decode cX9_rebalance 134 = .ok (.lmul, 1) := by decide +kernel
theorem dX9_rebalance_135 : decode cX9_rebalance 135 = .ok (.lload_n 3, 1) := by decide +kernel
theorem dX9_rebalance_136 : decode cX9_rebalance 136 = .ok (.ldiv, 1) := by decide +kernel
theorem dX9_rebalance_137 : decode cX9_rebalance 137 = .ok (.l2i, 1) := by decide +kernel
theorem dX9_rebalance_138 : decode cX9_rebalance 138 = .ok (.istore 9, 2) := by decide +kernel
theorem dX9_rebalance_140 : decode cX9_rebalance 140 = .ok (.iload 9, 2) := by decide +kernel
theorem dX9_rebalance_142 : decode cX9_rebalance 142 = .ok (.ifCond .le 12, 3) := by decide +kernel
theorem dX9_rebalance_145 : decode cX9_rebalance 145 = .ok (.iload 7, 2) := by decide +kernel
theorem dX9_rebalance_147 : decode cX9_rebalance 147 = .ok (.ifCond .ne 7, 3) := by decide +kernel
theorem dX9_rebalance_150 : decode cX9_rebalance 150 = .ok (.aload_n 0, 1) := by decide +kernel
theorem dX9_rebalance_151 : decode cX9_rebalance 151 = .ok (.invokevirtual 99, 3) := by decide +kernel
theorem dX9_rebalance_154 : decode cX9_rebalance 154 = .ok (.iload 9, 2) := by decide +kernel
theorem dX9_rebalance_156 : decode cX9_rebalance 156 = .ok (.ifCond .le 20, 3) := by decide +kernel
theorem dX9_rebalance_159 : decode cX9_rebalance 159 = .ok (.aload_n 0, 1) := by decide +kernel
theorem dX9_rebalance_160 : decode cX9_rebalance 160 = .ok (.iload_n 2, 1) := by decide +kernel
theorem dX9_rebalance_161 : decode cX9_rebalance 161 = .ok (.iload_n 1, 1) := by decide +kernel
theorem dX9_rebalance_162 : decode cX9_rebalance 162 = .ok (.iload 8, 2) := by decide +kernel
theorem dX9_rebalance_164 : decode cX9_rebalance 164 = .ok (.iload 9, 2) := by decide +kernel
theorem dX9_rebalance_166 : decode cX9_rebalance 166 = .ok (.invokevirtual 119, 3) := by decide +kernel
theorem dX9_rebalance_169 : decode cX9_rebalance 169 = .ok (.iload 7, 2) := by decide +kernel
theorem dX9_rebalance_171 : decode cX9_rebalance 171 = .ok (.iload 9, 2) := by decide +kernel
theorem dX9_rebalance_173 : decode cX9_rebalance 173 = .ok (.iadd, 1) := by decide +kernel
theorem dX9_rebalance_174 : decode cX9_rebalance 174 = .ok (.istore 7, 2) := by decide +kernel
theorem dX9_rebalance_176 : decode cX9_rebalance 176 = .ok (.iinc 8 1, 3) := by decide +kernel
theorem dX9_rebalance_179 : decode cX9_rebalance 179 = .ok (.goto (-89), 3) := by decide +kernel
theorem dX9_rebalance_182 : decode cX9_rebalance 182 = .ok (.iload 7, 2) := by decide +kernel
theorem dX9_rebalance_184 : decode cX9_rebalance 184 = .ok (.ireturn, 1) := by decide +kernel
theorem dX9_pass_0 : decode cX9_pass 0 = .ok (.aload_n 0, 1) := by decide +kernel
theorem dX9_pass_1 : decode cX9_pass 1 = .ok (.iload_n 1, 1) := by decide +kernel
theorem dX9_pass_2 : decode cX9_pass 2 = .ok (.iconst 1, 1) := by decide +kernel
theorem dX9_pass_3 : decode cX9_pass 3 = .ok (.sipush 1000, 3) := by decide +kernel
theorem dX9_pass_6 : decode cX9_pass 6 = .ok (.invokestatic 48, 3) := by decide +kernel
theorem dX9_pass_9 : decode cX9_pass 9 = .ok (.ifCond .ne 7, 3) := by decide +kernel
theorem dX9_pass_12 : decode cX9_pass 12 = .ok (.iconst 1, 1) := by decide +kernel
theorem dX9_pass_13 : decode cX9_pass 13 = .ok (.goto 21, 3) := by decide +kernel
theorem dX9_pass_16 : decode cX9_pass 16 = .ok (.aload_n 0, 1) := by decide +kernel
theorem dX9_pass_17 : decode cX9_pass 17 = .ok (.getfield 7, 3) := by decide +kernel
theorem dX9_pass_20 : decode cX9_pass 20 = .ok (.iconst 0, 1) := by decide +kernel
theorem dX9_pass_21 : decode cX9_pass 21 = .ok (.iaload, 1) := by decide +kernel
theorem dX9_pass_22 : decode cX9_pass 22 = .ok (.iload_n 1, 1) := by decide +kernel
theorem dX9_pass_23 : decode cX9_pass 23 = .ok (.iadd, 1) := by decide +kernel
theorem dX9_pass_24 : decode cX9_pass 24 = .ok (.ldc 123, 2) := by decide +kernel
theorem dX9_pass_26 : decode cX9_pass 26 = .ok (.if_icmp .le 7, 3) := by decide +kernel
theorem dX9_pass_29 : decode cX9_pass 29 = .ok (.iconst 2, 1) := by decide +kernel
theorem dX9_pass_30 : decode cX9_pass 30 = .ok (.goto 4, 3) := by decide +kernel
theorem dX9_pass_33 : decode cX9_pass 33 = .ok (.iconst 0, 1) := by decide +kernel
theorem dX9_pass_34 : decode cX9_pass 34 = .ok (.putfield 42, 3) := by decide +kernel
theorem dX9_pass_37 : decode cX9_pass 37 = .ok (.aload_n 0, 1) := by decide +kernel
theorem dX9_pass_38 : decode cX9_pass 38 = .ok (.getfield 42, 3) := by decide +kernel
theorem dX9_pass_41 : decode cX9_pass 41 = .ok (.ifCond .eq 5, 3) := by decide +kernel
theorem dX9_pass_44 : decode cX9_pass 44 = .ok (.iconst 0, 1) := by decide +kernel
theorem dX9_pass_45 : decode cX9_pass 45 = .ok (.ireturn, 1) := by decide +kernel
theorem dX9_pass_46 : decode cX9_pass 46 = .ok (.aload_n 0, 1) := by decide +kernel
theorem dX9_pass_47 : decode cX9_pass 47 = .ok (.invokevirtual 99, 3) := by decide +kernel
theorem dX9_pass_50 : decode cX9_pass 50 = .ok (.aload_n 0, 1) := by decide +kernel
theorem dX9_pass_51 : decode cX9_pass 51 = .ok (.getfield 7, 3) := by decide +kernel
theorem dX9_pass_54 : decode cX9_pass 54 = .ok (.iconst 0, 1) := by decide +kernel
theorem dX9_pass_55 : decode cX9_pass 55 = .ok (.dup2, 1) := by decide +kernel
theorem dX9_pass_56 : decode cX9_pass 56 = .ok (.iaload, 1) := by decide +kernel
theorem dX9_pass_57 : decode cX9_pass 57 = .ok (.iload_n 1, 1) := by decide +kernel
theorem dX9_pass_58 : decode cX9_pass 58 = .ok (.iadd, 1) := by decide +kernel
theorem dX9_pass_59 : decode cX9_pass 59 = .ok (.iastore, 1) := by decide +kernel
theorem dX9_pass_60 : decode cX9_pass 60 = .ok (.aload_n 0, 1) := by decide +kernel
theorem dX9_pass_61 : decode cX9_pass 61 = .ok (.getfield 7, 3) := by decide +kernel
theorem dX9_pass_64 : decode cX9_pass 64 = .ok (.iconst 0, 1) := by decide +kernel
theorem dX9_pass_65 : decode cX9_pass 65 = .ok (.iaload, 1) := by decide +kernel
theorem dX9_pass_66 : decode cX9_pass 66 = .ok (.ireturn, 1) := by decide +kernel
theorem dX9_messageAt_0 : decode cX9_messageAt 0 = .ok (.sipush 900, 3) := by decide +kernel
theorem dX9_messageAt_3 : decode cX9_messageAt 3 = .ok (.sipush 160, 3) := by decide +kernel
theorem dX9_messageAt_6 : decode cX9_messageAt 6 = .ok (.iload_n 0, 1) := by decide +kernel
theorem dX9_messageAt_7 : decode cX9_messageAt 7 = .ok (.imul, 1) := by decide +kernel
theorem dX9_messageAt_8 : decode cX9_messageAt 8 = .ok (.iadd, 1) := by decide +kernel
theorem dX9_messageAt_9 : decode cX9_messageAt 9 = .ok (.ireturn, 1) := by decide +kernel
theorem dX9_isMessage_0 : decode cX9_isMessage 0 = .ok (.iload_n 1, 1) := by decide +kernel
theorem dX9_isMessage_1 : decode cX9_isMessage 1 = .ok (.iconst 0, 1) := by decide +kernel
theorem dX9_isMessage_2 : decode cX9_isMessage 2 = .ok (.aload_n 0, 1) := by decide +kernel
theorem dX9_isMessage_3 : decode cX9_isMessage 3 = .ok (.getfield 7, 3) := by decide +kernel
theorem dX9_isMessage_6 : decode cX9_isMessage 6 = .ok (.iconst 5, 1) := by decide +kernel
theorem dX9_isMessage_7 : decode cX9_isMessage 7 = .ok (.iaload, 1) := by decide +kernel
theorem dX9_isMessage_8 : decode cX9_isMessage 8 = .ok (.iconst 1, 1) := by decide +kernel
theorem dX9_isMessage_9 : decode cX9_isMessage 9 = .ok (.isub, 1) := by decide +kernel
theorem dX9_isMessage_10 : decode cX9_isMessage 10 = .ok (.invokestatic 48, 3) := by decide +kernel
theorem dX9_isMessage_13 : decode cX9_isMessage 13 = .ok (.ireturn, 1) := by decide +kernel
theorem dX9_writes_0 : decode cX9_writes 0 = .ok (.iload_n 1, 1) := by decide +kernel
theorem dX9_writes_1 : decode cX9_writes 1 = .ok (.invokestatic 124, 3) := by decide +kernel
theorem dX9_writes_4 : decode cX9_writes 4 = .ok (.istore 4, 2) := by decide +kernel
theorem dX9_writes_6 : decode cX9_writes 6 = .ok (.aload_n 0, 1) := by decide +kernel
theorem dX9_writes_7 : decode cX9_writes 7 = .ok (.getfield 7, 3) := by decide +kernel
theorem dX9_writes_10 : decode cX9_writes 10 = .ok (.iload 4, 2) := by decide +kernel
theorem dX9_writes_12 : decode cX9_writes 12 = .ok (.iload_n 2, 1) := by decide +kernel
theorem dX9_writes_13 : decode cX9_writes 13 = .ok (.iastore, 1) := by decide +kernel
theorem dX9_writes_14 : decode cX9_writes 14 = .ok (.aload_n 0, 1) := by decide +kernel
theorem dX9_writes_15 : decode cX9_writes 15 = .ok (.getfield 7, 3) := by decide +kernel
theorem dX9_writes_18 : decode cX9_writes 18 = .ok (.iload 4, 2) := by decide +kernel
theorem dX9_writes_20 : decode cX9_writes 20 = .ok (.iconst 1, 1) := by decide +kernel
theorem dX9_writes_21 : decode cX9_writes 21 = .ok (.iadd, 1) := by decide +kernel
theorem dX9_writes_22 : decode cX9_writes 22 = .ok (.iload_n 3, 1) := by decide +kernel
theorem dX9_writes_23 : decode cX9_writes 23 = .ok (.iastore, 1) := by decide +kernel
theorem dX9_writes_24 : decode cX9_writes 24 = .ok (.aload_n 0, 1) := by decide +kernel
theorem dX9_writes_25 : decode cX9_writes 25 = .ok (.getfield 7, 3) := by decide +kernel
theorem dX9_writes_28 : decode cX9_writes 28 = .ok (.iload 4, 2) := by decide +kernel
theorem dX9_writes_30 : decode cX9_writes 30 = .ok (.iconst 2, 1) := by decide +kernel
theorem dX9_writes_31 : decode cX9_writes 31 = .ok (.iadd, 1) := by decide +kernel
theorem dX9_writes_32 : decode cX9_writes 32 = .ok (.aload_n 0, 1) := by decide +kernel
theorem dX9_writes_33 : decode cX9_writes 33 = .ok (.getfield 7, 3) := by decide +kernel
theorem dX9_writes_36 : decode cX9_writes 36 = .ok (.iconst 0, 1) := by decide +kernel
theorem dX9_writes_37 : decode cX9_writes 37 = .ok (.iaload, 1) := by decide +kernel
theorem dX9_writes_38 : decode cX9_writes 38 = .ok (.iastore, 1) := by decide +kernel
theorem dX9_writes_39 : decode cX9_writes 39 = .ok (.iconst 0, 1) := by decide +kernel
theorem dX9_writes_40 : decode cX9_writes 40 = .ok (.istore 5, 2) := by decide +kernel
theorem dX9_writes_42 : decode cX9_writes 42 = .ok (.iload 5, 2) := by decide +kernel
theorem dX9_writes_44 : decode cX9_writes 44 = .ok (.aload_n 0, 1) := by decide +kernel
theorem dX9_writes_45 : decode cX9_writes 45 = .ok (.getfield 34, 3) := by decide +kernel
theorem dX9_writes_48 : decode cX9_writes 48 = .ok (.if_icmp .ge 81, 3) := by decide +kernel
theorem dX9_writes_51 : decode cX9_writes 51 = .ok (.iconst 0, 1) := by decide +kernel
theorem dX9_writes_52 : decode cX9_writes 52 = .ok (.istore 6, 2) := by decide +kernel
theorem dX9_writes_54 : decode cX9_writes 54 = .ok (.iload 6, 2) := by decide +kernel
theorem dX9_writes_56 : decode cX9_writes 56 = .ok (.bipush 30, 2) := by decide +kernel
theorem dX9_writes_58 : decode cX9_writes 58 = .ok (.if_icmp .ge 41, 3) := by decide +kernel
theorem dX9_writes_61 : decode cX9_writes 61 = .ok (.aload_n 0, 1) := by decide +kernel
theorem dX9_writes_62 : decode cX9_writes 62 = .ok (.getfield 7, 3) := by decide +kernel
theorem dX9_writes_65 : decode cX9_writes 65 = .ok (.iload 4, 2) := by decide +kernel
theorem dX9_writes_67 : decode cX9_writes 67 = .ok (.iconst 3, 1) := by decide +kernel
theorem dX9_writes_68 : decode cX9_writes 68 = .ok (.iadd, 1) := by decide +kernel
theorem dX9_writes_69 : decode cX9_writes 69 = .ok (.bipush 30, 2) := by decide +kernel
theorem dX9_writes_71 : decode cX9_writes 71 = .ok (.iload 5, 2) := by decide +kernel
theorem dX9_writes_73 : decode cX9_writes 73 = .ok (.imul, 1) := by decide +kernel
theorem dX9_writes_74 : decode cX9_writes 74 = .ok (.iadd, 1) := by decide +kernel
theorem dX9_writes_75 : decode cX9_writes 75 = .ok (.iload 6, 2) := by decide +kernel
theorem dX9_writes_77 : decode cX9_writes 77 = .ok (.iadd, 1) := by decide +kernel
theorem dX9_writes_78 : decode cX9_writes 78 = .ok (.aload_n 0, 1) := by decide +kernel
theorem dX9_writes_79 : decode cX9_writes 79 = .ok (.getfield 7, 3) := by decide +kernel
theorem dX9_writes_82 : decode cX9_writes 82 = .ok (.iload_n 2, 1) := by decide +kernel
theorem dX9_writes_83 : decode cX9_writes 83 = .ok (.iload 5, 2) := by decide +kernel
theorem dX9_writes_85 : decode cX9_writes 85 = .ok (.invokestatic 52, 3) := by decide +kernel
theorem dX9_writes_88 : decode cX9_writes 88 = .ok (.iload 6, 2) := by decide +kernel
theorem dX9_writes_90 : decode cX9_writes 90 = .ok (.iadd, 1) := by decide +kernel
theorem dX9_writes_91 : decode cX9_writes 91 = .ok (.iaload, 1) := by decide +kernel
theorem dX9_writes_92 : decode cX9_writes 92 = .ok (.iastore, 1) := by decide +kernel
theorem dX9_writes_93 : decode cX9_writes 93 = .ok (.iinc 6 1, 3) := by decide +kernel
theorem dX9_writes_96 : decode cX9_writes 96 = .ok (.goto (-42), 3) := by decide +kernel
theorem dX9_writes_99 : decode cX9_writes 99 = .ok (.aload_n 0, 1) := by decide +kernel
theorem dX9_writes_100 : decode cX9_writes 100 = .ok (.getfield 7, 3) := by decide +kernel
theorem dX9_writes_103 : decode cX9_writes 103 = .ok (.iload 4, 2) := by decide +kernel
theorem dX9_writes_105 : decode cX9_writes 105 = .ok (.iconst 3, 1) := by decide +kernel
theorem dX9_writes_106 : decode cX9_writes 106 = .ok (.iadd, 1) := by decide +kernel
theorem dX9_writes_107 : decode cX9_writes 107 = .ok (.bipush 30, 2) := by decide +kernel
theorem dX9_writes_109 : decode cX9_writes 109 = .ok (.iload 5, 2) := by decide +kernel
theorem dX9_writes_111 : decode cX9_writes 111 = .ok (.imul, 1) := by decide +kernel
theorem dX9_writes_112 : decode cX9_writes 112 = .ok (.iadd, 1) := by decide +kernel
theorem dX9_writes_113 : decode cX9_writes 113 = .ok (.iconst 1, 1) := by decide +kernel
theorem dX9_writes_114 : decode cX9_writes 114 = .ok (.iadd, 1) := by decide +kernel
theorem dX9_writes_115 : decode cX9_writes 115 = .ok (.aload_n 0, 1) := by decide +kernel
theorem dX9_writes_116 : decode cX9_writes 116 = .ok (.iload_n 2, 1) := by decide +kernel
theorem dX9_writes_117 : decode cX9_writes 117 = .ok (.iload 5, 2) := by decide +kernel
theorem dX9_writes_119 : decode cX9_writes 119 = .ok (.invokevirtual 63, 3) := by decide +kernel
theorem dX9_writes_122 : decode cX9_writes 122 = .ok (.iastore, 1) := by decide +kernel
theorem dX9_writes_123 : decode cX9_writes 123 = .ok (.iinc 5 1, 3) := by decide +kernel
theorem dX9_writes_126 : decode cX9_writes 126 = .ok (.goto (-84), 3) := by decide +kernel
theorem dX9_writes_129 : decode cX9_writes 129 = .ok (.return_, 1) := by decide +kernel
theorem dX9_arrives_0 : decode cX9_arrives 0 = .ok (.iload_n 1, 1) := by decide +kernel
theorem dX9_arrives_1 : decode cX9_arrives 1 = .ok (.invokestatic 124, 3) := by decide +kernel
theorem dX9_arrives_4 : decode cX9_arrives 4 = .ok (.istore_n 2, 1) := by decide +kernel
theorem dX9_arrives_5 : decode cX9_arrives 5 = .ok (.aload_n 0, 1) := by decide +kernel
theorem dX9_arrives_6 : decode cX9_arrives 6 = .ok (.getfield 7, 3) := by decide +kernel
theorem dX9_arrives_9 : decode cX9_arrives 9 = .ok (.iload_n 2, 1) := by decide +kernel
theorem dX9_arrives_10 : decode cX9_arrives 10 = .ok (.iconst 1, 1) := by decide +kernel
theorem dX9_arrives_11 : decode cX9_arrives 11 = .ok (.iadd, 1) := by decide +kernel
theorem dX9_arrives_12 : decode cX9_arrives 12 = .ok (.iaload, 1) := by decide +kernel
theorem dX9_arrives_13 : decode cX9_arrives 13 = .ok (.istore_n 3, 1) := by decide +kernel
theorem dX9_arrives_14 : decode cX9_arrives 14 = .ok (.iconst 0, 1) := by decide +kernel
theorem dX9_arrives_15 : decode cX9_arrives 15 = .ok (.istore 4, 2) := by decide +kernel
theorem dX9_arrives_17 : decode cX9_arrives 17 = .ok (.iconst 0, 1) := by decide +kernel
theorem dX9_arrives_18 : decode cX9_arrives 18 = .ok (.istore 5, 2) := by decide +kernel
theorem dX9_arrives_20 : decode cX9_arrives 20 = .ok (.iload 5, 2) := by decide +kernel
theorem dX9_arrives_22 : decode cX9_arrives 22 = .ok (.aload_n 0, 1) := by decide +kernel
theorem dX9_arrives_23 : decode cX9_arrives 23 = .ok (.getfield 34, 3) := by decide +kernel
theorem dX9_arrives_26 : decode cX9_arrives 26 = .ok (.if_icmp .ge 148, 3) := by decide +kernel
theorem dX9_arrives_29 : decode cX9_arrives 29 = .ok (.iload_n 2, 1) := by decide +kernel
theorem dX9_arrives_30 : decode cX9_arrives 30 = .ok (.iconst 3, 1) := by decide +kernel
theorem dX9_arrives_31 : decode cX9_arrives 31 = .ok (.iadd, 1) := by decide +kernel
theorem dX9_arrives_32 : decode cX9_arrives 32 = .ok (.bipush 30, 2) := by decide +kernel
theorem dX9_arrives_34 : decode cX9_arrives 34 = .ok (.iload 5, 2) := by decide +kernel
theorem dX9_arrives_36 : decode cX9_arrives 36 = .ok (.imul, 1) := by decide +kernel
theorem dX9_arrives_37 : decode cX9_arrives 37 = .ok (.iadd, 1) := by decide +kernel
theorem dX9_arrives_38 : decode cX9_arrives 38 = .ok (.istore 6, 2) := by decide +kernel
theorem dX9_arrives_40 : decode cX9_arrives 40 = .ok (.iload_n 3, 1) := by decide +kernel
theorem dX9_arrives_41 : decode cX9_arrives 41 = .ok (.iload 5, 2) := by decide +kernel
theorem dX9_arrives_43 : decode cX9_arrives 43 = .ok (.invokestatic 52, 3) := by decide +kernel
theorem dX9_arrives_46 : decode cX9_arrives 46 = .ok (.istore 7, 2) := by decide +kernel
theorem dX9_arrives_48 : decode cX9_arrives 48 = .ok (.aload_n 0, 1) := by decide +kernel
theorem dX9_arrives_49 : decode cX9_arrives 49 = .ok (.getfield 7, 3) := by decide +kernel
theorem dX9_arrives_52 : decode cX9_arrives 52 = .ok (.iload 7, 2) := by decide +kernel
theorem dX9_arrives_54 : decode cX9_arrives 54 = .ok (.iconst 0, 1) := by decide +kernel
theorem dX9_arrives_55 : decode cX9_arrives 55 = .ok (.iadd, 1) := by decide +kernel
theorem dX9_arrives_56 : decode cX9_arrives 56 = .ok (.iaload, 1) := by decide +kernel
theorem dX9_arrives_57 : decode cX9_arrives 57 = .ok (.aload_n 0, 1) := by decide +kernel
theorem dX9_arrives_58 : decode cX9_arrives 58 = .ok (.getfield 7, 3) := by decide +kernel
theorem dX9_arrives_61 : decode cX9_arrives 61 = .ok (.iload 6, 2) := by decide +kernel
theorem dX9_arrives_63 : decode cX9_arrives 63 = .ok (.iconst 0, 1) := by decide +kernel
theorem dX9_arrives_64 : decode cX9_arrives 64 = .ok (.iadd, 1) := by decide +kernel
theorem dX9_arrives_65 : decode cX9_arrives 65 = .ok (.iaload, 1) := by decide +kernel
theorem dX9_arrives_66 : decode cX9_arrives 66 = .ok (.if_icmp .lt 45, 3) := by decide +kernel
theorem dX9_arrives_69 : decode cX9_arrives 69 = .ok (.aload_n 0, 1) := by decide +kernel
theorem dX9_arrives_70 : decode cX9_arrives 70 = .ok (.getfield 7, 3) := by decide +kernel
theorem dX9_arrives_73 : decode cX9_arrives 73 = .ok (.iload 7, 2) := by decide +kernel
theorem dX9_arrives_75 : decode cX9_arrives 75 = .ok (.iconst 0, 1) := by decide +kernel
theorem dX9_arrives_76 : decode cX9_arrives 76 = .ok (.iadd, 1) := by decide +kernel
theorem dX9_arrives_77 : decode cX9_arrives 77 = .ok (.iaload, 1) := by decide +kernel
theorem dX9_arrives_78 : decode cX9_arrives 78 = .ok (.aload_n 0, 1) := by decide +kernel
theorem dX9_arrives_79 : decode cX9_arrives 79 = .ok (.getfield 7, 3) := by decide +kernel
theorem dX9_arrives_82 : decode cX9_arrives 82 = .ok (.iload 6, 2) := by decide +kernel
theorem dX9_arrives_84 : decode cX9_arrives 84 = .ok (.iconst 0, 1) := by decide +kernel
theorem dX9_arrives_85 : decode cX9_arrives 85 = .ok (.iadd, 1) := by decide +kernel
theorem dX9_arrives_86 : decode cX9_arrives 86 = .ok (.iaload, 1) := by decide +kernel
theorem dX9_arrives_87 : decode cX9_arrives 87 = .ok (.if_icmp .ne 28, 3) := by decide +kernel
theorem dX9_arrives_90 : decode cX9_arrives 90 = .ok (.aload_n 0, 1) := by decide +kernel
theorem dX9_arrives_91 : decode cX9_arrives 91 = .ok (.getfield 7, 3) := by decide +kernel
theorem dX9_arrives_94 : decode cX9_arrives 94 = .ok (.iload 7, 2) := by decide +kernel
theorem dX9_arrives_96 : decode cX9_arrives 96 = .ok (.iconst 1, 1) := by decide +kernel
theorem dX9_arrives_97 : decode cX9_arrives 97 = .ok (.iadd, 1) := by decide +kernel
theorem dX9_arrives_98 : decode cX9_arrives 98 = .ok (.iaload, 1) := by decide +kernel
theorem dX9_arrives_99 : decode cX9_arrives 99 = .ok (.aload_n 0, 1) := by decide +kernel
theorem dX9_arrives_100 : decode cX9_arrives 100 = .ok (.getfield 7, 3) := by decide +kernel
theorem dX9_arrives_103 : decode cX9_arrives 103 = .ok (.iload 6, 2) := by decide +kernel
theorem dX9_arrives_105 : decode cX9_arrives 105 = .ok (.iconst 1, 1) := by decide +kernel
theorem dX9_arrives_106 : decode cX9_arrives 106 = .ok (.iadd, 1) := by decide +kernel
theorem dX9_arrives_107 : decode cX9_arrives 107 = .ok (.iaload, 1) := by decide +kernel
theorem dX9_arrives_108 : decode cX9_arrives 108 = .ok (.if_icmp .ge 7, 3) := by decide +kernel
theorem dX9_arrives_111 : decode cX9_arrives 111 = .ok (.iconst 1, 1) := by decide +kernel
theorem dX9_arrives_112 : decode cX9_arrives 112 = .ok (.goto 4, 3) := by decide +kernel
theorem dX9_arrives_115 : decode cX9_arrives 115 = .ok (.iconst 0, 1) := by decide +kernel
theorem dX9_arrives_116 : decode cX9_arrives 116 = .ok (.istore 8, 2) := by decide +kernel
theorem dX9_arrives_118 : decode cX9_arrives 118 = .ok (.iload 5, 2) := by decide +kernel
theorem dX9_arrives_120 : decode cX9_arrives 120 = .ok (.iload_n 3, 1) := by decide +kernel
theorem dX9_arrives_121 : decode cX9_arrives 121 = .ok (.if_icmp .eq 47, 3) := by decide +kernel
theorem dX9_arrives_124 : decode cX9_arrives 124 = .ok (.iload 8, 2) := by decide +kernel
theorem dX9_arrives_126 : decode cX9_arrives 126 = .ok (.ifCond .eq 42, 3) := by decide +kernel
theorem dX9_arrives_129 : decode cX9_arrives 129 = .ok (.iinc 4 1, 3) := by decide +kernel
theorem dX9_arrives_132 : decode cX9_arrives 132 = .ok (.iconst 0, 1) := by decide +kernel
theorem dX9_arrives_133 : decode cX9_arrives 133 = .ok (.istore 9, 2) := by decide +kernel
theorem dX9_arrives_135 : decode cX9_arrives 135 = .ok (.iload 9, 2) := by decide +kernel
theorem dX9_arrives_137 : decode cX9_arrives 137 = .ok (.bipush 30, 2) := by decide +kernel
theorem dX9_arrives_139 : decode cX9_arrives 139 = .ok (.if_icmp .ge 29, 3) := by decide +kernel
theorem dX9_arrives_142 : decode cX9_arrives 142 = .ok (.aload_n 0, 1) := by decide +kernel
theorem dX9_arrives_143 : decode cX9_arrives 143 = .ok (.getfield 7, 3) := by decide +kernel
theorem dX9_arrives_146 : decode cX9_arrives 146 = .ok (.iload 7, 2) := by decide +kernel
theorem dX9_arrives_148 : decode cX9_arrives 148 = .ok (.iload 9, 2) := by decide +kernel
theorem dX9_arrives_150 : decode cX9_arrives 150 = .ok (.iadd, 1) := by decide +kernel
theorem dX9_arrives_151 : decode cX9_arrives 151 = .ok (.aload_n 0, 1) := by decide +kernel
theorem dX9_arrives_152 : decode cX9_arrives 152 = .ok (.getfield 7, 3) := by decide +kernel
theorem dX9_arrives_155 : decode cX9_arrives 155 = .ok (.iload 6, 2) := by decide +kernel
theorem dX9_arrives_157 : decode cX9_arrives 157 = .ok (.iload 9, 2) := by decide +kernel
theorem dX9_arrives_159 : decode cX9_arrives 159 = .ok (.iadd, 1) := by decide +kernel
theorem dX9_arrives_160 : decode cX9_arrives 160 = .ok (.iaload, 1) := by decide +kernel
theorem dX9_arrives_161 : decode cX9_arrives 161 = .ok (.iastore, 1) := by decide +kernel
theorem dX9_arrives_162 : decode cX9_arrives 162 = .ok (.iinc 9 1, 3) := by decide +kernel
theorem dX9_arrives_165 : decode cX9_arrives 165 = .ok (.goto (-30), 3) := by decide +kernel
theorem dX9_arrives_168 : decode cX9_arrives 168 = .ok (.iinc 5 1, 3) := by decide +kernel
theorem dX9_arrives_171 : decode cX9_arrives 171 = .ok (.goto (-151), 3) := by decide +kernel
theorem dX9_arrives_174 : decode cX9_arrives 174 = .ok (.iload 4, 2) := by decide +kernel
theorem dX9_arrives_176 : decode cX9_arrives 176 = .ok (.ireturn, 1) := by decide +kernel
theorem dX9_goes_0 : decode cX9_goes 0 = .ok (.aload_n 0, 1) := by decide +kernel
theorem dX9_goes_1 : decode cX9_goes 1 = .ok (.getfield 7, 3) := by decide +kernel
theorem dX9_goes_4 : decode cX9_goes 4 = .ok (.iconst 5, 1) := by decide +kernel
theorem dX9_goes_5 : decode cX9_goes 5 = .ok (.dup2, 1) := by decide +kernel
theorem dX9_goes_6 : decode cX9_goes 6 = .ok (.iaload, 1) := by decide +kernel
theorem dX9_goes_7 : decode cX9_goes 7 = .ok (.iconst 1, 1) := by decide +kernel
theorem dX9_goes_8 : decode cX9_goes 8 = .ok (.isub, 1) := by decide +kernel
theorem dX9_goes_9 : decode cX9_goes 9 = .ok (.iastore, 1) := by decide +kernel
theorem dX9_goes_10 : decode cX9_goes 10 = .ok (.iload_n 1, 1) := by decide +kernel
theorem dX9_goes_11 : decode cX9_goes 11 = .ok (.invokestatic 124, 3) := by decide +kernel
theorem dX9_goes_14 : decode cX9_goes 14 = .ok (.istore_n 2, 1) := by decide +kernel
theorem dX9_goes_15 : decode cX9_goes 15 = .ok (.iload_n 2, 1) := by decide +kernel
theorem dX9_goes_16 : decode cX9_goes 16 = .ok (.aload_n 0, 1) := by decide +kernel
theorem dX9_goes_17 : decode cX9_goes 17 = .ok (.getfield 7, 3) := by decide +kernel
theorem dX9_goes_20 : decode cX9_goes 20 = .ok (.iconst 5, 1) := by decide +kernel
theorem dX9_goes_21 : decode cX9_goes 21 = .ok (.iaload, 1) := by decide +kernel
theorem dX9_goes_22 : decode cX9_goes 22 = .ok (.invokestatic 124, 3) := by decide +kernel
theorem dX9_goes_25 : decode cX9_goes 25 = .ok (.if_icmp .ge 25, 3) := by decide +kernel
theorem dX9_goes_28 : decode cX9_goes 28 = .ok (.aload_n 0, 1) := by decide +kernel
theorem dX9_goes_29 : decode cX9_goes 29 = .ok (.getfield 7, 3) := by decide +kernel
theorem dX9_goes_32 : decode cX9_goes 32 = .ok (.iload_n 2, 1) := by decide +kernel
theorem dX9_goes_33 : decode cX9_goes 33 = .ok (.aload_n 0, 1) := by decide +kernel
theorem dX9_goes_34 : decode cX9_goes 34 = .ok (.getfield 7, 3) := by decide +kernel
theorem dX9_goes_37 : decode cX9_goes 37 = .ok (.iload_n 2, 1) := by decide +kernel
theorem dX9_goes_38 : decode cX9_goes 38 = .ok (.sipush 160, 3) := by decide +kernel
theorem dX9_goes_41 : decode cX9_goes 41 = .ok (.iadd, 1) := by decide +kernel
theorem dX9_goes_42 : decode cX9_goes 42 = .ok (.iaload, 1) := by decide +kernel
theorem dX9_goes_43 : decode cX9_goes 43 = .ok (.iastore, 1) := by decide +kernel
theorem dX9_goes_44 : decode cX9_goes 44 = .ok (.iinc 2 1, 3) := by decide +kernel
theorem dX9_goes_47 : decode cX9_goes 47 = .ok (.goto (-32), 3) := by decide +kernel
theorem dX9_goes_50 : decode cX9_goes 50 = .ok (.return_, 1) := by decide +kernel
theorem dX9_send_0 : decode cX9_send 0 = .ok (.aload_n 0, 1) := by decide +kernel
theorem dX9_send_1 : decode cX9_send 1 = .ok (.aload_n 0, 1) := by decide +kernel
theorem dX9_send_2 : decode cX9_send 2 = .ok (.iload_n 1, 1) := by decide +kernel
theorem dX9_send_3 : decode cX9_send 3 = .ok (.invokevirtual 96, 3) := by decide +kernel
theorem dX9_send_6 : decode cX9_send 6 = .ok (.ifCond .eq 11, 3) := by decide +kernel
theorem dX9_send_9 : decode cX9_send 9 = .ok (.aload_n 0, 1) := by decide +kernel
theorem dX9_send_10 : decode cX9_send 10 = .ok (.iload_n 2, 1) := by decide +kernel
theorem dX9_send_11 : decode cX9_send 11 = .ok (.invokevirtual 96, 3) := by decide +kernel
theorem dX9_send_14 : decode cX9_send 14 = .ok (.ifCond .ne 7, 3) := by decide +kernel
theorem dX9_send_17 : decode cX9_send 17 = .ok (.iconst 1, 1) := by decide +kernel
theorem dX9_send_18 : decode cX9_send 18 = .ok (.goto 28, 3) := by decide +kernel
theorem dX9_send_21 : decode cX9_send 21 = .ok (.iload_n 1, 1) := by decide +kernel
theorem dX9_send_22 : decode cX9_send 22 = .ok (.iload_n 2, 1) := by decide +kernel
theorem dX9_send_23 : decode cX9_send 23 = .ok (.if_icmp .ne 7, 3) := by decide +kernel
theorem dX9_send_26 : decode cX9_send 26 = .ok (.iconst 2, 1) := by decide +kernel
theorem dX9_send_27 : decode cX9_send 27 = .ok (.goto 19, 3) := by decide +kernel
theorem dX9_send_30 : decode cX9_send 30 = .ok (.aload_n 0, 1) := by decide +kernel
theorem dX9_send_31 : decode cX9_send 31 = .ok (.getfield 7, 3) := by decide +kernel
theorem dX9_send_34 : decode cX9_send 34 = .ok (.iconst 5, 1) := by decide +kernel
theorem dX9_send_35 : decode cX9_send 35 = .ok (.iaload, 1) := by decide +kernel
theorem dX9_send_36 : decode cX9_send 36 = .ok (.bipush 8, 2) := by decide +kernel
theorem dX9_send_38 : decode cX9_send 38 = .ok (.if_icmp .ne 7, 3) := by decide +kernel
theorem dX9_send_41 : decode cX9_send 41 = .ok (.iconst 3, 1) := by decide +kernel
theorem dX9_send_42 : decode cX9_send 42 = .ok (.goto 4, 3) := by decide +kernel
theorem dX9_send_45 : decode cX9_send 45 = .ok (.iconst 0, 1) := by decide +kernel
theorem dX9_send_46 : decode cX9_send 46 = .ok (.putfield 42, 3) := by decide +kernel
theorem dX9_send_49 : decode cX9_send 49 = .ok (.aload_n 0, 1) := by decide +kernel
theorem dX9_send_50 : decode cX9_send 50 = .ok (.getfield 42, 3) := by decide +kernel
theorem dX9_send_53 : decode cX9_send 53 = .ok (.ifCond .eq 5, 3) := by decide +kernel
theorem dX9_send_56 : decode cX9_send 56 = .ok (.iconst 0, 1) := by decide +kernel
theorem dX9_send_57 : decode cX9_send 57 = .ok (.ireturn, 1) := by decide +kernel
theorem dX9_send_58 : decode cX9_send 58 = .ok (.aload_n 0, 1) := by decide +kernel
theorem dX9_send_59 : decode cX9_send 59 = .ok (.invokevirtual 99, 3) := by decide +kernel
theorem dX9_send_62 : decode cX9_send 62 = .ok (.aload_n 0, 1) := by decide +kernel
theorem dX9_send_63 : decode cX9_send 63 = .ok (.aload_n 0, 1) := by decide +kernel
theorem dX9_send_64 : decode cX9_send 64 = .ok (.getfield 7, 3) := by decide +kernel
theorem dX9_send_67 : decode cX9_send 67 = .ok (.iconst 5, 1) := by decide +kernel
theorem dX9_send_68 : decode cX9_send 68 = .ok (.iaload, 1) := by decide +kernel
theorem dX9_send_69 : decode cX9_send 69 = .ok (.iload_n 1, 1) := by decide +kernel
theorem dX9_send_70 : decode cX9_send 70 = .ok (.iload_n 2, 1) := by decide +kernel
theorem dX9_send_71 : decode cX9_send 71 = .ok (.invokevirtual 127, 3) := by decide +kernel
theorem dX9_send_74 : decode cX9_send 74 = .ok (.aload_n 0, 1) := by decide +kernel
theorem dX9_send_75 : decode cX9_send 75 = .ok (.getfield 7, 3) := by decide +kernel
theorem dX9_send_78 : decode cX9_send 78 = .ok (.iconst 5, 1) := by decide +kernel
theorem dX9_send_79 : decode cX9_send 79 = .ok (.dup2, 1) := by decide +kernel
theorem dX9_send_80 : decode cX9_send 80 = .ok (.iaload, 1) := by decide +kernel
theorem dX9_send_81 : decode cX9_send 81 = .ok (.iconst 1, 1) := by decide +kernel
theorem dX9_send_82 : decode cX9_send 82 = .ok (.iadd, 1) := by decide +kernel
theorem dX9_send_83 : decode cX9_send 83 = .ok (.iastore, 1) := by decide +kernel
theorem dX9_send_84 : decode cX9_send 84 = .ok (.aload_n 0, 1) := by decide +kernel
theorem dX9_send_85 : decode cX9_send 85 = .ok (.getfield 7, 3) := by decide +kernel
theorem dX9_send_88 : decode cX9_send 88 = .ok (.iconst 5, 1) := by decide +kernel
theorem dX9_send_89 : decode cX9_send 89 = .ok (.iaload, 1) := by decide +kernel
theorem dX9_send_90 : decode cX9_send 90 = .ok (.iconst 1, 1) := by decide +kernel
theorem dX9_send_91 : decode cX9_send 91 = .ok (.isub, 1) := by decide +kernel
theorem dX9_send_92 : decode cX9_send 92 = .ok (.ireturn, 1) := by decide +kernel
theorem dX9_deliver_0 : decode cX9_deliver 0 = .ok (.aload_n 0, 1) := by decide +kernel
theorem dX9_deliver_1 : decode cX9_deliver 1 = .ok (.aload_n 0, 1) := by decide +kernel
theorem dX9_deliver_2 : decode cX9_deliver 2 = .ok (.iload_n 1, 1) := by decide +kernel
theorem dX9_deliver_3 : decode cX9_deliver 3 = .ok (.invokevirtual 130, 3) := by decide +kernel
theorem dX9_deliver_6 : decode cX9_deliver 6 = .ok (.ifCond .eq 7, 3) := by decide +kernel
theorem dX9_deliver_9 : decode cX9_deliver 9 = .ok (.iconst 0, 1) := by decide +kernel
theorem dX9_deliver_10 : decode cX9_deliver 10 = .ok (.goto 4, 3) := by decide +kernel
theorem dX9_deliver_13 : decode cX9_deliver 13 = .ok (.iconst 1, 1) := by decide +kernel
theorem dX9_deliver_14 : decode cX9_deliver 14 = .ok (.putfield 42, 3) := by decide +kernel
theorem dX9_deliver_17 : decode cX9_deliver 17 = .ok (.aload_n 0, 1) := by decide +kernel
theorem dX9_deliver_18 : decode cX9_deliver 18 = .ok (.getfield 42, 3) := by decide +kernel
theorem dX9_deliver_21 : decode cX9_deliver 21 = .ok (.ifCond .eq 5, 3) := by decide +kernel
theorem dX9_deliver_24 : decode cX9_deliver 24 = .ok (.iconst 0, 1) := by decide +kernel
theorem dX9_deliver_25 : decode cX9_deliver 25 = .ok (.ireturn, 1) := by decide +kernel
theorem dX9_deliver_26 : decode cX9_deliver 26 = .ok (.aload_n 0, 1) := by decide +kernel
theorem dX9_deliver_27 : decode cX9_deliver 27 = .ok (.invokevirtual 99, 3) := by decide +kernel
theorem dX9_deliver_30 : decode cX9_deliver 30 = .ok (.aload_n 0, 1) := by decide +kernel
theorem dX9_deliver_31 : decode cX9_deliver 31 = .ok (.iload_n 1, 1) := by decide +kernel
theorem dX9_deliver_32 : decode cX9_deliver 32 = .ok (.invokevirtual 133, 3) := by decide +kernel
theorem dX9_deliver_35 : decode cX9_deliver 35 = .ok (.istore_n 2, 1) := by decide +kernel
theorem dX9_deliver_36 : decode cX9_deliver 36 = .ok (.aload_n 0, 1) := by decide +kernel
theorem dX9_deliver_37 : decode cX9_deliver 37 = .ok (.iload_n 1, 1) := by decide +kernel
theorem dX9_deliver_38 : decode cX9_deliver 38 = .ok (.invokevirtual 136, 3) := by decide +kernel
theorem dX9_deliver_41 : decode cX9_deliver 41 = .ok (.iload_n 2, 1) := by decide +kernel
theorem dX9_deliver_42 : decode cX9_deliver 42 = .ok (.ireturn, 1) := by decide +kernel
theorem dX9_lose_0 : decode cX9_lose 0 = .ok (.aload_n 0, 1) := by decide +kernel
theorem dX9_lose_1 : decode cX9_lose 1 = .ok (.aload_n 0, 1) := by decide +kernel
theorem dX9_lose_2 : decode cX9_lose 2 = .ok (.iload_n 1, 1) := by decide +kernel
theorem dX9_lose_3 : decode cX9_lose 3 = .ok (.invokevirtual 130, 3) := by decide +kernel
theorem dX9_lose_6 : decode cX9_lose 6 = .ok (.ifCond .eq 7, 3) := by decide +kernel
theorem dX9_lose_9 : decode cX9_lose 9 = .ok (.iconst 0, 1) := by decide +kernel
theorem dX9_lose_10 : decode cX9_lose 10 = .ok (.goto 4, 3) := by decide +kernel
theorem dX9_lose_13 : decode cX9_lose 13 = .ok (.iconst 1, 1) := by decide +kernel
theorem dX9_lose_14 : decode cX9_lose 14 = .ok (.putfield 42, 3) := by decide +kernel
theorem dX9_lose_17 : decode cX9_lose 17 = .ok (.aload_n 0, 1) := by decide +kernel
theorem dX9_lose_18 : decode cX9_lose 18 = .ok (.getfield 42, 3) := by decide +kernel
theorem dX9_lose_21 : decode cX9_lose 21 = .ok (.ifCond .eq 5, 3) := by decide +kernel
theorem dX9_lose_24 : decode cX9_lose 24 = .ok (.iconst 0, 1) := by decide +kernel
theorem dX9_lose_25 : decode cX9_lose 25 = .ok (.ireturn, 1) := by decide +kernel
theorem dX9_lose_26 : decode cX9_lose 26 = .ok (.aload_n 0, 1) := by decide +kernel
theorem dX9_lose_27 : decode cX9_lose 27 = .ok (.invokevirtual 99, 3) := by decide +kernel
theorem dX9_lose_30 : decode cX9_lose 30 = .ok (.aload_n 0, 1) := by decide +kernel
theorem dX9_lose_31 : decode cX9_lose 31 = .ok (.iload_n 1, 1) := by decide +kernel
theorem dX9_lose_32 : decode cX9_lose 32 = .ok (.invokevirtual 136, 3) := by decide +kernel
theorem dX9_lose_35 : decode cX9_lose 35 = .ok (.aload_n 0, 1) := by decide +kernel
theorem dX9_lose_36 : decode cX9_lose 36 = .ok (.getfield 7, 3) := by decide +kernel
theorem dX9_lose_39 : decode cX9_lose 39 = .ok (.iconst 5, 1) := by decide +kernel
theorem dX9_lose_40 : decode cX9_lose 40 = .ok (.iaload, 1) := by decide +kernel
theorem dX9_lose_41 : decode cX9_lose 41 = .ok (.ireturn, 1) := by decide +kernel
theorem dX9_repeat_0 : decode cX9_repeat 0 = .ok (.aload_n 0, 1) := by decide +kernel
theorem dX9_repeat_1 : decode cX9_repeat 1 = .ok (.aload_n 0, 1) := by decide +kernel
theorem dX9_repeat_2 : decode cX9_repeat 2 = .ok (.iload_n 1, 1) := by decide +kernel
theorem dX9_repeat_3 : decode cX9_repeat 3 = .ok (.invokevirtual 130, 3) := by decide +kernel
theorem dX9_repeat_6 : decode cX9_repeat 6 = .ok (.ifCond .ne 7, 3) := by decide +kernel
theorem dX9_repeat_9 : decode cX9_repeat 9 = .ok (.iconst 1, 1) := by decide +kernel
theorem dX9_repeat_10 : decode cX9_repeat 10 = .ok (.goto 19, 3) := by decide +kernel
theorem dX9_repeat_13 : decode cX9_repeat 13 = .ok (.aload_n 0, 1) := by decide +kernel
theorem dX9_repeat_14 : decode cX9_repeat 14 = .ok (.getfield 7, 3) := by decide +kernel
theorem dX9_repeat_17 : decode cX9_repeat 17 = .ok (.iconst 5, 1) := by decide +kernel
theorem dX9_repeat_18 : decode cX9_repeat 18 = .ok (.iaload, 1) := by decide +kernel
theorem dX9_repeat_19 : decode cX9_repeat 19 = .ok (.bipush 8, 2) := by decide +kernel
theorem dX9_repeat_21 : decode cX9_repeat 21 = .ok (.if_icmp .ne 7, 3) := by decide +kernel
theorem dX9_repeat_24 : decode cX9_repeat 24 = .ok (.iconst 2, 1) := by decide +kernel
theorem dX9_repeat_25 : decode cX9_repeat 25 = .ok (.goto 4, 3) := by decide +kernel
theorem dX9_repeat_28 : decode cX9_repeat 28 = .ok (.iconst 0, 1) := by decide +kernel
theorem dX9_repeat_29 : decode cX9_repeat 29 = .ok (.putfield 42, 3) := by decide +kernel
theorem dX9_repeat_32 : decode cX9_repeat 32 = .ok (.aload_n 0, 1) := by decide +kernel
theorem dX9_repeat_33 : decode cX9_repeat 33 = .ok (.getfield 42, 3) := by decide +kernel
theorem dX9_repeat_36 : decode cX9_repeat 36 = .ok (.ifCond .eq 5, 3) := by decide +kernel
theorem dX9_repeat_39 : decode cX9_repeat 39 = .ok (.iconst 0, 1) := by decide +kernel
theorem dX9_repeat_40 : decode cX9_repeat 40 = .ok (.ireturn, 1) := by decide +kernel
theorem dX9_repeat_41 : decode cX9_repeat 41 = .ok (.aload_n 0, 1) := by decide +kernel
theorem dX9_repeat_42 : decode cX9_repeat 42 = .ok (.invokevirtual 99, 3) := by decide +kernel
theorem dX9_repeat_45 : decode cX9_repeat 45 = .ok (.iconst 0, 1) := by decide +kernel
theorem dX9_repeat_46 : decode cX9_repeat 46 = .ok (.istore_n 2, 1) := by decide +kernel
theorem dX9_repeat_47 : decode cX9_repeat 47 = .ok (.iload_n 2, 1) := by decide +kernel
theorem dX9_repeat_48 : decode cX9_repeat 48 = .ok (.sipush 160, 3) := by decide +kernel
theorem dX9_repeat_51 : decode cX9_repeat 51 = .ok (.if_icmp .ge 36, 3) := by decide +kernel
theorem dX9_repeat_54 : decode cX9_repeat 54 = .ok (.aload_n 0, 1) := by decide +kernel
theorem dX9_repeat_55 : decode cX9_repeat 55 = .ok (.getfield 7, 3) := by decide +kernel
theorem dX9_repeat_58 : decode cX9_repeat 58 = .ok (.aload_n 0, 1) := by decide +kernel
theorem dX9_repeat_59 : decode cX9_repeat 59 = .ok (.getfield 7, 3) := by decide +kernel
theorem dX9_repeat_62 : decode cX9_repeat 62 = .ok (.iconst 5, 1) := by decide +kernel
theorem dX9_repeat_63 : decode cX9_repeat 63 = .ok (.iaload, 1) := by decide +kernel
theorem dX9_repeat_64 : decode cX9_repeat 64 = .ok (.invokestatic 124, 3) := by decide +kernel
theorem dX9_repeat_67 : decode cX9_repeat 67 = .ok (.iload_n 2, 1) := by decide +kernel
theorem dX9_repeat_68 : decode cX9_repeat 68 = .ok (.iadd, 1) := by decide +kernel
theorem dX9_repeat_69 : decode cX9_repeat 69 = .ok (.aload_n 0, 1) := by decide +kernel
theorem dX9_repeat_70 : decode cX9_repeat 70 = .ok (.getfield 7, 3) := by decide +kernel
theorem dX9_repeat_73 : decode cX9_repeat 73 = .ok (.iload_n 1, 1) := by decide +kernel
theorem dX9_repeat_74 : decode cX9_repeat 74 = .ok (.invokestatic 124, 3) := by decide +kernel
theorem dX9_repeat_77 : decode cX9_repeat 77 = .ok (.iload_n 2, 1) := by decide +kernel
theorem dX9_repeat_78 : decode cX9_repeat 78 = .ok (.iadd, 1) := by decide +kernel
theorem dX9_repeat_79 : decode cX9_repeat 79 = .ok (.iaload, 1) := by decide +kernel
theorem dX9_repeat_80 : decode cX9_repeat 80 = .ok (.iastore, 1) := by decide +kernel
theorem dX9_repeat_81 : decode cX9_repeat 81 = .ok (.iinc 2 1, 3) := by decide +kernel
theorem dX9_repeat_84 : decode cX9_repeat 84 = .ok (.goto (-37), 3) := by decide +kernel
theorem dX9_repeat_87 : decode cX9_repeat 87 = .ok (.aload_n 0, 1) := by decide +kernel
theorem dX9_repeat_88 : decode cX9_repeat 88 = .ok (.getfield 7, 3) := by decide +kernel
theorem dX9_repeat_91 : decode cX9_repeat 91 = .ok (.iconst 5, 1) := by decide +kernel
theorem dX9_repeat_92 : decode cX9_repeat 92 = .ok (.dup2, 1) := by decide +kernel
theorem dX9_repeat_93 : decode cX9_repeat 93 = .ok (.iaload, 1) := by decide +kernel
theorem dX9_repeat_94 : decode cX9_repeat 94 = .ok (.iconst 1, 1) := by decide +kernel
theorem dX9_repeat_95 : decode cX9_repeat 95 = .ok (.iadd, 1) := by decide +kernel
theorem dX9_repeat_96 : decode cX9_repeat 96 = .ok (.iastore, 1) := by decide +kernel
theorem dX9_repeat_97 : decode cX9_repeat 97 = .ok (.aload_n 0, 1) := by decide +kernel
theorem dX9_repeat_98 : decode cX9_repeat 98 = .ok (.getfield 7, 3) := by decide +kernel
theorem dX9_repeat_101 : decode cX9_repeat 101 = .ok (.iconst 5, 1) := by decide +kernel
theorem dX9_repeat_102 : decode cX9_repeat 102 = .ok (.iaload, 1) := by decide +kernel
theorem dX9_repeat_103 : decode cX9_repeat 103 = .ok (.iconst 1, 1) := by decide +kernel
theorem dX9_repeat_104 : decode cX9_repeat 104 = .ok (.isub, 1) := by decide +kernel
theorem dX9_repeat_105 : decode cX9_repeat 105 = .ok (.ireturn, 1) := by decide +kernel
theorem dX9_messages_0 : decode cX9_messages 0 = .ok (.aload_n 0, 1) := by decide +kernel
theorem dX9_messages_1 : decode cX9_messages 1 = .ok (.iconst 0, 1) := by decide +kernel
theorem dX9_messages_2 : decode cX9_messages 2 = .ok (.putfield 42, 3) := by decide +kernel
theorem dX9_messages_5 : decode cX9_messages 5 = .ok (.aload_n 0, 1) := by decide +kernel
theorem dX9_messages_6 : decode cX9_messages 6 = .ok (.getfield 7, 3) := by decide +kernel
theorem dX9_messages_9 : decode cX9_messages 9 = .ok (.iconst 5, 1) := by decide +kernel
theorem dX9_messages_10 : decode cX9_messages 10 = .ok (.iaload, 1) := by decide +kernel
theorem dX9_messages_11 : decode cX9_messages 11 = .ok (.ireturn, 1) := by decide +kernel
theorem dX9_message_0 : decode cX9_message 0 = .ok (.aload_n 0, 1) := by decide +kernel
theorem dX9_message_1 : decode cX9_message 1 = .ok (.aload_n 0, 1) := by decide +kernel
theorem dX9_message_2 : decode cX9_message 2 = .ok (.iload_n 1, 1) := by decide +kernel
theorem dX9_message_3 : decode cX9_message 3 = .ok (.invokevirtual 130, 3) := by decide +kernel
theorem dX9_message_6 : decode cX9_message 6 = .ok (.ifCond .eq 16, 3) := by decide +kernel
theorem dX9_message_9 : decode cX9_message 9 = .ok (.iload_n 2, 1) := by decide +kernel
theorem dX9_message_10 : decode cX9_message 10 = .ok (.iconst 0, 1) := by decide +kernel
theorem dX9_message_11 : decode cX9_message 11 = .ok (.iconst 2, 1) := by decide +kernel
theorem dX9_message_12 : decode cX9_message 12 = .ok (.invokestatic 48, 3) := by decide +kernel
theorem dX9_message_15 : decode cX9_message 15 = .ok (.ifCond .eq 7, 3) := by decide +kernel
theorem dX9_message_18 : decode cX9_message 18 = .ok (.iconst 0, 1) := by decide +kernel
theorem dX9_message_19 : decode cX9_message 19 = .ok (.goto 4, 3) := by decide +kernel
theorem dX9_message_22 : decode cX9_message 22 = .ok (.iconst 1, 1) := by decide +kernel
theorem dX9_message_23 : decode cX9_message 23 = .ok (.putfield 42, 3) := by decide +kernel
theorem dX9_message_26 : decode cX9_message 26 = .ok (.aload_n 0, 1) := by decide +kernel
theorem dX9_message_27 : decode cX9_message 27 = .ok (.getfield 42, 3) := by decide +kernel
theorem dX9_message_30 : decode cX9_message 30 = .ok (.ifCond .ne 17, 3) := by decide +kernel
theorem dX9_message_33 : decode cX9_message 33 = .ok (.aload_n 0, 1) := by decide +kernel
theorem dX9_message_34 : decode cX9_message 34 = .ok (.getfield 7, 3) := by decide +kernel
theorem dX9_message_37 : decode cX9_message 37 = .ok (.iload_n 1, 1) := by decide +kernel
theorem dX9_message_38 : decode cX9_message 38 = .ok (.invokestatic 124, 3) := by decide +kernel
theorem dX9_message_41 : decode cX9_message 41 = .ok (.iload_n 2, 1) := by decide +kernel
theorem dX9_message_42 : decode cX9_message 42 = .ok (.iadd, 1) := by decide +kernel
theorem dX9_message_43 : decode cX9_message 43 = .ok (.iaload, 1) := by decide +kernel
theorem dX9_message_44 : decode cX9_message 44 = .ok (.goto 4, 3) := by decide +kernel
theorem dX9_message_47 : decode cX9_message 47 = .ok (.iconst 0, 1) := by decide +kernel
theorem dX9_message_48 : decode cX9_message 48 = .ok (.ireturn, 1) := by decide +kernel
theorem dX9_time_0 : decode cX9_time 0 = .ok (.aload_n 0, 1) := by decide +kernel
theorem dX9_time_1 : decode cX9_time 1 = .ok (.iconst 0, 1) := by decide +kernel
theorem dX9_time_2 : decode cX9_time 2 = .ok (.putfield 42, 3) := by decide +kernel
theorem dX9_time_5 : decode cX9_time 5 = .ok (.aload_n 0, 1) := by decide +kernel
theorem dX9_time_6 : decode cX9_time 6 = .ok (.getfield 7, 3) := by decide +kernel
theorem dX9_time_9 : decode cX9_time 9 = .ok (.iconst 0, 1) := by decide +kernel
theorem dX9_time_10 : decode cX9_time 10 = .ok (.iaload, 1) := by decide +kernel
theorem dX9_time_11 : decode cX9_time 11 = .ok (.ireturn, 1) := by decide +kernel
theorem dX9_value_0 : decode cX9_value 0 = .ok (.aload_n 0, 1) := by decide +kernel
theorem dX9_value_1 : decode cX9_value 1 = .ok (.iconst 0, 1) := by decide +kernel
theorem dX9_value_2 : decode cX9_value 2 = .ok (.putfield 42, 3) := by decide +kernel
theorem dX9_value_5 : decode cX9_value 5 = .ok (.aload_n 0, 1) := by decide +kernel
theorem dX9_value_6 : decode cX9_value 6 = .ok (.invokevirtual 108, 3) := by decide +kernel
theorem dX9_value_9 : decode cX9_value 9 = .ok (.ireturn, 1) := by decide +kernel
theorem dX9_knownBy_0 : decode cX9_knownBy 0 = .ok (.aload_n 0, 1) := by decide +kernel
theorem dX9_knownBy_1 : decode cX9_knownBy 1 = .ok (.getfield 7, 3) := by decide +kernel
theorem dX9_knownBy_4 : decode cX9_knownBy 4 = .ok (.iconst 3, 1) := by decide +kernel
theorem dX9_knownBy_5 : decode cX9_knownBy 5 = .ok (.iaload, 1) := by decide +kernel
theorem dX9_knownBy_6 : decode cX9_knownBy 6 = .ok (.istore_n 2, 1) := by decide +kernel
theorem dX9_knownBy_7 : decode cX9_knownBy 7 = .ok (.iconst 0, 1) := by decide +kernel
theorem dX9_knownBy_8 : decode cX9_knownBy 8 = .ok (.istore_n 3, 1) := by decide +kernel
theorem dX9_knownBy_9 : decode cX9_knownBy 9 = .ok (.iload_n 3, 1) := by decide +kernel
theorem dX9_knownBy_10 : decode cX9_knownBy 10 = .ok (.aload_n 0, 1) := by decide +kernel
theorem dX9_knownBy_11 : decode cX9_knownBy 11 = .ok (.getfield 34, 3) := by decide +kernel
theorem dX9_knownBy_14 : decode cX9_knownBy 14 = .ok (.if_icmp .ge 37, 3) := by decide +kernel
theorem dX9_knownBy_17 : decode cX9_knownBy 17 = .ok (.iload_n 2, 1) := by decide +kernel
theorem dX9_knownBy_18 : decode cX9_knownBy 18 = .ok (.aload_n 0, 1) := by decide +kernel
theorem dX9_knownBy_19 : decode cX9_knownBy 19 = .ok (.getfield 7, 3) := by decide +kernel
theorem dX9_knownBy_22 : decode cX9_knownBy 22 = .ok (.iload_n 1, 1) := by decide +kernel
theorem dX9_knownBy_23 : decode cX9_knownBy 23 = .ok (.iload_n 3, 1) := by decide +kernel
theorem dX9_knownBy_24 : decode cX9_knownBy 24 = .ok (.invokestatic 52, 3) := by decide +kernel
theorem dX9_knownBy_27 : decode cX9_knownBy 27 = .ok (.iconst 2, 1) := by decide +kernel
theorem dX9_knownBy_28 : decode cX9_knownBy 28 = .ok (.iadd, 1) := by decide +kernel
theorem dX9_knownBy_29 : decode cX9_knownBy 29 = .ok (.iaload, 1) := by decide +kernel
theorem dX9_knownBy_30 : decode cX9_knownBy 30 = .ok (.aload_n 0, 1) := by decide +kernel
theorem dX9_knownBy_31 : decode cX9_knownBy 31 = .ok (.getfield 7, 3) := by decide +kernel
theorem dX9_knownBy_34 : decode cX9_knownBy 34 = .ok (.iload_n 1, 1) := by decide +kernel
theorem dX9_knownBy_35 : decode cX9_knownBy 35 = .ok (.iload_n 3, 1) := by decide +kernel
theorem dX9_knownBy_36 : decode cX9_knownBy 36 = .ok (.invokestatic 52, 3) := by decide +kernel
theorem dX9_knownBy_39 : decode cX9_knownBy 39 = .ok (.iconst 3, 1) := by decide +kernel
theorem dX9_knownBy_40 : decode cX9_knownBy 40 = .ok (.iadd, 1) := by decide +kernel
theorem dX9_knownBy_41 : decode cX9_knownBy 41 = .ok (.iaload, 1) := by decide +kernel
theorem dX9_knownBy_42 : decode cX9_knownBy 42 = .ok (.isub, 1) := by decide +kernel
theorem dX9_knownBy_43 : decode cX9_knownBy 43 = .ok (.iadd, 1) := by decide +kernel
theorem dX9_knownBy_44 : decode cX9_knownBy 44 = .ok (.istore_n 2, 1) := by decide +kernel
theorem dX9_knownBy_45 : decode cX9_knownBy 45 = .ok (.iinc 3 1, 3) := by decide +kernel
theorem dX9_knownBy_48 : decode cX9_knownBy 48 = .ok (.goto (-39), 3) := by decide +kernel
theorem dX9_knownBy_51 : decode cX9_knownBy 51 = .ok (.iload_n 2, 1) := by decide +kernel
theorem dX9_knownBy_52 : decode cX9_knownBy 52 = .ok (.ireturn, 1) := by decide +kernel
theorem dX9_known_0 : decode cX9_known 0 = .ok (.aload_n 0, 1) := by decide +kernel
theorem dX9_known_1 : decode cX9_known 1 = .ok (.aload_n 0, 1) := by decide +kernel
theorem dX9_known_2 : decode cX9_known 2 = .ok (.iload_n 1, 1) := by decide +kernel
theorem dX9_known_3 : decode cX9_known 3 = .ok (.invokevirtual 96, 3) := by decide +kernel
theorem dX9_known_6 : decode cX9_known 6 = .ok (.ifCond .eq 7, 3) := by decide +kernel
theorem dX9_known_9 : decode cX9_known 9 = .ok (.iconst 0, 1) := by decide +kernel
theorem dX9_known_10 : decode cX9_known 10 = .ok (.goto 4, 3) := by decide +kernel
theorem dX9_known_13 : decode cX9_known 13 = .ok (.iconst 1, 1) := by decide +kernel
theorem dX9_known_14 : decode cX9_known 14 = .ok (.putfield 42, 3) := by decide +kernel
theorem dX9_known_17 : decode cX9_known 17 = .ok (.aload_n 0, 1) := by decide +kernel
theorem dX9_known_18 : decode cX9_known 18 = .ok (.getfield 42, 3) := by decide +kernel
theorem dX9_known_21 : decode cX9_known 21 = .ok (.ifCond .ne 11, 3) := by decide +kernel
theorem dX9_known_24 : decode cX9_known 24 = .ok (.aload_n 0, 1) := by decide +kernel
theorem dX9_known_25 : decode cX9_known 25 = .ok (.iload_n 1, 1) := by decide +kernel
theorem dX9_known_26 : decode cX9_known 26 = .ok (.invokevirtual 139, 3) := by decide +kernel
theorem dX9_known_29 : decode cX9_known 29 = .ok (.goto 4, 3) := by decide +kernel
theorem dX9_known_32 : decode cX9_known 32 = .ok (.iconst 0, 1) := by decide +kernel
theorem dX9_known_33 : decode cX9_known 33 = .ok (.ireturn, 1) := by decide +kernel
theorem dX9_isWrong_0 : decode cX9_isWrong 0 = .ok (.aload_n 0, 1) := by decide +kernel
theorem dX9_isWrong_1 : decode cX9_isWrong 1 = .ok (.aload_n 0, 1) := by decide +kernel
theorem dX9_isWrong_2 : decode cX9_isWrong 2 = .ok (.iload_n 1, 1) := by decide +kernel
theorem dX9_isWrong_3 : decode cX9_isWrong 3 = .ok (.invokevirtual 96, 3) := by decide +kernel
theorem dX9_isWrong_6 : decode cX9_isWrong 6 = .ok (.ifCond .eq 16, 3) := by decide +kernel
theorem dX9_isWrong_9 : decode cX9_isWrong 9 = .ok (.iload_n 2, 1) := by decide +kernel
theorem dX9_isWrong_10 : decode cX9_isWrong 10 = .ok (.iconst 0, 1) := by decide +kernel
theorem dX9_isWrong_11 : decode cX9_isWrong 11 = .ok (.iconst 1, 1) := by decide +kernel
theorem dX9_isWrong_12 : decode cX9_isWrong 12 = .ok (.invokestatic 48, 3) := by decide +kernel
theorem dX9_isWrong_15 : decode cX9_isWrong 15 = .ok (.ifCond .eq 7, 3) := by decide +kernel
theorem dX9_isWrong_18 : decode cX9_isWrong 18 = .ok (.iconst 0, 1) := by decide +kernel
theorem dX9_isWrong_19 : decode cX9_isWrong 19 = .ok (.goto 4, 3) := by decide +kernel
theorem dX9_isWrong_22 : decode cX9_isWrong 22 = .ok (.iconst 1, 1) := by decide +kernel
theorem dX9_isWrong_23 : decode cX9_isWrong 23 = .ok (.putfield 42, 3) := by decide +kernel
theorem dX9_isWrong_26 : decode cX9_isWrong 26 = .ok (.aload_n 0, 1) := by decide +kernel
theorem dX9_isWrong_27 : decode cX9_isWrong 27 = .ok (.getfield 42, 3) := by decide +kernel
theorem dX9_isWrong_30 : decode cX9_isWrong 30 = .ok (.ifCond .eq 7, 3) := by decide +kernel
theorem dX9_isWrong_33 : decode cX9_isWrong 33 = .ok (.iconst 1, 1) := by decide +kernel
theorem dX9_isWrong_34 : decode cX9_isWrong 34 = .ok (.goto 4, 3) := by decide +kernel
theorem dX9_isWrong_37 : decode cX9_isWrong 37 = .ok (.iconst 0, 1) := by decide +kernel
theorem dX9_isWrong_38 : decode cX9_isWrong 38 = .ok (.ireturn, 1) := by decide +kernel
theorem dX9_own_0 : decode cX9_own 0 = .ok (.aload_n 0, 1) := by decide +kernel
theorem dX9_own_1 : decode cX9_own 1 = .ok (.iload_n 1, 1) := by decide +kernel
theorem dX9_own_2 : decode cX9_own 2 = .ok (.iload_n 2, 1) := by decide +kernel
theorem dX9_own_3 : decode cX9_own 3 = .ok (.invokevirtual 142, 3) := by decide +kernel
theorem dX9_own_6 : decode cX9_own 6 = .ok (.ifCond .eq 7, 3) := by decide +kernel
theorem dX9_own_9 : decode cX9_own 9 = .ok (.iconst 0, 1) := by decide +kernel
theorem dX9_own_10 : decode cX9_own 10 = .ok (.goto 9, 3) := by decide +kernel
theorem dX9_own_13 : decode cX9_own 13 = .ok (.aload_n 0, 1) := by decide +kernel
theorem dX9_own_14 : decode cX9_own 14 = .ok (.iload_n 1, 1) := by decide +kernel
theorem dX9_own_15 : decode cX9_own 15 = .ok (.iload_n 2, 1) := by decide +kernel
theorem dX9_own_16 : decode cX9_own 16 = .ok (.invokevirtual 79, 3) := by decide +kernel
theorem dX9_own_19 : decode cX9_own 19 = .ok (.ireturn, 1) := by decide +kernel
theorem dX9_available_0 : decode cX9_available 0 = .ok (.aload_n 0, 1) := by decide +kernel
theorem dX9_available_1 : decode cX9_available 1 = .ok (.iload_n 1, 1) := by decide +kernel
theorem dX9_available_2 : decode cX9_available 2 = .ok (.iload_n 2, 1) := by decide +kernel
theorem dX9_available_3 : decode cX9_available 3 = .ok (.invokevirtual 142, 3) := by decide +kernel
theorem dX9_available_6 : decode cX9_available 6 = .ok (.ifCond .eq 7, 3) := by decide +kernel
theorem dX9_available_9 : decode cX9_available 9 = .ok (.iconst 0, 1) := by decide +kernel
theorem dX9_available_10 : decode cX9_available 10 = .ok (.goto 9, 3) := by decide +kernel
theorem dX9_available_13 : decode cX9_available 13 = .ok (.aload_n 0, 1) := by decide +kernel
theorem dX9_available_14 : decode cX9_available 14 = .ok (.iload_n 1, 1) := by decide +kernel
theorem dX9_available_15 : decode cX9_available 15 = .ok (.iload_n 2, 1) := by decide +kernel
theorem dX9_available_16 : decode cX9_available 16 = .ok (.invokevirtual 85, 3) := by decide +kernel
theorem dX9_available_19 : decode cX9_available 19 = .ok (.ireturn, 1) := by decide +kernel
theorem dX9_dormant_0 : decode cX9_dormant 0 = .ok (.aload_n 0, 1) := by decide +kernel
theorem dX9_dormant_1 : decode cX9_dormant 1 = .ok (.iload_n 1, 1) := by decide +kernel
theorem dX9_dormant_2 : decode cX9_dormant 2 = .ok (.iconst 0, 1) := by decide +kernel
theorem dX9_dormant_3 : decode cX9_dormant 3 = .ok (.iconst 1, 1) := by decide +kernel
theorem dX9_dormant_4 : decode cX9_dormant 4 = .ok (.invokestatic 48, 3) := by decide +kernel
theorem dX9_dormant_7 : decode cX9_dormant 7 = .ok (.ifCond .eq 7, 3) := by decide +kernel
theorem dX9_dormant_10 : decode cX9_dormant 10 = .ok (.iconst 0, 1) := by decide +kernel
theorem dX9_dormant_11 : decode cX9_dormant 11 = .ok (.goto 4, 3) := by decide +kernel
theorem dX9_dormant_14 : decode cX9_dormant 14 = .ok (.iconst 1, 1) := by decide +kernel
theorem dX9_dormant_15 : decode cX9_dormant 15 = .ok (.putfield 42, 3) := by decide +kernel
theorem dX9_dormant_18 : decode cX9_dormant 18 = .ok (.aload_n 0, 1) := by decide +kernel
theorem dX9_dormant_19 : decode cX9_dormant 19 = .ok (.getfield 42, 3) := by decide +kernel
theorem dX9_dormant_22 : decode cX9_dormant 22 = .ok (.ifCond .eq 5, 3) := by decide +kernel
theorem dX9_dormant_25 : decode cX9_dormant 25 = .ok (.iconst 0, 1) := by decide +kernel
theorem dX9_dormant_26 : decode cX9_dormant 26 = .ok (.ireturn, 1) := by decide +kernel
theorem dX9_dormant_27 : decode cX9_dormant 27 = .ok (.iload_n 1, 1) := by decide +kernel
theorem dX9_dormant_28 : decode cX9_dormant 28 = .ok (.ifCond .ne 17, 3) := by decide +kernel
theorem dX9_dormant_31 : decode cX9_dormant 31 = .ok (.aload_n 0, 1) := by decide +kernel
theorem dX9_dormant_32 : decode cX9_dormant 32 = .ok (.getfield 7, 3) := by decide +kernel
theorem dX9_dormant_35 : decode cX9_dormant 35 = .ok (.iconst 2, 1) := by decide +kernel
theorem dX9_dormant_36 : decode cX9_dormant 36 = .ok (.iaload, 1) := by decide +kernel
theorem dX9_dormant_37 : decode cX9_dormant 37 = .ok (.aload_n 0, 1) := by decide +kernel
theorem dX9_dormant_38 : decode cX9_dormant 38 = .ok (.invokevirtual 108, 3) := by decide +kernel
theorem dX9_dormant_41 : decode cX9_dormant 41 = .ok (.isub, 1) := by decide +kernel
theorem dX9_dormant_42 : decode cX9_dormant 42 = .ok (.goto 14, 3) := by decide +kernel
theorem dX9_dormant_45 : decode cX9_dormant 45 = .ok (.aload_n 0, 1) := by decide +kernel
theorem dX9_dormant_46 : decode cX9_dormant 46 = .ok (.invokevirtual 108, 3) := by decide +kernel
theorem dX9_dormant_49 : decode cX9_dormant 49 = .ok (.aload_n 0, 1) := by decide +kernel
theorem dX9_dormant_50 : decode cX9_dormant 50 = .ok (.getfield 7, 3) := by decide +kernel
theorem dX9_dormant_53 : decode cX9_dormant 53 = .ok (.iconst 1, 1) := by decide +kernel
theorem dX9_dormant_54 : decode cX9_dormant 54 = .ok (.iaload, 1) := by decide +kernel
theorem dX9_dormant_55 : decode cX9_dormant 55 = .ok (.isub, 1) := by decide +kernel
theorem dX9_dormant_56 : decode cX9_dormant 56 = .ok (.istore_n 2, 1) := by decide +kernel
theorem dX9_dormant_57 : decode cX9_dormant 57 = .ok (.iconst 0, 1) := by decide +kernel
theorem dX9_dormant_58 : decode cX9_dormant 58 = .ok (.istore_n 3, 1) := by decide +kernel
theorem dX9_dormant_59 : decode cX9_dormant 59 = .ok (.iload_n 3, 1) := by decide +kernel
theorem dX9_dormant_60 : decode cX9_dormant 60 = .ok (.aload_n 0, 1) := by decide +kernel
theorem dX9_dormant_61 : decode cX9_dormant 61 = .ok (.getfield 34, 3) := by decide +kernel
theorem dX9_dormant_64 : decode cX9_dormant 64 = .ok (.if_icmp .ge 18, 3) := by decide +kernel
theorem dX9_dormant_67 : decode cX9_dormant 67 = .ok (.iload_n 2, 1) := by decide +kernel
theorem dX9_dormant_68 : decode cX9_dormant 68 = .ok (.aload_n 0, 1) := by decide +kernel
theorem dX9_dormant_69 : decode cX9_dormant 69 = .ok (.iload_n 3, 1) := by decide +kernel
theorem dX9_dormant_70 : decode cX9_dormant 70 = .ok (.iload_n 1, 1) := by decide +kernel
theorem dX9_dormant_71 : decode cX9_dormant 71 = .ok (.invokevirtual 85, 3) := by decide +kernel
theorem dX9_dormant_74 : decode cX9_dormant 74 = .ok (.isub, 1) := by decide +kernel
theorem dX9_dormant_75 : decode cX9_dormant 75 = .ok (.istore_n 2, 1) := by decide +kernel
theorem dX9_dormant_76 : decode cX9_dormant 76 = .ok (.iinc 3 1, 3) := by decide +kernel
theorem dX9_dormant_79 : decode cX9_dormant 79 = .ok (.goto (-20), 3) := by decide +kernel
theorem dX9_dormant_82 : decode cX9_dormant 82 = .ok (.iload_n 2, 1) := by decide +kernel
theorem dX9_dormant_83 : decode cX9_dormant 83 = .ok (.ireturn, 1) := by decide +kernel
theorem dX9_demand_0 : decode cX9_demand 0 = .ok (.aload_n 0, 1) := by decide +kernel
theorem dX9_demand_1 : decode cX9_demand 1 = .ok (.aload_n 0, 1) := by decide +kernel
theorem dX9_demand_2 : decode cX9_demand 2 = .ok (.iload_n 1, 1) := by decide +kernel
theorem dX9_demand_3 : decode cX9_demand 3 = .ok (.invokevirtual 96, 3) := by decide +kernel
theorem dX9_demand_6 : decode cX9_demand 6 = .ok (.ifCond .eq 24, 3) := by decide +kernel
theorem dX9_demand_9 : decode cX9_demand 9 = .ok (.aload_n 0, 1) := by decide +kernel
theorem dX9_demand_10 : decode cX9_demand 10 = .ok (.iload_n 2, 1) := by decide +kernel
theorem dX9_demand_11 : decode cX9_demand 11 = .ok (.invokevirtual 96, 3) := by decide +kernel
theorem dX9_demand_14 : decode cX9_demand 14 = .ok (.ifCond .eq 16, 3) := by decide +kernel
theorem dX9_demand_17 : decode cX9_demand 17 = .ok (.iload_n 3, 1) := by decide +kernel
theorem dX9_demand_18 : decode cX9_demand 18 = .ok (.iconst 0, 1) := by decide +kernel
theorem dX9_demand_19 : decode cX9_demand 19 = .ok (.iconst 1, 1) := by decide +kernel
theorem dX9_demand_20 : decode cX9_demand 20 = .ok (.invokestatic 48, 3) := by decide +kernel
theorem dX9_demand_23 : decode cX9_demand 23 = .ok (.ifCond .eq 7, 3) := by decide +kernel
theorem dX9_demand_26 : decode cX9_demand 26 = .ok (.iconst 0, 1) := by decide +kernel
theorem dX9_demand_27 : decode cX9_demand 27 = .ok (.goto 4, 3) := by decide +kernel
theorem dX9_demand_30 : decode cX9_demand 30 = .ok (.iconst 1, 1) := by decide +kernel
theorem dX9_demand_31 : decode cX9_demand 31 = .ok (.putfield 42, 3) := by decide +kernel
theorem dX9_demand_34 : decode cX9_demand 34 = .ok (.aload_n 0, 1) := by decide +kernel
theorem dX9_demand_35 : decode cX9_demand 35 = .ok (.getfield 42, 3) := by decide +kernel
theorem dX9_demand_38 : decode cX9_demand 38 = .ok (.ifCond .ne 21, 3) := by decide +kernel
theorem dX9_demand_41 : decode cX9_demand 41 = .ok (.aload_n 0, 1) := by decide +kernel
theorem dX9_demand_42 : decode cX9_demand 42 = .ok (.getfield 7, 3) := by decide +kernel
theorem dX9_demand_45 : decode cX9_demand 45 = .ok (.iload_n 1, 1) := by decide +kernel
theorem dX9_demand_46 : decode cX9_demand 46 = .ok (.iload_n 2, 1) := by decide +kernel
theorem dX9_demand_47 : decode cX9_demand 47 = .ok (.invokestatic 52, 3) := by decide +kernel
theorem dX9_demand_50 : decode cX9_demand 50 = .ok (.bipush 14, 2) := by decide +kernel
theorem dX9_demand_52 : decode cX9_demand 52 = .ok (.iadd, 1) := by decide +kernel
theorem dX9_demand_53 : decode cX9_demand 53 = .ok (.iload_n 3, 1) := by decide +kernel
theorem dX9_demand_54 : decode cX9_demand 54 = .ok (.iadd, 1) := by decide +kernel
theorem dX9_demand_55 : decode cX9_demand 55 = .ok (.iaload, 1) := by decide +kernel
theorem dX9_demand_56 : decode cX9_demand 56 = .ok (.goto 4, 3) := by decide +kernel
theorem dX9_demand_59 : decode cX9_demand 59 = .ok (.iconst 0, 1) := by decide +kernel
theorem dX9_demand_60 : decode cX9_demand 60 = .ok (.ireturn, 1) := by decide +kernel
theorem dX9_isTwo_0 : decode cX9_isTwo 0 = .ok (.aload_n 0, 1) := by decide +kernel
theorem dX9_isTwo_1 : decode cX9_isTwo 1 = .ok (.aload_n 0, 1) := by decide +kernel
theorem dX9_isTwo_2 : decode cX9_isTwo 2 = .ok (.iload_n 1, 1) := by decide +kernel
theorem dX9_isTwo_3 : decode cX9_isTwo 3 = .ok (.invokevirtual 96, 3) := by decide +kernel
theorem dX9_isTwo_6 : decode cX9_isTwo 6 = .ok (.ifCond .eq 15, 3) := by decide +kernel
theorem dX9_isTwo_9 : decode cX9_isTwo 9 = .ok (.aload_n 0, 1) := by decide +kernel
theorem dX9_isTwo_10 : decode cX9_isTwo 10 = .ok (.iload_n 2, 1) := by decide +kernel
theorem dX9_isTwo_11 : decode cX9_isTwo 11 = .ok (.invokevirtual 96, 3) := by decide +kernel
theorem dX9_isTwo_14 : decode cX9_isTwo 14 = .ok (.ifCond .eq 7, 3) := by decide +kernel
theorem dX9_isTwo_17 : decode cX9_isTwo 17 = .ok (.iconst 0, 1) := by decide +kernel
theorem dX9_isTwo_18 : decode cX9_isTwo 18 = .ok (.goto 4, 3) := by decide +kernel
theorem dX9_isTwo_21 : decode cX9_isTwo 21 = .ok (.iconst 1, 1) := by decide +kernel
theorem dX9_isTwo_22 : decode cX9_isTwo 22 = .ok (.putfield 42, 3) := by decide +kernel
theorem dX9_isTwo_25 : decode cX9_isTwo 25 = .ok (.aload_n 0, 1) := by decide +kernel
theorem dX9_isTwo_26 : decode cX9_isTwo 26 = .ok (.getfield 42, 3) := by decide +kernel
theorem dX9_isTwo_29 : decode cX9_isTwo 29 = .ok (.ifCond .ne 7, 3) := by decide +kernel
theorem dX9_isTwo_32 : decode cX9_isTwo 32 = .ok (.iconst 1, 1) := by decide +kernel
theorem dX9_isTwo_33 : decode cX9_isTwo 33 = .ok (.goto 4, 3) := by decide +kernel
theorem dX9_isTwo_36 : decode cX9_isTwo 36 = .ok (.iconst 0, 1) := by decide +kernel
theorem dX9_isTwo_37 : decode cX9_isTwo 37 = .ok (.ireturn, 1) := by decide +kernel
theorem dX9_version_0 : decode cX9_version 0 = .ok (.aload_n 0, 1) := by decide +kernel
theorem dX9_version_1 : decode cX9_version 1 = .ok (.iload_n 1, 1) := by decide +kernel
theorem dX9_version_2 : decode cX9_version 2 = .ok (.iload_n 2, 1) := by decide +kernel
theorem dX9_version_3 : decode cX9_version 3 = .ok (.invokevirtual 146, 3) := by decide +kernel
theorem dX9_version_6 : decode cX9_version 6 = .ok (.ifCond .eq 18, 3) := by decide +kernel
theorem dX9_version_9 : decode cX9_version 9 = .ok (.aload_n 0, 1) := by decide +kernel
theorem dX9_version_10 : decode cX9_version 10 = .ok (.getfield 7, 3) := by decide +kernel
theorem dX9_version_13 : decode cX9_version 13 = .ok (.iload_n 1, 1) := by decide +kernel
theorem dX9_version_14 : decode cX9_version 14 = .ok (.iload_n 2, 1) := by decide +kernel
theorem dX9_version_15 : decode cX9_version 15 = .ok (.invokestatic 52, 3) := by decide +kernel
theorem dX9_version_18 : decode cX9_version 18 = .ok (.iconst 0, 1) := by decide +kernel
theorem dX9_version_19 : decode cX9_version 19 = .ok (.iadd, 1) := by decide +kernel
theorem dX9_version_20 : decode cX9_version 20 = .ok (.iaload, 1) := by decide +kernel
theorem dX9_version_21 : decode cX9_version 21 = .ok (.goto 4, 3) := by decide +kernel
theorem dX9_version_24 : decode cX9_version 24 = .ok (.iconst 0, 1) := by decide +kernel
theorem dX9_version_25 : decode cX9_version 25 = .ok (.ireturn, 1) := by decide +kernel
theorem dX9_copyTime_0 : decode cX9_copyTime 0 = .ok (.aload_n 0, 1) := by decide +kernel
theorem dX9_copyTime_1 : decode cX9_copyTime 1 = .ok (.iload_n 1, 1) := by decide +kernel
theorem dX9_copyTime_2 : decode cX9_copyTime 2 = .ok (.iload_n 2, 1) := by decide +kernel
theorem dX9_copyTime_3 : decode cX9_copyTime 3 = .ok (.invokevirtual 146, 3) := by decide +kernel
theorem dX9_copyTime_6 : decode cX9_copyTime 6 = .ok (.ifCond .eq 12, 3) := by decide +kernel
theorem dX9_copyTime_9 : decode cX9_copyTime 9 = .ok (.aload_n 0, 1) := by decide +kernel
theorem dX9_copyTime_10 : decode cX9_copyTime 10 = .ok (.iload_n 1, 1) := by decide +kernel
theorem dX9_copyTime_11 : decode cX9_copyTime 11 = .ok (.iload_n 2, 1) := by decide +kernel
theorem dX9_copyTime_12 : decode cX9_copyTime 12 = .ok (.invokevirtual 63, 3) := by decide +kernel
theorem dX9_copyTime_15 : decode cX9_copyTime 15 = .ok (.goto 4, 3) := by decide +kernel
theorem dX9_copyTime_18 : decode cX9_copyTime 18 = .ok (.iconst 0, 1) := by decide +kernel
theorem dX9_copyTime_19 : decode cX9_copyTime 19 = .ok (.ireturn, 1) := by decide +kernel
theorem dX9_loans_0 : decode cX9_loans 0 = .ok (.aload_n 0, 1) := by decide +kernel
theorem dX9_loans_1 : decode cX9_loans 1 = .ok (.iconst 0, 1) := by decide +kernel
theorem dX9_loans_2 : decode cX9_loans 2 = .ok (.putfield 42, 3) := by decide +kernel
theorem dX9_loans_5 : decode cX9_loans 5 = .ok (.aload_n 0, 1) := by decide +kernel
theorem dX9_loans_6 : decode cX9_loans 6 = .ok (.getfield 7, 3) := by decide +kernel
theorem dX9_loans_9 : decode cX9_loans 9 = .ok (.iconst 4, 1) := by decide +kernel
theorem dX9_loans_10 : decode cX9_loans 10 = .ok (.iaload, 1) := by decide +kernel
theorem dX9_loans_11 : decode cX9_loans 11 = .ok (.ireturn, 1) := by decide +kernel
theorem dX9_ofLoan_0 : decode cX9_ofLoan 0 = .ok (.iload_n 1, 1) := by decide +kernel
theorem dX9_ofLoan_1 : decode cX9_ofLoan 1 = .ok (.invokestatic 60, 3) := by decide +kernel
theorem dX9_ofLoan_4 : decode cX9_ofLoan 4 = .ok (.istore_n 3, 1) := by decide +kernel
theorem dX9_ofLoan_5 : decode cX9_ofLoan 5 = .ok (.iload_n 2, 1) := by decide +kernel
theorem dX9_ofLoan_6 : decode cX9_ofLoan 6 = .ok (.iconst 5, 1) := by decide +kernel
theorem dX9_ofLoan_7 : decode cX9_ofLoan 7 = .ok (.if_icmp .ge 14, 3) := by decide +kernel
theorem dX9_ofLoan_10 : decode cX9_ofLoan 10 = .ok (.aload_n 0, 1) := by decide +kernel
theorem dX9_ofLoan_11 : decode cX9_ofLoan 11 = .ok (.getfield 7, 3) := by decide +kernel
theorem dX9_ofLoan_14 : decode cX9_ofLoan 14 = .ok (.iload_n 3, 1) := by decide +kernel
theorem dX9_ofLoan_15 : decode cX9_ofLoan 15 = .ok (.iload_n 2, 1) := by decide +kernel
theorem dX9_ofLoan_16 : decode cX9_ofLoan 16 = .ok (.iadd, 1) := by decide +kernel
theorem dX9_ofLoan_17 : decode cX9_ofLoan 17 = .ok (.iaload, 1) := by decide +kernel
theorem dX9_ofLoan_18 : decode cX9_ofLoan 18 = .ok (.goto 51, 3) := by decide +kernel
theorem dX9_ofLoan_21 : decode cX9_ofLoan 21 = .ok (.iload_n 2, 1) := by decide +kernel
theorem dX9_ofLoan_22 : decode cX9_ofLoan 22 = .ok (.iconst 5, 1) := by decide +kernel
theorem dX9_ofLoan_23 : decode cX9_ofLoan 23 = .ok (.if_icmp .ne 19, 3) := by decide +kernel
theorem dX9_ofLoan_26 : decode cX9_ofLoan 26 = .ok (.aload_n 0, 1) := by decide +kernel
theorem dX9_ofLoan_27 : decode cX9_ofLoan 27 = .ok (.aload_n 0, 1) := by decide +kernel
theorem dX9_ofLoan_28 : decode cX9_ofLoan 28 = .ok (.getfield 7, 3) := by decide +kernel
theorem dX9_ofLoan_31 : decode cX9_ofLoan 31 = .ok (.iload_n 3, 1) := by decide +kernel
theorem dX9_ofLoan_32 : decode cX9_ofLoan 32 = .ok (.iconst 1, 1) := by decide +kernel
theorem dX9_ofLoan_33 : decode cX9_ofLoan 33 = .ok (.iadd, 1) := by decide +kernel
theorem dX9_ofLoan_34 : decode cX9_ofLoan 34 = .ok (.iaload, 1) := by decide +kernel
theorem dX9_ofLoan_35 : decode cX9_ofLoan 35 = .ok (.iload_n 1, 1) := by decide +kernel
theorem dX9_ofLoan_36 : decode cX9_ofLoan 36 = .ok (.invokevirtual 70, 3) := by decide +kernel
theorem dX9_ofLoan_39 : decode cX9_ofLoan 39 = .ok (.goto 30, 3) := by decide +kernel
theorem dX9_ofLoan_42 : decode cX9_ofLoan 42 = .ok (.iload_n 2, 1) := by decide +kernel
theorem dX9_ofLoan_43 : decode cX9_ofLoan 43 = .ok (.bipush 6, 2) := by decide +kernel
theorem dX9_ofLoan_45 : decode cX9_ofLoan 45 = .ok (.if_icmp .ne 11, 3) := by decide +kernel
theorem dX9_ofLoan_48 : decode cX9_ofLoan 48 = .ok (.aload_n 0, 1) := by decide +kernel
theorem dX9_ofLoan_49 : decode cX9_ofLoan 49 = .ok (.iload_n 1, 1) := by decide +kernel
theorem dX9_ofLoan_50 : decode cX9_ofLoan 50 = .ok (.invokevirtual 76, 3) := by decide +kernel
theorem dX9_ofLoan_53 : decode cX9_ofLoan 53 = .ok (.goto 16, 3) := by decide +kernel
theorem dX9_ofLoan_56 : decode cX9_ofLoan 56 = .ok (.aload_n 0, 1) := by decide +kernel
theorem dX9_ofLoan_57 : decode cX9_ofLoan 57 = .ok (.iload_n 1, 1) := by decide +kernel
theorem dX9_ofLoan_58 : decode cX9_ofLoan 58 = .ok (.invokevirtual 73, 3) := by decide +kernel
theorem dX9_ofLoan_61 : decode cX9_ofLoan 61 = .ok (.ifCond .eq 7, 3) := by decide +kernel
theorem dX9_ofLoan_64 : decode cX9_ofLoan 64 = .ok (.iconst 1, 1) := by decide +kernel
theorem dX9_ofLoan_65 : decode cX9_ofLoan 65 = .ok (.goto 4, 3) := by decide +kernel
theorem dX9_ofLoan_68 : decode cX9_ofLoan 68 = .ok (.iconst 0, 1) := by decide +kernel
theorem dX9_ofLoan_69 : decode cX9_ofLoan 69 = .ok (.ireturn, 1) := by decide +kernel
theorem dX9_loan_0 : decode cX9_loan 0 = .ok (.aload_n 0, 1) := by decide +kernel
theorem dX9_loan_1 : decode cX9_loan 1 = .ok (.iload_n 1, 1) := by decide +kernel
theorem dX9_loan_2 : decode cX9_loan 2 = .ok (.iconst 0, 1) := by decide +kernel
theorem dX9_loan_3 : decode cX9_loan 3 = .ok (.aload_n 0, 1) := by decide +kernel
theorem dX9_loan_4 : decode cX9_loan 4 = .ok (.getfield 7, 3) := by decide +kernel
theorem dX9_loan_7 : decode cX9_loan 7 = .ok (.iconst 4, 1) := by decide +kernel
theorem dX9_loan_8 : decode cX9_loan 8 = .ok (.iaload, 1) := by decide +kernel
theorem dX9_loan_9 : decode cX9_loan 9 = .ok (.iconst 1, 1) := by decide +kernel
theorem dX9_loan_10 : decode cX9_loan 10 = .ok (.isub, 1) := by decide +kernel
theorem dX9_loan_11 : decode cX9_loan 11 = .ok (.invokestatic 48, 3) := by decide +kernel
theorem dX9_loan_14 : decode cX9_loan 14 = .ok (.ifCond .eq 17, 3) := by decide +kernel
theorem dX9_loan_17 : decode cX9_loan 17 = .ok (.iload_n 2, 1) := by decide +kernel
theorem dX9_loan_18 : decode cX9_loan 18 = .ok (.iconst 0, 1) := by decide +kernel
theorem dX9_loan_19 : decode cX9_loan 19 = .ok (.bipush 7, 2) := by decide +kernel
theorem dX9_loan_21 : decode cX9_loan 21 = .ok (.invokestatic 48, 3) := by decide +kernel
theorem dX9_loan_24 : decode cX9_loan 24 = .ok (.ifCond .eq 7, 3) := by decide +kernel
theorem dX9_loan_27 : decode cX9_loan 27 = .ok (.iconst 0, 1) := by decide +kernel
theorem dX9_loan_28 : decode cX9_loan 28 = .ok (.goto 4, 3) := by decide +kernel
theorem dX9_loan_31 : decode cX9_loan 31 = .ok (.iconst 1, 1) := by decide +kernel
theorem dX9_loan_32 : decode cX9_loan 32 = .ok (.putfield 42, 3) := by decide +kernel
theorem dX9_loan_35 : decode cX9_loan 35 = .ok (.aload_n 0, 1) := by decide +kernel
theorem dX9_loan_36 : decode cX9_loan 36 = .ok (.getfield 42, 3) := by decide +kernel
theorem dX9_loan_39 : decode cX9_loan 39 = .ok (.ifCond .ne 12, 3) := by decide +kernel
theorem dX9_loan_42 : decode cX9_loan 42 = .ok (.aload_n 0, 1) := by decide +kernel
theorem dX9_loan_43 : decode cX9_loan 43 = .ok (.iload_n 1, 1) := by decide +kernel
theorem dX9_loan_44 : decode cX9_loan 44 = .ok (.iload_n 2, 1) := by decide +kernel
theorem dX9_loan_45 : decode cX9_loan 45 = .ok (.invokevirtual 149, 3) := by decide +kernel
theorem dX9_loan_48 : decode cX9_loan 48 = .ok (.goto 4, 3) := by decide +kernel
theorem dX9_loan_51 : decode cX9_loan 51 = .ok (.iconst 0, 1) := by decide +kernel
theorem dX9_loan_52 : decode cX9_loan 52 = .ok (.ireturn, 1) := by decide +kernel
theorem dX9_helpers_0 : decode cX9_helpers 0 = .ok (.aload_n 0, 1) := by decide +kernel
theorem dX9_helpers_1 : decode cX9_helpers 1 = .ok (.aload_n 0, 1) := by decide +kernel
theorem dX9_helpers_2 : decode cX9_helpers 2 = .ok (.iload_n 1, 1) := by decide +kernel
theorem dX9_helpers_3 : decode cX9_helpers 3 = .ok (.invokevirtual 96, 3) := by decide +kernel
theorem dX9_helpers_6 : decode cX9_helpers 6 = .ok (.ifCond .eq 12, 3) := by decide +kernel
theorem dX9_helpers_9 : decode cX9_helpers 9 = .ok (.iload_n 2, 1) := by decide +kernel
theorem dX9_helpers_10 : decode cX9_helpers 10 = .ok (.iconst 0, 1) := by decide +kernel
theorem dX9_helpers_11 : decode cX9_helpers 11 = .ok (.iconst 1, 1) := by decide +kernel
theorem dX9_helpers_12 : decode cX9_helpers 12 = .ok (.invokestatic 48, 3) := by decide +kernel
theorem dX9_helpers_15 : decode cX9_helpers 15 = .ok (.ifCond .ne 7, 3) := by decide +kernel
theorem dX9_helpers_18 : decode cX9_helpers 18 = .ok (.iconst 1, 1) := by decide +kernel
theorem dX9_helpers_19 : decode cX9_helpers 19 = .ok (.goto 19, 3) := by decide +kernel
theorem dX9_helpers_22 : decode cX9_helpers 22 = .ok (.iload_n 3, 1) := by decide +kernel
theorem dX9_helpers_23 : decode cX9_helpers 23 = .ok (.iconst 0, 1) := by decide +kernel
theorem dX9_helpers_24 : decode cX9_helpers 24 = .ok (.sipush 30000, 3) := by decide +kernel
theorem dX9_helpers_27 : decode cX9_helpers 27 = .ok (.invokestatic 48, 3) := by decide +kernel
theorem dX9_helpers_30 : decode cX9_helpers 30 = .ok (.ifCond .ne 7, 3) := by decide +kernel
theorem dX9_helpers_33 : decode cX9_helpers 33 = .ok (.iconst 2, 1) := by decide +kernel
theorem dX9_helpers_34 : decode cX9_helpers 34 = .ok (.goto 4, 3) := by decide +kernel
theorem dX9_helpers_37 : decode cX9_helpers 37 = .ok (.iconst 0, 1) := by decide +kernel
theorem dX9_helpers_38 : decode cX9_helpers 38 = .ok (.putfield 42, 3) := by decide +kernel
theorem dX9_helpers_41 : decode cX9_helpers 41 = .ok (.aload_n 0, 1) := by decide +kernel
theorem dX9_helpers_42 : decode cX9_helpers 42 = .ok (.getfield 42, 3) := by decide +kernel
theorem dX9_helpers_45 : decode cX9_helpers 45 = .ok (.ifCond .eq 5, 3) := by decide +kernel
theorem dX9_helpers_48 : decode cX9_helpers 48 = .ok (.iconst 0, 1) := by decide +kernel
theorem dX9_helpers_49 : decode cX9_helpers 49 = .ok (.ireturn, 1) := by decide +kernel
theorem dX9_helpers_50 : decode cX9_helpers 50 = .ok (.aload_n 0, 1) := by decide +kernel
theorem dX9_helpers_51 : decode cX9_helpers 51 = .ok (.iload_n 1, 1) := by decide +kernel
theorem dX9_helpers_52 : decode cX9_helpers 52 = .ok (.iload_n 2, 1) := by decide +kernel
theorem dX9_helpers_53 : decode cX9_helpers 53 = .ok (.invokevirtual 85, 3) := by decide +kernel
theorem dX9_helpers_56 : decode cX9_helpers 56 = .ok (.istore 4, 2) := by decide +kernel
theorem dX9_helpers_58 : decode cX9_helpers 58 = .ok (.iconst 1, 1) := by decide +kernel
theorem dX9_helpers_59 : decode cX9_helpers 59 = .ok (.iload_n 1, 1) := by decide +kernel
theorem dX9_helpers_60 : decode cX9_helpers 60 = .ok (.ishl, 1) := by decide +kernel
theorem dX9_helpers_61 : decode cX9_helpers 61 = .ok (.istore 5, 2) := by decide +kernel
theorem dX9_helpers_63 : decode cX9_helpers 63 = .ok (.iconst 0, 1) := by decide +kernel
theorem dX9_helpers_64 : decode cX9_helpers 64 = .ok (.istore 6, 2) := by decide +kernel
theorem dX9_helpers_66 : decode cX9_helpers 66 = .ok (.iload 6, 2) := by decide +kernel
theorem dX9_helpers_68 : decode cX9_helpers 68 = .ok (.aload_n 0, 1) := by decide +kernel
theorem dX9_helpers_69 : decode cX9_helpers 69 = .ok (.getfield 34, 3) := by decide +kernel
theorem dX9_helpers_72 : decode cX9_helpers 72 = .ok (.if_icmp .ge 131, 3) := by decide +kernel
theorem dX9_helpers_75 : decode cX9_helpers 75 = .ok (.iload 4, 2) := by decide +kernel
theorem dX9_helpers_77 : decode cX9_helpers 77 = .ok (.iload_n 3, 1) := by decide +kernel
theorem dX9_helpers_78 : decode cX9_helpers 78 = .ok (.if_icmp .lt 6, 3) := by decide +kernel
theorem dX9_helpers_81 : decode cX9_helpers 81 = .ok (.iload 6, 2) := by decide +kernel
theorem dX9_helpers_83 : decode cX9_helpers 83 = .ok (.ireturn, 1) := by decide +kernel
theorem dX9_helpers_84 : decode cX9_helpers 84 = .ok (.iconst (-1), 1) := by decide +kernel
theorem dX9_helpers_85 : decode cX9_helpers 85 = .ok (.istore 7, 2) := by decide +kernel
theorem dX9_helpers_87 : decode cX9_helpers 87 = .ok (.iconst 0, 1) := by decide +kernel
theorem dX9_helpers_88 : decode cX9_helpers 88 = .ok (.istore 8, 2) := by decide +kernel
theorem dX9_helpers_90 : decode cX9_helpers 90 = .ok (.iload 8, 2) := by decide +kernel
theorem dX9_helpers_92 : decode cX9_helpers 92 = .ok (.aload_n 0, 1) := by decide +kernel
theorem dX9_helpers_93 : decode cX9_helpers 93 = .ok (.getfield 34, 3) := by decide +kernel
theorem dX9_helpers_96 : decode cX9_helpers 96 = .ok (.if_icmp .ge 62, 3) := by decide +kernel
theorem dX9_helpers_99 : decode cX9_helpers 99 = .ok (.iload 5, 2) := by decide +kernel
theorem dX9_helpers_101 : decode cX9_helpers 101 = .ok (.iload 8, 2) := by decide +kernel
theorem dX9_helpers_103 : decode cX9_helpers 103 = .ok (.ishr, 1) := by decide +kernel
theorem dX9_helpers_104 : decode cX9_helpers 104 = .ok (.iconst 1, 1) := by decide +kernel
theorem dX9_helpers_105 : decode cX9_helpers 105 = .ok (.iand, 1) := by decide +kernel
theorem dX9_helpers_106 : decode cX9_helpers 106 = .ok (.ifCond .ne 7, 3) := by decide +kernel
theorem dX9_helpers_109 : decode cX9_helpers 109 = .ok (.iconst 1, 1) := by decide +kernel
theorem dX9_helpers_110 : decode cX9_helpers 110 = .ok (.goto 4, 3) := by decide +kernel
theorem dX9_helpers_113 : decode cX9_helpers 113 = .ok (.iconst 0, 1) := by decide +kernel
theorem dX9_helpers_114 : decode cX9_helpers 114 = .ok (.istore 9, 2) := by decide +kernel
theorem dX9_helpers_116 : decode cX9_helpers 116 = .ok (.iload 9, 2) := by decide +kernel
theorem dX9_helpers_118 : decode cX9_helpers 118 = .ok (.ifCond .eq 30, 3) := by decide +kernel
theorem dX9_helpers_121 : decode cX9_helpers 121 = .ok (.iload 7, 2) := by decide +kernel
theorem dX9_helpers_123 : decode cX9_helpers 123 = .ok (.ifCond .lt 20, 3) := by decide +kernel
theorem dX9_helpers_126 : decode cX9_helpers 126 = .ok (.aload_n 0, 1) := by decide +kernel
theorem dX9_helpers_127 : decode cX9_helpers 127 = .ok (.iload 8, 2) := by decide +kernel
theorem dX9_helpers_129 : decode cX9_helpers 129 = .ok (.iload_n 2, 1) := by decide +kernel
theorem dX9_helpers_130 : decode cX9_helpers 130 = .ok (.invokevirtual 79, 3) := by decide +kernel
theorem dX9_helpers_133 : decode cX9_helpers 133 = .ok (.aload_n 0, 1) := by decide +kernel
theorem dX9_helpers_134 : decode cX9_helpers 134 = .ok (.iload 7, 2) := by decide +kernel
theorem dX9_helpers_136 : decode cX9_helpers 136 = .ok (.iload_n 2, 1) := by decide +kernel
theorem dX9_helpers_137 : decode cX9_helpers 137 = .ok (.invokevirtual 79, 3) := by decide +kernel
theorem dX9_helpers_140 : decode cX9_helpers 140 = .ok (.if_icmp .le 8, 3) := by decide +kernel
theorem dX9_helpers_143 : decode cX9_helpers 143 = .ok (.iload 8, 2) := by decide +kernel
theorem dX9_helpers_145 : decode cX9_helpers 145 = .ok (.goto 5, 3) := by decide +kernel
theorem dX9_helpers_148 : decode cX9_helpers 148 = .ok (.iload 7, 2) := by decide +kernel
theorem dX9_helpers_150 : decode cX9_helpers 150 = .ok (.istore 7, 2) := by decide +kernel
theorem dX9_helpers_152 : decode cX9_helpers 152 = .ok (.iinc 8 1, 3) := by decide +kernel
theorem dX9_helpers_155 : decode cX9_helpers 155 = .ok (.goto (-65), 3) := by decide +kernel
theorem dX9_helpers_158 : decode cX9_helpers 158 = .ok (.iload 4, 2) := by decide +kernel
theorem dX9_helpers_160 : decode cX9_helpers 160 = .ok (.iload 7, 2) := by decide +kernel
theorem dX9_helpers_162 : decode cX9_helpers 162 = .ok (.ifCond .ge 7, 3) := by decide +kernel
theorem dX9_helpers_165 : decode cX9_helpers 165 = .ok (.iconst 0, 1) := by decide +kernel
theorem dX9_helpers_166 : decode cX9_helpers 166 = .ok (.goto 10, 3) := by decide +kernel
theorem dX9_helpers_169 : decode cX9_helpers 169 = .ok (.aload_n 0, 1) := by decide +kernel
theorem dX9_helpers_170 : decode cX9_helpers 170 = .ok (.iload 7, 2) := by decide +kernel
theorem dX9_helpers_172 : decode cX9_helpers 172 = .ok (.iload_n 2, 1) := by decide +kernel
theorem dX9_helpers_173 : decode cX9_helpers 173 = .ok (.invokevirtual 79, 3) := by decide +kernel
theorem dX9_helpers_176 : decode cX9_helpers 176 = .ok (.iadd, 1) := by decide +kernel
theorem dX9_helpers_177 : decode cX9_helpers 177 = .ok (.istore 4, 2) := by decide +kernel
theorem dX9_helpers_179 : decode cX9_helpers 179 = .ok (.iload 5, 2) := by decide +kernel
theorem dX9_helpers_181 : decode cX9_helpers 181 = .ok (.iload 7, 2) := by decide +kernel
theorem dX9_helpers_183 : decode cX9_helpers 183 = .ok (.ifCond .ge 7, 3) := by decide +kernel
theorem dX9_helpers_186 : decode cX9_helpers 186 = .ok (.iconst 0, 1) := by decide +kernel
theorem dX9_helpers_187 : decode cX9_helpers 187 = .ok (.goto 7, 3) := by decide +kernel
theorem dX9_helpers_190 : decode cX9_helpers 190 = .ok (.iconst 1, 1) := by decide +kernel
theorem dX9_helpers_191 : decode cX9_helpers 191 = .ok (.iload 7, 2) := by decide +kernel
theorem dX9_helpers_193 : decode cX9_helpers 193 = .ok (.ishl, 1) := by decide +kernel
theorem dX9_helpers_194 : decode cX9_helpers 194 = .ok (.ior, 1) := by decide +kernel
theorem dX9_helpers_195 : decode cX9_helpers 195 = .ok (.istore 5, 2) := by decide +kernel
theorem dX9_helpers_197 : decode cX9_helpers 197 = .ok (.iinc 6 1, 3) := by decide +kernel
theorem dX9_helpers_200 : decode cX9_helpers 200 = .ok (.goto (-134), 3) := by decide +kernel
theorem dX9_helpers_203 : decode cX9_helpers 203 = .ok (.iconst (-1), 1) := by decide +kernel
theorem dX9_helpers_204 : decode cX9_helpers 204 = .ok (.ireturn, 1) := by decide +kernel
theorem dX9_type_0 : decode cX9_type 0 = .ok (.aload_n 0, 1) := by decide +kernel
theorem dX9_type_1 : decode cX9_type 1 = .ok (.iconst 0, 1) := by decide +kernel
theorem dX9_type_2 : decode cX9_type 2 = .ok (.putfield 42, 3) := by decide +kernel
theorem dX9_type_5 : decode cX9_type 5 = .ok (.iload_n 1, 1) := by decide +kernel
theorem dX9_type_6 : decode cX9_type 6 = .ok (.bipush 32, 2) := by decide +kernel
theorem dX9_type_8 : decode cX9_type 8 = .ok (.bipush 126, 2) := by decide +kernel
theorem dX9_type_10 : decode cX9_type 10 = .ok (.invokestatic 48, 3) := by decide +kernel
theorem dX9_type_13 : decode cX9_type 13 = .ok (.ifCond .ne 9, 3) := by decide +kernel
theorem dX9_type_16 : decode cX9_type 16 = .ok (.aload_n 0, 1) := by decide +kernel
theorem dX9_type_17 : decode cX9_type 17 = .ok (.iconst 1, 1) := by decide +kernel
theorem dX9_type_18 : decode cX9_type 18 = .ok (.invokevirtual 105, 3) := by decide +kernel
theorem dX9_type_21 : decode cX9_type 21 = .ok (.ireturn, 1) := by decide +kernel
theorem dX9_type_22 : decode cX9_type 22 = .ok (.aload_n 0, 1) := by decide +kernel
theorem dX9_type_23 : decode cX9_type 23 = .ok (.getfield 152, 3) := by decide +kernel
theorem dX9_type_26 : decode cX9_type 26 = .ok (.bipush 60, 2) := by decide +kernel
theorem dX9_type_28 : decode cX9_type 28 = .ok (.if_icmp .ne 9, 3) := by decide +kernel
theorem dX9_type_31 : decode cX9_type 31 = .ok (.aload_n 0, 1) := by decide +kernel
theorem dX9_type_32 : decode cX9_type 32 = .ok (.iconst 2, 1) := by decide +kernel
theorem dX9_type_33 : decode cX9_type 33 = .ok (.invokevirtual 105, 3) := by decide +kernel
theorem dX9_type_36 : decode cX9_type 36 = .ok (.ireturn, 1) := by decide +kernel
theorem dX9_type_37 : decode cX9_type 37 = .ok (.aload_n 0, 1) := by decide +kernel
theorem dX9_type_38 : decode cX9_type 38 = .ok (.getfield 19, 3) := by decide +kernel
theorem dX9_type_41 : decode cX9_type 41 = .ok (.aload_n 0, 1) := by decide +kernel
theorem dX9_type_42 : decode cX9_type 42 = .ok (.getfield 152, 3) := by decide +kernel
theorem dX9_type_45 : decode cX9_type 45 = .ok (.iload_n 1, 1) := by decide +kernel
theorem dX9_type_46 : decode cX9_type 46 = .ok (.iastore, 1) := by decide +kernel
theorem dX9_type_47 : decode cX9_type 47 = .ok (.aload_n 0, 1) := by decide +kernel
theorem dX9_type_48 : decode cX9_type 48 = .ok (.dup, 1) := by decide +kernel
theorem dX9_type_49 : decode cX9_type 49 = .ok (.getfield 152, 3) := by decide +kernel
theorem dX9_type_52 : decode cX9_type 52 = .ok (.iconst 1, 1) := by decide +kernel
theorem dX9_type_53 : decode cX9_type 53 = .ok (.iadd, 1) := by decide +kernel
theorem dX9_type_54 : decode cX9_type 54 = .ok (.putfield 152, 3) := by decide +kernel
theorem dX9_type_57 : decode cX9_type 57 = .ok (.aload_n 0, 1) := by decide +kernel
theorem dX9_type_58 : decode cX9_type 58 = .ok (.getfield 152, 3) := by decide +kernel
theorem dX9_type_61 : decode cX9_type 61 = .ok (.ireturn, 1) := by decide +kernel
theorem dX9_clearText_0 : decode cX9_clearText 0 = .ok (.aload_n 0, 1) := by decide +kernel
theorem dX9_clearText_1 : decode cX9_clearText 1 = .ok (.iconst 0, 1) := by decide +kernel
theorem dX9_clearText_2 : decode cX9_clearText 2 = .ok (.putfield 42, 3) := by decide +kernel
theorem dX9_clearText_5 : decode cX9_clearText 5 = .ok (.aload_n 0, 1) := by decide +kernel
theorem dX9_clearText_6 : decode cX9_clearText 6 = .ok (.getfield 152, 3) := by decide +kernel
theorem dX9_clearText_9 : decode cX9_clearText 9 = .ok (.istore_n 1, 1) := by decide +kernel
theorem dX9_clearText_10 : decode cX9_clearText 10 = .ok (.aload_n 0, 1) := by decide +kernel
theorem dX9_clearText_11 : decode cX9_clearText 11 = .ok (.iconst 0, 1) := by decide +kernel
theorem dX9_clearText_12 : decode cX9_clearText 12 = .ok (.putfield 152, 3) := by decide +kernel
theorem dX9_clearText_15 : decode cX9_clearText 15 = .ok (.iload_n 1, 1) := by decide +kernel
theorem dX9_clearText_16 : decode cX9_clearText 16 = .ok (.ireturn, 1) := by decide +kernel
theorem dX9_sign_0 : decode cX9_sign 0 = .ok (.aload_n 0, 1) := by decide +kernel
theorem dX9_sign_1 : decode cX9_sign 1 = .ok (.getfield 155, 3) := by decide +kernel
theorem dX9_sign_4 : decode cX9_sign 4 = .ok (.aload_n 0, 1) := by decide +kernel
theorem dX9_sign_5 : decode cX9_sign 5 = .ok (.getfield 152, 3) := by decide +kernel
theorem dX9_sign_8 : decode cX9_sign 8 = .ok (.if_icmp .ge 15, 3) := by decide +kernel
theorem dX9_sign_11 : decode cX9_sign 11 = .ok (.aload_n 0, 1) := by decide +kernel
theorem dX9_sign_12 : decode cX9_sign 12 = .ok (.getfield 19, 3) := by decide +kernel
theorem dX9_sign_15 : decode cX9_sign 15 = .ok (.aload_n 0, 1) := by decide +kernel
theorem dX9_sign_16 : decode cX9_sign 16 = .ok (.getfield 155, 3) := by decide +kernel
theorem dX9_sign_19 : decode cX9_sign 19 = .ok (.iaload, 1) := by decide +kernel
theorem dX9_sign_20 : decode cX9_sign 20 = .ok (.goto 4, 3) := by decide +kernel
theorem dX9_sign_23 : decode cX9_sign 23 = .ok (.iconst (-1), 1) := by decide +kernel
theorem dX9_sign_24 : decode cX9_sign 24 = .ok (.ireturn, 1) := by decide +kernel
theorem dX9_takes_0 : decode cX9_takes 0 = .ok (.aload_n 0, 1) := by decide +kernel
theorem dX9_takes_1 : decode cX9_takes 1 = .ok (.invokevirtual 158, 3) := by decide +kernel
theorem dX9_takes_4 : decode cX9_takes 4 = .ok (.iload_n 1, 1) := by decide +kernel
theorem dX9_takes_5 : decode cX9_takes 5 = .ok (.if_icmp .ne 7, 3) := by decide +kernel
theorem dX9_takes_8 : decode cX9_takes 8 = .ok (.iconst 1, 1) := by decide +kernel
theorem dX9_takes_9 : decode cX9_takes 9 = .ok (.goto 4, 3) := by decide +kernel
theorem dX9_takes_12 : decode cX9_takes 12 = .ok (.iconst 0, 1) := by decide +kernel
theorem dX9_takes_13 : decode cX9_takes 13 = .ok (.istore_n 2, 1) := by decide +kernel
theorem dX9_takes_14 : decode cX9_takes 14 = .ok (.aload_n 0, 1) := by decide +kernel
theorem dX9_takes_15 : decode cX9_takes 15 = .ok (.dup, 1) := by decide +kernel
theorem dX9_takes_16 : decode cX9_takes 16 = .ok (.getfield 155, 3) := by decide +kernel
theorem dX9_takes_19 : decode cX9_takes 19 = .ok (.iload_n 2, 1) := by decide +kernel
theorem dX9_takes_20 : decode cX9_takes 20 = .ok (.ifCond .eq 7, 3) := by decide +kernel
theorem dX9_takes_23 : decode cX9_takes 23 = .ok (.iconst 1, 1) := by decide +kernel
theorem dX9_takes_24 : decode cX9_takes 24 = .ok (.goto 4, 3) := by decide +kernel
theorem dX9_takes_27 : decode cX9_takes 27 = .ok (.iconst 0, 1) := by decide +kernel
theorem dX9_takes_28 : decode cX9_takes 28 = .ok (.iadd, 1) := by decide +kernel
theorem dX9_takes_29 : decode cX9_takes 29 = .ok (.putfield 155, 3) := by decide +kernel
theorem dX9_takes_32 : decode cX9_takes 32 = .ok (.iload_n 2, 1) := by decide +kernel
theorem dX9_takes_33 : decode cX9_takes 33 = .ok (.ireturn, 1) := by decide +kernel
theorem dX9_readsSite_0 : decode cX9_readsSite 0 = .ok (.aload_n 0, 1) := by decide +kernel
theorem dX9_readsSite_1 : decode cX9_readsSite 1 = .ok (.invokevirtual 158, 3) := by decide +kernel
theorem dX9_readsSite_4 : decode cX9_readsSite 4 = .ok (.bipush 48, 2) := by decide +kernel
theorem dX9_readsSite_6 : decode cX9_readsSite 6 = .ok (.bipush 57, 2) := by decide +kernel
theorem dX9_readsSite_8 : decode cX9_readsSite 8 = .ok (.invokestatic 48, 3) := by decide +kernel
theorem dX9_readsSite_11 : decode cX9_readsSite 11 = .ok (.istore_n 1, 1) := by decide +kernel
theorem dX9_readsSite_12 : decode cX9_readsSite 12 = .ok (.aload_n 0, 1) := by decide +kernel
theorem dX9_readsSite_13 : decode cX9_readsSite 13 = .ok (.iload_n 1, 1) := by decide +kernel
theorem dX9_readsSite_14 : decode cX9_readsSite 14 = .ok (.ifCond .eq 13, 3) := by decide +kernel
theorem dX9_readsSite_17 : decode cX9_readsSite 17 = .ok (.aload_n 0, 1) := by decide +kernel
theorem dX9_readsSite_18 : decode cX9_readsSite 18 = .ok (.invokevirtual 158, 3) := by decide +kernel
theorem dX9_readsSite_21 : decode cX9_readsSite 21 = .ok (.bipush 48, 2) := by decide +kernel
theorem dX9_readsSite_23 : decode cX9_readsSite 23 = .ok (.isub, 1) := by decide +kernel
theorem dX9_readsSite_24 : decode cX9_readsSite 24 = .ok (.goto 4, 3) := by decide +kernel
theorem dX9_readsSite_27 : decode cX9_readsSite 27 = .ok (.iconst 0, 1) := by decide +kernel
theorem dX9_readsSite_28 : decode cX9_readsSite 28 = .ok (.putfield 161, 3) := by decide +kernel
theorem dX9_readsSite_31 : decode cX9_readsSite 31 = .ok (.aload_n 0, 1) := by decide +kernel
theorem dX9_readsSite_32 : decode cX9_readsSite 32 = .ok (.dup, 1) := by decide +kernel
theorem dX9_readsSite_33 : decode cX9_readsSite 33 = .ok (.getfield 155, 3) := by decide +kernel
theorem dX9_readsSite_36 : decode cX9_readsSite 36 = .ok (.iload_n 1, 1) := by decide +kernel
theorem dX9_readsSite_37 : decode cX9_readsSite 37 = .ok (.ifCond .eq 7, 3) := by decide +kernel
theorem dX9_readsSite_40 : decode cX9_readsSite 40 = .ok (.iconst 1, 1) := by decide +kernel
theorem dX9_readsSite_41 : decode cX9_readsSite 41 = .ok (.goto 4, 3) := by decide +kernel
theorem dX9_readsSite_44 : decode cX9_readsSite 44 = .ok (.iconst 0, 1) := by decide +kernel
theorem dX9_readsSite_45 : decode cX9_readsSite 45 = .ok (.iadd, 1) := by decide +kernel
theorem dX9_readsSite_46 : decode cX9_readsSite 46 = .ok (.putfield 155, 3) := by decide +kernel
theorem dX9_readsSite_49 : decode cX9_readsSite 49 = .ok (.iload_n 1, 1) := by decide +kernel
theorem dX9_readsSite_50 : decode cX9_readsSite 50 = .ok (.ireturn, 1) := by decide +kernel
theorem dX9_readsNumber_0 : decode cX9_readsNumber 0 = .ok (.aload_n 0, 1) := by decide +kernel
theorem dX9_readsNumber_1 : decode cX9_readsNumber 1 = .ok (.getfield 155, 3) := by decide +kernel
theorem dX9_readsNumber_4 : decode cX9_readsNumber 4 = .ok (.istore_n 1, 1) := by decide +kernel
theorem dX9_readsNumber_5 : decode cX9_readsNumber 5 = .ok (.iconst 0, 1) := by decide +kernel
theorem dX9_readsNumber_6 : decode cX9_readsNumber 6 = .ok (.istore_n 2, 1) := by decide +kernel
theorem dX9_readsNumber_7 : decode cX9_readsNumber 7 = .ok (.aload_n 0, 1) := by decide +kernel
theorem dX9_readsNumber_8 : decode cX9_readsNumber 8 = .ok (.invokevirtual 158, 3) := by decide +kernel
theorem dX9_readsNumber_11 : decode cX9_readsNumber 11 = .ok (.bipush 48, 2) := by decide +kernel
theorem dX9_readsNumber_13 : decode cX9_readsNumber 13 = .ok (.bipush 57, 2) := by decide +kernel
theorem dX9_readsNumber_15 : decode cX9_readsNumber 15 = .ok (.invokestatic 48, 3) := by decide +kernel
theorem dX9_readsNumber_18 : decode cX9_readsNumber 18 = .ok (.ifCond .eq 39, 3) := by decide +kernel
theorem dX9_readsNumber_21 : decode cX9_readsNumber 21 = .ok (.aload_n 0, 1) := by decide +kernel
theorem dX9_readsNumber_22 : decode cX9_readsNumber 22 = .ok (.getfield 155, 3) := by decide +kernel
theorem dX9_readsNumber_25 : decode cX9_readsNumber 25 = .ok (.iload_n 1, 1) := by decide +kernel
theorem dX9_readsNumber_26 : decode cX9_readsNumber 26 = .ok (.isub, 1) := by decide +kernel
theorem dX9_readsNumber_27 : decode cX9_readsNumber 27 = .ok (.iconst 3, 1) := by decide +kernel
theorem dX9_readsNumber_28 : decode cX9_readsNumber 28 = .ok (.if_icmp .ge 29, 3) := by decide +kernel
theorem dX9_readsNumber_31 : decode cX9_readsNumber 31 = .ok (.bipush 10, 2) := by decide +kernel
theorem dX9_readsNumber_33 : decode cX9_readsNumber 33 = .ok (.iload_n 2, 1) := by decide +kernel
theorem dX9_readsNumber_34 : decode cX9_readsNumber 34 = .ok (.imul, 1) := by decide +kernel
theorem dX9_readsNumber_35 : decode cX9_readsNumber 35 = .ok (.aload_n 0, 1) := by decide +kernel
theorem dX9_readsNumber_36 : decode cX9_readsNumber 36 = .ok (.invokevirtual 158, 3) := by decide +kernel
theorem dX9_readsNumber_39 : decode cX9_readsNumber 39 = .ok (.iadd, 1) := by decide +kernel
theorem dX9_readsNumber_40 : decode cX9_readsNumber 40 = .ok (.bipush 48, 2) := by decide +kernel
theorem dX9_readsNumber_42 : decode cX9_readsNumber 42 = .ok (.isub, 1) := by decide +kernel
theorem dX9_readsNumber_43 : decode cX9_readsNumber 43 = .ok (.istore_n 2, 1) := by decide +kernel
theorem dX9_readsNumber_44 : decode cX9_readsNumber 44 = .ok (.aload_n 0, 1) := by decide +kernel
theorem dX9_readsNumber_45 : decode cX9_readsNumber 45 = .ok (.dup, 1) := by decide +kernel
theorem dX9_readsNumber_46 : decode cX9_readsNumber 46 = .ok (.getfield 155, 3) := by decide +kernel
theorem dX9_readsNumber_49 : decode cX9_readsNumber 49 = .ok (.iconst 1, 1) := by decide +kernel
theorem dX9_readsNumber_50 : decode cX9_readsNumber 50 = .ok (.iadd, 1) := by decide +kernel
theorem dX9_readsNumber_51 : decode cX9_readsNumber 51 = .ok (.putfield 155, 3) := by decide +kernel
theorem dX9_readsNumber_54 : decode cX9_readsNumber 54 = .ok (.goto (-47), 3) := by decide +kernel
theorem dX9_readsNumber_57 : decode cX9_readsNumber 57 = .ok (.aload_n 0, 1) := by decide +kernel
theorem dX9_readsNumber_58 : decode cX9_readsNumber 58 = .ok (.getfield 31, 3) := by decide +kernel
theorem dX9_readsNumber_61 : decode cX9_readsNumber 61 = .ok (.aload_n 0, 1) := by decide +kernel
theorem dX9_readsNumber_62 : decode cX9_readsNumber 62 = .ok (.getfield 164, 3) := by decide +kernel
theorem dX9_readsNumber_65 : decode cX9_readsNumber 65 = .ok (.iload_n 2, 1) := by decide +kernel
theorem dX9_readsNumber_66 : decode cX9_readsNumber 66 = .ok (.iastore, 1) := by decide +kernel
theorem dX9_readsNumber_67 : decode cX9_readsNumber 67 = .ok (.aload_n 0, 1) := by decide +kernel
theorem dX9_readsNumber_68 : decode cX9_readsNumber 68 = .ok (.getfield 155, 3) := by decide +kernel
theorem dX9_readsNumber_71 : decode cX9_readsNumber 71 = .ok (.iload_n 1, 1) := by decide +kernel
theorem dX9_readsNumber_72 : decode cX9_readsNumber 72 = .ok (.if_icmp .le 7, 3) := by decide +kernel
theorem dX9_readsNumber_75 : decode cX9_readsNumber 75 = .ok (.iconst 1, 1) := by decide +kernel
theorem dX9_readsNumber_76 : decode cX9_readsNumber 76 = .ok (.goto 4, 3) := by decide +kernel
theorem dX9_readsNumber_79 : decode cX9_readsNumber 79 = .ok (.iconst 0, 1) := by decide +kernel
theorem dX9_readsNumber_80 : decode cX9_readsNumber 80 = .ok (.ireturn, 1) := by decide +kernel
theorem dX9_readsCommand_0 : decode cX9_readsCommand 0 = .ok (.aload_n 0, 1) := by decide +kernel
theorem dX9_readsCommand_1 : decode cX9_readsCommand 1 = .ok (.invokevirtual 158, 3) := by decide +kernel
theorem dX9_readsCommand_4 : decode cX9_readsCommand 4 = .ok (.istore_n 1, 1) := by decide +kernel
theorem dX9_readsCommand_5 : decode cX9_readsCommand 5 = .ok (.iload_n 1, 1) := by decide +kernel
theorem dX9_readsCommand_6 : decode cX9_readsCommand 6 = .ok (.bipush 43, 2) := by decide +kernel
theorem dX9_readsCommand_8 : decode cX9_readsCommand 8 = .ok (.if_icmp .eq 33, 3) := by decide +kernel
theorem dX9_readsCommand_11 : decode cX9_readsCommand 11 = .ok (.iload_n 1, 1) := by decide +kernel
theorem dX9_readsCommand_12 : decode cX9_readsCommand 12 = .ok (.bipush 45, 2) := by decide +kernel
theorem dX9_readsCommand_14 : decode cX9_readsCommand 14 = .ok (.if_icmp .eq 27, 3) := by decide +kernel
theorem dX9_readsCommand_17 : decode cX9_readsCommand 17 = .ok (.iload_n 1, 1) := by decide +kernel
theorem dX9_readsCommand_18 : decode cX9_readsCommand 18 = .ok (.bipush 117, 2) := by decide +kernel
theorem dX9_readsCommand_20 : decode cX9_readsCommand 20 = .ok (.if_icmp .eq 21, 3) := by decide +kernel
theorem dX9_readsCommand_23 : decode cX9_readsCommand 23 = .ok (.iload_n 1, 1) := by decide +kernel
theorem dX9_readsCommand_24 : decode cX9_readsCommand 24 = .ok (.bipush 100, 2) := by decide +kernel
theorem dX9_readsCommand_26 : decode cX9_readsCommand 26 = .ok (.if_icmp .eq 15, 3) := by decide +kernel
theorem dX9_readsCommand_29 : decode cX9_readsCommand 29 = .ok (.iload_n 1, 1) := by decide +kernel
theorem dX9_readsCommand_30 : decode cX9_readsCommand 30 = .ok (.bipush 109, 2) := by decide +kernel
theorem dX9_readsCommand_32 : decode cX9_readsCommand 32 = .ok (.if_icmp .eq 9, 3) := by decide +kernel
theorem dX9_readsCommand_35 : decode cX9_readsCommand 35 = .ok (.iload_n 1, 1) := by decide +kernel
theorem dX9_readsCommand_36 : decode cX9_readsCommand 36 = .ok (.bipush 116, 2) := by decide +kernel
theorem dX9_readsCommand_38 : decode cX9_readsCommand 38 = .ok (.if_icmp .ne 7, 3) := by decide +kernel
theorem dX9_readsCommand_41 : decode cX9_readsCommand 41 = .ok (.iconst 1, 1) := by decide +kernel
theorem dX9_readsCommand_42 : decode cX9_readsCommand 42 = .ok (.goto 4, 3) := by decide +kernel
theorem dX9_readsCommand_45 : decode cX9_readsCommand 45 = .ok (.iconst 0, 1) := by decide +kernel
theorem dX9_readsCommand_46 : decode cX9_readsCommand 46 = .ok (.istore_n 2, 1) := by decide +kernel
theorem dX9_readsCommand_47 : decode cX9_readsCommand 47 = .ok (.iload_n 2, 1) := by decide +kernel
theorem dX9_readsCommand_48 : decode cX9_readsCommand 48 = .ok (.ifCond .ne 5, 3) := by decide +kernel
theorem dX9_readsCommand_51 : decode cX9_readsCommand 51 = .ok (.iconst 0, 1) := by decide +kernel
theorem dX9_readsCommand_52 : decode cX9_readsCommand 52 = .ok (.ireturn, 1) := by decide +kernel
theorem dX9_readsCommand_53 : decode cX9_readsCommand 53 = .ok (.aload_n 0, 1) := by decide +kernel
theorem dX9_readsCommand_54 : decode cX9_readsCommand 54 = .ok (.getfield 22, 3) := by decide +kernel
theorem dX9_readsCommand_57 : decode cX9_readsCommand 57 = .ok (.aload_n 0, 1) := by decide +kernel
theorem dX9_readsCommand_58 : decode cX9_readsCommand 58 = .ok (.getfield 164, 3) := by decide +kernel
theorem dX9_readsCommand_61 : decode cX9_readsCommand 61 = .ok (.iload_n 1, 1) := by decide +kernel
theorem dX9_readsCommand_62 : decode cX9_readsCommand 62 = .ok (.iastore, 1) := by decide +kernel
theorem dX9_readsCommand_63 : decode cX9_readsCommand 63 = .ok (.aload_n 0, 1) := by decide +kernel
theorem dX9_readsCommand_64 : decode cX9_readsCommand 64 = .ok (.dup, 1) := by decide +kernel
theorem dX9_readsCommand_65 : decode cX9_readsCommand 65 = .ok (.getfield 155, 3) := by decide +kernel
theorem dX9_readsCommand_68 : decode cX9_readsCommand 68 = .ok (.iconst 1, 1) := by decide +kernel
theorem dX9_readsCommand_69 : decode cX9_readsCommand 69 = .ok (.iadd, 1) := by decide +kernel
theorem dX9_readsCommand_70 : decode cX9_readsCommand 70 = .ok (.putfield 155, 3) := by decide +kernel
theorem dX9_readsCommand_73 : decode cX9_readsCommand 73 = .ok (.iload_n 1, 1) := by decide +kernel
theorem dX9_readsCommand_74 : decode cX9_readsCommand 74 = .ok (.bipush 116, 2) := by decide +kernel
theorem dX9_readsCommand_76 : decode cX9_readsCommand 76 = .ok (.if_icmp .ne 8, 3) := by decide +kernel
theorem dX9_readsCommand_79 : decode cX9_readsCommand 79 = .ok (.aload_n 0, 1) := by decide +kernel
theorem dX9_readsCommand_80 : decode cX9_readsCommand 80 = .ok (.invokevirtual 167, 3) := by decide +kernel
theorem dX9_readsCommand_83 : decode cX9_readsCommand 83 = .ok (.ireturn, 1) := by decide +kernel
theorem dX9_readsCommand_84 : decode cX9_readsCommand 84 = .ok (.aload_n 0, 1) := by decide +kernel
theorem dX9_readsCommand_85 : decode cX9_readsCommand 85 = .ok (.invokevirtual 171, 3) := by decide +kernel
theorem dX9_readsCommand_88 : decode cX9_readsCommand 88 = .ok (.ifCond .ne 5, 3) := by decide +kernel
theorem dX9_readsCommand_91 : decode cX9_readsCommand 91 = .ok (.iconst 0, 1) := by decide +kernel
theorem dX9_readsCommand_92 : decode cX9_readsCommand 92 = .ok (.ireturn, 1) := by decide +kernel
theorem dX9_readsCommand_93 : decode cX9_readsCommand 93 = .ok (.aload_n 0, 1) := by decide +kernel
theorem dX9_readsCommand_94 : decode cX9_readsCommand 94 = .ok (.getfield 25, 3) := by decide +kernel
theorem dX9_readsCommand_97 : decode cX9_readsCommand 97 = .ok (.aload_n 0, 1) := by decide +kernel
theorem dX9_readsCommand_98 : decode cX9_readsCommand 98 = .ok (.getfield 164, 3) := by decide +kernel
theorem dX9_readsCommand_101 : decode cX9_readsCommand 101 = .ok (.aload_n 0, 1) := by decide +kernel
theorem dX9_readsCommand_102 : decode cX9_readsCommand 102 = .ok (.getfield 161, 3) := by decide +kernel
theorem dX9_readsCommand_105 : decode cX9_readsCommand 105 = .ok (.iastore, 1) := by decide +kernel
theorem dX9_readsCommand_106 : decode cX9_readsCommand 106 = .ok (.iload_n 1, 1) := by decide +kernel
theorem dX9_readsCommand_107 : decode cX9_readsCommand 107 = .ok (.bipush 117, 2) := by decide +kernel
theorem dX9_readsCommand_109 : decode cX9_readsCommand 109 = .ok (.if_icmp .eq 15, 3) := by decide +kernel
theorem dX9_readsCommand_112 : decode cX9_readsCommand 112 = .ok (.iload_n 1, 1) := by decide +kernel
theorem dX9_readsCommand_113 : decode cX9_readsCommand 113 = .ok (.bipush 100, 2) := by decide +kernel
theorem dX9_readsCommand_115 : decode cX9_readsCommand 115 = .ok (.if_icmp .eq 9, 3) := by decide +kernel
theorem dX9_readsCommand_118 : decode cX9_readsCommand 118 = .ok (.iload_n 1, 1) := by decide +kernel
theorem dX9_readsCommand_119 : decode cX9_readsCommand 119 = .ok (.bipush 109, 2) := by decide +kernel
theorem dX9_readsCommand_121 : decode cX9_readsCommand 121 = .ok (.if_icmp .ne 34, 3) := by decide +kernel
theorem dX9_readsCommand_124 : decode cX9_readsCommand 124 = .ok (.aload_n 0, 1) := by decide +kernel
theorem dX9_readsCommand_125 : decode cX9_readsCommand 125 = .ok (.bipush 62, 2) := by decide +kernel
theorem dX9_readsCommand_127 : decode cX9_readsCommand 127 = .ok (.invokevirtual 174, 3) := by decide +kernel
theorem dX9_readsCommand_130 : decode cX9_readsCommand 130 = .ok (.ifCond .eq 10, 3) := by decide +kernel
theorem dX9_readsCommand_133 : decode cX9_readsCommand 133 = .ok (.aload_n 0, 1) := by decide +kernel
theorem dX9_readsCommand_134 : decode cX9_readsCommand 134 = .ok (.invokevirtual 171, 3) := by decide +kernel
theorem dX9_readsCommand_137 : decode cX9_readsCommand 137 = .ok (.ifCond .ne 5, 3) := by decide +kernel
theorem dX9_readsCommand_140 : decode cX9_readsCommand 140 = .ok (.iconst 0, 1) := by decide +kernel
theorem dX9_readsCommand_141 : decode cX9_readsCommand 141 = .ok (.ireturn, 1) := by decide +kernel
theorem dX9_readsCommand_142 : decode cX9_readsCommand 142 = .ok (.aload_n 0, 1) := by decide +kernel
theorem dX9_readsCommand_143 : decode cX9_readsCommand 143 = .ok (.getfield 28, 3) := by decide +kernel
theorem dX9_readsCommand_146 : decode cX9_readsCommand 146 = .ok (.aload_n 0, 1) := by decide +kernel
theorem dX9_readsCommand_147 : decode cX9_readsCommand 147 = .ok (.getfield 164, 3) := by decide +kernel
theorem dX9_readsCommand_150 : decode cX9_readsCommand 150 = .ok (.aload_n 0, 1) := by decide +kernel
theorem dX9_readsCommand_151 : decode cX9_readsCommand 151 = .ok (.getfield 161, 3) := by decide +kernel
theorem dX9_readsCommand_154 : decode cX9_readsCommand 154 = .ok (.iastore, 1) := by decide +kernel
theorem dX9_readsCommand_155 : decode cX9_readsCommand 155 = .ok (.iload_n 1, 1) := by decide +kernel
theorem dX9_readsCommand_156 : decode cX9_readsCommand 156 = .ok (.bipush 109, 2) := by decide +kernel
theorem dX9_readsCommand_158 : decode cX9_readsCommand 158 = .ok (.if_icmp .eq 19, 3) := by decide +kernel
theorem dX9_readsCommand_161 : decode cX9_readsCommand 161 = .ok (.aload_n 0, 1) := by decide +kernel
theorem dX9_readsCommand_162 : decode cX9_readsCommand 162 = .ok (.bipush 58, 2) := by decide +kernel
theorem dX9_readsCommand_164 : decode cX9_readsCommand 164 = .ok (.invokevirtual 174, 3) := by decide +kernel
theorem dX9_readsCommand_167 : decode cX9_readsCommand 167 = .ok (.ifCond .eq 14, 3) := by decide +kernel
theorem dX9_readsCommand_170 : decode cX9_readsCommand 170 = .ok (.aload_n 0, 1) := by decide +kernel
theorem dX9_readsCommand_171 : decode cX9_readsCommand 171 = .ok (.invokevirtual 167, 3) := by decide +kernel
theorem dX9_readsCommand_174 : decode cX9_readsCommand 174 = .ok (.ifCond .eq 7, 3) := by decide +kernel
theorem dX9_readsCommand_177 : decode cX9_readsCommand 177 = .ok (.iconst 1, 1) := by decide +kernel
theorem dX9_readsCommand_178 : decode cX9_readsCommand 178 = .ok (.goto 4, 3) := by decide +kernel
theorem dX9_readsCommand_181 : decode cX9_readsCommand 181 = .ok (.iconst 0, 1) := by decide +kernel
theorem dX9_readsCommand_182 : decode cX9_readsCommand 182 = .ok (.ireturn, 1) := by decide +kernel
theorem dX9_readsScript_0 : decode cX9_readsScript 0 = .ok (.aload_n 0, 1) := by decide +kernel
theorem dX9_readsScript_1 : decode cX9_readsScript 1 = .ok (.iconst 0, 1) := by decide +kernel
theorem dX9_readsScript_2 : decode cX9_readsScript 2 = .ok (.putfield 155, 3) := by decide +kernel
theorem dX9_readsScript_5 : decode cX9_readsScript 5 = .ok (.aload_n 0, 1) := by decide +kernel
theorem dX9_readsScript_6 : decode cX9_readsScript 6 = .ok (.iconst 0, 1) := by decide +kernel
theorem dX9_readsScript_7 : decode cX9_readsScript 7 = .ok (.putfield 164, 3) := by decide +kernel
theorem dX9_readsScript_10 : decode cX9_readsScript 10 = .ok (.iconst 1, 1) := by decide +kernel
theorem dX9_readsScript_11 : decode cX9_readsScript 11 = .ok (.istore_n 1, 1) := by decide +kernel
theorem dX9_readsScript_12 : decode cX9_readsScript 12 = .ok (.iload_n 1, 1) := by decide +kernel
theorem dX9_readsScript_13 : decode cX9_readsScript 13 = .ok (.ifCond .eq 32, 3) := by decide +kernel
theorem dX9_readsScript_16 : decode cX9_readsScript 16 = .ok (.aload_n 0, 1) := by decide +kernel
theorem dX9_readsScript_17 : decode cX9_readsScript 17 = .ok (.invokevirtual 177, 3) := by decide +kernel
theorem dX9_readsScript_20 : decode cX9_readsScript 20 = .ok (.ifCond .ne 5, 3) := by decide +kernel
theorem dX9_readsScript_23 : decode cX9_readsScript 23 = .ok (.iconst 0, 1) := by decide +kernel
theorem dX9_readsScript_24 : decode cX9_readsScript 24 = .ok (.ireturn, 1) := by decide +kernel
theorem dX9_readsScript_25 : decode cX9_readsScript 25 = .ok (.aload_n 0, 1) := by decide +kernel
theorem dX9_readsScript_26 : decode cX9_readsScript 26 = .ok (.dup, 1) := by decide +kernel
theorem dX9_readsScript_27 : decode cX9_readsScript 27 = .ok (.getfield 164, 3) := by decide +kernel
theorem dX9_readsScript_30 : decode cX9_readsScript 30 = .ok (.iconst 1, 1) := by decide +kernel
theorem dX9_readsScript_31 : decode cX9_readsScript 31 = .ok (.iadd, 1) := by decide +kernel
theorem dX9_readsScript_32 : decode cX9_readsScript 32 = .ok (.putfield 164, 3) := by decide +kernel
theorem dX9_readsScript_35 : decode cX9_readsScript 35 = .ok (.aload_n 0, 1) := by decide +kernel
theorem dX9_readsScript_36 : decode cX9_readsScript 36 = .ok (.bipush 59, 2) := by decide +kernel
theorem dX9_readsScript_38 : decode cX9_readsScript 38 = .ok (.invokevirtual 174, 3) := by decide +kernel
theorem dX9_readsScript_41 : decode cX9_readsScript 41 = .ok (.istore_n 1, 1) := by decide +kernel
theorem dX9_readsScript_42 : decode cX9_readsScript 42 = .ok (.goto (-30), 3) := by decide +kernel
theorem dX9_readsScript_45 : decode cX9_readsScript 45 = .ok (.aload_n 0, 1) := by decide +kernel
theorem dX9_readsScript_46 : decode cX9_readsScript 46 = .ok (.getfield 155, 3) := by decide +kernel
theorem dX9_readsScript_49 : decode cX9_readsScript 49 = .ok (.aload_n 0, 1) := by decide +kernel
theorem dX9_readsScript_50 : decode cX9_readsScript 50 = .ok (.getfield 152, 3) := by decide +kernel
theorem dX9_readsScript_53 : decode cX9_readsScript 53 = .ok (.if_icmp .ne 7, 3) := by decide +kernel
theorem dX9_readsScript_56 : decode cX9_readsScript 56 = .ok (.iconst 1, 1) := by decide +kernel
theorem dX9_readsScript_57 : decode cX9_readsScript 57 = .ok (.goto 4, 3) := by decide +kernel
theorem dX9_readsScript_60 : decode cX9_readsScript 60 = .ok (.iconst 0, 1) := by decide +kernel
theorem dX9_readsScript_61 : decode cX9_readsScript 61 = .ok (.ireturn, 1) := by decide +kernel
theorem dX9_does_0 : decode cX9_does 0 = .ok (.aload_n 0, 1) := by decide +kernel
theorem dX9_does_1 : decode cX9_does 1 = .ok (.getfield 22, 3) := by decide +kernel
theorem dX9_does_4 : decode cX9_does 4 = .ok (.iload_n 1, 1) := by decide +kernel
theorem dX9_does_5 : decode cX9_does 5 = .ok (.iaload, 1) := by decide +kernel
theorem dX9_does_6 : decode cX9_does 6 = .ok (.istore_n 2, 1) := by decide +kernel
theorem dX9_does_7 : decode cX9_does 7 = .ok (.aload_n 0, 1) := by decide +kernel
theorem dX9_does_8 : decode cX9_does 8 = .ok (.getfield 25, 3) := by decide +kernel
theorem dX9_does_11 : decode cX9_does 11 = .ok (.iload_n 1, 1) := by decide +kernel
theorem dX9_does_12 : decode cX9_does 12 = .ok (.iaload, 1) := by decide +kernel
theorem dX9_does_13 : decode cX9_does 13 = .ok (.istore_n 3, 1) := by decide +kernel
theorem dX9_does_14 : decode cX9_does 14 = .ok (.aload_n 0, 1) := by decide +kernel
theorem dX9_does_15 : decode cX9_does 15 = .ok (.getfield 28, 3) := by decide +kernel
theorem dX9_does_18 : decode cX9_does 18 = .ok (.iload_n 1, 1) := by decide +kernel
theorem dX9_does_19 : decode cX9_does 19 = .ok (.iaload, 1) := by decide +kernel
theorem dX9_does_20 : decode cX9_does 20 = .ok (.istore 4, 2) := by decide +kernel
theorem dX9_does_22 : decode cX9_does 22 = .ok (.aload_n 0, 1) := by decide +kernel
theorem dX9_does_23 : decode cX9_does 23 = .ok (.getfield 31, 3) := by decide +kernel
theorem dX9_does_26 : decode cX9_does 26 = .ok (.iload_n 1, 1) := by decide +kernel
theorem dX9_does_27 : decode cX9_does 27 = .ok (.iaload, 1) := by decide +kernel
theorem dX9_does_28 : decode cX9_does 28 = .ok (.istore 5, 2) := by decide +kernel
theorem dX9_does_30 : decode cX9_does 30 = .ok (.iload_n 2, 1) := by decide +kernel
theorem dX9_does_31 : decode cX9_does 31 = .ok (.bipush 116, 2) := by decide +kernel
theorem dX9_does_33 : decode cX9_does 33 = .ok (.if_icmp .ne 43, 3) := by decide +kernel
theorem dX9_does_36 : decode cX9_does 36 = .ok (.aload_n 0, 1) := by decide +kernel
theorem dX9_does_37 : decode cX9_does 37 = .ok (.getfield 7, 3) := by decide +kernel
theorem dX9_does_40 : decode cX9_does 40 = .ok (.iconst 0, 1) := by decide +kernel
theorem dX9_does_41 : decode cX9_does 41 = .ok (.dup2, 1) := by decide +kernel
theorem dX9_does_42 : decode cX9_does 42 = .ok (.iaload, 1) := by decide +kernel
theorem dX9_does_43 : decode cX9_does 43 = .ok (.iload 5, 2) := by decide +kernel
theorem dX9_does_45 : decode cX9_does 45 = .ok (.iadd, 1) := by decide +kernel
theorem dX9_does_46 : decode cX9_does 46 = .ok (.iastore, 1) := by decide +kernel
theorem dX9_does_47 : decode cX9_does 47 = .ok (.iload 5, 2) := by decide +kernel
theorem dX9_does_49 : decode cX9_does 49 = .ok (.iconst 1, 1) := by decide +kernel
theorem dX9_does_50 : decode cX9_does 50 = .ok (.sipush 999, 3) := by decide +kernel
theorem dX9_does_53 : decode cX9_does 53 = .ok (.invokestatic 48, 3) := by decide +kernel
theorem dX9_does_56 : decode cX9_does 56 = .ok (.ifCond .eq 18, 3) := by decide +kernel
theorem dX9_does_59 : decode cX9_does 59 = .ok (.aload_n 0, 1) := by decide +kernel
theorem dX9_does_60 : decode cX9_does 60 = .ok (.getfield 7, 3) := by decide +kernel
theorem dX9_does_63 : decode cX9_does 63 = .ok (.iconst 0, 1) := by decide +kernel
theorem dX9_does_64 : decode cX9_does 64 = .ok (.iaload, 1) := by decide +kernel
theorem dX9_does_65 : decode cX9_does 65 = .ok (.ldc 123, 2) := by decide +kernel
theorem dX9_does_67 : decode cX9_does 67 = .ok (.if_icmp .gt 7, 3) := by decide +kernel
theorem dX9_does_70 : decode cX9_does 70 = .ok (.iconst 1, 1) := by decide +kernel
theorem dX9_does_71 : decode cX9_does 71 = .ok (.goto 4, 3) := by decide +kernel
theorem dX9_does_74 : decode cX9_does 74 = .ok (.iconst 0, 1) := by decide +kernel
theorem dX9_does_75 : decode cX9_does 75 = .ok (.ireturn, 1) := by decide +kernel
theorem dX9_does_76 : decode cX9_does 76 = .ok (.iload_n 2, 1) := by decide +kernel
theorem dX9_does_77 : decode cX9_does 77 = .ok (.bipush 43, 2) := by decide +kernel
theorem dX9_does_79 : decode cX9_does 79 = .ok (.if_icmp .eq 9, 3) := by decide +kernel
theorem dX9_does_82 : decode cX9_does 82 = .ok (.iload_n 2, 1) := by decide +kernel
theorem dX9_does_83 : decode cX9_does 83 = .ok (.bipush 45, 2) := by decide +kernel
theorem dX9_does_85 : decode cX9_does 85 = .ok (.if_icmp .ne 50, 3) := by decide +kernel
theorem dX9_does_88 : decode cX9_does 88 = .ok (.aload_n 0, 1) := by decide +kernel
theorem dX9_does_89 : decode cX9_does 89 = .ok (.iload_n 3, 1) := by decide +kernel
theorem dX9_does_90 : decode cX9_does 90 = .ok (.invokevirtual 96, 3) := by decide +kernel
theorem dX9_does_93 : decode cX9_does 93 = .ok (.ifCond .eq 40, 3) := by decide +kernel
theorem dX9_does_96 : decode cX9_does 96 = .ok (.iload 5, 2) := by decide +kernel
theorem dX9_does_98 : decode cX9_does 98 = .ok (.iconst 1, 1) := by decide +kernel
theorem dX9_does_99 : decode cX9_does 99 = .ok (.sipush 999, 3) := by decide +kernel
theorem dX9_does_102 : decode cX9_does 102 = .ok (.invokestatic 48, 3) := by decide +kernel
theorem dX9_does_105 : decode cX9_does 105 = .ok (.ifCond .eq 28, 3) := by decide +kernel
theorem dX9_does_108 : decode cX9_does 108 = .ok (.aload_n 0, 1) := by decide +kernel
theorem dX9_does_109 : decode cX9_does 109 = .ok (.iload_n 3, 1) := by decide +kernel
theorem dX9_does_110 : decode cX9_does 110 = .ok (.iload_n 2, 1) := by decide +kernel
theorem dX9_does_111 : decode cX9_does 111 = .ok (.bipush 43, 2) := by decide +kernel
theorem dX9_does_113 : decode cX9_does 113 = .ok (.if_icmp .ne 7, 3) := by decide +kernel
theorem dX9_does_116 : decode cX9_does 116 = .ok (.iconst 0, 1) := by decide +kernel
theorem dX9_does_117 : decode cX9_does 117 = .ok (.goto 4, 3) := by decide +kernel
theorem dX9_does_120 : decode cX9_does 120 = .ok (.iconst 1, 1) := by decide +kernel
theorem dX9_does_121 : decode cX9_does 121 = .ok (.iload 5, 2) := by decide +kernel
theorem dX9_does_123 : decode cX9_does 123 = .ok (.invokevirtual 102, 3) := by decide +kernel
theorem dX9_does_126 : decode cX9_does 126 = .ok (.ifCond .eq 7, 3) := by decide +kernel
theorem dX9_does_129 : decode cX9_does 129 = .ok (.iconst 1, 1) := by decide +kernel
theorem dX9_does_130 : decode cX9_does 130 = .ok (.goto 4, 3) := by decide +kernel
theorem dX9_does_133 : decode cX9_does 133 = .ok (.iconst 0, 1) := by decide +kernel
theorem dX9_does_134 : decode cX9_does 134 = .ok (.ireturn, 1) := by decide +kernel
theorem dX9_does_135 : decode cX9_does 135 = .ok (.aload_n 0, 1) := by decide +kernel
theorem dX9_does_136 : decode cX9_does 136 = .ok (.iload_n 3, 1) := by decide +kernel
theorem dX9_does_137 : decode cX9_does 137 = .ok (.invokevirtual 96, 3) := by decide +kernel
theorem dX9_does_140 : decode cX9_does 140 = .ok (.ifCond .eq 18, 3) := by decide +kernel
theorem dX9_does_143 : decode cX9_does 143 = .ok (.aload_n 0, 1) := by decide +kernel
theorem dX9_does_144 : decode cX9_does 144 = .ok (.iload 4, 2) := by decide +kernel
theorem dX9_does_146 : decode cX9_does 146 = .ok (.invokevirtual 96, 3) := by decide +kernel
theorem dX9_does_149 : decode cX9_does 149 = .ok (.ifCond .eq 9, 3) := by decide +kernel
theorem dX9_does_152 : decode cX9_does 152 = .ok (.iload_n 3, 1) := by decide +kernel
theorem dX9_does_153 : decode cX9_does 153 = .ok (.iload 4, 2) := by decide +kernel
theorem dX9_does_155 : decode cX9_does 155 = .ok (.if_icmp .ne 5, 3) := by decide +kernel
theorem dX9_does_158 : decode cX9_does 158 = .ok (.iconst 0, 1) := by decide +kernel
theorem dX9_does_159 : decode cX9_does 159 = .ok (.ireturn, 1) := by decide +kernel
theorem dX9_does_160 : decode cX9_does 160 = .ok (.iload_n 2, 1) := by decide +kernel
theorem dX9_does_161 : decode cX9_does 161 = .ok (.bipush 109, 2) := by decide +kernel
theorem dX9_does_163 : decode cX9_does 163 = .ok (.if_icmp .ne 30, 3) := by decide +kernel
theorem dX9_does_166 : decode cX9_does 166 = .ok (.aload_n 0, 1) := by decide +kernel
theorem dX9_does_167 : decode cX9_does 167 = .ok (.getfield 7, 3) := by decide +kernel
theorem dX9_does_170 : decode cX9_does 170 = .ok (.iconst 5, 1) := by decide +kernel
theorem dX9_does_171 : decode cX9_does 171 = .ok (.iaload, 1) := by decide +kernel
theorem dX9_does_172 : decode cX9_does 172 = .ok (.bipush 8, 2) := by decide +kernel
theorem dX9_does_174 : decode cX9_does 174 = .ok (.if_icmp .ge 17, 3) := by decide +kernel
theorem dX9_does_177 : decode cX9_does 177 = .ok (.aload_n 0, 1) := by decide +kernel
theorem dX9_does_178 : decode cX9_does 178 = .ok (.iload_n 3, 1) := by decide +kernel
theorem dX9_does_179 : decode cX9_does 179 = .ok (.iload 4, 2) := by decide +kernel
theorem dX9_does_181 : decode cX9_does 181 = .ok (.invokevirtual 180, 3) := by decide +kernel
theorem dX9_does_184 : decode cX9_does 184 = .ok (.ifCond .eq 7, 3) := by decide +kernel
theorem dX9_does_187 : decode cX9_does 187 = .ok (.iconst 1, 1) := by decide +kernel
theorem dX9_does_188 : decode cX9_does 188 = .ok (.goto 4, 3) := by decide +kernel
theorem dX9_does_191 : decode cX9_does 191 = .ok (.iconst 0, 1) := by decide +kernel
theorem dX9_does_192 : decode cX9_does 192 = .ok (.ireturn, 1) := by decide +kernel
theorem dX9_does_193 : decode cX9_does 193 = .ok (.iload_n 2, 1) := by decide +kernel
theorem dX9_does_194 : decode cX9_does 194 = .ok (.bipush 117, 2) := by decide +kernel
theorem dX9_does_196 : decode cX9_does 196 = .ok (.if_icmp .ne 7, 3) := by decide +kernel
theorem dX9_does_199 : decode cX9_does 199 = .ok (.iconst 0, 1) := by decide +kernel
theorem dX9_does_200 : decode cX9_does 200 = .ok (.goto 4, 3) := by decide +kernel
theorem dX9_does_203 : decode cX9_does 203 = .ok (.iconst 1, 1) := by decide +kernel
theorem dX9_does_204 : decode cX9_does 204 = .ok (.istore 6, 2) := by decide +kernel
theorem dX9_does_206 : decode cX9_does 206 = .ok (.iload 5, 2) := by decide +kernel
theorem dX9_does_208 : decode cX9_does 208 = .ok (.iconst 1, 1) := by decide +kernel
theorem dX9_does_209 : decode cX9_does 209 = .ok (.if_icmp .lt 15, 3) := by decide +kernel
theorem dX9_does_212 : decode cX9_does 212 = .ok (.aload_n 0, 1) := by decide +kernel
theorem dX9_does_213 : decode cX9_does 213 = .ok (.iload_n 3, 1) := by decide +kernel
theorem dX9_does_214 : decode cX9_does 214 = .ok (.iload 6, 2) := by decide +kernel
theorem dX9_does_216 : decode cX9_does 216 = .ok (.invokevirtual 79, 3) := by decide +kernel
theorem dX9_does_219 : decode cX9_does 219 = .ok (.iload 5, 2) := by decide +kernel
theorem dX9_does_221 : decode cX9_does 221 = .ok (.if_icmp .ge 5, 3) := by decide +kernel
theorem dX9_does_224 : decode cX9_does 224 = .ok (.iconst 0, 1) := by decide +kernel
theorem dX9_does_225 : decode cX9_does 225 = .ok (.ireturn, 1) := by decide +kernel
theorem dX9_does_226 : decode cX9_does 226 = .ok (.aload_n 0, 1) := by decide +kernel
theorem dX9_does_227 : decode cX9_does 227 = .ok (.iload 6, 2) := by decide +kernel
theorem dX9_does_229 : decode cX9_does 229 = .ok (.iload_n 3, 1) := by decide +kernel
theorem dX9_does_230 : decode cX9_does 230 = .ok (.iload 4, 2) := by decide +kernel
theorem dX9_does_232 : decode cX9_does 232 = .ok (.iload 5, 2) := by decide +kernel
theorem dX9_does_234 : decode cX9_does 234 = .ok (.invokevirtual 119, 3) := by decide +kernel
theorem dX9_does_237 : decode cX9_does 237 = .ok (.iconst 1, 1) := by decide +kernel
theorem dX9_does_238 : decode cX9_does 238 = .ok (.ireturn, 1) := by decide +kernel
theorem dX9_passesOn_0 : decode cX9_passesOn 0 = .ok (.aload_n 0, 1) := by decide +kernel
theorem dX9_passesOn_1 : decode cX9_passesOn 1 = .ok (.aload_n 0, 1) := by decide +kernel
theorem dX9_passesOn_2 : decode cX9_passesOn 2 = .ok (.getfield 7, 3) := by decide +kernel
theorem dX9_passesOn_5 : decode cX9_passesOn 5 = .ok (.iconst 5, 1) := by decide +kernel
theorem dX9_passesOn_6 : decode cX9_passesOn 6 = .ok (.iaload, 1) := by decide +kernel
theorem dX9_passesOn_7 : decode cX9_passesOn 7 = .ok (.iload_n 1, 1) := by decide +kernel
theorem dX9_passesOn_8 : decode cX9_passesOn 8 = .ok (.iload_n 2, 1) := by decide +kernel
theorem dX9_passesOn_9 : decode cX9_passesOn 9 = .ok (.invokevirtual 127, 3) := by decide +kernel
theorem dX9_passesOn_12 : decode cX9_passesOn 12 = .ok (.aload_n 0, 1) := by decide +kernel
theorem dX9_passesOn_13 : decode cX9_passesOn 13 = .ok (.aload_n 0, 1) := by decide +kernel
theorem dX9_passesOn_14 : decode cX9_passesOn 14 = .ok (.getfield 7, 3) := by decide +kernel
theorem dX9_passesOn_17 : decode cX9_passesOn 17 = .ok (.iconst 5, 1) := by decide +kernel
theorem dX9_passesOn_18 : decode cX9_passesOn 18 = .ok (.iaload, 1) := by decide +kernel
theorem dX9_passesOn_19 : decode cX9_passesOn 19 = .ok (.invokevirtual 133, 3) := by decide +kernel
theorem dX9_passesOn_22 : decode cX9_passesOn 22 = .ok (.istore_n 3, 1) := by decide +kernel
theorem dX9_passesOn_23 : decode cX9_passesOn 23 = .ok (.iload_n 3, 1) := by decide +kernel
theorem dX9_passesOn_24 : decode cX9_passesOn 24 = .ok (.ifCond .lt 7, 3) := by decide +kernel
theorem dX9_passesOn_27 : decode cX9_passesOn 27 = .ok (.iconst 1, 1) := by decide +kernel
theorem dX9_passesOn_28 : decode cX9_passesOn 28 = .ok (.goto 4, 3) := by decide +kernel
theorem dX9_passesOn_31 : decode cX9_passesOn 31 = .ok (.iconst 0, 1) := by decide +kernel
theorem dX9_passesOn_32 : decode cX9_passesOn 32 = .ok (.ireturn, 1) := by decide +kernel
theorem dX9_runScript_0 : decode cX9_runScript 0 = .ok (.aload_n 0, 1) := by decide +kernel
theorem dX9_runScript_1 : decode cX9_runScript 1 = .ok (.iconst 0, 1) := by decide +kernel
theorem dX9_runScript_2 : decode cX9_runScript 2 = .ok (.putfield 42, 3) := by decide +kernel
theorem dX9_runScript_5 : decode cX9_runScript 5 = .ok (.aload_n 0, 1) := by decide +kernel
theorem dX9_runScript_6 : decode cX9_runScript 6 = .ok (.invokevirtual 183, 3) := by decide +kernel
theorem dX9_runScript_9 : decode cX9_runScript 9 = .ok (.ifCond .ne 10, 3) := by decide +kernel
theorem dX9_runScript_12 : decode cX9_runScript 12 = .ok (.iconst (-1), 1) := by decide +kernel
theorem dX9_runScript_13 : decode cX9_runScript 13 = .ok (.aload_n 0, 1) := by decide +kernel
theorem dX9_runScript_14 : decode cX9_runScript 14 = .ok (.getfield 155, 3) := by decide +kernel
theorem dX9_runScript_17 : decode cX9_runScript 17 = .ok (.isub, 1) := by decide +kernel
theorem dX9_runScript_18 : decode cX9_runScript 18 = .ok (.ireturn, 1) := by decide +kernel
theorem dX9_runScript_19 : decode cX9_runScript 19 = .ok (.iconst 0, 1) := by decide +kernel
theorem dX9_runScript_20 : decode cX9_runScript 20 = .ok (.istore_n 1, 1) := by decide +kernel
theorem dX9_runScript_21 : decode cX9_runScript 21 = .ok (.iload_n 1, 1) := by decide +kernel
theorem dX9_runScript_22 : decode cX9_runScript 22 = .ok (.sipush 2400, 3) := by decide +kernel
theorem dX9_runScript_25 : decode cX9_runScript 25 = .ok (.if_icmp .ge 21, 3) := by decide +kernel
theorem dX9_runScript_28 : decode cX9_runScript 28 = .ok (.aload_n 0, 1) := by decide +kernel
theorem dX9_runScript_29 : decode cX9_runScript 29 = .ok (.getfield 16, 3) := by decide +kernel
theorem dX9_runScript_32 : decode cX9_runScript 32 = .ok (.iload_n 1, 1) := by decide +kernel
theorem dX9_runScript_33 : decode cX9_runScript 33 = .ok (.aload_n 0, 1) := by decide +kernel
theorem dX9_runScript_34 : decode cX9_runScript 34 = .ok (.getfield 7, 3) := by decide +kernel
theorem dX9_runScript_37 : decode cX9_runScript 37 = .ok (.iload_n 1, 1) := by decide +kernel
theorem dX9_runScript_38 : decode cX9_runScript 38 = .ok (.iaload, 1) := by decide +kernel
theorem dX9_runScript_39 : decode cX9_runScript 39 = .ok (.iastore, 1) := by decide +kernel
theorem dX9_runScript_40 : decode cX9_runScript 40 = .ok (.iinc 1 1, 3) := by decide +kernel
theorem dX9_runScript_43 : decode cX9_runScript 43 = .ok (.goto (-22), 3) := by decide +kernel
theorem dX9_runScript_46 : decode cX9_runScript 46 = .ok (.iconst 0, 1) := by decide +kernel
theorem dX9_runScript_47 : decode cX9_runScript 47 = .ok (.istore_n 1, 1) := by decide +kernel
theorem dX9_runScript_48 : decode cX9_runScript 48 = .ok (.iload_n 1, 1) := by decide +kernel
theorem dX9_runScript_49 : decode cX9_runScript 49 = .ok (.aload_n 0, 1) := by decide +kernel
theorem dX9_runScript_50 : decode cX9_runScript 50 = .ok (.getfield 164, 3) := by decide +kernel
theorem dX9_runScript_53 : decode cX9_runScript 53 = .ok (.if_icmp .ge 50, 3) := by decide +kernel
theorem dX9_runScript_56 : decode cX9_runScript 56 = .ok (.aload_n 0, 1) := by decide +kernel
theorem dX9_runScript_57 : decode cX9_runScript 57 = .ok (.iload_n 1, 1) := by decide +kernel
theorem dX9_runScript_58 : decode cX9_runScript 58 = .ok (.invokevirtual 186, 3) := by decide +kernel
theorem dX9_runScript_61 : decode cX9_runScript 61 = .ok (.ifCond .ne 36, 3) := by decide +kernel
theorem dX9_runScript_64 : decode cX9_runScript 64 = .ok (.iconst 0, 1) := by decide +kernel
theorem dX9_runScript_65 : decode cX9_runScript 65 = .ok (.istore_n 2, 1) := by decide +kernel
theorem dX9_runScript_66 : decode cX9_runScript 66 = .ok (.iload_n 2, 1) := by decide +kernel
theorem dX9_runScript_67 : decode cX9_runScript 67 = .ok (.sipush 2400, 3) := by decide +kernel
theorem dX9_runScript_70 : decode cX9_runScript 70 = .ok (.if_icmp .ge 21, 3) := by decide +kernel
theorem dX9_runScript_73 : decode cX9_runScript 73 = .ok (.aload_n 0, 1) := by decide +kernel
theorem dX9_runScript_74 : decode cX9_runScript 74 = .ok (.getfield 7, 3) := by decide +kernel
theorem dX9_runScript_77 : decode cX9_runScript 77 = .ok (.iload_n 2, 1) := by decide +kernel
theorem dX9_runScript_78 : decode cX9_runScript 78 = .ok (.aload_n 0, 1) := by decide +kernel
theorem dX9_runScript_79 : decode cX9_runScript 79 = .ok (.getfield 16, 3) := by decide +kernel
theorem dX9_runScript_82 : decode cX9_runScript 82 = .ok (.iload_n 2, 1) := by decide +kernel
theorem dX9_runScript_83 : decode cX9_runScript 83 = .ok (.iaload, 1) := by decide +kernel
theorem dX9_runScript_84 : decode cX9_runScript 84 = .ok (.iastore, 1) := by decide +kernel
theorem dX9_runScript_85 : decode cX9_runScript 85 = .ok (.iinc 2 1, 3) := by decide +kernel
theorem dX9_runScript_88 : decode cX9_runScript 88 = .ok (.goto (-22), 3) := by decide +kernel
theorem dX9_runScript_91 : decode cX9_runScript 91 = .ok (.sipush (-1000), 3) := by decide +kernel
theorem dX9_runScript_94 : decode cX9_runScript 94 = .ok (.iload_n 1, 1) := by decide +kernel
theorem dX9_runScript_95 : decode cX9_runScript 95 = .ok (.isub, 1) := by decide +kernel
theorem dX9_runScript_96 : decode cX9_runScript 96 = .ok (.ireturn, 1) := by decide +kernel
theorem dX9_runScript_97 : decode cX9_runScript 97 = .ok (.iinc 1 1, 3) := by decide +kernel
theorem dX9_runScript_100 : decode cX9_runScript 100 = .ok (.goto (-52), 3) := by decide +kernel
theorem dX9_runScript_103 : decode cX9_runScript 103 = .ok (.aload_n 0, 1) := by decide +kernel
theorem dX9_runScript_104 : decode cX9_runScript 104 = .ok (.invokevirtual 189, 3) := by decide +kernel
theorem dX9_runScript_107 : decode cX9_runScript 107 = .ok (.aload_n 0, 1) := by decide +kernel
theorem dX9_runScript_108 : decode cX9_runScript 108 = .ok (.iconst 0, 1) := by decide +kernel
theorem dX9_runScript_109 : decode cX9_runScript 109 = .ok (.putfield 152, 3) := by decide +kernel
theorem dX9_runScript_112 : decode cX9_runScript 112 = .ok (.aload_n 0, 1) := by decide +kernel
theorem dX9_runScript_113 : decode cX9_runScript 113 = .ok (.getfield 164, 3) := by decide +kernel
theorem dX9_runScript_116 : decode cX9_runScript 116 = .ok (.ireturn, 1) := by decide +kernel
theorem dX9_keepsAside_0 : decode cX9_keepsAside 0 = .ok (.aload_n 0, 1) := by decide +kernel
theorem dX9_keepsAside_1 : decode cX9_keepsAside 1 = .ok (.invokevirtual 99, 3) := by decide +kernel
theorem dX9_keepsAside_4 : decode cX9_keepsAside 4 = .ok (.iconst 0, 1) := by decide +kernel
theorem dX9_keepsAside_5 : decode cX9_keepsAside 5 = .ok (.istore_n 1, 1) := by decide +kernel
theorem dX9_keepsAside_6 : decode cX9_keepsAside 6 = .ok (.iload_n 1, 1) := by decide +kernel
theorem dX9_keepsAside_7 : decode cX9_keepsAside 7 = .ok (.sipush 2400, 3) := by decide +kernel
theorem dX9_keepsAside_10 : decode cX9_keepsAside 10 = .ok (.if_icmp .ge 32, 3) := by decide +kernel
theorem dX9_keepsAside_13 : decode cX9_keepsAside 13 = .ok (.aload_n 0, 1) := by decide +kernel
theorem dX9_keepsAside_14 : decode cX9_keepsAside 14 = .ok (.getfield 13, 3) := by decide +kernel
theorem dX9_keepsAside_17 : decode cX9_keepsAside 17 = .ok (.sipush 2400, 3) := by decide +kernel
theorem dX9_keepsAside_20 : decode cX9_keepsAside 20 = .ok (.aload_n 0, 1) := by decide +kernel
theorem dX9_keepsAside_21 : decode cX9_keepsAside 21 = .ok (.getfield 45, 3) := by decide +kernel
theorem dX9_keepsAside_24 : decode cX9_keepsAside 24 = .ok (.iconst 1, 1) := by decide +kernel
theorem dX9_keepsAside_25 : decode cX9_keepsAside 25 = .ok (.isub, 1) := by decide +kernel
theorem dX9_keepsAside_26 : decode cX9_keepsAside 26 = .ok (.imul, 1) := by decide +kernel
theorem dX9_keepsAside_27 : decode cX9_keepsAside 27 = .ok (.iload_n 1, 1) := by decide +kernel
theorem dX9_keepsAside_28 : decode cX9_keepsAside 28 = .ok (.iadd, 1) := by decide +kernel
theorem dX9_keepsAside_29 : decode cX9_keepsAside 29 = .ok (.aload_n 0, 1) := by decide +kernel
theorem dX9_keepsAside_30 : decode cX9_keepsAside 30 = .ok (.getfield 16, 3) := by decide +kernel
theorem dX9_keepsAside_33 : decode cX9_keepsAside 33 = .ok (.iload_n 1, 1) := by decide +kernel
theorem dX9_keepsAside_34 : decode cX9_keepsAside 34 = .ok (.iaload, 1) := by decide +kernel
theorem dX9_keepsAside_35 : decode cX9_keepsAside 35 = .ok (.iastore, 1) := by decide +kernel
theorem dX9_keepsAside_36 : decode cX9_keepsAside 36 = .ok (.iinc 1 1, 3) := by decide +kernel
theorem dX9_keepsAside_39 : decode cX9_keepsAside 39 = .ok (.goto (-33), 3) := by decide +kernel
theorem dX9_keepsAside_42 : decode cX9_keepsAside 42 = .ok (.return_, 1) := by decide +kernel
theorem dX9_undo_0 : decode cX9_undo 0 = .ok (.aload_n 0, 1) := by decide +kernel
theorem dX9_undo_1 : decode cX9_undo 1 = .ok (.iconst 0, 1) := by decide +kernel
theorem dX9_undo_2 : decode cX9_undo 2 = .ok (.putfield 42, 3) := by decide +kernel
theorem dX9_undo_5 : decode cX9_undo 5 = .ok (.aload_n 0, 1) := by decide +kernel
theorem dX9_undo_6 : decode cX9_undo 6 = .ok (.getfield 45, 3) := by decide +kernel
theorem dX9_undo_9 : decode cX9_undo 9 = .ok (.ifCond .ne 9, 3) := by decide +kernel
theorem dX9_undo_12 : decode cX9_undo 12 = .ok (.aload_n 0, 1) := by decide +kernel
theorem dX9_undo_13 : decode cX9_undo 13 = .ok (.iconst 1, 1) := by decide +kernel
theorem dX9_undo_14 : decode cX9_undo 14 = .ok (.invokevirtual 105, 3) := by decide +kernel
theorem dX9_undo_17 : decode cX9_undo 17 = .ok (.ireturn, 1) := by decide +kernel
theorem dX9_undo_18 : decode cX9_undo 18 = .ok (.aload_n 0, 1) := by decide +kernel
theorem dX9_undo_19 : decode cX9_undo 19 = .ok (.dup, 1) := by decide +kernel
theorem dX9_undo_20 : decode cX9_undo 20 = .ok (.getfield 45, 3) := by decide +kernel
theorem dX9_undo_23 : decode cX9_undo 23 = .ok (.iconst 1, 1) := by decide +kernel
theorem dX9_undo_24 : decode cX9_undo 24 = .ok (.isub, 1) := by decide +kernel
theorem dX9_undo_25 : decode cX9_undo 25 = .ok (.putfield 45, 3) := by decide +kernel
theorem dX9_undo_28 : decode cX9_undo 28 = .ok (.iconst 0, 1) := by decide +kernel
theorem dX9_undo_29 : decode cX9_undo 29 = .ok (.istore_n 1, 1) := by decide +kernel
theorem dX9_undo_30 : decode cX9_undo 30 = .ok (.iload_n 1, 1) := by decide +kernel
theorem dX9_undo_31 : decode cX9_undo 31 = .ok (.sipush 2400, 3) := by decide +kernel
theorem dX9_undo_34 : decode cX9_undo 34 = .ok (.if_icmp .ge 30, 3) := by decide +kernel
theorem dX9_undo_37 : decode cX9_undo 37 = .ok (.aload_n 0, 1) := by decide +kernel
theorem dX9_undo_38 : decode cX9_undo 38 = .ok (.getfield 7, 3) := by decide +kernel
theorem dX9_undo_41 : decode cX9_undo 41 = .ok (.iload_n 1, 1) := by decide +kernel
theorem dX9_undo_42 : decode cX9_undo 42 = .ok (.aload_n 0, 1) := by decide +kernel
theorem dX9_undo_43 : decode cX9_undo 43 = .ok (.getfield 13, 3) := by decide +kernel
theorem dX9_undo_46 : decode cX9_undo 46 = .ok (.sipush 2400, 3) := by decide +kernel
theorem dX9_undo_49 : decode cX9_undo 49 = .ok (.aload_n 0, 1) := by decide +kernel
theorem dX9_undo_50 : decode cX9_undo 50 = .ok (.getfield 45, 3) := by decide +kernel
theorem dX9_undo_53 : decode cX9_undo 53 = .ok (.imul, 1) := by decide +kernel
theorem dX9_undo_54 : decode cX9_undo 54 = .ok (.iload_n 1, 1) := by decide +kernel
theorem dX9_undo_55 : decode cX9_undo 55 = .ok (.iadd, 1) := by decide +kernel
theorem dX9_undo_56 : decode cX9_undo 56 = .ok (.iaload, 1) := by decide +kernel
theorem dX9_undo_57 : decode cX9_undo 57 = .ok (.iastore, 1) := by decide +kernel
theorem dX9_undo_58 : decode cX9_undo 58 = .ok (.iinc 1 1, 3) := by decide +kernel
theorem dX9_undo_61 : decode cX9_undo 61 = .ok (.goto (-31), 3) := by decide +kernel
theorem dX9_undo_64 : decode cX9_undo 64 = .ok (.aload_n 0, 1) := by decide +kernel
theorem dX9_undo_65 : decode cX9_undo 65 = .ok (.getfield 45, 3) := by decide +kernel
theorem dX9_undo_68 : decode cX9_undo 68 = .ok (.ireturn, 1) := by decide +kernel
theorem dX9_fingerprint_0 : decode cX9_fingerprint 0 = .ok (.aload_n 0, 1) := by decide +kernel
theorem dX9_fingerprint_1 : decode cX9_fingerprint 1 = .ok (.iconst 0, 1) := by decide +kernel
theorem dX9_fingerprint_2 : decode cX9_fingerprint 2 = .ok (.putfield 42, 3) := by decide +kernel
theorem dX9_fingerprint_5 : decode cX9_fingerprint 5 = .ok (.ldc2_w 192, 3) := by decide +kernel
theorem dX9_fingerprint_8 : decode cX9_fingerprint 8 = .ok (.ldc2_w 192, 3) := by decide +kernel
theorem dX9_fingerprint_11 : decode cX9_fingerprint 11 = .ok (.ldc2_w 194, 3) := by decide +kernel
theorem dX9_fingerprint_14 : decode cX9_fingerprint 14 = .ok (.aload_n 0, 1) := by decide +kernel
theorem dX9_fingerprint_15 : decode cX9_fingerprint 15 = .ok (.getfield 7, 3) := by decide +kernel
theorem dX9_fingerprint_18 : decode cX9_fingerprint 18 = .ok (.iconst 0, 1) := by decide +kernel
theorem dX9_fingerprint_19 : decode cX9_fingerprint 19 = .ok (.iaload, 1) := by decide +kernel
theorem dX9_fingerprint_20 : decode cX9_fingerprint 20 = .ok (.i2l, 1) := by decide +kernel
theorem dX9_fingerprint_21 : decode cX9_fingerprint 21 = .ok (.ladd, 1) := by decide +kernel
theorem dX9_fingerprint_22 : decode cX9_fingerprint 22 = .ok (.lmul, 1) := by decide +kernel
theorem dX9_fingerprint_23 : decode cX9_fingerprint 23 = .ok (.aload_n 0, 1) := by decide +kernel
theorem dX9_fingerprint_24 : decode cX9_fingerprint 24 = .ok (.invokevirtual 108, 3) := by decide +kernel
theorem dX9_fingerprint_27 : decode cX9_fingerprint 27 = .ok (.i2l, 1) := by decide +kernel
theorem dX9_fingerprint_28 : decode cX9_fingerprint 28 = .ok (.ladd, 1) := by decide +kernel
theorem dX9_fingerprint_29 : decode cX9_fingerprint 29 = .ok (.lmul, 1) := by decide +kernel
theorem dX9_fingerprint_30 : decode cX9_fingerprint 30 = .ok (.aload_n 0, 1) := by decide +kernel
theorem dX9_fingerprint_31 : decode cX9_fingerprint 31 = .ok (.getfield 7, 3) := by decide +kernel
theorem dX9_fingerprint_34 : decode cX9_fingerprint 34 = .ok (.iconst 4, 1) := by decide +kernel
theorem dX9_fingerprint_35 : decode cX9_fingerprint 35 = .ok (.iaload, 1) := by decide +kernel
theorem dX9_fingerprint_36 : decode cX9_fingerprint 36 = .ok (.i2l, 1) := by decide +kernel
theorem dX9_fingerprint_37 : decode cX9_fingerprint 37 = .ok (.ladd, 1) := by decide +kernel
theorem dX9_fingerprint_38 : decode cX9_fingerprint 38 = .ok (.lstore_n 1, 1) := by decide +kernel
theorem dX9_fingerprint_39 : decode cX9_fingerprint 39 = .ok (.ldc2_w 192, 3) := by decide +kernel
theorem dX9_fingerprint_42 : decode cX9_fingerprint 42 = .ok (.lload_n 1, 1) := by decide +kernel
theorem dX9_fingerprint_43 : decode cX9_fingerprint 43 = .ok (.lmul, 1) := by decide +kernel
theorem dX9_fingerprint_44 : decode cX9_fingerprint 44 = .ok (.aload_n 0, 1) := by decide +kernel
theorem dX9_fingerprint_45 : decode cX9_fingerprint 45 = .ok (.getfield 7, 3) := by decide +kernel
theorem dX9_fingerprint_48 : decode cX9_fingerprint 48 = .ok (.iconst 5, 1) := by decide +kernel
theorem dX9_fingerprint_49 : decode cX9_fingerprint 49 = .ok (.iaload, 1) := by decide +kernel
theorem dX9_fingerprint_50 : decode cX9_fingerprint 50 = .ok (.i2l, 1) := by decide +kernel
theorem dX9_fingerprint_51 : decode cX9_fingerprint 51 = .ok (.ladd, 1) := by decide +kernel
theorem dX9_fingerprint_52 : decode cX9_fingerprint 52 = .ok (.lstore_n 1, 1) := by decide +kernel
theorem dX9_fingerprint_53 : decode cX9_fingerprint 53 = .ok (.iconst 0, 1) := by decide +kernel
theorem dX9_fingerprint_54 : decode cX9_fingerprint 54 = .ok (.istore_n 3, 1) := by decide +kernel
theorem dX9_fingerprint_55 : decode cX9_fingerprint 55 = .ok (.iload_n 3, 1) := by decide +kernel
theorem dX9_fingerprint_56 : decode cX9_fingerprint 56 = .ok (.aload_n 0, 1) := by decide +kernel
theorem dX9_fingerprint_57 : decode cX9_fingerprint 57 = .ok (.getfield 34, 3) := by decide +kernel
theorem dX9_fingerprint_60 : decode cX9_fingerprint 60 = .ok (.if_icmp .ge 121, 3) := by decide +kernel
theorem dX9_fingerprint_63 : decode cX9_fingerprint 63 = .ok (.iconst 0, 1) := by decide +kernel
theorem dX9_fingerprint_64 : decode cX9_fingerprint 64 = .ok (.istore 4, 2) := by decide +kernel
theorem dX9_fingerprint_66 : decode cX9_fingerprint 66 = .ok (.iload 4, 2) := by decide +kernel
theorem dX9_fingerprint_68 : decode cX9_fingerprint 68 = .ok (.iconst 2, 1) := by decide +kernel
theorem dX9_fingerprint_69 : decode cX9_fingerprint 69 = .ok (.if_icmp .ge 39, 3) := by decide +kernel
theorem dX9_fingerprint_72 : decode cX9_fingerprint 72 = .ok (.ldc2_w 192, 3) := by decide +kernel
theorem dX9_fingerprint_75 : decode cX9_fingerprint 75 = .ok (.lload_n 1, 1) := by decide +kernel
theorem dX9_fingerprint_76 : decode cX9_fingerprint 76 = .ok (.lmul, 1) := by decide +kernel
theorem dX9_fingerprint_77 : decode cX9_fingerprint 77 = .ok (.aload_n 0, 1) := by decide +kernel
theorem dX9_fingerprint_78 : decode cX9_fingerprint 78 = .ok (.iload_n 3, 1) := by decide +kernel
theorem dX9_fingerprint_79 : decode cX9_fingerprint 79 = .ok (.iload 4, 2) := by decide +kernel
theorem dX9_fingerprint_81 : decode cX9_fingerprint 81 = .ok (.invokevirtual 79, 3) := by decide +kernel
theorem dX9_fingerprint_84 : decode cX9_fingerprint 84 = .ok (.i2l, 1) := by decide +kernel
theorem dX9_fingerprint_85 : decode cX9_fingerprint 85 = .ok (.ladd, 1) := by decide +kernel
theorem dX9_fingerprint_86 : decode cX9_fingerprint 86 = .ok (.lstore_n 1, 1) := by decide +kernel
theorem dX9_fingerprint_87 : decode cX9_fingerprint 87 = .ok (.ldc2_w 192, 3) := by decide +kernel
theorem dX9_fingerprint_90 : decode cX9_fingerprint 90 = .ok (.lload_n 1, 1) := by decide +kernel
theorem dX9_fingerprint_91 : decode cX9_fingerprint 91 = .ok (.lmul, 1) := by decide +kernel
theorem dX9_fingerprint_92 : decode cX9_fingerprint 92 = .ok (.aload_n 0, 1) := by decide +kernel
theorem dX9_fingerprint_93 : decode cX9_fingerprint 93 = .ok (.iload_n 3, 1) := by decide +kernel
theorem dX9_fingerprint_94 : decode cX9_fingerprint 94 = .ok (.iload 4, 2) := by decide +kernel
theorem dX9_fingerprint_96 : decode cX9_fingerprint 96 = .ok (.invokevirtual 85, 3) := by decide +kernel
theorem dX9_fingerprint_99 : decode cX9_fingerprint 99 = .ok (.i2l, 1) := by decide +kernel
theorem dX9_fingerprint_100 : decode cX9_fingerprint 100 = .ok (.ladd, 1) := by decide +kernel
theorem dX9_fingerprint_101 : decode cX9_fingerprint 101 = .ok (.lstore_n 1, 1) := by decide +kernel
theorem dX9_fingerprint_102 : decode cX9_fingerprint 102 = .ok (.iinc 4 1, 3) := by decide +kernel
theorem dX9_fingerprint_105 : decode cX9_fingerprint 105 = .ok (.goto (-39), 3) := by decide +kernel
theorem dX9_fingerprint_108 : decode cX9_fingerprint 108 = .ok (.ldc2_w 192, 3) := by decide +kernel
theorem dX9_fingerprint_111 : decode cX9_fingerprint 111 = .ok (.lload_n 1, 1) := by decide +kernel
theorem dX9_fingerprint_112 : decode cX9_fingerprint 112 = .ok (.lmul, 1) := by decide +kernel
theorem dX9_fingerprint_113 : decode cX9_fingerprint 113 = .ok (.aload_n 0, 1) := by decide +kernel
theorem dX9_fingerprint_114 : decode cX9_fingerprint 114 = .ok (.iload_n 3, 1) := by decide +kernel
theorem dX9_fingerprint_115 : decode cX9_fingerprint 115 = .ok (.invokevirtual 139, 3) := by decide +kernel
theorem dX9_fingerprint_118 : decode cX9_fingerprint 118 = .ok (.i2l, 1) := by decide +kernel
theorem dX9_fingerprint_119 : decode cX9_fingerprint 119 = .ok (.ladd, 1) := by decide +kernel
theorem dX9_fingerprint_120 : decode cX9_fingerprint 120 = .ok (.lstore_n 1, 1) := by decide +kernel
theorem dX9_fingerprint_121 : decode cX9_fingerprint 121 = .ok (.iconst 0, 1) := by decide +kernel
theorem dX9_fingerprint_122 : decode cX9_fingerprint 122 = .ok (.istore 4, 2) := by decide +kernel
theorem dX9_fingerprint_124 : decode cX9_fingerprint 124 = .ok (.iload 4, 2) := by decide +kernel
theorem dX9_fingerprint_126 : decode cX9_fingerprint 126 = .ok (.aload_n 0, 1) := by decide +kernel
theorem dX9_fingerprint_127 : decode cX9_fingerprint 127 = .ok (.getfield 34, 3) := by decide +kernel
theorem dX9_fingerprint_130 : decode cX9_fingerprint 130 = .ok (.if_icmp .ge 45, 3) := by decide +kernel
theorem dX9_fingerprint_133 : decode cX9_fingerprint 133 = .ok (.ldc2_w 192, 3) := by decide +kernel
theorem dX9_fingerprint_136 : decode cX9_fingerprint 136 = .ok (.lload_n 1, 1) := by decide +kernel
theorem dX9_fingerprint_137 : decode cX9_fingerprint 137 = .ok (.lmul, 1) := by decide +kernel
theorem dX9_fingerprint_138 : decode cX9_fingerprint 138 = .ok (.aload_n 0, 1) := by decide +kernel
theorem dX9_fingerprint_139 : decode cX9_fingerprint 139 = .ok (.getfield 7, 3) := by decide +kernel
theorem dX9_fingerprint_142 : decode cX9_fingerprint 142 = .ok (.iload_n 3, 1) := by decide +kernel
theorem dX9_fingerprint_143 : decode cX9_fingerprint 143 = .ok (.iload 4, 2) := by decide +kernel
theorem dX9_fingerprint_145 : decode cX9_fingerprint 145 = .ok (.invokestatic 52, 3) := by decide +kernel
theorem dX9_fingerprint_148 : decode cX9_fingerprint 148 = .ok (.iconst 0, 1) := by decide +kernel
theorem dX9_fingerprint_149 : decode cX9_fingerprint 149 = .ok (.iadd, 1) := by decide +kernel
theorem dX9_fingerprint_150 : decode cX9_fingerprint 150 = .ok (.iaload, 1) := by decide +kernel
theorem dX9_fingerprint_151 : decode cX9_fingerprint 151 = .ok (.i2l, 1) := by decide +kernel
theorem dX9_fingerprint_152 : decode cX9_fingerprint 152 = .ok (.ladd, 1) := by decide +kernel
theorem dX9_fingerprint_153 : decode cX9_fingerprint 153 = .ok (.lstore_n 1, 1) := by decide +kernel
theorem dX9_fingerprint_154 : decode cX9_fingerprint 154 = .ok (.ldc2_w 192, 3) := by decide +kernel
theorem dX9_fingerprint_157 : decode cX9_fingerprint 157 = .ok (.lload_n 1, 1) := by decide +kernel
theorem dX9_fingerprint_158 : decode cX9_fingerprint 158 = .ok (.lmul, 1) := by decide +kernel
theorem dX9_fingerprint_159 : decode cX9_fingerprint 159 = .ok (.aload_n 0, 1) := by decide +kernel
theorem dX9_fingerprint_160 : decode cX9_fingerprint 160 = .ok (.iload_n 3, 1) := by decide +kernel
theorem dX9_fingerprint_161 : decode cX9_fingerprint 161 = .ok (.iload 4, 2) := by decide +kernel
theorem dX9_fingerprint_163 : decode cX9_fingerprint 163 = .ok (.invokevirtual 63, 3) := by decide +kernel
theorem dX9_fingerprint_166 : decode cX9_fingerprint 166 = .ok (.i2l, 1) := by decide +kernel
theorem dX9_fingerprint_167 : decode cX9_fingerprint 167 = .ok (.ladd, 1) := by decide +kernel
theorem dX9_fingerprint_168 : decode cX9_fingerprint 168 = .ok (.lstore_n 1, 1) := by decide +kernel
theorem dX9_fingerprint_169 : decode cX9_fingerprint 169 = .ok (.iinc 4 1, 3) := by decide +kernel
theorem dX9_fingerprint_172 : decode cX9_fingerprint 172 = .ok (.goto (-48), 3) := by decide +kernel
theorem dX9_fingerprint_175 : decode cX9_fingerprint 175 = .ok (.iinc 3 1, 3) := by decide +kernel
theorem dX9_fingerprint_178 : decode cX9_fingerprint 178 = .ok (.goto (-123), 3) := by decide +kernel
theorem dX9_fingerprint_181 : decode cX9_fingerprint 181 = .ok (.iconst 0, 1) := by decide +kernel
theorem dX9_fingerprint_182 : decode cX9_fingerprint 182 = .ok (.istore_n 3, 1) := by decide +kernel
theorem dX9_fingerprint_183 : decode cX9_fingerprint 183 = .ok (.iload_n 3, 1) := by decide +kernel
theorem dX9_fingerprint_184 : decode cX9_fingerprint 184 = .ok (.aload_n 0, 1) := by decide +kernel
theorem dX9_fingerprint_185 : decode cX9_fingerprint 185 = .ok (.getfield 7, 3) := by decide +kernel
theorem dX9_fingerprint_188 : decode cX9_fingerprint 188 = .ok (.iconst 4, 1) := by decide +kernel
theorem dX9_fingerprint_189 : decode cX9_fingerprint 189 = .ok (.iaload, 1) := by decide +kernel
theorem dX9_fingerprint_190 : decode cX9_fingerprint 190 = .ok (.if_icmp .ge 40, 3) := by decide +kernel
theorem dX9_fingerprint_193 : decode cX9_fingerprint 193 = .ok (.iconst 5, 1) := by decide +kernel
theorem dX9_fingerprint_194 : decode cX9_fingerprint 194 = .ok (.istore 4, 2) := by decide +kernel
theorem dX9_fingerprint_196 : decode cX9_fingerprint 196 = .ok (.iload 4, 2) := by decide +kernel
theorem dX9_fingerprint_198 : decode cX9_fingerprint 198 = .ok (.bipush 8, 2) := by decide +kernel
theorem dX9_fingerprint_200 : decode cX9_fingerprint 200 = .ok (.if_icmp .ge 24, 3) := by decide +kernel
theorem dX9_fingerprint_203 : decode cX9_fingerprint 203 = .ok (.ldc2_w 192, 3) := by decide +kernel
theorem dX9_fingerprint_206 : decode cX9_fingerprint 206 = .ok (.lload_n 1, 1) := by decide +kernel
theorem dX9_fingerprint_207 : decode cX9_fingerprint 207 = .ok (.lmul, 1) := by decide +kernel
theorem dX9_fingerprint_208 : decode cX9_fingerprint 208 = .ok (.aload_n 0, 1) := by decide +kernel
theorem dX9_fingerprint_209 : decode cX9_fingerprint 209 = .ok (.iload_n 3, 1) := by decide +kernel
theorem dX9_fingerprint_210 : decode cX9_fingerprint 210 = .ok (.iload 4, 2) := by decide +kernel
theorem dX9_fingerprint_212 : decode cX9_fingerprint 212 = .ok (.invokevirtual 149, 3) := by decide +kernel
theorem dX9_fingerprint_215 : decode cX9_fingerprint 215 = .ok (.i2l, 1) := by decide +kernel
theorem dX9_fingerprint_216 : decode cX9_fingerprint 216 = .ok (.ladd, 1) := by decide +kernel
theorem dX9_fingerprint_217 : decode cX9_fingerprint 217 = .ok (.lstore_n 1, 1) := by decide +kernel
theorem dX9_fingerprint_218 : decode cX9_fingerprint 218 = .ok (.iinc 4 1, 3) := by decide +kernel
theorem dX9_fingerprint_221 : decode cX9_fingerprint 221 = .ok (.goto (-25), 3) := by decide +kernel
theorem dX9_fingerprint_224 : decode cX9_fingerprint 224 = .ok (.iinc 3 1, 3) := by decide +kernel
theorem dX9_fingerprint_227 : decode cX9_fingerprint 227 = .ok (.goto (-44), 3) := by decide +kernel
theorem dX9_fingerprint_230 : decode cX9_fingerprint 230 = .ok (.lload_n 1, 1) := by decide +kernel
theorem dX9_fingerprint_231 : decode cX9_fingerprint 231 = .ok (.lreturn, 1) := by decide +kernel

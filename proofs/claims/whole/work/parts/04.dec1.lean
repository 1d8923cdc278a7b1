theorem dX0_init_0 : decode cX0_init 0 = .ok (.aload_n 0, 1) := by decide +kernel
theorem dX0_init_1 : decode cX0_init 1 = .ok (.invokespecial 1, 3) := by decide +kernel
theorem dX0_init_4 : decode cX0_init 4 = .ok (.return_, 1) := by decide +kernel
theorem dX1_init_0 : decode cX1_init 0 = .ok (.aload_n 0, 1) := by decide +kernel
theorem dX1_init_1 : decode cX1_init 1 = .ok (.invokespecial 3, 3) := by decide +kernel
theorem dX1_init_4 : decode cX1_init 4 = .ok (.aload_n 0, 1) := by decide +kernel
theorem dX1_init_5 : decode cX1_init 5 = .ok (.bipush 6, 2) := by decide +kernel
theorem dX1_init_7 : decode cX1_init 7 = .ok (.anewarray 9, 3) := by decide +kernel
theorem dX1_init_10 : decode cX1_init 10 = .ok (.putfield 11, 3) := by decide +kernel
theorem dX1_init_13 : decode cX1_init 13 = .ok (.iconst 0, 1) := by decide +kernel
theorem dX1_init_14 : decode cX1_init 14 = .ok (.istore_n 2, 1) := by decide +kernel
theorem dX1_init_15 : decode cX1_init 15 = .ok (.iload_n 2, 1) := by decide +kernel
theorem dX1_init_16 : decode cX1_init 16 = .ok (.bipush 6, 2) := by decide +kernel
theorem dX1_init_18 : decode cX1_init 18 = .ok (.if_icmp .ge 23, 3) := by decide +kernel
theorem dX1_init_21 : decode cX1_init 21 = .ok (.aload_n 0, 1) := by decide +kernel
theorem dX1_init_22 : decode cX1_init 22 = .ok (.getfield 11, 3) := by decide +kernel
theorem dX1_init_25 : decode cX1_init 25 = .ok (.iload_n 2, 1) := by decide +kernel
theorem dX1_init_26 : decode cX1_init 26 = .ok (.new 9, 3) := by decide +kernel
theorem dX1_init_29 : decode cX1_init 29 = .ok (.dup, 1) := by decide +kernel
theorem dX1_init_30 : decode cX1_init 30 = .ok (.iload_n 1, 1) := by decide +kernel
theorem dX1_init_31 : decode cX1_init 31 = .ok (.invokespecial 17, 3) := by decide +kernel
theorem dX1_init_34 : decode cX1_init 34 = .ok (.aastore, 1) := by decide +kernel
theorem dX1_init_35 : decode cX1_init 35 = .ok (.iinc 2 1, 3) := by decide +kernel
theorem dX1_init_38 : decode cX1_init 38 = .ok (.goto (-23), 3) := by decide +kernel
theorem dX1_init_41 : decode cX1_init 41 = .ok (.return_, 1) := by decide +kernel
theorem dX1_forget_0 : decode cX1_forget 0 = .ok (.aload_n 0, 1) := by decide +kernel
theorem dX1_forget_1 : decode cX1_forget 1 = .ok (.iconst 0, 1) := by decide +kernel
theorem dX1_forget_2 : decode cX1_forget 2 = .ok (.putfield 20, 3) := by decide +kernel
theorem dX1_forget_5 : decode cX1_forget 5 = .ok (.aload_n 0, 1) := by decide +kernel
theorem dX1_forget_6 : decode cX1_forget 6 = .ok (.iconst 0, 1) := by decide +kernel
theorem dX1_forget_7 : decode cX1_forget 7 = .ok (.putfield 24, 3) := by decide +kernel
theorem dX1_forget_10 : decode cX1_forget 10 = .ok (.return_, 1) := by decide +kernel
theorem dX1_add_0 : decode cX1_add 0 = .ok (.aload_n 0, 1) := by decide +kernel
theorem dX1_add_1 : decode cX1_add 1 = .ok (.aload_n 0, 1) := by decide +kernel
theorem dX1_add_2 : decode cX1_add 2 = .ok (.getfield 24, 3) := by decide +kernel
theorem dX1_add_5 : decode cX1_add 5 = .ok (.invokevirtual 27, 3) := by decide +kernel
theorem dX1_add_8 : decode cX1_add 8 = .ok (.aload_n 1, 1) := by decide +kernel
theorem dX1_add_9 : decode cX1_add 9 = .ok (.invokevirtual 31, 3) := by decide +kernel
theorem dX1_add_12 : decode cX1_add 12 = .ok (.aload_n 0, 1) := by decide +kernel
theorem dX1_add_13 : decode cX1_add 13 = .ok (.invokevirtual 35, 3) := by decide +kernel
theorem dX1_add_16 : decode cX1_add 16 = .ok (.return_, 1) := by decide +kernel
theorem dX1_save_0 : decode cX1_save 0 = .ok (.aload_n 0, 1) := by decide +kernel
theorem dX1_save_1 : decode cX1_save 1 = .ok (.aload_n 0, 1) := by decide +kernel
theorem dX1_save_2 : decode cX1_save 2 = .ok (.getfield 24, 3) := by decide +kernel
theorem dX1_save_5 : decode cX1_save 5 = .ok (.invokevirtual 27, 3) := by decide +kernel
theorem dX1_save_8 : decode cX1_save 8 = .ok (.aload_n 1, 1) := by decide +kernel
theorem dX1_save_9 : decode cX1_save 9 = .ok (.invokevirtual 31, 3) := by decide +kernel
theorem dX1_save_12 : decode cX1_save 12 = .ok (.return_, 1) := by decide +kernel
theorem dX1_keep_0 : decode cX1_keep 0 = .ok (.aload_n 0, 1) := by decide +kernel
theorem dX1_keep_1 : decode cX1_keep 1 = .ok (.getfield 24, 3) := by decide +kernel
theorem dX1_keep_4 : decode cX1_keep 4 = .ok (.iconst 5, 1) := by decide +kernel
theorem dX1_keep_5 : decode cX1_keep 5 = .ok (.if_icmp .ge 16, 3) := by decide +kernel
theorem dX1_keep_8 : decode cX1_keep 8 = .ok (.aload_n 0, 1) := by decide +kernel
theorem dX1_keep_9 : decode cX1_keep 9 = .ok (.dup, 1) := by decide +kernel
theorem dX1_keep_10 : decode cX1_keep 10 = .ok (.getfield 24, 3) := by decide +kernel
theorem dX1_keep_13 : decode cX1_keep 13 = .ok (.iconst 1, 1) := by decide +kernel
theorem dX1_keep_14 : decode cX1_keep 14 = .ok (.iadd, 1) := by decide +kernel
theorem dX1_keep_15 : decode cX1_keep 15 = .ok (.putfield 24, 3) := by decide +kernel
theorem dX1_keep_18 : decode cX1_keep 18 = .ok (.goto 16, 3) := by decide +kernel
theorem dX1_keep_21 : decode cX1_keep 21 = .ok (.aload_n 0, 1) := by decide +kernel
theorem dX1_keep_22 : decode cX1_keep 22 = .ok (.aload_n 0, 1) := by decide +kernel
theorem dX1_keep_23 : decode cX1_keep 23 = .ok (.getfield 20, 3) := by decide +kernel
theorem dX1_keep_26 : decode cX1_keep 26 = .ok (.iconst 1, 1) := by decide +kernel
theorem dX1_keep_27 : decode cX1_keep 27 = .ok (.iadd, 1) := by decide +kernel
theorem dX1_keep_28 : decode cX1_keep 28 = .ok (.bipush 6, 2) := by decide +kernel
theorem dX1_keep_30 : decode cX1_keep 30 = .ok (.irem, 1) := by decide +kernel
theorem dX1_keep_31 : decode cX1_keep 31 = .ok (.putfield 20, 3) := by decide +kernel
theorem dX1_keep_34 : decode cX1_keep 34 = .ok (.return_, 1) := by decide +kernel
theorem dX1_bringBackSaved_0 : decode cX1_bringBackSaved 0 = .ok (.aload_n 1, 1) := by decide +kernel
theorem dX1_bringBackSaved_1 : decode cX1_bringBackSaved 1 = .ok (.aload_n 0, 1) := by decide +kernel
theorem dX1_bringBackSaved_2 : decode cX1_bringBackSaved 2 = .ok (.aload_n 0, 1) := by decide +kernel
theorem dX1_bringBackSaved_3 : decode cX1_bringBackSaved 3 = .ok (.getfield 24, 3) := by decide +kernel
theorem dX1_bringBackSaved_6 : decode cX1_bringBackSaved 6 = .ok (.invokevirtual 27, 3) := by decide +kernel
theorem dX1_bringBackSaved_9 : decode cX1_bringBackSaved 9 = .ok (.invokevirtual 31, 3) := by decide +kernel
theorem dX1_bringBackSaved_12 : decode cX1_bringBackSaved 12 = .ok (.return_, 1) := by decide +kernel
theorem dX1_bringBackLatest_0 : decode cX1_bringBackLatest 0 = .ok (.aload_n 0, 1) := by decide +kernel
theorem dX1_bringBackLatest_1 : decode cX1_bringBackLatest 1 = .ok (.dup, 1) := by decide +kernel
theorem dX1_bringBackLatest_2 : decode cX1_bringBackLatest 2 = .ok (.getfield 24, 3) := by decide +kernel
theorem dX1_bringBackLatest_5 : decode cX1_bringBackLatest 5 = .ok (.iconst 1, 1) := by decide +kernel
theorem dX1_bringBackLatest_6 : decode cX1_bringBackLatest 6 = .ok (.isub, 1) := by decide +kernel
theorem dX1_bringBackLatest_7 : decode cX1_bringBackLatest 7 = .ok (.putfield 24, 3) := by decide +kernel
theorem dX1_bringBackLatest_10 : decode cX1_bringBackLatest 10 = .ok (.aload_n 1, 1) := by decide +kernel
theorem dX1_bringBackLatest_11 : decode cX1_bringBackLatest 11 = .ok (.aload_n 0, 1) := by decide +kernel
theorem dX1_bringBackLatest_12 : decode cX1_bringBackLatest 12 = .ok (.aload_n 0, 1) := by decide +kernel
theorem dX1_bringBackLatest_13 : decode cX1_bringBackLatest 13 = .ok (.getfield 24, 3) := by decide +kernel
theorem dX1_bringBackLatest_16 : decode cX1_bringBackLatest 16 = .ok (.invokevirtual 27, 3) := by decide +kernel
theorem dX1_bringBackLatest_19 : decode cX1_bringBackLatest 19 = .ok (.invokevirtual 31, 3) := by decide +kernel
theorem dX1_bringBackLatest_22 : decode cX1_bringBackLatest 22 = .ok (.return_, 1) := by decide +kernel
theorem dX1_place_0 : decode cX1_place 0 = .ok (.aload_n 0, 1) := by decide +kernel
theorem dX1_place_1 : decode cX1_place 1 = .ok (.getfield 11, 3) := by decide +kernel
theorem dX1_place_4 : decode cX1_place 4 = .ok (.aload_n 0, 1) := by decide +kernel
theorem dX1_place_5 : decode cX1_place 5 = .ok (.getfield 20, 3) := by decide +kernel
theorem dX1_place_8 : decode cX1_place 8 = .ok (.iload_n 1, 1) := by decide +kernel
theorem dX1_place_9 : decode cX1_place 9 = .ok (.iadd, 1) := by decide +kernel
theorem dX1_place_10 : decode cX1_place 10 = .ok (.bipush 6, 2) := by decide +kernel
theorem dX1_place_12 : decode cX1_place 12 = .ok (.irem, 1) := by decide +kernel
theorem dX1_place_13 : decode cX1_place 13 = .ok (.aaload, 1) := by decide +kernel
theorem dX1_place_14 : decode cX1_place 14 = .ok (.areturn, 1) := by decide +kernel
theorem dX2_init_0 : decode cX2_init 0 = .ok (.aload_n 0, 1) := by decide +kernel
theorem dX2_init_1 : decode cX2_init 1 = .ok (.invokespecial 1, 3) := by decide +kernel
theorem dX2_init_4 : decode cX2_init 4 = .ok (.return_, 1) := by decide +kernel
theorem dX2_copyFrom_0 : decode cX2_copyFrom 0 = .ok (.aload_n 0, 1) := by decide +kernel
theorem dX2_copyFrom_1 : decode cX2_copyFrom 1 = .ok (.aload_n 1, 1) := by decide +kernel
theorem dX2_copyFrom_2 : decode cX2_copyFrom 2 = .ok (.getfield 7, 3) := by decide +kernel
theorem dX2_copyFrom_5 : decode cX2_copyFrom 5 = .ok (.putfield 7, 3) := by decide +kernel
theorem dX2_copyFrom_8 : decode cX2_copyFrom 8 = .ok (.aload_n 0, 1) := by decide +kernel
theorem dX2_copyFrom_9 : decode cX2_copyFrom 9 = .ok (.aload_n 1, 1) := by decide +kernel
theorem dX2_copyFrom_10 : decode cX2_copyFrom 10 = .ok (.getfield 13, 3) := by decide +kernel
theorem dX2_copyFrom_13 : decode cX2_copyFrom 13 = .ok (.putfield 13, 3) := by decide +kernel
theorem dX2_copyFrom_16 : decode cX2_copyFrom 16 = .ok (.aload_n 0, 1) := by decide +kernel
theorem dX2_copyFrom_17 : decode cX2_copyFrom 17 = .ok (.aload_n 1, 1) := by decide +kernel
theorem dX2_copyFrom_18 : decode cX2_copyFrom 18 = .ok (.getfield 16, 3) := by decide +kernel
theorem dX2_copyFrom_21 : decode cX2_copyFrom 21 = .ok (.putfield 16, 3) := by decide +kernel
theorem dX2_copyFrom_24 : decode cX2_copyFrom 24 = .ok (.aload_n 0, 1) := by decide +kernel
theorem dX2_copyFrom_25 : decode cX2_copyFrom 25 = .ok (.aload_n 1, 1) := by decide +kernel
theorem dX2_copyFrom_26 : decode cX2_copyFrom 26 = .ok (.getfield 19, 3) := by decide +kernel
theorem dX2_copyFrom_29 : decode cX2_copyFrom 29 = .ok (.putfield 19, 3) := by decide +kernel
theorem dX2_copyFrom_32 : decode cX2_copyFrom 32 = .ok (.aload_n 0, 1) := by decide +kernel
theorem dX2_copyFrom_33 : decode cX2_copyFrom 33 = .ok (.aload_n 1, 1) := by decide +kernel
theorem dX2_copyFrom_34 : decode cX2_copyFrom 34 = .ok (.getfield 22, 3) := by decide +kernel
theorem dX2_copyFrom_37 : decode cX2_copyFrom 37 = .ok (.putfield 22, 3) := by decide +kernel
theorem dX2_copyFrom_40 : decode cX2_copyFrom 40 = .ok (.return_, 1) := by decide +kernel
theorem dX3_init_0 : decode cX3_init 0 = .ok (.aload_n 0, 1) := by decide +kernel
theorem dX3_init_1 : decode cX3_init 1 = .ok (.invokespecial 1, 3) := by decide +kernel
theorem dX3_init_4 : decode cX3_init 4 = .ok (.aload_n 0, 1) := by decide +kernel
theorem dX3_init_5 : decode cX3_init 5 = .ok (.new 7, 3) := by decide +kernel
theorem dX3_init_8 : decode cX3_init 8 = .ok (.dup, 1) := by decide +kernel
theorem dX3_init_9 : decode cX3_init 9 = .ok (.iload_n 1, 1) := by decide +kernel
theorem dX3_init_10 : decode cX3_init 10 = .ok (.invokespecial 9, 3) := by decide +kernel
theorem dX3_init_13 : decode cX3_init 13 = .ok (.putfield 12, 3) := by decide +kernel
theorem dX3_init_16 : decode cX3_init 16 = .ok (.return_, 1) := by decide +kernel
theorem dX3_copyFrom_0 : decode cX3_copyFrom 0 = .ok (.aload_n 0, 1) := by decide +kernel
theorem dX3_copyFrom_1 : decode cX3_copyFrom 1 = .ok (.aload_n 1, 1) := by decide +kernel
theorem dX3_copyFrom_2 : decode cX3_copyFrom 2 = .ok (.getfield 18, 3) := by decide +kernel
theorem dX3_copyFrom_5 : decode cX3_copyFrom 5 = .ok (.putfield 18, 3) := by decide +kernel
theorem dX3_copyFrom_8 : decode cX3_copyFrom 8 = .ok (.aload_n 0, 1) := by decide +kernel
theorem dX3_copyFrom_9 : decode cX3_copyFrom 9 = .ok (.aload_n 1, 1) := by decide +kernel
theorem dX3_copyFrom_10 : decode cX3_copyFrom 10 = .ok (.getfield 22, 3) := by decide +kernel
theorem dX3_copyFrom_13 : decode cX3_copyFrom 13 = .ok (.putfield 22, 3) := by decide +kernel
theorem dX3_copyFrom_16 : decode cX3_copyFrom 16 = .ok (.aload_n 0, 1) := by decide +kernel
theorem dX3_copyFrom_17 : decode cX3_copyFrom 17 = .ok (.aload_n 1, 1) := by decide +kernel
theorem dX3_copyFrom_18 : decode cX3_copyFrom 18 = .ok (.getfield 25, 3) := by decide +kernel
theorem dX3_copyFrom_21 : decode cX3_copyFrom 21 = .ok (.putfield 25, 3) := by decide +kernel
theorem dX3_copyFrom_24 : decode cX3_copyFrom 24 = .ok (.aload_n 0, 1) := by decide +kernel
theorem dX3_copyFrom_25 : decode cX3_copyFrom 25 = .ok (.getfield 12, 3) := by decide +kernel
theorem dX3_copyFrom_28 : decode cX3_copyFrom 28 = .ok (.aload_n 1, 1) := by decide +kernel
theorem dX3_copyFrom_29 : decode cX3_copyFrom 29 = .ok (.getfield 12, 3) := by decide +kernel
theorem dX3_copyFrom_32 : decode cX3_copyFrom 32 = .ok (.invokevirtual 28, 3) := by decide +kernel
theorem dX3_copyFrom_35 : decode cX3_copyFrom 35 = .ok (.return_, 1) := by decide +kernel
theorem dX3_fact_0 : decode cX3_fact 0 = .ok (.iload_n 1, 1) := by decide +kernel
theorem dX3_fact_1 : decode cX3_fact 1 = .ok (.lookupswitch 37 #[(0, 27), (1, 32)], 27) := by decide +kernel
theorem dX3_fact_28 : decode cX3_fact 28 = .ok (.aload_n 0, 1) := by decide +kernel
theorem dX3_fact_29 : decode cX3_fact 29 = .ok (.getfield 18, 3) := by decide +kernel
theorem dX3_fact_32 : decode cX3_fact 32 = .ok (.ireturn, 1) := by decide +kernel
theorem dX3_fact_33 : decode cX3_fact 33 = .ok (.aload_n 0, 1) := by decide +kernel
theorem dX3_fact_34 : decode cX3_fact 34 = .ok (.getfield 22, 3) := by decide +kernel
theorem dX3_fact_37 : decode cX3_fact 37 = .ok (.ireturn, 1) := by decide +kernel
theorem dX3_fact_38 : decode cX3_fact 38 = .ok (.aload_n 0, 1) := by decide +kernel
theorem dX3_fact_39 : decode cX3_fact 39 = .ok (.getfield 25, 3) := by decide +kernel
theorem dX3_fact_42 : decode cX3_fact 42 = .ok (.ireturn, 1) := by decide +kernel
theorem dX4_init_0 : decode cX4_init 0 = .ok (.aload_n 0, 1) := by decide +kernel
theorem dX4_init_1 : decode cX4_init 1 = .ok (.invokespecial 3, 3) := by decide +kernel
theorem dX4_init_4 : decode cX4_init 4 = .ok (.aload_n 0, 1) := by decide +kernel
theorem dX4_init_5 : decode cX4_init 5 = .ok (.bipush 60, 2) := by decide +kernel
theorem dX4_init_7 : decode cX4_init 7 = .ok (.newarray .int, 2) := by decide +kernel
theorem dX4_init_9 : decode cX4_init 9 = .ok (.putfield 9, 3) := by decide +kernel
theorem dX4_init_12 : decode cX4_init 12 = .ok (.aload_n 0, 1) := by decide +kernel
theorem dX4_init_13 : decode cX4_init 13 = .ok (.bipush 30, 2) := by decide +kernel
theorem dX4_init_15 : decode cX4_init 15 = .ok (.anewarray 15, 3) := by decide +kernel
theorem dX4_init_18 : decode cX4_init 18 = .ok (.putfield 17, 3) := by decide +kernel
theorem dX4_init_21 : decode cX4_init 21 = .ok (.iconst 0, 1) := by decide +kernel
theorem dX4_init_22 : decode cX4_init 22 = .ok (.istore_n 1, 1) := by decide +kernel
theorem dX4_init_23 : decode cX4_init 23 = .ok (.iload_n 1, 1) := by decide +kernel
theorem dX4_init_24 : decode cX4_init 24 = .ok (.bipush 30, 2) := by decide +kernel
theorem dX4_init_26 : decode cX4_init 26 = .ok (.if_icmp .ge 22, 3) := by decide +kernel
theorem dX4_init_29 : decode cX4_init 29 = .ok (.aload_n 0, 1) := by decide +kernel
theorem dX4_init_30 : decode cX4_init 30 = .ok (.getfield 17, 3) := by decide +kernel
theorem dX4_init_33 : decode cX4_init 33 = .ok (.iload_n 1, 1) := by decide +kernel
theorem dX4_init_34 : decode cX4_init 34 = .ok (.new 15, 3) := by decide +kernel
theorem dX4_init_37 : decode cX4_init 37 = .ok (.dup, 1) := by decide +kernel
theorem dX4_init_38 : decode cX4_init 38 = .ok (.invokespecial 21, 3) := by decide +kernel
theorem dX4_init_41 : decode cX4_init 41 = .ok (.aastore, 1) := by decide +kernel
theorem dX4_init_42 : decode cX4_init 42 = .ok (.iinc 1 1, 3) := by decide +kernel
theorem dX4_init_45 : decode cX4_init 45 = .ok (.goto (-22), 3) := by decide +kernel
theorem dX4_init_48 : decode cX4_init 48 = .ok (.return_, 1) := by decide +kernel
theorem dX4_append_0 : decode cX4_append 0 = .ok (.aload_n 0, 1) := by decide +kernel
theorem dX4_append_1 : decode cX4_append 1 = .ok (.getfield 9, 3) := by decide +kernel
theorem dX4_append_4 : decode cX4_append 4 = .ok (.aload_n 0, 1) := by decide +kernel
theorem dX4_append_5 : decode cX4_append 5 = .ok (.getfield 22, 3) := by decide +kernel
theorem dX4_append_8 : decode cX4_append 8 = .ok (.iload_n 1, 1) := by decide +kernel
theorem dX4_append_9 : decode cX4_append 9 = .ok (.iastore, 1) := by decide +kernel
theorem dX4_append_10 : decode cX4_append 10 = .ok (.aload_n 0, 1) := by decide +kernel
theorem dX4_append_11 : decode cX4_append 11 = .ok (.dup, 1) := by decide +kernel
theorem dX4_append_12 : decode cX4_append 12 = .ok (.getfield 22, 3) := by decide +kernel
theorem dX4_append_15 : decode cX4_append 15 = .ok (.iconst 1, 1) := by decide +kernel
theorem dX4_append_16 : decode cX4_append 16 = .ok (.iadd, 1) := by decide +kernel
theorem dX4_append_17 : decode cX4_append 17 = .ok (.putfield 22, 3) := by decide +kernel
theorem dX4_append_20 : decode cX4_append 20 = .ok (.return_, 1) := by decide +kernel
theorem dX4_read_0 : decode cX4_read 0 = .ok (.aload_n 0, 1) := by decide +kernel
theorem dX4_read_1 : decode cX4_read 1 = .ok (.iconst 0, 1) := by decide +kernel
theorem dX4_read_2 : decode cX4_read 2 = .ok (.putfield 26, 3) := by decide +kernel
theorem dX4_read_5 : decode cX4_read 5 = .ok (.aload_n 0, 1) := by decide +kernel
theorem dX4_read_6 : decode cX4_read 6 = .ok (.iconst 0, 1) := by decide +kernel
theorem dX4_read_7 : decode cX4_read 7 = .ok (.putfield 29, 3) := by decide +kernel
theorem dX4_read_10 : decode cX4_read 10 = .ok (.aload_n 0, 1) := by decide +kernel
theorem dX4_read_11 : decode cX4_read 11 = .ok (.getfield 29, 3) := by decide +kernel
theorem dX4_read_14 : decode cX4_read 14 = .ok (.bipush 30, 2) := by decide +kernel
theorem dX4_read_16 : decode cX4_read 16 = .ok (.if_icmp .ge 61, 3) := by decide +kernel
theorem dX4_read_19 : decode cX4_read 19 = .ok (.aload_n 0, 1) := by decide +kernel
theorem dX4_read_20 : decode cX4_read 20 = .ok (.aload_n 0, 1) := by decide +kernel
theorem dX4_read_21 : decode cX4_read 21 = .ok (.getfield 17, 3) := by decide +kernel
theorem dX4_read_24 : decode cX4_read 24 = .ok (.aload_n 0, 1) := by decide +kernel
theorem dX4_read_25 : decode cX4_read 25 = .ok (.getfield 29, 3) := by decide +kernel
theorem dX4_read_28 : decode cX4_read 28 = .ok (.aaload, 1) := by decide +kernel
theorem dX4_read_29 : decode cX4_read 29 = .ok (.invokevirtual 32, 3) := by decide +kernel
theorem dX4_read_32 : decode cX4_read 32 = .ok (.ifCond .ne 8, 3) := by decide +kernel
theorem dX4_read_35 : decode cX4_read 35 = .ok (.aload_n 0, 1) := by decide +kernel
theorem dX4_read_36 : decode cX4_read 36 = .ok (.getfield 26, 3) := by decide +kernel
theorem dX4_read_39 : decode cX4_read 39 = .ok (.ireturn, 1) := by decide +kernel
theorem dX4_read_40 : decode cX4_read 40 = .ok (.aload_n 0, 1) := by decide +kernel
theorem dX4_read_41 : decode cX4_read 41 = .ok (.dup, 1) := by decide +kernel
theorem dX4_read_42 : decode cX4_read 42 = .ok (.getfield 29, 3) := by decide +kernel
theorem dX4_read_45 : decode cX4_read 45 = .ok (.iconst 1, 1) := by decide +kernel
theorem dX4_read_46 : decode cX4_read 46 = .ok (.iadd, 1) := by decide +kernel
theorem dX4_read_47 : decode cX4_read 47 = .ok (.putfield 29, 3) := by decide +kernel
theorem dX4_read_50 : decode cX4_read 50 = .ok (.aload_n 0, 1) := by decide +kernel
theorem dX4_read_51 : decode cX4_read 51 = .ok (.getfield 26, 3) := by decide +kernel
theorem dX4_read_54 : decode cX4_read 54 = .ok (.aload_n 0, 1) := by decide +kernel
theorem dX4_read_55 : decode cX4_read 55 = .ok (.getfield 22, 3) := by decide +kernel
theorem dX4_read_58 : decode cX4_read 58 = .ok (.if_icmp .lt 5, 3) := by decide +kernel
theorem dX4_read_61 : decode cX4_read 61 = .ok (.iconst (-1), 1) := by decide +kernel
theorem dX4_read_62 : decode cX4_read 62 = .ok (.ireturn, 1) := by decide +kernel
theorem dX4_read_63 : decode cX4_read 63 = .ok (.aload_n 0, 1) := by decide +kernel
theorem dX4_read_64 : decode cX4_read 64 = .ok (.bipush 59, 2) := by decide +kernel
theorem dX4_read_66 : decode cX4_read 66 = .ok (.invokevirtual 36, 3) := by decide +kernel
theorem dX4_read_69 : decode cX4_read 69 = .ok (.ifCond .ne (-59), 3) := by decide +kernel
theorem dX4_read_72 : decode cX4_read 72 = .ok (.aload_n 0, 1) := by decide +kernel
theorem dX4_read_73 : decode cX4_read 73 = .ok (.getfield 26, 3) := by decide +kernel
theorem dX4_read_76 : decode cX4_read 76 = .ok (.ireturn, 1) := by decide +kernel
theorem dX4_read_77 : decode cX4_read 77 = .ok (.aload_n 0, 1) := by decide +kernel
theorem dX4_read_78 : decode cX4_read 78 = .ok (.getfield 26, 3) := by decide +kernel
theorem dX4_read_81 : decode cX4_read 81 = .ok (.ireturn, 1) := by decide +kernel
theorem dX4_readCommand_0 : decode cX4_readCommand 0 = .ok (.aload_n 0, 1) := by decide +kernel
theorem dX4_readCommand_1 : decode cX4_readCommand 1 = .ok (.getfield 26, 3) := by decide +kernel
theorem dX4_readCommand_4 : decode cX4_readCommand 4 = .ok (.aload_n 0, 1) := by decide +kernel
theorem dX4_readCommand_5 : decode cX4_readCommand 5 = .ok (.getfield 22, 3) := by decide +kernel
theorem dX4_readCommand_8 : decode cX4_readCommand 8 = .ok (.if_icmp .lt 5, 3) := by decide +kernel
theorem dX4_readCommand_11 : decode cX4_readCommand 11 = .ok (.iconst 0, 1) := by decide +kernel
theorem dX4_readCommand_12 : decode cX4_readCommand 12 = .ok (.ireturn, 1) := by decide +kernel
theorem dX4_readCommand_13 : decode cX4_readCommand 13 = .ok (.aload_n 1, 1) := by decide +kernel
theorem dX4_readCommand_14 : decode cX4_readCommand 14 = .ok (.aload_n 0, 1) := by decide +kernel
theorem dX4_readCommand_15 : decode cX4_readCommand 15 = .ok (.getfield 9, 3) := by decide +kernel
theorem dX4_readCommand_18 : decode cX4_readCommand 18 = .ok (.aload_n 0, 1) := by decide +kernel
theorem dX4_readCommand_19 : decode cX4_readCommand 19 = .ok (.getfield 26, 3) := by decide +kernel
theorem dX4_readCommand_22 : decode cX4_readCommand 22 = .ok (.iaload, 1) := by decide +kernel
theorem dX4_readCommand_23 : decode cX4_readCommand 23 = .ok (.putfield 40, 3) := by decide +kernel
theorem dX4_readCommand_26 : decode cX4_readCommand 26 = .ok (.aload_n 1, 1) := by decide +kernel
theorem dX4_readCommand_27 : decode cX4_readCommand 27 = .ok (.getfield 40, 3) := by decide +kernel
theorem dX4_readCommand_30 : decode cX4_readCommand 30 = .ok (.lookupswitch 177 #[(43, 58), (45, 58), (100, 93), (109, 136), (116, 169), (117, 93)], 58) := by decide +kernel
theorem dX4_readCommand_88 : decode cX4_readCommand 88 = .ok (.aload_n 0, 1) := by decide +kernel
theorem dX4_readCommand_89 : decode cX4_readCommand 89 = .ok (.aload_n 1, 1) := by decide +kernel
theorem dX4_readCommand_90 : decode cX4_readCommand 90 = .ok (.getfield 40, 3) := by decide +kernel
theorem dX4_readCommand_93 : decode cX4_readCommand 93 = .ok (.invokevirtual 36, 3) := by decide +kernel
theorem dX4_readCommand_96 : decode cX4_readCommand 96 = .ok (.ifCond .eq 25, 3) := by decide +kernel
theorem dX4_readCommand_99 : decode cX4_readCommand 99 = .ok (.aload_n 0, 1) := by decide +kernel
theorem dX4_readCommand_100 : decode cX4_readCommand 100 = .ok (.aload_n 1, 1) := by decide +kernel
theorem dX4_readCommand_101 : decode cX4_readCommand 101 = .ok (.invokevirtual 43, 3) := by decide +kernel
theorem dX4_readCommand_104 : decode cX4_readCommand 104 = .ok (.ifCond .eq 17, 3) := by decide +kernel
theorem dX4_readCommand_107 : decode cX4_readCommand 107 = .ok (.aload_n 0, 1) := by decide +kernel
theorem dX4_readCommand_108 : decode cX4_readCommand 108 = .ok (.bipush 58, 2) := by decide +kernel
theorem dX4_readCommand_110 : decode cX4_readCommand 110 = .ok (.aload_n 1, 1) := by decide +kernel
theorem dX4_readCommand_111 : decode cX4_readCommand 111 = .ok (.invokevirtual 46, 3) := by decide +kernel
theorem dX4_readCommand_114 : decode cX4_readCommand 114 = .ok (.ifCond .eq 7, 3) := by decide +kernel
theorem dX4_readCommand_117 : decode cX4_readCommand 117 = .ok (.iconst 1, 1) := by decide +kernel
theorem dX4_readCommand_118 : decode cX4_readCommand 118 = .ok (.goto 4, 3) := by decide +kernel
theorem dX4_readCommand_121 : decode cX4_readCommand 121 = .ok (.iconst 0, 1) := by decide +kernel
theorem dX4_readCommand_122 : decode cX4_readCommand 122 = .ok (.ireturn, 1) := by decide +kernel
theorem dX4_readCommand_123 : decode cX4_readCommand 123 = .ok (.aload_n 0, 1) := by decide +kernel
theorem dX4_readCommand_124 : decode cX4_readCommand 124 = .ok (.aload_n 1, 1) := by decide +kernel
theorem dX4_readCommand_125 : decode cX4_readCommand 125 = .ok (.getfield 40, 3) := by decide +kernel
theorem dX4_readCommand_128 : decode cX4_readCommand 128 = .ok (.invokevirtual 36, 3) := by decide +kernel
theorem dX4_readCommand_131 : decode cX4_readCommand 131 = .ok (.ifCond .eq 33, 3) := by decide +kernel
theorem dX4_readCommand_134 : decode cX4_readCommand 134 = .ok (.aload_n 0, 1) := by decide +kernel
theorem dX4_readCommand_135 : decode cX4_readCommand 135 = .ok (.aload_n 1, 1) := by decide +kernel
theorem dX4_readCommand_136 : decode cX4_readCommand 136 = .ok (.invokevirtual 43, 3) := by decide +kernel
theorem dX4_readCommand_139 : decode cX4_readCommand 139 = .ok (.ifCond .eq 25, 3) := by decide +kernel
theorem dX4_readCommand_142 : decode cX4_readCommand 142 = .ok (.aload_n 0, 1) := by decide +kernel
theorem dX4_readCommand_143 : decode cX4_readCommand 143 = .ok (.aload_n 1, 1) := by decide +kernel
theorem dX4_readCommand_144 : decode cX4_readCommand 144 = .ok (.invokevirtual 50, 3) := by decide +kernel
theorem dX4_readCommand_147 : decode cX4_readCommand 147 = .ok (.ifCond .eq 17, 3) := by decide +kernel
theorem dX4_readCommand_150 : decode cX4_readCommand 150 = .ok (.aload_n 0, 1) := by decide +kernel
theorem dX4_readCommand_151 : decode cX4_readCommand 151 = .ok (.bipush 58, 2) := by decide +kernel
theorem dX4_readCommand_153 : decode cX4_readCommand 153 = .ok (.aload_n 1, 1) := by decide +kernel
theorem dX4_readCommand_154 : decode cX4_readCommand 154 = .ok (.invokevirtual 46, 3) := by decide +kernel
theorem dX4_readCommand_157 : decode cX4_readCommand 157 = .ok (.ifCond .eq 7, 3) := by decide +kernel
theorem dX4_readCommand_160 : decode cX4_readCommand 160 = .ok (.iconst 1, 1) := by decide +kernel
theorem dX4_readCommand_161 : decode cX4_readCommand 161 = .ok (.goto 4, 3) := by decide +kernel
theorem dX4_readCommand_164 : decode cX4_readCommand 164 = .ok (.iconst 0, 1) := by decide +kernel
theorem dX4_readCommand_165 : decode cX4_readCommand 165 = .ok (.ireturn, 1) := by decide +kernel
theorem dX4_readCommand_166 : decode cX4_readCommand 166 = .ok (.aload_n 0, 1) := by decide +kernel
theorem dX4_readCommand_167 : decode cX4_readCommand 167 = .ok (.aload_n 1, 1) := by decide +kernel
theorem dX4_readCommand_168 : decode cX4_readCommand 168 = .ok (.getfield 40, 3) := by decide +kernel
theorem dX4_readCommand_171 : decode cX4_readCommand 171 = .ok (.invokevirtual 36, 3) := by decide +kernel
theorem dX4_readCommand_174 : decode cX4_readCommand 174 = .ok (.ifCond .eq 23, 3) := by decide +kernel
theorem dX4_readCommand_177 : decode cX4_readCommand 177 = .ok (.aload_n 0, 1) := by decide +kernel
theorem dX4_readCommand_178 : decode cX4_readCommand 178 = .ok (.aload_n 1, 1) := by decide +kernel
theorem dX4_readCommand_179 : decode cX4_readCommand 179 = .ok (.invokevirtual 43, 3) := by decide +kernel
theorem dX4_readCommand_182 : decode cX4_readCommand 182 = .ok (.ifCond .eq 15, 3) := by decide +kernel
theorem dX4_readCommand_185 : decode cX4_readCommand 185 = .ok (.aload_n 0, 1) := by decide +kernel
theorem dX4_readCommand_186 : decode cX4_readCommand 186 = .ok (.aload_n 1, 1) := by decide +kernel
theorem dX4_readCommand_187 : decode cX4_readCommand 187 = .ok (.invokevirtual 50, 3) := by decide +kernel
theorem dX4_readCommand_190 : decode cX4_readCommand 190 = .ok (.ifCond .eq 7, 3) := by decide +kernel
theorem dX4_readCommand_193 : decode cX4_readCommand 193 = .ok (.iconst 1, 1) := by decide +kernel
theorem dX4_readCommand_194 : decode cX4_readCommand 194 = .ok (.goto 4, 3) := by decide +kernel
theorem dX4_readCommand_197 : decode cX4_readCommand 197 = .ok (.iconst 0, 1) := by decide +kernel
theorem dX4_readCommand_198 : decode cX4_readCommand 198 = .ok (.ireturn, 1) := by decide +kernel
theorem dX4_readCommand_199 : decode cX4_readCommand 199 = .ok (.aload_n 0, 1) := by decide +kernel
theorem dX4_readCommand_200 : decode cX4_readCommand 200 = .ok (.bipush 116, 2) := by decide +kernel
theorem dX4_readCommand_202 : decode cX4_readCommand 202 = .ok (.aload_n 1, 1) := by decide +kernel
theorem dX4_readCommand_203 : decode cX4_readCommand 203 = .ok (.invokevirtual 46, 3) := by decide +kernel
theorem dX4_readCommand_206 : decode cX4_readCommand 206 = .ok (.ireturn, 1) := by decide +kernel
theorem dX4_readCommand_207 : decode cX4_readCommand 207 = .ok (.iconst 0, 1) := by decide +kernel
theorem dX4_readCommand_208 : decode cX4_readCommand 208 = .ok (.ireturn, 1) := by decide +kernel
theorem dX4_readSite_0 : decode cX4_readSite 0 = .ok (.aload_n 0, 1) := by decide +kernel
theorem dX4_readSite_1 : decode cX4_readSite 1 = .ok (.invokevirtual 53, 3) := by decide +kernel
theorem dX4_readSite_4 : decode cX4_readSite 4 = .ok (.ifCond .ne 5, 3) := by decide +kernel
theorem dX4_readSite_7 : decode cX4_readSite 7 = .ok (.iconst 0, 1) := by decide +kernel
theorem dX4_readSite_8 : decode cX4_readSite 8 = .ok (.ireturn, 1) := by decide +kernel
theorem dX4_readSite_9 : decode cX4_readSite 9 = .ok (.aload_n 1, 1) := by decide +kernel
theorem dX4_readSite_10 : decode cX4_readSite 10 = .ok (.aload_n 0, 1) := by decide +kernel
theorem dX4_readSite_11 : decode cX4_readSite 11 = .ok (.invokevirtual 57, 3) := by decide +kernel
theorem dX4_readSite_14 : decode cX4_readSite 14 = .ok (.putfield 61, 3) := by decide +kernel
theorem dX4_readSite_17 : decode cX4_readSite 17 = .ok (.iconst 1, 1) := by decide +kernel
theorem dX4_readSite_18 : decode cX4_readSite 18 = .ok (.ireturn, 1) := by decide +kernel
theorem dX4_readSecondSite_0 : decode cX4_readSecondSite 0 = .ok (.aload_n 0, 1) := by decide +kernel
theorem dX4_readSecondSite_1 : decode cX4_readSecondSite 1 = .ok (.bipush 62, 2) := by decide +kernel
theorem dX4_readSecondSite_3 : decode cX4_readSecondSite 3 = .ok (.invokevirtual 36, 3) := by decide +kernel
theorem dX4_readSecondSite_6 : decode cX4_readSecondSite 6 = .ok (.ifCond .eq 10, 3) := by decide +kernel
theorem dX4_readSecondSite_9 : decode cX4_readSecondSite 9 = .ok (.aload_n 0, 1) := by decide +kernel
theorem dX4_readSecondSite_10 : decode cX4_readSecondSite 10 = .ok (.invokevirtual 53, 3) := by decide +kernel
theorem dX4_readSecondSite_13 : decode cX4_readSecondSite 13 = .ok (.ifCond .ne 5, 3) := by decide +kernel
theorem dX4_readSecondSite_16 : decode cX4_readSecondSite 16 = .ok (.iconst 0, 1) := by decide +kernel
theorem dX4_readSecondSite_17 : decode cX4_readSecondSite 17 = .ok (.ireturn, 1) := by decide +kernel
theorem dX4_readSecondSite_18 : decode cX4_readSecondSite 18 = .ok (.aload_n 1, 1) := by decide +kernel
theorem dX4_readSecondSite_19 : decode cX4_readSecondSite 19 = .ok (.aload_n 0, 1) := by decide +kernel
theorem dX4_readSecondSite_20 : decode cX4_readSecondSite 20 = .ok (.invokevirtual 57, 3) := by decide +kernel
theorem dX4_readSecondSite_23 : decode cX4_readSecondSite 23 = .ok (.putfield 64, 3) := by decide +kernel
theorem dX4_readSecondSite_26 : decode cX4_readSecondSite 26 = .ok (.iconst 1, 1) := by decide +kernel
theorem dX4_readSecondSite_27 : decode cX4_readSecondSite 27 = .ok (.ireturn, 1) := by decide +kernel
theorem dX4_readNumberBehind_0 : decode cX4_readNumberBehind 0 = .ok (.aload_n 0, 1) := by decide +kernel
theorem dX4_readNumberBehind_1 : decode cX4_readNumberBehind 1 = .ok (.iload_n 1, 1) := by decide +kernel
theorem dX4_readNumberBehind_2 : decode cX4_readNumberBehind 2 = .ok (.invokevirtual 36, 3) := by decide +kernel
theorem dX4_readNumberBehind_5 : decode cX4_readNumberBehind 5 = .ok (.ifCond .ne 5, 3) := by decide +kernel
theorem dX4_readNumberBehind_8 : decode cX4_readNumberBehind 8 = .ok (.iconst 0, 1) := by decide +kernel
theorem dX4_readNumberBehind_9 : decode cX4_readNumberBehind 9 = .ok (.ireturn, 1) := by decide +kernel
theorem dX4_readNumberBehind_10 : decode cX4_readNumberBehind 10 = .ok (.iconst 0, 1) := by decide +kernel
theorem dX4_readNumberBehind_11 : decode cX4_readNumberBehind 11 = .ok (.istore_n 3, 1) := by decide +kernel
theorem dX4_readNumberBehind_12 : decode cX4_readNumberBehind 12 = .ok (.aload_n 2, 1) := by decide +kernel
theorem dX4_readNumberBehind_13 : decode cX4_readNumberBehind 13 = .ok (.iconst 0, 1) := by decide +kernel
theorem dX4_readNumberBehind_14 : decode cX4_readNumberBehind 14 = .ok (.putfield 67, 3) := by decide +kernel
theorem dX4_readNumberBehind_17 : decode cX4_readNumberBehind 17 = .ok (.iload_n 3, 1) := by decide +kernel
theorem dX4_readNumberBehind_18 : decode cX4_readNumberBehind 18 = .ok (.iconst 3, 1) := by decide +kernel
theorem dX4_readNumberBehind_19 : decode cX4_readNumberBehind 19 = .ok (.if_icmp .ge 32, 3) := by decide +kernel
theorem dX4_readNumberBehind_22 : decode cX4_readNumberBehind 22 = .ok (.aload_n 0, 1) := by decide +kernel
theorem dX4_readNumberBehind_23 : decode cX4_readNumberBehind 23 = .ok (.invokevirtual 53, 3) := by decide +kernel
theorem dX4_readNumberBehind_26 : decode cX4_readNumberBehind 26 = .ok (.ifCond .eq 25, 3) := by decide +kernel
theorem dX4_readNumberBehind_29 : decode cX4_readNumberBehind 29 = .ok (.aload_n 2, 1) := by decide +kernel
theorem dX4_readNumberBehind_30 : decode cX4_readNumberBehind 30 = .ok (.aload_n 2, 1) := by decide +kernel
theorem dX4_readNumberBehind_31 : decode cX4_readNumberBehind 31 = .ok (.getfield 67, 3) := by decide +kernel
theorem dX4_readNumberBehind_34 : decode cX4_readNumberBehind 34 = .ok (.bipush 10, 2) := by decide +kernel
theorem dX4_readNumberBehind_36 : decode cX4_readNumberBehind 36 = .ok (.imul, 1) := by decide +kernel
theorem dX4_readNumberBehind_37 : decode cX4_readNumberBehind 37 = .ok (.aload_n 0, 1) := by decide +kernel
theorem dX4_readNumberBehind_38 : decode cX4_readNumberBehind 38 = .ok (.invokevirtual 57, 3) := by decide +kernel
theorem dX4_readNumberBehind_41 : decode cX4_readNumberBehind 41 = .ok (.iadd, 1) := by decide +kernel
theorem dX4_readNumberBehind_42 : decode cX4_readNumberBehind 42 = .ok (.putfield 67, 3) := by decide +kernel
theorem dX4_readNumberBehind_45 : decode cX4_readNumberBehind 45 = .ok (.iinc 3 1, 3) := by decide +kernel
theorem dX4_readNumberBehind_48 : decode cX4_readNumberBehind 48 = .ok (.goto (-31), 3) := by decide +kernel
theorem dX4_readNumberBehind_51 : decode cX4_readNumberBehind 51 = .ok (.iload_n 3, 1) := by decide +kernel
theorem dX4_readNumberBehind_52 : decode cX4_readNumberBehind 52 = .ok (.ifCond .le 7, 3) := by decide +kernel
theorem dX4_readNumberBehind_55 : decode cX4_readNumberBehind 55 = .ok (.iconst 1, 1) := by decide +kernel
theorem dX4_readNumberBehind_56 : decode cX4_readNumberBehind 56 = .ok (.goto 4, 3) := by decide +kernel
theorem dX4_readNumberBehind_59 : decode cX4_readNumberBehind 59 = .ok (.iconst 0, 1) := by decide +kernel
theorem dX4_readNumberBehind_60 : decode cX4_readNumberBehind 60 = .ok (.ireturn, 1) := by decide +kernel
theorem dX4_readSign_0 : decode cX4_readSign 0 = .ok (.aload_n 0, 1) := by decide +kernel
theorem dX4_readSign_1 : decode cX4_readSign 1 = .ok (.getfield 26, 3) := by decide +kernel
theorem dX4_readSign_4 : decode cX4_readSign 4 = .ok (.aload_n 0, 1) := by decide +kernel
theorem dX4_readSign_5 : decode cX4_readSign 5 = .ok (.getfield 22, 3) := by decide +kernel
theorem dX4_readSign_8 : decode cX4_readSign 8 = .ok (.if_icmp .ge 16, 3) := by decide +kernel
theorem dX4_readSign_11 : decode cX4_readSign 11 = .ok (.aload_n 0, 1) := by decide +kernel
theorem dX4_readSign_12 : decode cX4_readSign 12 = .ok (.getfield 9, 3) := by decide +kernel
theorem dX4_readSign_15 : decode cX4_readSign 15 = .ok (.aload_n 0, 1) := by decide +kernel
theorem dX4_readSign_16 : decode cX4_readSign 16 = .ok (.getfield 26, 3) := by decide +kernel
theorem dX4_readSign_19 : decode cX4_readSign 19 = .ok (.iaload, 1) := by decide +kernel
theorem dX4_readSign_20 : decode cX4_readSign 20 = .ok (.iload_n 1, 1) := by decide +kernel
theorem dX4_readSign_21 : decode cX4_readSign 21 = .ok (.if_icmp .eq 5, 3) := by decide +kernel
theorem dX4_readSign_24 : decode cX4_readSign 24 = .ok (.iconst 0, 1) := by decide +kernel
theorem dX4_readSign_25 : decode cX4_readSign 25 = .ok (.ireturn, 1) := by decide +kernel
theorem dX4_readSign_26 : decode cX4_readSign 26 = .ok (.aload_n 0, 1) := by decide +kernel
theorem dX4_readSign_27 : decode cX4_readSign 27 = .ok (.dup, 1) := by decide +kernel
theorem dX4_readSign_28 : decode cX4_readSign 28 = .ok (.getfield 26, 3) := by decide +kernel
theorem dX4_readSign_31 : decode cX4_readSign 31 = .ok (.iconst 1, 1) := by decide +kernel
theorem dX4_readSign_32 : decode cX4_readSign 32 = .ok (.iadd, 1) := by decide +kernel
theorem dX4_readSign_33 : decode cX4_readSign 33 = .ok (.putfield 26, 3) := by decide +kernel
theorem dX4_readSign_36 : decode cX4_readSign 36 = .ok (.iconst 1, 1) := by decide +kernel
theorem dX4_readSign_37 : decode cX4_readSign 37 = .ok (.ireturn, 1) := by decide +kernel
theorem dX4_isDigitNext_0 : decode cX4_isDigitNext 0 = .ok (.aload_n 0, 1) := by decide +kernel
theorem dX4_isDigitNext_1 : decode cX4_isDigitNext 1 = .ok (.getfield 26, 3) := by decide +kernel
theorem dX4_isDigitNext_4 : decode cX4_isDigitNext 4 = .ok (.aload_n 0, 1) := by decide +kernel
theorem dX4_isDigitNext_5 : decode cX4_isDigitNext 5 = .ok (.getfield 22, 3) := by decide +kernel
theorem dX4_isDigitNext_8 : decode cX4_isDigitNext 8 = .ok (.if_icmp .ge 35, 3) := by decide +kernel
theorem dX4_isDigitNext_11 : decode cX4_isDigitNext 11 = .ok (.aload_n 0, 1) := by decide +kernel
theorem dX4_isDigitNext_12 : decode cX4_isDigitNext 12 = .ok (.getfield 9, 3) := by decide +kernel
theorem dX4_isDigitNext_15 : decode cX4_isDigitNext 15 = .ok (.aload_n 0, 1) := by decide +kernel
theorem dX4_isDigitNext_16 : decode cX4_isDigitNext 16 = .ok (.getfield 26, 3) := by decide +kernel
theorem dX4_isDigitNext_19 : decode cX4_isDigitNext 19 = .ok (.iaload, 1) := by decide +kernel
theorem dX4_isDigitNext_20 : decode cX4_isDigitNext 20 = .ok (.bipush 48, 2) := by decide +kernel
theorem dX4_isDigitNext_22 : decode cX4_isDigitNext 22 = .ok (.if_icmp .lt 21, 3) := by decide +kernel
theorem dX4_isDigitNext_25 : decode cX4_isDigitNext 25 = .ok (.aload_n 0, 1) := by decide +kernel
theorem dX4_isDigitNext_26 : decode cX4_isDigitNext 26 = .ok (.getfield 9, 3) := by decide +kernel
theorem dX4_isDigitNext_29 : decode cX4_isDigitNext 29 = .ok (.aload_n 0, 1) := by decide +kernel
theorem dX4_isDigitNext_30 : decode cX4_isDigitNext 30 = .ok (.getfield 26, 3) := by decide +kernel
theorem dX4_isDigitNext_33 : decode cX4_isDigitNext 33 = .ok (.iaload, 1) := by decide +kernel
theorem dX4_isDigitNext_34 : decode cX4_isDigitNext 34 = .ok (.bipush 57, 2) := by decide +kernel
theorem dX4_isDigitNext_36 : decode cX4_isDigitNext 36 = .ok (.if_icmp .gt 7, 3) := by decide +kernel
theorem dX4_isDigitNext_39 : decode cX4_isDigitNext 39 = .ok (.iconst 1, 1) := by decide +kernel
theorem dX4_isDigitNext_40 : decode cX4_isDigitNext 40 = .ok (.goto 4, 3) := by decide +kernel
theorem dX4_isDigitNext_43 : decode cX4_isDigitNext 43 = .ok (.iconst 0, 1) := by decide +kernel
theorem dX4_isDigitNext_44 : decode cX4_isDigitNext 44 = .ok (.ireturn, 1) := by decide +kernel
theorem dX4_readDigit_0 : decode cX4_readDigit 0 = .ok (.aload_n 0, 1) := by decide +kernel
theorem dX4_readDigit_1 : decode cX4_readDigit 1 = .ok (.getfield 9, 3) := by decide +kernel
theorem dX4_readDigit_4 : decode cX4_readDigit 4 = .ok (.aload_n 0, 1) := by decide +kernel
theorem dX4_readDigit_5 : decode cX4_readDigit 5 = .ok (.getfield 26, 3) := by decide +kernel
theorem dX4_readDigit_8 : decode cX4_readDigit 8 = .ok (.iaload, 1) := by decide +kernel
theorem dX4_readDigit_9 : decode cX4_readDigit 9 = .ok (.bipush 48, 2) := by decide +kernel
theorem dX4_readDigit_11 : decode cX4_readDigit 11 = .ok (.isub, 1) := by decide +kernel
theorem dX4_readDigit_12 : decode cX4_readDigit 12 = .ok (.istore_n 1, 1) := by decide +kernel
theorem dX4_readDigit_13 : decode cX4_readDigit 13 = .ok (.aload_n 0, 1) := by decide +kernel
theorem dX4_readDigit_14 : decode cX4_readDigit 14 = .ok (.dup, 1) := by decide +kernel
theorem dX4_readDigit_15 : decode cX4_readDigit 15 = .ok (.getfield 26, 3) := by decide +kernel
theorem dX4_readDigit_18 : decode cX4_readDigit 18 = .ok (.iconst 1, 1) := by decide +kernel
theorem dX4_readDigit_19 : decode cX4_readDigit 19 = .ok (.iadd, 1) := by decide +kernel
theorem dX4_readDigit_20 : decode cX4_readDigit 20 = .ok (.putfield 26, 3) := by decide +kernel
theorem dX4_readDigit_23 : decode cX4_readDigit 23 = .ok (.iload_n 1, 1) := by decide +kernel
theorem dX4_readDigit_24 : decode cX4_readDigit 24 = .ok (.ireturn, 1) := by decide +kernel
theorem dX5_init_0 : decode cX5_init 0 = .ok (.aload_n 0, 1) := by decide +kernel
theorem dX5_init_1 : decode cX5_init 1 = .ok (.invokespecial 3, 3) := by decide +kernel
theorem dX5_init_4 : decode cX5_init 4 = .ok (.aload_n 0, 1) := by decide +kernel
theorem dX5_init_5 : decode cX5_init 5 = .ok (.iconst 2, 1) := by decide +kernel
theorem dX5_init_6 : decode cX5_init 6 = .ok (.newarray .int, 2) := by decide +kernel
theorem dX5_init_8 : decode cX5_init 8 = .ok (.putfield 9, 3) := by decide +kernel
theorem dX5_init_11 : decode cX5_init 11 = .ok (.aload_n 0, 1) := by decide +kernel
theorem dX5_init_12 : decode cX5_init 12 = .ok (.iconst 2, 1) := by decide +kernel
theorem dX5_init_13 : decode cX5_init 13 = .ok (.newarray .int, 2) := by decide +kernel
theorem dX5_init_15 : decode cX5_init 15 = .ok (.putfield 15, 3) := by decide +kernel
theorem dX5_init_18 : decode cX5_init 18 = .ok (.aload_n 0, 1) := by decide +kernel
theorem dX5_init_19 : decode cX5_init 19 = .ok (.bipush 10, 2) := by decide +kernel
theorem dX5_init_21 : decode cX5_init 21 = .ok (.newarray .int, 2) := by decide +kernel
theorem dX5_init_23 : decode cX5_init 23 = .ok (.putfield 18, 3) := by decide +kernel
theorem dX5_init_26 : decode cX5_init 26 = .ok (.aload_n 0, 1) := by decide +kernel
theorem dX5_init_27 : decode cX5_init 27 = .ok (.bipush 10, 2) := by decide +kernel
theorem dX5_init_29 : decode cX5_init 29 = .ok (.newarray .int, 2) := by decide +kernel
theorem dX5_init_31 : decode cX5_init 31 = .ok (.putfield 21, 3) := by decide +kernel
theorem dX5_init_34 : decode cX5_init 34 = .ok (.return_, 1) := by decide +kernel
theorem dX5_clear_0 : decode cX5_clear 0 = .ok (.aload_n 0, 1) := by decide +kernel
theorem dX5_clear_1 : decode cX5_clear 1 = .ok (.iconst 0, 1) := by decide +kernel
theorem dX5_clear_2 : decode cX5_clear 2 = .ok (.putfield 24, 3) := by decide +kernel
theorem dX5_clear_5 : decode cX5_clear 5 = .ok (.aload_n 0, 1) := by decide +kernel
theorem dX5_clear_6 : decode cX5_clear 6 = .ok (.iconst 0, 1) := by decide +kernel
theorem dX5_clear_7 : decode cX5_clear 7 = .ok (.putfield 28, 3) := by decide +kernel
theorem dX5_clear_10 : decode cX5_clear 10 = .ok (.aload_n 0, 1) := by decide +kernel
theorem dX5_clear_11 : decode cX5_clear 11 = .ok (.iconst 0, 1) := by decide +kernel
theorem dX5_clear_12 : decode cX5_clear 12 = .ok (.putfield 31, 3) := by decide +kernel
theorem dX5_clear_15 : decode cX5_clear 15 = .ok (.iconst 0, 1) := by decide +kernel
theorem dX5_clear_16 : decode cX5_clear 16 = .ok (.istore_n 1, 1) := by decide +kernel
theorem dX5_clear_17 : decode cX5_clear 17 = .ok (.iload_n 1, 1) := by decide +kernel
theorem dX5_clear_18 : decode cX5_clear 18 = .ok (.iconst 2, 1) := by decide +kernel
theorem dX5_clear_19 : decode cX5_clear 19 = .ok (.if_icmp .ge 23, 3) := by decide +kernel
theorem dX5_clear_22 : decode cX5_clear 22 = .ok (.aload_n 0, 1) := by decide +kernel
theorem dX5_clear_23 : decode cX5_clear 23 = .ok (.getfield 9, 3) := by decide +kernel
theorem dX5_clear_26 : decode cX5_clear 26 = .ok (.iload_n 1, 1) := by decide +kernel
theorem dX5_clear_27 : decode cX5_clear 27 = .ok (.iconst 0, 1) := by decide +kernel
theorem dX5_clear_28 : decode cX5_clear 28 = .ok (.iastore, 1) := by decide +kernel
theorem dX5_clear_29 : decode cX5_clear 29 = .ok (.aload_n 0, 1) := by decide +kernel
theorem dX5_clear_30 : decode cX5_clear 30 = .ok (.getfield 15, 3) := by decide +kernel
theorem dX5_clear_33 : decode cX5_clear 33 = .ok (.iload_n 1, 1) := by decide +kernel
theorem dX5_clear_34 : decode cX5_clear 34 = .ok (.iconst 0, 1) := by decide +kernel
theorem dX5_clear_35 : decode cX5_clear 35 = .ok (.iastore, 1) := by decide +kernel
theorem dX5_clear_36 : decode cX5_clear 36 = .ok (.iinc 1 1, 3) := by decide +kernel
theorem dX5_clear_39 : decode cX5_clear 39 = .ok (.goto (-22), 3) := by decide +kernel
theorem dX5_clear_42 : decode cX5_clear 42 = .ok (.iconst 0, 1) := by decide +kernel
theorem dX5_clear_43 : decode cX5_clear 43 = .ok (.istore_n 1, 1) := by decide +kernel
theorem dX5_clear_44 : decode cX5_clear 44 = .ok (.iload_n 1, 1) := by decide +kernel
theorem dX5_clear_45 : decode cX5_clear 45 = .ok (.aload_n 0, 1) := by decide +kernel
theorem dX5_clear_46 : decode cX5_clear 46 = .ok (.getfield 18, 3) := by decide +kernel
theorem dX5_clear_49 : decode cX5_clear 49 = .ok (.arraylength, 1) := by decide +kernel
theorem dX5_clear_50 : decode cX5_clear 50 = .ok (.if_icmp .ge 16, 3) := by decide +kernel
theorem dX5_clear_53 : decode cX5_clear 53 = .ok (.aload_n 0, 1) := by decide +kernel
theorem dX5_clear_54 : decode cX5_clear 54 = .ok (.getfield 18, 3) := by decide +kernel
theorem dX5_clear_57 : decode cX5_clear 57 = .ok (.iload_n 1, 1) := by decide +kernel
theorem dX5_clear_58 : decode cX5_clear 58 = .ok (.iconst 0, 1) := by decide +kernel
theorem dX5_clear_59 : decode cX5_clear 59 = .ok (.iastore, 1) := by decide +kernel
theorem dX5_clear_60 : decode cX5_clear 60 = .ok (.iinc 1 1, 3) := by decide +kernel
theorem dX5_clear_63 : decode cX5_clear 63 = .ok (.goto (-19), 3) := by decide +kernel
theorem dX5_clear_66 : decode cX5_clear 66 = .ok (.iconst 0, 1) := by decide +kernel
theorem dX5_clear_67 : decode cX5_clear 67 = .ok (.istore_n 1, 1) := by decide +kernel
theorem dX5_clear_68 : decode cX5_clear 68 = .ok (.iload_n 1, 1) := by decide +kernel
theorem dX5_clear_69 : decode cX5_clear 69 = .ok (.bipush 10, 2) := by decide +kernel
theorem dX5_clear_71 : decode cX5_clear 71 = .ok (.if_icmp .ge 16, 3) := by decide +kernel
theorem dX5_clear_74 : decode cX5_clear 74 = .ok (.aload_n 0, 1) := by decide +kernel
theorem dX5_clear_75 : decode cX5_clear 75 = .ok (.getfield 21, 3) := by decide +kernel
theorem dX5_clear_78 : decode cX5_clear 78 = .ok (.iload_n 1, 1) := by decide +kernel
theorem dX5_clear_79 : decode cX5_clear 79 = .ok (.iconst 0, 1) := by decide +kernel
theorem dX5_clear_80 : decode cX5_clear 80 = .ok (.iastore, 1) := by decide +kernel
theorem dX5_clear_81 : decode cX5_clear 81 = .ok (.iinc 1 1, 3) := by decide +kernel
theorem dX5_clear_84 : decode cX5_clear 84 = .ok (.goto (-16), 3) := by decide +kernel
theorem dX5_clear_87 : decode cX5_clear 87 = .ok (.return_, 1) := by decide +kernel
theorem dX5_copyFrom_0 : decode cX5_copyFrom 0 = .ok (.aload_n 0, 1) := by decide +kernel
theorem dX5_copyFrom_1 : decode cX5_copyFrom 1 = .ok (.aload_n 1, 1) := by decide +kernel
theorem dX5_copyFrom_2 : decode cX5_copyFrom 2 = .ok (.getfield 24, 3) := by decide +kernel
theorem dX5_copyFrom_5 : decode cX5_copyFrom 5 = .ok (.putfield 24, 3) := by decide +kernel
theorem dX5_copyFrom_8 : decode cX5_copyFrom 8 = .ok (.aload_n 0, 1) := by decide +kernel
theorem dX5_copyFrom_9 : decode cX5_copyFrom 9 = .ok (.aload_n 1, 1) := by decide +kernel
theorem dX5_copyFrom_10 : decode cX5_copyFrom 10 = .ok (.getfield 28, 3) := by decide +kernel
theorem dX5_copyFrom_13 : decode cX5_copyFrom 13 = .ok (.putfield 28, 3) := by decide +kernel
theorem dX5_copyFrom_16 : decode cX5_copyFrom 16 = .ok (.aload_n 0, 1) := by decide +kernel
theorem dX5_copyFrom_17 : decode cX5_copyFrom 17 = .ok (.aload_n 1, 1) := by decide +kernel
theorem dX5_copyFrom_18 : decode cX5_copyFrom 18 = .ok (.getfield 31, 3) := by decide +kernel
theorem dX5_copyFrom_21 : decode cX5_copyFrom 21 = .ok (.putfield 31, 3) := by decide +kernel
theorem dX5_copyFrom_24 : decode cX5_copyFrom 24 = .ok (.aload_n 1, 1) := by decide +kernel
theorem dX5_copyFrom_25 : decode cX5_copyFrom 25 = .ok (.getfield 9, 3) := by decide +kernel
theorem dX5_copyFrom_28 : decode cX5_copyFrom 28 = .ok (.iconst 0, 1) := by decide +kernel
theorem dX5_copyFrom_29 : decode cX5_copyFrom 29 = .ok (.aload_n 0, 1) := by decide +kernel
theorem dX5_copyFrom_30 : decode cX5_copyFrom 30 = .ok (.getfield 9, 3) := by decide +kernel
theorem dX5_copyFrom_33 : decode cX5_copyFrom 33 = .ok (.iconst 0, 1) := by decide +kernel
theorem dX5_copyFrom_34 : decode cX5_copyFrom 34 = .ok (.iconst 2, 1) := by decide +kernel
theorem dX5_copyFrom_35 : decode cX5_copyFrom 35 = .ok (.invokestatic 34, 3) := by decide +kernel
theorem dX5_copyFrom_38 : decode cX5_copyFrom 38 = .ok (.aload_n 1, 1) := by decide +kernel
theorem dX5_copyFrom_39 : decode cX5_copyFrom 39 = .ok (.getfield 15, 3) := by decide +kernel
theorem dX5_copyFrom_42 : decode cX5_copyFrom 42 = .ok (.iconst 0, 1) := by decide +kernel
theorem dX5_copyFrom_43 : decode cX5_copyFrom 43 = .ok (.aload_n 0, 1) := by decide +kernel
theorem dX5_copyFrom_44 : decode cX5_copyFrom 44 = .ok (.getfield 15, 3) := by decide +kernel
theorem dX5_copyFrom_47 : decode cX5_copyFrom 47 = .ok (.iconst 0, 1) := by decide +kernel
theorem dX5_copyFrom_48 : decode cX5_copyFrom 48 = .ok (.iconst 2, 1) := by decide +kernel
theorem dX5_copyFrom_49 : decode cX5_copyFrom 49 = .ok (.invokestatic 34, 3) := by decide +kernel
theorem dX5_copyFrom_52 : decode cX5_copyFrom 52 = .ok (.aload_n 1, 1) := by decide +kernel
theorem dX5_copyFrom_53 : decode cX5_copyFrom 53 = .ok (.getfield 18, 3) := by decide +kernel
theorem dX5_copyFrom_56 : decode cX5_copyFrom 56 = .ok (.iconst 0, 1) := by decide +kernel
theorem dX5_copyFrom_57 : decode cX5_copyFrom 57 = .ok (.aload_n 0, 1) := by decide +kernel
theorem dX5_copyFrom_58 : decode cX5_copyFrom 58 = .ok (.getfield 18, 3) := by decide +kernel
theorem dX5_copyFrom_61 : decode cX5_copyFrom 61 = .ok (.iconst 0, 1) := by decide +kernel
theorem dX5_copyFrom_62 : decode cX5_copyFrom 62 = .ok (.bipush 10, 2) := by decide +kernel
theorem dX5_copyFrom_64 : decode cX5_copyFrom 64 = .ok (.invokestatic 34, 3) := by decide +kernel
theorem dX5_copyFrom_67 : decode cX5_copyFrom 67 = .ok (.aload_n 1, 1) := by decide +kernel
theorem dX5_copyFrom_68 : decode cX5_copyFrom 68 = .ok (.getfield 21, 3) := by decide +kernel
theorem dX5_copyFrom_71 : decode cX5_copyFrom 71 = .ok (.iconst 0, 1) := by decide +kernel
theorem dX5_copyFrom_72 : decode cX5_copyFrom 72 = .ok (.aload_n 0, 1) := by decide +kernel
theorem dX5_copyFrom_73 : decode cX5_copyFrom 73 = .ok (.getfield 21, 3) := by decide +kernel
theorem dX5_copyFrom_76 : decode cX5_copyFrom 76 = .ok (.iconst 0, 1) := by decide +kernel
theorem dX5_copyFrom_77 : decode cX5_copyFrom 77 = .ok (.bipush 10, 2) := by decide +kernel
theorem dX5_copyFrom_79 : decode cX5_copyFrom 79 = .ok (.invokestatic 34, 3) := by decide +kernel
theorem dX5_copyFrom_82 : decode cX5_copyFrom 82 = .ok (.return_, 1) := by decide +kernel
theorem dX5_hasLent_0 : decode cX5_hasLent 0 = .ok (.aload_n 0, 1) := by decide +kernel
theorem dX5_hasLent_1 : decode cX5_hasLent 1 = .ok (.getfield 31, 3) := by decide +kernel
theorem dX5_hasLent_4 : decode cX5_hasLent 4 = .ok (.iload_n 1, 1) := by decide +kernel
theorem dX5_hasLent_5 : decode cX5_hasLent 5 = .ok (.ishr, 1) := by decide +kernel
theorem dX5_hasLent_6 : decode cX5_hasLent 6 = .ok (.iconst 1, 1) := by decide +kernel
theorem dX5_hasLent_7 : decode cX5_hasLent 7 = .ok (.iand, 1) := by decide +kernel
theorem dX5_hasLent_8 : decode cX5_hasLent 8 = .ok (.iconst 1, 1) := by decide +kernel
theorem dX5_hasLent_9 : decode cX5_hasLent 9 = .ok (.if_icmp .ne 7, 3) := by decide +kernel
theorem dX5_hasLent_12 : decode cX5_hasLent 12 = .ok (.iconst 1, 1) := by decide +kernel
theorem dX5_hasLent_13 : decode cX5_hasLent 13 = .ok (.goto 4, 3) := by decide +kernel
theorem dX5_hasLent_16 : decode cX5_hasLent 16 = .ok (.iconst 0, 1) := by decide +kernel
theorem dX5_hasLent_17 : decode cX5_hasLent 17 = .ok (.ireturn, 1) := by decide +kernel
theorem dX5_isOlderThan_0 : decode cX5_isOlderThan 0 = .ok (.aload_n 0, 1) := by decide +kernel
theorem dX5_isOlderThan_1 : decode cX5_isOlderThan 1 = .ok (.getfield 24, 3) := by decide +kernel
theorem dX5_isOlderThan_4 : decode cX5_isOlderThan 4 = .ok (.aload_n 1, 1) := by decide +kernel
theorem dX5_isOlderThan_5 : decode cX5_isOlderThan 5 = .ok (.getfield 24, 3) := by decide +kernel
theorem dX5_isOlderThan_8 : decode cX5_isOlderThan 8 = .ok (.if_icmp .lt 25, 3) := by decide +kernel
theorem dX5_isOlderThan_11 : decode cX5_isOlderThan 11 = .ok (.aload_n 0, 1) := by decide +kernel
theorem dX5_isOlderThan_12 : decode cX5_isOlderThan 12 = .ok (.getfield 24, 3) := by decide +kernel
theorem dX5_isOlderThan_15 : decode cX5_isOlderThan 15 = .ok (.aload_n 1, 1) := by decide +kernel
theorem dX5_isOlderThan_16 : decode cX5_isOlderThan 16 = .ok (.getfield 24, 3) := by decide +kernel
theorem dX5_isOlderThan_19 : decode cX5_isOlderThan 19 = .ok (.if_icmp .ne 18, 3) := by decide +kernel
theorem dX5_isOlderThan_22 : decode cX5_isOlderThan 22 = .ok (.aload_n 0, 1) := by decide +kernel
theorem dX5_isOlderThan_23 : decode cX5_isOlderThan 23 = .ok (.getfield 28, 3) := by decide +kernel
theorem dX5_isOlderThan_26 : decode cX5_isOlderThan 26 = .ok (.aload_n 1, 1) := by decide +kernel
theorem dX5_isOlderThan_27 : decode cX5_isOlderThan 27 = .ok (.getfield 28, 3) := by decide +kernel
theorem dX5_isOlderThan_30 : decode cX5_isOlderThan 30 = .ok (.if_icmp .ge 7, 3) := by decide +kernel
theorem dX5_isOlderThan_33 : decode cX5_isOlderThan 33 = .ok (.iconst 1, 1) := by decide +kernel
theorem dX5_isOlderThan_34 : decode cX5_isOlderThan 34 = .ok (.goto 4, 3) := by decide +kernel
theorem dX5_isOlderThan_37 : decode cX5_isOlderThan 37 = .ok (.iconst 0, 1) := by decide +kernel
theorem dX5_isOlderThan_38 : decode cX5_isOlderThan 38 = .ok (.ireturn, 1) := by decide +kernel
theorem dX5_givenTo_0 : decode cX5_givenTo 0 = .ok (.aload_n 0, 1) := by decide +kernel
theorem dX5_givenTo_1 : decode cX5_givenTo 1 = .ok (.getfield 18, 3) := by decide +kernel
theorem dX5_givenTo_4 : decode cX5_givenTo 4 = .ok (.iload_n 2, 1) := by decide +kernel
theorem dX5_givenTo_5 : decode cX5_givenTo 5 = .ok (.iconst 5, 1) := by decide +kernel
theorem dX5_givenTo_6 : decode cX5_givenTo 6 = .ok (.imul, 1) := by decide +kernel
theorem dX5_givenTo_7 : decode cX5_givenTo 7 = .ok (.iload_n 1, 1) := by decide +kernel
theorem dX5_givenTo_8 : decode cX5_givenTo 8 = .ok (.iadd, 1) := by decide +kernel
theorem dX5_givenTo_9 : decode cX5_givenTo 9 = .ok (.iaload, 1) := by decide +kernel
theorem dX5_givenTo_10 : decode cX5_givenTo 10 = .ok (.ireturn, 1) := by decide +kernel
theorem dX5_give_0 : decode cX5_give 0 = .ok (.aload_n 0, 1) := by decide +kernel
theorem dX5_give_1 : decode cX5_give 1 = .ok (.getfield 18, 3) := by decide +kernel
theorem dX5_give_4 : decode cX5_give 4 = .ok (.iload_n 2, 1) := by decide +kernel
theorem dX5_give_5 : decode cX5_give 5 = .ok (.iconst 5, 1) := by decide +kernel
theorem dX5_give_6 : decode cX5_give 6 = .ok (.imul, 1) := by decide +kernel
theorem dX5_give_7 : decode cX5_give 7 = .ok (.iload_n 1, 1) := by decide +kernel
theorem dX5_give_8 : decode cX5_give 8 = .ok (.iadd, 1) := by decide +kernel
theorem dX5_give_9 : decode cX5_give 9 = .ok (.dup2, 1) := by decide +kernel
theorem dX5_give_10 : decode cX5_give 10 = .ok (.iaload, 1) := by decide +kernel
theorem dX5_give_11 : decode cX5_give 11 = .ok (.iload_n 3, 1) := by decide +kernel
theorem dX5_give_12 : decode cX5_give 12 = .ok (.iadd, 1) := by decide +kernel
theorem dX5_give_13 : decode cX5_give 13 = .ok (.iastore, 1) := by decide +kernel
theorem dX5_give_14 : decode cX5_give 14 = .ok (.aload_n 0, 1) := by decide +kernel
theorem dX5_give_15 : decode cX5_give 15 = .ok (.dup, 1) := by decide +kernel
theorem dX5_give_16 : decode cX5_give 16 = .ok (.getfield 24, 3) := by decide +kernel
theorem dX5_give_19 : decode cX5_give 19 = .ok (.iconst 1, 1) := by decide +kernel
theorem dX5_give_20 : decode cX5_give 20 = .ok (.iadd, 1) := by decide +kernel
theorem dX5_give_21 : decode cX5_give 21 = .ok (.putfield 24, 3) := by decide +kernel
theorem dX5_give_24 : decode cX5_give 24 = .ok (.return_, 1) := by decide +kernel
theorem dX6_init_0 : decode cX6_init 0 = .ok (.aload_n 0, 1) := by decide +kernel
theorem dX6_init_1 : decode cX6_init 1 = .ok (.invokespecial 3, 3) := by decide +kernel
theorem dX6_init_4 : decode cX6_init 4 = .ok (.aload_n 0, 1) := by decide +kernel
theorem dX6_init_5 : decode cX6_init 5 = .ok (.bipush 10, 2) := by decide +kernel
theorem dX6_init_7 : decode cX6_init 7 = .ok (.anewarray 9, 3) := by decide +kernel
theorem dX6_init_10 : decode cX6_init 10 = .ok (.putfield 11, 3) := by decide +kernel
theorem dX6_init_13 : decode cX6_init 13 = .ok (.aload_n 0, 1) := by decide +kernel
theorem dX6_init_14 : decode cX6_init 14 = .ok (.bipush 8, 2) := by decide +kernel
theorem dX6_init_16 : decode cX6_init 16 = .ok (.anewarray 17, 3) := by decide +kernel
theorem dX6_init_19 : decode cX6_init 19 = .ok (.putfield 19, 3) := by decide +kernel
theorem dX6_init_22 : decode cX6_init 22 = .ok (.aload_n 0, 1) := by decide +kernel
theorem dX6_init_23 : decode cX6_init 23 = .ok (.iload_n 1, 1) := by decide +kernel
theorem dX6_init_24 : decode cX6_init 24 = .ok (.putfield 23, 3) := by decide +kernel
theorem dX6_init_27 : decode cX6_init 27 = .ok (.aload_n 0, 1) := by decide +kernel
theorem dX6_init_28 : decode cX6_init 28 = .ok (.iload_n 1, 1) := by decide +kernel
theorem dX6_init_29 : decode cX6_init 29 = .ok (.anewarray 27, 3) := by decide +kernel
theorem dX6_init_32 : decode cX6_init 32 = .ok (.putfield 29, 3) := by decide +kernel
theorem dX6_init_35 : decode cX6_init 35 = .ok (.iconst 0, 1) := by decide +kernel
theorem dX6_init_36 : decode cX6_init 36 = .ok (.istore_n 2, 1) := by decide +kernel
theorem dX6_init_37 : decode cX6_init 37 = .ok (.iload_n 2, 1) := by decide +kernel
theorem dX6_init_38 : decode cX6_init 38 = .ok (.iload_n 1, 1) := by decide +kernel
theorem dX6_init_39 : decode cX6_init 39 = .ok (.if_icmp .ge 23, 3) := by decide +kernel
theorem dX6_init_42 : decode cX6_init 42 = .ok (.aload_n 0, 1) := by decide +kernel
theorem dX6_init_43 : decode cX6_init 43 = .ok (.getfield 29, 3) := by decide +kernel
theorem dX6_init_46 : decode cX6_init 46 = .ok (.iload_n 2, 1) := by decide +kernel
theorem dX6_init_47 : decode cX6_init 47 = .ok (.new 27, 3) := by decide +kernel
theorem dX6_init_50 : decode cX6_init 50 = .ok (.dup, 1) := by decide +kernel
theorem dX6_init_51 : decode cX6_init 51 = .ok (.iload_n 1, 1) := by decide +kernel
theorem dX6_init_52 : decode cX6_init 52 = .ok (.invokespecial 33, 3) := by decide +kernel
theorem dX6_init_55 : decode cX6_init 55 = .ok (.aastore, 1) := by decide +kernel
theorem dX6_init_56 : decode cX6_init 56 = .ok (.iinc 2 1, 3) := by decide +kernel
theorem dX6_init_59 : decode cX6_init 59 = .ok (.goto (-22), 3) := by decide +kernel
theorem dX6_init_62 : decode cX6_init 62 = .ok (.iconst 0, 1) := by decide +kernel
theorem dX6_init_63 : decode cX6_init 63 = .ok (.istore_n 2, 1) := by decide +kernel
theorem dX6_init_64 : decode cX6_init 64 = .ok (.iload_n 2, 1) := by decide +kernel
theorem dX6_init_65 : decode cX6_init 65 = .ok (.bipush 10, 2) := by decide +kernel
theorem dX6_init_67 : decode cX6_init 67 = .ok (.if_icmp .ge 22, 3) := by decide +kernel
theorem dX6_init_70 : decode cX6_init 70 = .ok (.aload_n 0, 1) := by decide +kernel
theorem dX6_init_71 : decode cX6_init 71 = .ok (.getfield 11, 3) := by decide +kernel
theorem dX6_init_74 : decode cX6_init 74 = .ok (.iload_n 2, 1) := by decide +kernel
theorem dX6_init_75 : decode cX6_init 75 = .ok (.new 9, 3) := by decide +kernel
theorem dX6_init_78 : decode cX6_init 78 = .ok (.dup, 1) := by decide +kernel
theorem dX6_init_79 : decode cX6_init 79 = .ok (.invokespecial 36, 3) := by decide +kernel
theorem dX6_init_82 : decode cX6_init 82 = .ok (.aastore, 1) := by decide +kernel
theorem dX6_init_83 : decode cX6_init 83 = .ok (.iinc 2 1, 3) := by decide +kernel
theorem dX6_init_86 : decode cX6_init 86 = .ok (.goto (-22), 3) := by decide +kernel
theorem dX6_init_89 : decode cX6_init 89 = .ok (.iconst 0, 1) := by decide +kernel
theorem dX6_init_90 : decode cX6_init 90 = .ok (.istore_n 2, 1) := by decide +kernel
theorem dX6_init_91 : decode cX6_init 91 = .ok (.iload_n 2, 1) := by decide +kernel
theorem dX6_init_92 : decode cX6_init 92 = .ok (.bipush 8, 2) := by decide +kernel
theorem dX6_init_94 : decode cX6_init 94 = .ok (.if_icmp .ge 23, 3) := by decide +kernel
theorem dX6_init_97 : decode cX6_init 97 = .ok (.aload_n 0, 1) := by decide +kernel
theorem dX6_init_98 : decode cX6_init 98 = .ok (.getfield 19, 3) := by decide +kernel
theorem dX6_init_101 : decode cX6_init 101 = .ok (.iload_n 2, 1) := by decide +kernel
theorem dX6_init_102 : decode cX6_init 102 = .ok (.new 17, 3) := by decide +kernel
theorem dX6_init_105 : decode cX6_init 105 = .ok (.dup, 1) := by decide +kernel
theorem dX6_init_106 : decode cX6_init 106 = .ok (.iload_n 1, 1) := by decide +kernel
theorem dX6_init_107 : decode cX6_init 107 = .ok (.invokespecial 37, 3) := by decide +kernel
theorem dX6_init_110 : decode cX6_init 110 = .ok (.aastore, 1) := by decide +kernel
theorem dX6_init_111 : decode cX6_init 111 = .ok (.iinc 2 1, 3) := by decide +kernel
theorem dX6_init_114 : decode cX6_init 114 = .ok (.goto (-23), 3) := by decide +kernel
theorem dX6_init_117 : decode cX6_init 117 = .ok (.return_, 1) := by decide +kernel
theorem dX6_beginAnew_0 : decode cX6_beginAnew 0 = .ok (.aload_n 0, 1) := by decide +kernel
theorem dX6_beginAnew_1 : decode cX6_beginAnew 1 = .ok (.iload_n 1, 1) := by decide +kernel
theorem dX6_beginAnew_2 : decode cX6_beginAnew 2 = .ok (.putfield 38, 3) := by decide +kernel
theorem dX6_beginAnew_5 : decode cX6_beginAnew 5 = .ok (.aload_n 0, 1) := by decide +kernel
theorem dX6_beginAnew_6 : decode cX6_beginAnew 6 = .ok (.iload_n 2, 1) := by decide +kernel
theorem dX6_beginAnew_7 : decode cX6_beginAnew 7 = .ok (.putfield 41, 3) := by decide +kernel
theorem dX6_beginAnew_10 : decode cX6_beginAnew 10 = .ok (.aload_n 0, 1) := by decide +kernel
theorem dX6_beginAnew_11 : decode cX6_beginAnew 11 = .ok (.iload_n 3, 1) := by decide +kernel
theorem dX6_beginAnew_12 : decode cX6_beginAnew 12 = .ok (.putfield 44, 3) := by decide +kernel
theorem dX6_beginAnew_15 : decode cX6_beginAnew 15 = .ok (.aload_n 0, 1) := by decide +kernel
theorem dX6_beginAnew_16 : decode cX6_beginAnew 16 = .ok (.iconst 0, 1) := by decide +kernel
theorem dX6_beginAnew_17 : decode cX6_beginAnew 17 = .ok (.putfield 47, 3) := by decide +kernel
theorem dX6_beginAnew_20 : decode cX6_beginAnew 20 = .ok (.aload_n 0, 1) := by decide +kernel
theorem dX6_beginAnew_21 : decode cX6_beginAnew 21 = .ok (.iconst 0, 1) := by decide +kernel
theorem dX6_beginAnew_22 : decode cX6_beginAnew 22 = .ok (.putfield 50, 3) := by decide +kernel
theorem dX6_beginAnew_25 : decode cX6_beginAnew 25 = .ok (.aload_n 0, 1) := by decide +kernel
theorem dX6_beginAnew_26 : decode cX6_beginAnew 26 = .ok (.iconst 0, 1) := by decide +kernel
theorem dX6_beginAnew_27 : decode cX6_beginAnew 27 = .ok (.putfield 53, 3) := by decide +kernel
theorem dX6_beginAnew_30 : decode cX6_beginAnew 30 = .ok (.iconst 0, 1) := by decide +kernel
theorem dX6_beginAnew_31 : decode cX6_beginAnew 31 = .ok (.istore 4, 2) := by decide +kernel
theorem dX6_beginAnew_33 : decode cX6_beginAnew 33 = .ok (.iload 4, 2) := by decide +kernel
theorem dX6_beginAnew_35 : decode cX6_beginAnew 35 = .ok (.aload_n 0, 1) := by decide +kernel
theorem dX6_beginAnew_36 : decode cX6_beginAnew 36 = .ok (.getfield 23, 3) := by decide +kernel
theorem dX6_beginAnew_39 : decode cX6_beginAnew 39 = .ok (.if_icmp .ge 19, 3) := by decide +kernel
theorem dX6_beginAnew_42 : decode cX6_beginAnew 42 = .ok (.aload_n 0, 1) := by decide +kernel
theorem dX6_beginAnew_43 : decode cX6_beginAnew 43 = .ok (.getfield 29, 3) := by decide +kernel
theorem dX6_beginAnew_46 : decode cX6_beginAnew 46 = .ok (.iload 4, 2) := by decide +kernel
theorem dX6_beginAnew_48 : decode cX6_beginAnew 48 = .ok (.aaload, 1) := by decide +kernel
theorem dX6_beginAnew_49 : decode cX6_beginAnew 49 = .ok (.invokevirtual 56, 3) := by decide +kernel
theorem dX6_beginAnew_52 : decode cX6_beginAnew 52 = .ok (.iinc 4 1, 3) := by decide +kernel
theorem dX6_beginAnew_55 : decode cX6_beginAnew 55 = .ok (.goto (-22), 3) := by decide +kernel
theorem dX6_beginAnew_58 : decode cX6_beginAnew 58 = .ok (.return_, 1) := by decide +kernel
theorem dX6_copyFrom_0 : decode cX6_copyFrom 0 = .ok (.aload_n 0, 1) := by decide +kernel
theorem dX6_copyFrom_1 : decode cX6_copyFrom 1 = .ok (.aload_n 1, 1) := by decide +kernel
theorem dX6_copyFrom_2 : decode cX6_copyFrom 2 = .ok (.getfield 38, 3) := by decide +kernel
theorem dX6_copyFrom_5 : decode cX6_copyFrom 5 = .ok (.putfield 38, 3) := by decide +kernel
theorem dX6_copyFrom_8 : decode cX6_copyFrom 8 = .ok (.aload_n 0, 1) := by decide +kernel
theorem dX6_copyFrom_9 : decode cX6_copyFrom 9 = .ok (.aload_n 1, 1) := by decide +kernel
theorem dX6_copyFrom_10 : decode cX6_copyFrom 10 = .ok (.getfield 41, 3) := by decide +kernel
theorem dX6_copyFrom_13 : decode cX6_copyFrom 13 = .ok (.putfield 41, 3) := by decide +kernel
theorem dX6_copyFrom_16 : decode cX6_copyFrom 16 = .ok (.aload_n 0, 1) := by decide +kernel
theorem dX6_copyFrom_17 : decode cX6_copyFrom 17 = .ok (.aload_n 1, 1) := by decide +kernel
theorem dX6_copyFrom_18 : decode cX6_copyFrom 18 = .ok (.getfield 44, 3) := by decide +kernel
theorem dX6_copyFrom_21 : decode cX6_copyFrom 21 = .ok (.putfield 44, 3) := by decide +kernel
theorem dX6_copyFrom_24 : decode cX6_copyFrom 24 = .ok (.aload_n 0, 1) := by decide +kernel
theorem dX6_copyFrom_25 : decode cX6_copyFrom 25 = .ok (.aload_n 1, 1) := by decide +kernel
theorem dX6_copyFrom_26 : decode cX6_copyFrom 26 = .ok (.getfield 47, 3) := by decide +kernel
theorem dX6_copyFrom_29 : decode cX6_copyFrom 29 = .ok (.putfield 47, 3) := by decide +kernel
theorem dX6_copyFrom_32 : decode cX6_copyFrom 32 = .ok (.aload_n 0, 1) := by decide +kernel
theorem dX6_copyFrom_33 : decode cX6_copyFrom 33 = .ok (.aload_n 1, 1) := by decide +kernel
theorem dX6_copyFrom_34 : decode cX6_copyFrom 34 = .ok (.getfield 50, 3) := by decide +kernel
theorem dX6_copyFrom_37 : decode cX6_copyFrom 37 = .ok (.putfield 50, 3) := by decide +kernel
theorem dX6_copyFrom_40 : decode cX6_copyFrom 40 = .ok (.aload_n 0, 1) := by decide +kernel
theorem dX6_copyFrom_41 : decode cX6_copyFrom 41 = .ok (.aload_n 1, 1) := by decide +kernel
theorem dX6_copyFrom_42 : decode cX6_copyFrom 42 = .ok (.getfield 53, 3) := by decide +kernel
theorem dX6_copyFrom_45 : decode cX6_copyFrom 45 = .ok (.putfield 53, 3) := by decide +kernel
theorem dX6_copyFrom_48 : decode cX6_copyFrom 48 = .ok (.iconst 0, 1) := by decide +kernel
theorem dX6_copyFrom_49 : decode cX6_copyFrom 49 = .ok (.istore_n 2, 1) := by decide +kernel
theorem dX6_copyFrom_50 : decode cX6_copyFrom 50 = .ok (.iload_n 2, 1) := by decide +kernel
theorem dX6_copyFrom_51 : decode cX6_copyFrom 51 = .ok (.aload_n 0, 1) := by decide +kernel
theorem dX6_copyFrom_52 : decode cX6_copyFrom 52 = .ok (.getfield 23, 3) := by decide +kernel
theorem dX6_copyFrom_55 : decode cX6_copyFrom 55 = .ok (.if_icmp .ge 24, 3) := by decide +kernel
theorem dX6_copyFrom_58 : decode cX6_copyFrom 58 = .ok (.aload_n 0, 1) := by decide +kernel
theorem dX6_copyFrom_59 : decode cX6_copyFrom 59 = .ok (.getfield 29, 3) := by decide +kernel
theorem dX6_copyFrom_62 : decode cX6_copyFrom 62 = .ok (.iload_n 2, 1) := by decide +kernel
theorem dX6_copyFrom_63 : decode cX6_copyFrom 63 = .ok (.aaload, 1) := by decide +kernel
theorem dX6_copyFrom_64 : decode cX6_copyFrom 64 = .ok (.aload_n 1, 1) := by decide +kernel
theorem dX6_copyFrom_65 : decode cX6_copyFrom 65 = .ok (.getfield 29, 3) := by decide +kernel
theorem dX6_copyFrom_68 : decode cX6_copyFrom 68 = .ok (.iload_n 2, 1) := by decide +kernel
theorem dX6_copyFrom_69 : decode cX6_copyFrom 69 = .ok (.aaload, 1) := by decide +kernel
theorem dX6_copyFrom_70 : decode cX6_copyFrom 70 = .ok (.invokevirtual 59, 3) := by decide +kernel
theorem dX6_copyFrom_73 : decode cX6_copyFrom 73 = .ok (.iinc 2 1, 3) := by decide +kernel
theorem dX6_copyFrom_76 : decode cX6_copyFrom 76 = .ok (.goto (-26), 3) := by decide +kernel
theorem dX6_copyFrom_79 : decode cX6_copyFrom 79 = .ok (.iconst 0, 1) := by decide +kernel
theorem dX6_copyFrom_80 : decode cX6_copyFrom 80 = .ok (.istore_n 2, 1) := by decide +kernel
theorem dX6_copyFrom_81 : decode cX6_copyFrom 81 = .ok (.iload_n 2, 1) := by decide +kernel
theorem dX6_copyFrom_82 : decode cX6_copyFrom 82 = .ok (.aload_n 0, 1) := by decide +kernel
theorem dX6_copyFrom_83 : decode cX6_copyFrom 83 = .ok (.getfield 50, 3) := by decide +kernel
theorem dX6_copyFrom_86 : decode cX6_copyFrom 86 = .ok (.if_icmp .ge 24, 3) := by decide +kernel
theorem dX6_copyFrom_89 : decode cX6_copyFrom 89 = .ok (.aload_n 0, 1) := by decide +kernel
theorem dX6_copyFrom_90 : decode cX6_copyFrom 90 = .ok (.getfield 11, 3) := by decide +kernel
theorem dX6_copyFrom_93 : decode cX6_copyFrom 93 = .ok (.iload_n 2, 1) := by decide +kernel
theorem dX6_copyFrom_94 : decode cX6_copyFrom 94 = .ok (.aaload, 1) := by decide +kernel
theorem dX6_copyFrom_95 : decode cX6_copyFrom 95 = .ok (.aload_n 1, 1) := by decide +kernel
theorem dX6_copyFrom_96 : decode cX6_copyFrom 96 = .ok (.getfield 11, 3) := by decide +kernel
theorem dX6_copyFrom_99 : decode cX6_copyFrom 99 = .ok (.iload_n 2, 1) := by decide +kernel
theorem dX6_copyFrom_100 : decode cX6_copyFrom 100 = .ok (.aaload, 1) := by decide +kernel
theorem dX6_copyFrom_101 : decode cX6_copyFrom 101 = .ok (.invokevirtual 63, 3) := by decide +kernel
theorem dX6_copyFrom_104 : decode cX6_copyFrom 104 = .ok (.iinc 2 1, 3) := by decide +kernel
theorem dX6_copyFrom_107 : decode cX6_copyFrom 107 = .ok (.goto (-26), 3) := by decide +kernel
theorem dX6_copyFrom_110 : decode cX6_copyFrom 110 = .ok (.iconst 0, 1) := by decide +kernel
theorem dX6_copyFrom_111 : decode cX6_copyFrom 111 = .ok (.istore_n 2, 1) := by decide +kernel
theorem dX6_copyFrom_112 : decode cX6_copyFrom 112 = .ok (.iload_n 2, 1) := by decide +kernel
theorem dX6_copyFrom_113 : decode cX6_copyFrom 113 = .ok (.aload_n 0, 1) := by decide +kernel
theorem dX6_copyFrom_114 : decode cX6_copyFrom 114 = .ok (.getfield 53, 3) := by decide +kernel
theorem dX6_copyFrom_117 : decode cX6_copyFrom 117 = .ok (.if_icmp .ge 24, 3) := by decide +kernel
theorem dX6_copyFrom_120 : decode cX6_copyFrom 120 = .ok (.aload_n 0, 1) := by decide +kernel
theorem dX6_copyFrom_121 : decode cX6_copyFrom 121 = .ok (.getfield 19, 3) := by decide +kernel
theorem dX6_copyFrom_124 : decode cX6_copyFrom 124 = .ok (.iload_n 2, 1) := by decide +kernel
theorem dX6_copyFrom_125 : decode cX6_copyFrom 125 = .ok (.aaload, 1) := by decide +kernel
theorem dX6_copyFrom_126 : decode cX6_copyFrom 126 = .ok (.aload_n 1, 1) := by decide +kernel
theorem dX6_copyFrom_127 : decode cX6_copyFrom 127 = .ok (.getfield 19, 3) := by decide +kernel
theorem dX6_copyFrom_130 : decode cX6_copyFrom 130 = .ok (.iload_n 2, 1) := by decide +kernel
theorem dX6_copyFrom_131 : decode cX6_copyFrom 131 = .ok (.aaload, 1) := by decide +kernel
theorem dX6_copyFrom_132 : decode cX6_copyFrom 132 = .ok (.invokevirtual 66, 3) := by decide +kernel
theorem dX6_copyFrom_135 : decode cX6_copyFrom 135 = .ok (.iinc 2 1, 3) := by decide +kernel
theorem dX6_copyFrom_138 : decode cX6_copyFrom 138 = .ok (.goto (-26), 3) := by decide +kernel
theorem dX6_copyFrom_141 : decode cX6_copyFrom 141 = .ok (.return_, 1) := by decide +kernel
theorem dX6_recordOf_0 : decode cX6_recordOf 0 = .ok (.aload_n 0, 1) := by decide +kernel
theorem dX6_recordOf_1 : decode cX6_recordOf 1 = .ok (.getfield 29, 3) := by decide +kernel
theorem dX6_recordOf_4 : decode cX6_recordOf 4 = .ok (.iload_n 1, 1) := by decide +kernel
theorem dX6_recordOf_5 : decode cX6_recordOf 5 = .ok (.aaload, 1) := by decide +kernel
theorem dX6_recordOf_6 : decode cX6_recordOf 6 = .ok (.getfield 69, 3) := by decide +kernel
theorem dX6_recordOf_9 : decode cX6_recordOf 9 = .ok (.iload_n 1, 1) := by decide +kernel
theorem dX6_recordOf_10 : decode cX6_recordOf 10 = .ok (.aaload, 1) := by decide +kernel
theorem dX6_recordOf_11 : decode cX6_recordOf 11 = .ok (.areturn, 1) := by decide +kernel
theorem dX6_trueValue_0 : decode cX6_trueValue 0 = .ok (.aload_n 0, 1) := by decide +kernel
theorem dX6_trueValue_1 : decode cX6_trueValue 1 = .ok (.getfield 44, 3) := by decide +kernel
theorem dX6_trueValue_4 : decode cX6_trueValue 4 = .ok (.istore_n 1, 1) := by decide +kernel
theorem dX6_trueValue_5 : decode cX6_trueValue 5 = .ok (.iconst 0, 1) := by decide +kernel
theorem dX6_trueValue_6 : decode cX6_trueValue 6 = .ok (.istore_n 2, 1) := by decide +kernel
theorem dX6_trueValue_7 : decode cX6_trueValue 7 = .ok (.iload_n 2, 1) := by decide +kernel
theorem dX6_trueValue_8 : decode cX6_trueValue 8 = .ok (.aload_n 0, 1) := by decide +kernel
theorem dX6_trueValue_9 : decode cX6_trueValue 9 = .ok (.getfield 23, 3) := by decide +kernel
theorem dX6_trueValue_12 : decode cX6_trueValue 12 = .ok (.if_icmp .ge 31, 3) := by decide +kernel
theorem dX6_trueValue_15 : decode cX6_trueValue 15 = .ok (.aload_n 0, 1) := by decide +kernel
theorem dX6_trueValue_16 : decode cX6_trueValue 16 = .ok (.iload_n 2, 1) := by decide +kernel
theorem dX6_trueValue_17 : decode cX6_trueValue 17 = .ok (.invokevirtual 73, 3) := by decide +kernel
theorem dX6_trueValue_20 : decode cX6_trueValue 20 = .ok (.astore_n 3, 1) := by decide +kernel
theorem dX6_trueValue_21 : decode cX6_trueValue 21 = .ok (.iload_n 1, 1) := by decide +kernel
theorem dX6_trueValue_22 : decode cX6_trueValue 22 = .ok (.aload_n 3, 1) := by decide +kernel
theorem dX6_trueValue_23 : decode cX6_trueValue 23 = .ok (.getfield 77, 3) := by decide +kernel
theorem dX6_trueValue_26 : decode cX6_trueValue 26 = .ok (.iconst 0, 1) := by decide +kernel
theorem dX6_trueValue_27 : decode cX6_trueValue 27 = .ok (.iaload, 1) := by decide +kernel
theorem dX6_trueValue_28 : decode cX6_trueValue 28 = .ok (.aload_n 3, 1) := by decide +kernel
theorem dX6_trueValue_29 : decode cX6_trueValue 29 = .ok (.getfield 77, 3) := by decide +kernel
theorem dX6_trueValue_32 : decode cX6_trueValue 32 = .ok (.iconst 1, 1) := by decide +kernel
theorem dX6_trueValue_33 : decode cX6_trueValue 33 = .ok (.iaload, 1) := by decide +kernel
theorem dX6_trueValue_34 : decode cX6_trueValue 34 = .ok (.isub, 1) := by decide +kernel
theorem dX6_trueValue_35 : decode cX6_trueValue 35 = .ok (.iadd, 1) := by decide +kernel
theorem dX6_trueValue_36 : decode cX6_trueValue 36 = .ok (.istore_n 1, 1) := by decide +kernel
theorem dX6_trueValue_37 : decode cX6_trueValue 37 = .ok (.iinc 2 1, 3) := by decide +kernel
theorem dX6_trueValue_40 : decode cX6_trueValue 40 = .ok (.goto (-33), 3) := by decide +kernel
theorem dX6_trueValue_43 : decode cX6_trueValue 43 = .ok (.iload_n 1, 1) := by decide +kernel
theorem dX6_trueValue_44 : decode cX6_trueValue 44 = .ok (.ireturn, 1) := by decide +kernel
theorem dX6_valueKnownAt_0 : decode cX6_valueKnownAt 0 = .ok (.aload_n 0, 1) := by decide +kernel
theorem dX6_valueKnownAt_1 : decode cX6_valueKnownAt 1 = .ok (.getfield 44, 3) := by decide +kernel
theorem dX6_valueKnownAt_4 : decode cX6_valueKnownAt 4 = .ok (.istore_n 2, 1) := by decide +kernel
theorem dX6_valueKnownAt_5 : decode cX6_valueKnownAt 5 = .ok (.iconst 0, 1) := by decide +kernel
theorem dX6_valueKnownAt_6 : decode cX6_valueKnownAt 6 = .ok (.istore_n 3, 1) := by decide +kernel
theorem dX6_valueKnownAt_7 : decode cX6_valueKnownAt 7 = .ok (.iload_n 3, 1) := by decide +kernel
theorem dX6_valueKnownAt_8 : decode cX6_valueKnownAt 8 = .ok (.aload_n 0, 1) := by decide +kernel
theorem dX6_valueKnownAt_9 : decode cX6_valueKnownAt 9 = .ok (.getfield 23, 3) := by decide +kernel
theorem dX6_valueKnownAt_12 : decode cX6_valueKnownAt 12 = .ok (.if_icmp .ge 40, 3) := by decide +kernel
theorem dX6_valueKnownAt_15 : decode cX6_valueKnownAt 15 = .ok (.aload_n 0, 1) := by decide +kernel
theorem dX6_valueKnownAt_16 : decode cX6_valueKnownAt 16 = .ok (.getfield 29, 3) := by decide +kernel
theorem dX6_valueKnownAt_19 : decode cX6_valueKnownAt 19 = .ok (.iload_n 1, 1) := by decide +kernel
theorem dX6_valueKnownAt_20 : decode cX6_valueKnownAt 20 = .ok (.aaload, 1) := by decide +kernel
theorem dX6_valueKnownAt_21 : decode cX6_valueKnownAt 21 = .ok (.getfield 69, 3) := by decide +kernel
theorem dX6_valueKnownAt_24 : decode cX6_valueKnownAt 24 = .ok (.iload_n 3, 1) := by decide +kernel
theorem dX6_valueKnownAt_25 : decode cX6_valueKnownAt 25 = .ok (.aaload, 1) := by decide +kernel
theorem dX6_valueKnownAt_26 : decode cX6_valueKnownAt 26 = .ok (.astore 4, 2) := by decide +kernel
theorem dX6_valueKnownAt_28 : decode cX6_valueKnownAt 28 = .ok (.iload_n 2, 1) := by decide +kernel
theorem dX6_valueKnownAt_29 : decode cX6_valueKnownAt 29 = .ok (.aload 4, 2) := by decide +kernel
theorem dX6_valueKnownAt_31 : decode cX6_valueKnownAt 31 = .ok (.getfield 77, 3) := by decide +kernel
theorem dX6_valueKnownAt_34 : decode cX6_valueKnownAt 34 = .ok (.iconst 0, 1) := by decide +kernel
theorem dX6_valueKnownAt_35 : decode cX6_valueKnownAt 35 = .ok (.iaload, 1) := by decide +kernel
theorem dX6_valueKnownAt_36 : decode cX6_valueKnownAt 36 = .ok (.aload 4, 2) := by decide +kernel
theorem dX6_valueKnownAt_38 : decode cX6_valueKnownAt 38 = .ok (.getfield 77, 3) := by decide +kernel
theorem dX6_valueKnownAt_41 : decode cX6_valueKnownAt 41 = .ok (.iconst 1, 1) := by decide +kernel
theorem dX6_valueKnownAt_42 : decode cX6_valueKnownAt 42 = .ok (.iaload, 1) := by decide +kernel
theorem dX6_valueKnownAt_43 : decode cX6_valueKnownAt 43 = .ok (.isub, 1) := by decide +kernel
theorem dX6_valueKnownAt_44 : decode cX6_valueKnownAt 44 = .ok (.iadd, 1) := by decide +kernel
theorem dX6_valueKnownAt_45 : decode cX6_valueKnownAt 45 = .ok (.istore_n 2, 1) := by decide +kernel
theorem dX6_valueKnownAt_46 : decode cX6_valueKnownAt 46 = .ok (.iinc 3 1, 3) := by decide +kernel
theorem dX6_valueKnownAt_49 : decode cX6_valueKnownAt 49 = .ok (.goto (-42), 3) := by decide +kernel
theorem dX6_valueKnownAt_52 : decode cX6_valueKnownAt 52 = .ok (.iload_n 2, 1) := by decide +kernel
theorem dX6_valueKnownAt_53 : decode cX6_valueKnownAt 53 = .ok (.ireturn, 1) := by decide +kernel
theorem dX6_roomAt_0 : decode cX6_roomAt 0 = .ok (.iload_n 2, 1) := by decide +kernel
theorem dX6_roomAt_1 : decode cX6_roomAt 1 = .ok (.ifCond .ne 12, 3) := by decide +kernel
theorem dX6_roomAt_4 : decode cX6_roomAt 4 = .ok (.aload_n 0, 1) := by decide +kernel
theorem dX6_roomAt_5 : decode cX6_roomAt 5 = .ok (.getfield 41, 3) := by decide +kernel
theorem dX6_roomAt_8 : decode cX6_roomAt 8 = .ok (.iload_n 1, 1) := by decide +kernel
theorem dX6_roomAt_9 : decode cX6_roomAt 9 = .ok (.isub, 1) := by decide +kernel
theorem dX6_roomAt_10 : decode cX6_roomAt 10 = .ok (.goto 9, 3) := by decide +kernel
theorem dX6_roomAt_13 : decode cX6_roomAt 13 = .ok (.iload_n 1, 1) := by decide +kernel
theorem dX6_roomAt_14 : decode cX6_roomAt 14 = .ok (.aload_n 0, 1) := by decide +kernel
theorem dX6_roomAt_15 : decode cX6_roomAt 15 = .ok (.getfield 38, 3) := by decide +kernel
theorem dX6_roomAt_18 : decode cX6_roomAt 18 = .ok (.isub, 1) := by decide +kernel
theorem dX6_roomAt_19 : decode cX6_roomAt 19 = .ok (.ireturn, 1) := by decide +kernel
theorem dX6_ownRights_0 : decode cX6_ownRights 0 = .ok (.aload_n 0, 1) := by decide +kernel
theorem dX6_ownRights_1 : decode cX6_ownRights 1 = .ok (.iload_n 1, 1) := by decide +kernel
theorem dX6_ownRights_2 : decode cX6_ownRights 2 = .ok (.invokevirtual 73, 3) := by decide +kernel
theorem dX6_ownRights_5 : decode cX6_ownRights 5 = .ok (.astore_n 3, 1) := by decide +kernel
theorem dX6_ownRights_6 : decode cX6_ownRights 6 = .ok (.iload_n 1, 1) := by decide +kernel
theorem dX6_ownRights_7 : decode cX6_ownRights 7 = .ok (.ifCond .ne 15, 3) := by decide +kernel
theorem dX6_ownRights_10 : decode cX6_ownRights 10 = .ok (.aload_n 0, 1) := by decide +kernel
theorem dX6_ownRights_11 : decode cX6_ownRights 11 = .ok (.aload_n 0, 1) := by decide +kernel
theorem dX6_ownRights_12 : decode cX6_ownRights 12 = .ok (.getfield 44, 3) := by decide +kernel
theorem dX6_ownRights_15 : decode cX6_ownRights 15 = .ok (.iload_n 2, 1) := by decide +kernel
theorem dX6_ownRights_16 : decode cX6_ownRights 16 = .ok (.invokevirtual 83, 3) := by decide +kernel
theorem dX6_ownRights_19 : decode cX6_ownRights 19 = .ok (.goto 4, 3) := by decide +kernel
theorem dX6_ownRights_22 : decode cX6_ownRights 22 = .ok (.iconst 0, 1) := by decide +kernel
theorem dX6_ownRights_23 : decode cX6_ownRights 23 = .ok (.istore 4, 2) := by decide +kernel
theorem dX6_ownRights_25 : decode cX6_ownRights 25 = .ok (.iload 4, 2) := by decide +kernel
theorem dX6_ownRights_27 : decode cX6_ownRights 27 = .ok (.aload_n 3, 1) := by decide +kernel
theorem dX6_ownRights_28 : decode cX6_ownRights 28 = .ok (.getfield 77, 3) := by decide +kernel
theorem dX6_ownRights_31 : decode cX6_ownRights 31 = .ok (.iload_n 2, 1) := by decide +kernel
theorem dX6_ownRights_32 : decode cX6_ownRights 32 = .ok (.ifCond .ne 7, 3) := by decide +kernel
theorem dX6_ownRights_35 : decode cX6_ownRights 35 = .ok (.iconst 1, 1) := by decide +kernel
theorem dX6_ownRights_36 : decode cX6_ownRights 36 = .ok (.goto 4, 3) := by decide +kernel
theorem dX6_ownRights_39 : decode cX6_ownRights 39 = .ok (.iconst 0, 1) := by decide +kernel
theorem dX6_ownRights_40 : decode cX6_ownRights 40 = .ok (.iaload, 1) := by decide +kernel
theorem dX6_ownRights_41 : decode cX6_ownRights 41 = .ok (.aload_n 3, 1) := by decide +kernel
theorem dX6_ownRights_42 : decode cX6_ownRights 42 = .ok (.getfield 77, 3) := by decide +kernel
theorem dX6_ownRights_45 : decode cX6_ownRights 45 = .ok (.iload_n 2, 1) := by decide +kernel
theorem dX6_ownRights_46 : decode cX6_ownRights 46 = .ok (.iaload, 1) := by decide +kernel
theorem dX6_ownRights_47 : decode cX6_ownRights 47 = .ok (.isub, 1) := by decide +kernel
theorem dX6_ownRights_48 : decode cX6_ownRights 48 = .ok (.iadd, 1) := by decide +kernel
theorem dX6_ownRights_49 : decode cX6_ownRights 49 = .ok (.istore 4, 2) := by decide +kernel
theorem dX6_ownRights_51 : decode cX6_ownRights 51 = .ok (.iconst 0, 1) := by decide +kernel
theorem dX6_ownRights_52 : decode cX6_ownRights 52 = .ok (.istore 5, 2) := by decide +kernel
theorem dX6_ownRights_54 : decode cX6_ownRights 54 = .ok (.iload 5, 2) := by decide +kernel
theorem dX6_ownRights_56 : decode cX6_ownRights 56 = .ok (.aload_n 0, 1) := by decide +kernel
theorem dX6_ownRights_57 : decode cX6_ownRights 57 = .ok (.getfield 23, 3) := by decide +kernel
theorem dX6_ownRights_60 : decode cX6_ownRights 60 = .ok (.if_icmp .ge 45, 3) := by decide +kernel
theorem dX6_ownRights_63 : decode cX6_ownRights 63 = .ok (.iload 5, 2) := by decide +kernel
theorem dX6_ownRights_65 : decode cX6_ownRights 65 = .ok (.iload_n 1, 1) := by decide +kernel
theorem dX6_ownRights_66 : decode cX6_ownRights 66 = .ok (.if_icmp .eq 33, 3) := by decide +kernel
theorem dX6_ownRights_69 : decode cX6_ownRights 69 = .ok (.iload 4, 2) := by decide +kernel
theorem dX6_ownRights_71 : decode cX6_ownRights 71 = .ok (.aload_n 0, 1) := by decide +kernel
theorem dX6_ownRights_72 : decode cX6_ownRights 72 = .ok (.getfield 29, 3) := by decide +kernel
theorem dX6_ownRights_75 : decode cX6_ownRights 75 = .ok (.iload_n 1, 1) := by decide +kernel
theorem dX6_ownRights_76 : decode cX6_ownRights 76 = .ok (.aaload, 1) := by decide +kernel
theorem dX6_ownRights_77 : decode cX6_ownRights 77 = .ok (.getfield 69, 3) := by decide +kernel
theorem dX6_ownRights_80 : decode cX6_ownRights 80 = .ok (.iload 5, 2) := by decide +kernel
theorem dX6_ownRights_82 : decode cX6_ownRights 82 = .ok (.aaload, 1) := by decide +kernel
theorem dX6_ownRights_83 : decode cX6_ownRights 83 = .ok (.iload_n 1, 1) := by decide +kernel
theorem dX6_ownRights_84 : decode cX6_ownRights 84 = .ok (.iload_n 2, 1) := by decide +kernel
theorem dX6_ownRights_85 : decode cX6_ownRights 85 = .ok (.invokevirtual 87, 3) := by decide +kernel
theorem dX6_ownRights_88 : decode cX6_ownRights 88 = .ok (.aload_n 3, 1) := by decide +kernel
theorem dX6_ownRights_89 : decode cX6_ownRights 89 = .ok (.iload 5, 2) := by decide +kernel
theorem dX6_ownRights_91 : decode cX6_ownRights 91 = .ok (.iload_n 2, 1) := by decide +kernel
theorem dX6_ownRights_92 : decode cX6_ownRights 92 = .ok (.invokevirtual 87, 3) := by decide +kernel
theorem dX6_ownRights_95 : decode cX6_ownRights 95 = .ok (.isub, 1) := by decide +kernel
theorem dX6_ownRights_96 : decode cX6_ownRights 96 = .ok (.iadd, 1) := by decide +kernel
theorem dX6_ownRights_97 : decode cX6_ownRights 97 = .ok (.istore 4, 2) := by decide +kernel
theorem dX6_ownRights_99 : decode cX6_ownRights 99 = .ok (.iinc 5 1, 3) := by decide +kernel
theorem dX6_ownRights_102 : decode cX6_ownRights 102 = .ok (.goto (-48), 3) := by decide +kernel
theorem dX6_ownRights_105 : decode cX6_ownRights 105 = .ok (.iconst 0, 1) := by decide +kernel
theorem dX6_ownRights_106 : decode cX6_ownRights 106 = .ok (.istore 5, 2) := by decide +kernel
theorem dX6_ownRights_108 : decode cX6_ownRights 108 = .ok (.iload 5, 2) := by decide +kernel
theorem dX6_ownRights_110 : decode cX6_ownRights 110 = .ok (.aload_n 0, 1) := by decide +kernel
theorem dX6_ownRights_111 : decode cX6_ownRights 111 = .ok (.getfield 50, 3) := by decide +kernel
theorem dX6_ownRights_114 : decode cX6_ownRights 114 = .ok (.if_icmp .ge 35, 3) := by decide +kernel
theorem dX6_ownRights_117 : decode cX6_ownRights 117 = .ok (.aload_n 0, 1) := by decide +kernel
theorem dX6_ownRights_118 : decode cX6_ownRights 118 = .ok (.getfield 11, 3) := by decide +kernel
theorem dX6_ownRights_121 : decode cX6_ownRights 121 = .ok (.iload 5, 2) := by decide +kernel
theorem dX6_ownRights_123 : decode cX6_ownRights 123 = .ok (.aaload, 1) := by decide +kernel
theorem dX6_ownRights_124 : decode cX6_ownRights 124 = .ok (.getfield 90, 3) := by decide +kernel
theorem dX6_ownRights_127 : decode cX6_ownRights 127 = .ok (.iload_n 2, 1) := by decide +kernel
theorem dX6_ownRights_128 : decode cX6_ownRights 128 = .ok (.if_icmp .ne 15, 3) := by decide +kernel
theorem dX6_ownRights_131 : decode cX6_ownRights 131 = .ok (.iload 4, 2) := by decide +kernel
theorem dX6_ownRights_133 : decode cX6_ownRights 133 = .ok (.aload_n 0, 1) := by decide +kernel
theorem dX6_ownRights_134 : decode cX6_ownRights 134 = .ok (.iload 5, 2) := by decide +kernel
theorem dX6_ownRights_136 : decode cX6_ownRights 136 = .ok (.iload_n 1, 1) := by decide +kernel
theorem dX6_ownRights_137 : decode cX6_ownRights 137 = .ok (.invokevirtual 93, 3) := by decide +kernel
theorem dX6_ownRights_140 : decode cX6_ownRights 140 = .ok (.iadd, 1) := by decide +kernel
theorem dX6_ownRights_141 : decode cX6_ownRights 141 = .ok (.istore 4, 2) := by decide +kernel
theorem dX6_ownRights_143 : decode cX6_ownRights 143 = .ok (.iinc 5 1, 3) := by decide +kernel
theorem dX6_ownRights_146 : decode cX6_ownRights 146 = .ok (.goto (-38), 3) := by decide +kernel
theorem dX6_ownRights_149 : decode cX6_ownRights 149 = .ok (.iload 4, 2) := by decide +kernel
theorem dX6_ownRights_151 : decode cX6_ownRights 151 = .ok (.ireturn, 1) := by decide +kernel
theorem dX6_loanBalance_0 : decode cX6_loanBalance 0 = .ok (.aload_n 0, 1) := by decide +kernel
theorem dX6_loanBalance_1 : decode cX6_loanBalance 1 = .ok (.getfield 11, 3) := by decide +kernel
theorem dX6_loanBalance_4 : decode cX6_loanBalance 4 = .ok (.iload_n 1, 1) := by decide +kernel
theorem dX6_loanBalance_5 : decode cX6_loanBalance 5 = .ok (.aaload, 1) := by decide +kernel
theorem dX6_loanBalance_6 : decode cX6_loanBalance 6 = .ok (.astore_n 3, 1) := by decide +kernel
theorem dX6_loanBalance_7 : decode cX6_loanBalance 7 = .ok (.aload_n 3, 1) := by decide +kernel
theorem dX6_loanBalance_8 : decode cX6_loanBalance 8 = .ok (.getfield 96, 3) := by decide +kernel
theorem dX6_loanBalance_11 : decode cX6_loanBalance 11 = .ok (.iload_n 2, 1) := by decide +kernel
theorem dX6_loanBalance_12 : decode cX6_loanBalance 12 = .ok (.if_icmp .ne 14, 3) := by decide +kernel
theorem dX6_loanBalance_15 : decode cX6_loanBalance 15 = .ok (.aload_n 0, 1) := by decide +kernel
theorem dX6_loanBalance_16 : decode cX6_loanBalance 16 = .ok (.iload_n 2, 1) := by decide +kernel
theorem dX6_loanBalance_17 : decode cX6_loanBalance 17 = .ok (.invokevirtual 73, 3) := by decide +kernel
theorem dX6_loanBalance_20 : decode cX6_loanBalance 20 = .ok (.getfield 99, 3) := by decide +kernel
theorem dX6_loanBalance_23 : decode cX6_loanBalance 23 = .ok (.iload_n 1, 1) := by decide +kernel
theorem dX6_loanBalance_24 : decode cX6_loanBalance 24 = .ok (.iaload, 1) := by decide +kernel
theorem dX6_loanBalance_25 : decode cX6_loanBalance 25 = .ok (.ireturn, 1) := by decide +kernel
theorem dX6_loanBalance_26 : decode cX6_loanBalance 26 = .ok (.aload_n 3, 1) := by decide +kernel
theorem dX6_loanBalance_27 : decode cX6_loanBalance 27 = .ok (.getfield 102, 3) := by decide +kernel
theorem dX6_loanBalance_30 : decode cX6_loanBalance 30 = .ok (.iload_n 2, 1) := by decide +kernel
theorem dX6_loanBalance_31 : decode cX6_loanBalance 31 = .ok (.if_icmp .eq 5, 3) := by decide +kernel
theorem dX6_loanBalance_34 : decode cX6_loanBalance 34 = .ok (.iconst 0, 1) := by decide +kernel
theorem dX6_loanBalance_35 : decode cX6_loanBalance 35 = .ok (.ireturn, 1) := by decide +kernel
theorem dX6_loanBalance_36 : decode cX6_loanBalance 36 = .ok (.aload_n 0, 1) := by decide +kernel
theorem dX6_loanBalance_37 : decode cX6_loanBalance 37 = .ok (.aload_n 3, 1) := by decide +kernel
theorem dX6_loanBalance_38 : decode cX6_loanBalance 38 = .ok (.invokevirtual 105, 3) := by decide +kernel
theorem dX6_loanBalance_41 : decode cX6_loanBalance 41 = .ok (.ifCond .ne 9, 3) := by decide +kernel
theorem dX6_loanBalance_44 : decode cX6_loanBalance 44 = .ok (.aload_n 3, 1) := by decide +kernel
theorem dX6_loanBalance_45 : decode cX6_loanBalance 45 = .ok (.getfield 109, 3) := by decide +kernel
theorem dX6_loanBalance_48 : decode cX6_loanBalance 48 = .ok (.ineg, 1) := by decide +kernel
theorem dX6_loanBalance_49 : decode cX6_loanBalance 49 = .ok (.ireturn, 1) := by decide +kernel
theorem dX6_loanBalance_50 : decode cX6_loanBalance 50 = .ok (.aload_n 0, 1) := by decide +kernel
theorem dX6_loanBalance_51 : decode cX6_loanBalance 51 = .ok (.getfield 29, 3) := by decide +kernel
theorem dX6_loanBalance_54 : decode cX6_loanBalance 54 = .ok (.iload_n 2, 1) := by decide +kernel
theorem dX6_loanBalance_55 : decode cX6_loanBalance 55 = .ok (.aaload, 1) := by decide +kernel
theorem dX6_loanBalance_56 : decode cX6_loanBalance 56 = .ok (.getfield 69, 3) := by decide +kernel
theorem dX6_loanBalance_59 : decode cX6_loanBalance 59 = .ok (.aload_n 3, 1) := by decide +kernel
theorem dX6_loanBalance_60 : decode cX6_loanBalance 60 = .ok (.getfield 96, 3) := by decide +kernel
theorem dX6_loanBalance_63 : decode cX6_loanBalance 63 = .ok (.aaload, 1) := by decide +kernel
theorem dX6_loanBalance_64 : decode cX6_loanBalance 64 = .ok (.getfield 99, 3) := by decide +kernel
theorem dX6_loanBalance_67 : decode cX6_loanBalance 67 = .ok (.iload_n 1, 1) := by decide +kernel
theorem dX6_loanBalance_68 : decode cX6_loanBalance 68 = .ok (.iaload, 1) := by decide +kernel
theorem dX6_loanBalance_69 : decode cX6_loanBalance 69 = .ok (.ineg, 1) := by decide +kernel
theorem dX6_loanBalance_70 : decode cX6_loanBalance 70 = .ok (.ireturn, 1) := by decide +kernel
theorem dX6_hasComeBack_0 : decode cX6_hasComeBack 0 = .ok (.aload_n 0, 1) := by decide +kernel
theorem dX6_hasComeBack_1 : decode cX6_hasComeBack 1 = .ok (.getfield 47, 3) := by decide +kernel
theorem dX6_hasComeBack_4 : decode cX6_hasComeBack 4 = .ok (.aload_n 1, 1) := by decide +kernel
theorem dX6_hasComeBack_5 : decode cX6_hasComeBack 5 = .ok (.getfield 112, 3) := by decide +kernel
theorem dX6_hasComeBack_8 : decode cX6_hasComeBack 8 = .ok (.if_icmp .lt 34, 3) := by decide +kernel
theorem dX6_hasComeBack_11 : decode cX6_hasComeBack 11 = .ok (.aload_n 0, 1) := by decide +kernel
theorem dX6_hasComeBack_12 : decode cX6_hasComeBack 12 = .ok (.getfield 29, 3) := by decide +kernel
theorem dX6_hasComeBack_15 : decode cX6_hasComeBack 15 = .ok (.aload_n 1, 1) := by decide +kernel
theorem dX6_hasComeBack_16 : decode cX6_hasComeBack 16 = .ok (.getfield 102, 3) := by decide +kernel
theorem dX6_hasComeBack_19 : decode cX6_hasComeBack 19 = .ok (.aaload, 1) := by decide +kernel
theorem dX6_hasComeBack_20 : decode cX6_hasComeBack 20 = .ok (.getfield 69, 3) := by decide +kernel
theorem dX6_hasComeBack_23 : decode cX6_hasComeBack 23 = .ok (.aload_n 1, 1) := by decide +kernel
theorem dX6_hasComeBack_24 : decode cX6_hasComeBack 24 = .ok (.getfield 96, 3) := by decide +kernel
theorem dX6_hasComeBack_27 : decode cX6_hasComeBack 27 = .ok (.aaload, 1) := by decide +kernel
theorem dX6_hasComeBack_28 : decode cX6_hasComeBack 28 = .ok (.getfield 115, 3) := by decide +kernel
theorem dX6_hasComeBack_31 : decode cX6_hasComeBack 31 = .ok (.aload_n 1, 1) := by decide +kernel
theorem dX6_hasComeBack_32 : decode cX6_hasComeBack 32 = .ok (.getfield 112, 3) := by decide +kernel
theorem dX6_hasComeBack_35 : decode cX6_hasComeBack 35 = .ok (.if_icmp .lt 7, 3) := by decide +kernel
theorem dX6_hasComeBack_38 : decode cX6_hasComeBack 38 = .ok (.iconst 1, 1) := by decide +kernel
theorem dX6_hasComeBack_39 : decode cX6_hasComeBack 39 = .ok (.goto 4, 3) := by decide +kernel
theorem dX6_hasComeBack_42 : decode cX6_hasComeBack 42 = .ok (.iconst 0, 1) := by decide +kernel
theorem dX6_hasComeBack_43 : decode cX6_hasComeBack 43 = .ok (.ireturn, 1) := by decide +kernel
theorem dX6_restOf_0 : decode cX6_restOf 0 = .ok (.aload_n 0, 1) := by decide +kernel
theorem dX6_restOf_1 : decode cX6_restOf 1 = .ok (.getfield 11, 3) := by decide +kernel
theorem dX6_restOf_4 : decode cX6_restOf 4 = .ok (.iload_n 1, 1) := by decide +kernel
theorem dX6_restOf_5 : decode cX6_restOf 5 = .ok (.aaload, 1) := by decide +kernel
theorem dX6_restOf_6 : decode cX6_restOf 6 = .ok (.astore_n 2, 1) := by decide +kernel
theorem dX6_restOf_7 : decode cX6_restOf 7 = .ok (.aload_n 0, 1) := by decide +kernel
theorem dX6_restOf_8 : decode cX6_restOf 8 = .ok (.getfield 29, 3) := by decide +kernel
theorem dX6_restOf_11 : decode cX6_restOf 11 = .ok (.aload_n 2, 1) := by decide +kernel
theorem dX6_restOf_12 : decode cX6_restOf 12 = .ok (.getfield 96, 3) := by decide +kernel
theorem dX6_restOf_15 : decode cX6_restOf 15 = .ok (.aaload, 1) := by decide +kernel
theorem dX6_restOf_16 : decode cX6_restOf 16 = .ok (.getfield 69, 3) := by decide +kernel
theorem dX6_restOf_19 : decode cX6_restOf 19 = .ok (.aload_n 2, 1) := by decide +kernel
theorem dX6_restOf_20 : decode cX6_restOf 20 = .ok (.getfield 102, 3) := by decide +kernel
theorem dX6_restOf_23 : decode cX6_restOf 23 = .ok (.aaload, 1) := by decide +kernel
theorem dX6_restOf_24 : decode cX6_restOf 24 = .ok (.iload_n 1, 1) := by decide +kernel
theorem dX6_restOf_25 : decode cX6_restOf 25 = .ok (.invokevirtual 116, 3) := by decide +kernel
theorem dX6_restOf_28 : decode cX6_restOf 28 = .ok (.istore_n 3, 1) := by decide +kernel
theorem dX6_restOf_29 : decode cX6_restOf 29 = .ok (.iload_n 3, 1) := by decide +kernel
theorem dX6_restOf_30 : decode cX6_restOf 30 = .ok (.ifCond .eq 14, 3) := by decide +kernel
theorem dX6_restOf_33 : decode cX6_restOf 33 = .ok (.aload_n 0, 1) := by decide +kernel
theorem dX6_restOf_34 : decode cX6_restOf 34 = .ok (.getfield 47, 3) := by decide +kernel
theorem dX6_restOf_37 : decode cX6_restOf 37 = .ok (.aload_n 2, 1) := by decide +kernel
theorem dX6_restOf_38 : decode cX6_restOf 38 = .ok (.getfield 112, 3) := by decide +kernel
theorem dX6_restOf_41 : decode cX6_restOf 41 = .ok (.if_icmp .lt 5, 3) := by decide +kernel
theorem dX6_restOf_44 : decode cX6_restOf 44 = .ok (.iconst 0, 1) := by decide +kernel
theorem dX6_restOf_45 : decode cX6_restOf 45 = .ok (.ireturn, 1) := by decide +kernel
theorem dX6_restOf_46 : decode cX6_restOf 46 = .ok (.aload_n 2, 1) := by decide +kernel
theorem dX6_restOf_47 : decode cX6_restOf 47 = .ok (.getfield 109, 3) := by decide +kernel
theorem dX6_restOf_50 : decode cX6_restOf 50 = .ok (.aload_n 0, 1) := by decide +kernel
theorem dX6_restOf_51 : decode cX6_restOf 51 = .ok (.aload_n 2, 1) := by decide +kernel
theorem dX6_restOf_52 : decode cX6_restOf 52 = .ok (.getfield 96, 3) := by decide +kernel
theorem dX6_restOf_55 : decode cX6_restOf 55 = .ok (.invokevirtual 73, 3) := by decide +kernel
theorem dX6_restOf_58 : decode cX6_restOf 58 = .ok (.getfield 99, 3) := by decide +kernel
theorem dX6_restOf_61 : decode cX6_restOf 61 = .ok (.iload_n 1, 1) := by decide +kernel
theorem dX6_restOf_62 : decode cX6_restOf 62 = .ok (.iaload, 1) := by decide +kernel
theorem dX6_restOf_63 : decode cX6_restOf 63 = .ok (.isub, 1) := by decide +kernel
theorem dX6_restOf_64 : decode cX6_restOf 64 = .ok (.ireturn, 1) := by decide +kernel
theorem dX6_availableRights_0 : decode cX6_availableRights 0 = .ok (.aload_n 0, 1) := by decide +kernel
theorem dX6_availableRights_1 : decode cX6_availableRights 1 = .ok (.iload_n 1, 1) := by decide +kernel
theorem dX6_availableRights_2 : decode cX6_availableRights 2 = .ok (.iload_n 2, 1) := by decide +kernel
theorem dX6_availableRights_3 : decode cX6_availableRights 3 = .ok (.invokevirtual 120, 3) := by decide +kernel
theorem dX6_availableRights_6 : decode cX6_availableRights 6 = .ok (.istore_n 3, 1) := by decide +kernel
theorem dX6_availableRights_7 : decode cX6_availableRights 7 = .ok (.iconst 0, 1) := by decide +kernel
theorem dX6_availableRights_8 : decode cX6_availableRights 8 = .ok (.istore 4, 2) := by decide +kernel
theorem dX6_availableRights_10 : decode cX6_availableRights 10 = .ok (.iload 4, 2) := by decide +kernel
theorem dX6_availableRights_12 : decode cX6_availableRights 12 = .ok (.aload_n 0, 1) := by decide +kernel
theorem dX6_availableRights_13 : decode cX6_availableRights 13 = .ok (.getfield 50, 3) := by decide +kernel
theorem dX6_availableRights_16 : decode cX6_availableRights 16 = .ok (.if_icmp .ge 46, 3) := by decide +kernel
theorem dX6_availableRights_19 : decode cX6_availableRights 19 = .ok (.aload_n 0, 1) := by decide +kernel
theorem dX6_availableRights_20 : decode cX6_availableRights 20 = .ok (.getfield 11, 3) := by decide +kernel
theorem dX6_availableRights_23 : decode cX6_availableRights 23 = .ok (.iload 4, 2) := by decide +kernel
theorem dX6_availableRights_25 : decode cX6_availableRights 25 = .ok (.aaload, 1) := by decide +kernel
theorem dX6_availableRights_26 : decode cX6_availableRights 26 = .ok (.getfield 96, 3) := by decide +kernel
theorem dX6_availableRights_29 : decode cX6_availableRights 29 = .ok (.iload_n 1, 1) := by decide +kernel
theorem dX6_availableRights_30 : decode cX6_availableRights 30 = .ok (.if_icmp .ne 26, 3) := by decide +kernel
theorem dX6_availableRights_33 : decode cX6_availableRights 33 = .ok (.aload_n 0, 1) := by decide +kernel
theorem dX6_availableRights_34 : decode cX6_availableRights 34 = .ok (.getfield 11, 3) := by decide +kernel
theorem dX6_availableRights_37 : decode cX6_availableRights 37 = .ok (.iload 4, 2) := by decide +kernel
theorem dX6_availableRights_39 : decode cX6_availableRights 39 = .ok (.aaload, 1) := by decide +kernel
theorem dX6_availableRights_40 : decode cX6_availableRights 40 = .ok (.getfield 90, 3) := by decide +kernel
theorem dX6_availableRights_43 : decode cX6_availableRights 43 = .ok (.iload_n 2, 1) := by decide +kernel
theorem dX6_availableRights_44 : decode cX6_availableRights 44 = .ok (.if_icmp .ne 12, 3) := by decide +kernel
theorem dX6_availableRights_47 : decode cX6_availableRights 47 = .ok (.iload_n 3, 1) := by decide +kernel
theorem dX6_availableRights_48 : decode cX6_availableRights 48 = .ok (.aload_n 0, 1) := by decide +kernel
theorem dX6_availableRights_49 : decode cX6_availableRights 49 = .ok (.iload 4, 2) := by decide +kernel
theorem dX6_availableRights_51 : decode cX6_availableRights 51 = .ok (.invokevirtual 123, 3) := by decide +kernel
theorem dX6_availableRights_54 : decode cX6_availableRights 54 = .ok (.iadd, 1) := by decide +kernel
theorem dX6_availableRights_55 : decode cX6_availableRights 55 = .ok (.istore_n 3, 1) := by decide +kernel
theorem dX6_availableRights_56 : decode cX6_availableRights 56 = .ok (.iinc 4 1, 3) := by decide +kernel
theorem dX6_availableRights_59 : decode cX6_availableRights 59 = .ok (.goto (-49), 3) := by decide +kernel
theorem dX6_availableRights_62 : decode cX6_availableRights 62 = .ok (.iload_n 3, 1) := by decide +kernel
theorem dX6_availableRights_63 : decode cX6_availableRights 63 = .ok (.ireturn, 1) := by decide +kernel
theorem dX6_dormantRights_0 : decode cX6_dormantRights 0 = .ok (.aload_n 0, 1) := by decide +kernel
theorem dX6_dormantRights_1 : decode cX6_dormantRights 1 = .ok (.aload_n 0, 1) := by decide +kernel
theorem dX6_dormantRights_2 : decode cX6_dormantRights 2 = .ok (.invokevirtual 127, 3) := by decide +kernel
theorem dX6_dormantRights_5 : decode cX6_dormantRights 5 = .ok (.iload_n 1, 1) := by decide +kernel
theorem dX6_dormantRights_6 : decode cX6_dormantRights 6 = .ok (.invokevirtual 83, 3) := by decide +kernel
theorem dX6_dormantRights_9 : decode cX6_dormantRights 9 = .ok (.istore_n 2, 1) := by decide +kernel
theorem dX6_dormantRights_10 : decode cX6_dormantRights 10 = .ok (.iconst 0, 1) := by decide +kernel
theorem dX6_dormantRights_11 : decode cX6_dormantRights 11 = .ok (.istore_n 3, 1) := by decide +kernel
theorem dX6_dormantRights_12 : decode cX6_dormantRights 12 = .ok (.iload_n 3, 1) := by decide +kernel
theorem dX6_dormantRights_13 : decode cX6_dormantRights 13 = .ok (.aload_n 0, 1) := by decide +kernel
theorem dX6_dormantRights_14 : decode cX6_dormantRights 14 = .ok (.getfield 23, 3) := by decide +kernel
theorem dX6_dormantRights_17 : decode cX6_dormantRights 17 = .ok (.if_icmp .ge 18, 3) := by decide +kernel
theorem dX6_dormantRights_20 : decode cX6_dormantRights 20 = .ok (.iload_n 2, 1) := by decide +kernel
theorem dX6_dormantRights_21 : decode cX6_dormantRights 21 = .ok (.aload_n 0, 1) := by decide +kernel
theorem dX6_dormantRights_22 : decode cX6_dormantRights 22 = .ok (.iload_n 3, 1) := by decide +kernel
theorem dX6_dormantRights_23 : decode cX6_dormantRights 23 = .ok (.iload_n 1, 1) := by decide +kernel
theorem dX6_dormantRights_24 : decode cX6_dormantRights 24 = .ok (.invokevirtual 131, 3) := by decide +kernel
theorem dX6_dormantRights_27 : decode cX6_dormantRights 27 = .ok (.isub, 1) := by decide +kernel
theorem dX6_dormantRights_28 : decode cX6_dormantRights 28 = .ok (.istore_n 2, 1) := by decide +kernel
theorem dX6_dormantRights_29 : decode cX6_dormantRights 29 = .ok (.iinc 3 1, 3) := by decide +kernel
theorem dX6_dormantRights_32 : decode cX6_dormantRights 32 = .ok (.goto (-20), 3) := by decide +kernel
theorem dX6_dormantRights_35 : decode cX6_dormantRights 35 = .ok (.iload_n 2, 1) := by decide +kernel
theorem dX6_dormantRights_36 : decode cX6_dormantRights 36 = .ok (.ireturn, 1) := by decide +kernel
theorem dX6_fewestHelpers_0 : decode cX6_fewestHelpers 0 = .ok (.iload_n 3, 1) := by decide +kernel
theorem dX6_fewestHelpers_1 : decode cX6_fewestHelpers 1 = .ok (.aload_n 0, 1) := by decide +kernel
theorem dX6_fewestHelpers_2 : decode cX6_fewestHelpers 2 = .ok (.iload_n 1, 1) := by decide +kernel
theorem dX6_fewestHelpers_3 : decode cX6_fewestHelpers 3 = .ok (.iload_n 2, 1) := by decide +kernel
theorem dX6_fewestHelpers_4 : decode cX6_fewestHelpers 4 = .ok (.invokevirtual 131, 3) := by decide +kernel
theorem dX6_fewestHelpers_7 : decode cX6_fewestHelpers 7 = .ok (.isub, 1) := by decide +kernel
theorem dX6_fewestHelpers_8 : decode cX6_fewestHelpers 8 = .ok (.istore 4, 2) := by decide +kernel
theorem dX6_fewestHelpers_10 : decode cX6_fewestHelpers 10 = .ok (.iconst 1, 1) := by decide +kernel
theorem dX6_fewestHelpers_11 : decode cX6_fewestHelpers 11 = .ok (.iload_n 1, 1) := by decide +kernel
theorem dX6_fewestHelpers_12 : decode cX6_fewestHelpers 12 = .ok (.ishl, 1) := by decide +kernel
theorem dX6_fewestHelpers_13 : decode cX6_fewestHelpers 13 = .ok (.istore 5, 2) := by decide +kernel
theorem dX6_fewestHelpers_15 : decode cX6_fewestHelpers 15 = .ok (.iconst 0, 1) := by decide +kernel
theorem dX6_fewestHelpers_16 : decode cX6_fewestHelpers 16 = .ok (.istore 6, 2) := by decide +kernel
theorem dX6_fewestHelpers_18 : decode cX6_fewestHelpers 18 = .ok (.iload 6, 2) := by decide +kernel
theorem dX6_fewestHelpers_20 : decode cX6_fewestHelpers 20 = .ok (.aload_n 0, 1) := by decide +kernel
theorem dX6_fewestHelpers_21 : decode cX6_fewestHelpers 21 = .ok (.getfield 23, 3) := by decide +kernel
theorem dX6_fewestHelpers_24 : decode cX6_fewestHelpers 24 = .ok (.if_icmp .ge 55, 3) := by decide +kernel
theorem dX6_fewestHelpers_27 : decode cX6_fewestHelpers 27 = .ok (.iload 4, 2) := by decide +kernel
theorem dX6_fewestHelpers_29 : decode cX6_fewestHelpers 29 = .ok (.ifCond .gt 6, 3) := by decide +kernel
theorem dX6_fewestHelpers_32 : decode cX6_fewestHelpers 32 = .ok (.iload 6, 2) := by decide +kernel
theorem dX6_fewestHelpers_34 : decode cX6_fewestHelpers 34 = .ok (.ireturn, 1) := by decide +kernel
theorem dX6_fewestHelpers_35 : decode cX6_fewestHelpers 35 = .ok (.aload_n 0, 1) := by decide +kernel
theorem dX6_fewestHelpers_36 : decode cX6_fewestHelpers 36 = .ok (.iload 5, 2) := by decide +kernel
theorem dX6_fewestHelpers_38 : decode cX6_fewestHelpers 38 = .ok (.iload_n 2, 1) := by decide +kernel
theorem dX6_fewestHelpers_39 : decode cX6_fewestHelpers 39 = .ok (.invokevirtual 134, 3) := by decide +kernel
theorem dX6_fewestHelpers_42 : decode cX6_fewestHelpers 42 = .ok (.istore 7, 2) := by decide +kernel
theorem dX6_fewestHelpers_44 : decode cX6_fewestHelpers 44 = .ok (.iload 7, 2) := by decide +kernel
theorem dX6_fewestHelpers_46 : decode cX6_fewestHelpers 46 = .ok (.iconst (-1), 1) := by decide +kernel
theorem dX6_fewestHelpers_47 : decode cX6_fewestHelpers 47 = .ok (.if_icmp .ne 5, 3) := by decide +kernel
theorem dX6_fewestHelpers_50 : decode cX6_fewestHelpers 50 = .ok (.iconst (-1), 1) := by decide +kernel
theorem dX6_fewestHelpers_51 : decode cX6_fewestHelpers 51 = .ok (.ireturn, 1) := by decide +kernel
theorem dX6_fewestHelpers_52 : decode cX6_fewestHelpers 52 = .ok (.iload 4, 2) := by decide +kernel
theorem dX6_fewestHelpers_54 : decode cX6_fewestHelpers 54 = .ok (.aload_n 0, 1) := by decide +kernel
theorem dX6_fewestHelpers_55 : decode cX6_fewestHelpers 55 = .ok (.iload 7, 2) := by decide +kernel
theorem dX6_fewestHelpers_57 : decode cX6_fewestHelpers 57 = .ok (.iload_n 2, 1) := by decide +kernel
theorem dX6_fewestHelpers_58 : decode cX6_fewestHelpers 58 = .ok (.invokevirtual 120, 3) := by decide +kernel
theorem dX6_fewestHelpers_61 : decode cX6_fewestHelpers 61 = .ok (.isub, 1) := by decide +kernel
theorem dX6_fewestHelpers_62 : decode cX6_fewestHelpers 62 = .ok (.istore 4, 2) := by decide +kernel
theorem dX6_fewestHelpers_64 : decode cX6_fewestHelpers 64 = .ok (.iload 5, 2) := by decide +kernel
theorem dX6_fewestHelpers_66 : decode cX6_fewestHelpers 66 = .ok (.iconst 1, 1) := by decide +kernel
theorem dX6_fewestHelpers_67 : decode cX6_fewestHelpers 67 = .ok (.iload 7, 2) := by decide +kernel
theorem dX6_fewestHelpers_69 : decode cX6_fewestHelpers 69 = .ok (.ishl, 1) := by decide +kernel
theorem dX6_fewestHelpers_70 : decode cX6_fewestHelpers 70 = .ok (.ior, 1) := by decide +kernel
theorem dX6_fewestHelpers_71 : decode cX6_fewestHelpers 71 = .ok (.istore 5, 2) := by decide +kernel
theorem dX6_fewestHelpers_73 : decode cX6_fewestHelpers 73 = .ok (.iinc 6 1, 3) := by decide +kernel
theorem dX6_fewestHelpers_76 : decode cX6_fewestHelpers 76 = .ok (.goto (-58), 3) := by decide +kernel
theorem dX6_fewestHelpers_79 : decode cX6_fewestHelpers 79 = .ok (.iconst (-1), 1) := by decide +kernel
theorem dX6_fewestHelpers_80 : decode cX6_fewestHelpers 80 = .ok (.ireturn, 1) := by decide +kernel
theorem dX6_richestOutside_0 : decode cX6_richestOutside 0 = .ok (.iconst (-1), 1) := by decide +kernel
theorem dX6_richestOutside_1 : decode cX6_richestOutside 1 = .ok (.istore_n 3, 1) := by decide +kernel
theorem dX6_richestOutside_2 : decode cX6_richestOutside 2 = .ok (.iconst 0, 1) := by decide +kernel
theorem dX6_richestOutside_3 : decode cX6_richestOutside 3 = .ok (.istore 4, 2) := by decide +kernel
theorem dX6_richestOutside_5 : decode cX6_richestOutside 5 = .ok (.iconst 0, 1) := by decide +kernel
theorem dX6_richestOutside_6 : decode cX6_richestOutside 6 = .ok (.istore 5, 2) := by decide +kernel
theorem dX6_richestOutside_8 : decode cX6_richestOutside 8 = .ok (.iload 5, 2) := by decide +kernel
theorem dX6_richestOutside_10 : decode cX6_richestOutside 10 = .ok (.aload_n 0, 1) := by decide +kernel
theorem dX6_richestOutside_11 : decode cX6_richestOutside 11 = .ok (.getfield 23, 3) := by decide +kernel
theorem dX6_richestOutside_14 : decode cX6_richestOutside 14 = .ok (.if_icmp .ge 46, 3) := by decide +kernel
theorem dX6_richestOutside_17 : decode cX6_richestOutside 17 = .ok (.iload_n 1, 1) := by decide +kernel
theorem dX6_richestOutside_18 : decode cX6_richestOutside 18 = .ok (.iload 5, 2) := by decide +kernel
theorem dX6_richestOutside_20 : decode cX6_richestOutside 20 = .ok (.ishr, 1) := by decide +kernel
theorem dX6_richestOutside_21 : decode cX6_richestOutside 21 = .ok (.iconst 1, 1) := by decide +kernel
theorem dX6_richestOutside_22 : decode cX6_richestOutside 22 = .ok (.iand, 1) := by decide +kernel
theorem dX6_richestOutside_23 : decode cX6_richestOutside 23 = .ok (.ifCond .ne 31, 3) := by decide +kernel
theorem dX6_richestOutside_26 : decode cX6_richestOutside 26 = .ok (.aload_n 0, 1) := by decide +kernel
theorem dX6_richestOutside_27 : decode cX6_richestOutside 27 = .ok (.iload 5, 2) := by decide +kernel
theorem dX6_richestOutside_29 : decode cX6_richestOutside 29 = .ok (.iload_n 2, 1) := by decide +kernel
theorem dX6_richestOutside_30 : decode cX6_richestOutside 30 = .ok (.invokevirtual 120, 3) := by decide +kernel
theorem dX6_richestOutside_33 : decode cX6_richestOutside 33 = .ok (.istore 6, 2) := by decide +kernel
theorem dX6_richestOutside_35 : decode cX6_richestOutside 35 = .ok (.iload_n 3, 1) := by decide +kernel
theorem dX6_richestOutside_36 : decode cX6_richestOutside 36 = .ok (.iconst (-1), 1) := by decide +kernel
theorem dX6_richestOutside_37 : decode cX6_richestOutside 37 = .ok (.if_icmp .eq 10, 3) := by decide +kernel
theorem dX6_richestOutside_40 : decode cX6_richestOutside 40 = .ok (.iload 6, 2) := by decide +kernel
theorem dX6_richestOutside_42 : decode cX6_richestOutside 42 = .ok (.iload 4, 2) := by decide +kernel
theorem dX6_richestOutside_44 : decode cX6_richestOutside 44 = .ok (.if_icmp .le 10, 3) := by decide +kernel
theorem dX6_richestOutside_47 : decode cX6_richestOutside 47 = .ok (.iload 5, 2) := by decide +kernel
theorem dX6_richestOutside_49 : decode cX6_richestOutside 49 = .ok (.istore_n 3, 1) := by decide +kernel
theorem dX6_richestOutside_50 : decode cX6_richestOutside 50 = .ok (.iload 6, 2) := by decide +kernel
theorem dX6_richestOutside_52 : decode cX6_richestOutside 52 = .ok (.istore 4, 2) := by decide +kernel
theorem dX6_richestOutside_54 : decode cX6_richestOutside 54 = .ok (.iinc 5 1, 3) := by decide +kernel
theorem dX6_richestOutside_57 : decode cX6_richestOutside 57 = .ok (.goto (-49), 3) := by decide +kernel
theorem dX6_richestOutside_60 : decode cX6_richestOutside 60 = .ok (.iload_n 3, 1) := by decide +kernel
theorem dX6_richestOutside_61 : decode cX6_richestOutside 61 = .ok (.ireturn, 1) := by decide +kernel
theorem dX6_change_0 : decode cX6_change 0 = .ok (.aload_n 0, 1) := by decide +kernel
theorem dX6_change_1 : decode cX6_change 1 = .ok (.iload_n 1, 1) := by decide +kernel
theorem dX6_change_2 : decode cX6_change 2 = .ok (.invokevirtual 73, 3) := by decide +kernel
theorem dX6_change_5 : decode cX6_change 5 = .ok (.astore 4, 2) := by decide +kernel
theorem dX6_change_7 : decode cX6_change 7 = .ok (.iload_n 3, 1) := by decide +kernel
theorem dX6_change_8 : decode cX6_change 8 = .ok (.aload_n 0, 1) := by decide +kernel
theorem dX6_change_9 : decode cX6_change 9 = .ok (.iload_n 1, 1) := by decide +kernel
theorem dX6_change_10 : decode cX6_change 10 = .ok (.iload_n 2, 1) := by decide +kernel
theorem dX6_change_11 : decode cX6_change 11 = .ok (.invokevirtual 131, 3) := by decide +kernel
theorem dX6_change_14 : decode cX6_change 14 = .ok (.isub, 1) := by decide +kernel
theorem dX6_change_15 : decode cX6_change 15 = .ok (.istore 5, 2) := by decide +kernel
theorem dX6_change_17 : decode cX6_change 17 = .ok (.aload 4, 2) := by decide +kernel
theorem dX6_change_19 : decode cX6_change 19 = .ok (.dup, 1) := by decide +kernel
theorem dX6_change_20 : decode cX6_change 20 = .ok (.getfield 137, 3) := by decide +kernel
theorem dX6_change_23 : decode cX6_change 23 = .ok (.iconst 1, 1) := by decide +kernel
theorem dX6_change_24 : decode cX6_change 24 = .ok (.iadd, 1) := by decide +kernel
theorem dX6_change_25 : decode cX6_change 25 = .ok (.putfield 137, 3) := by decide +kernel
theorem dX6_change_28 : decode cX6_change 28 = .ok (.iload 5, 2) := by decide +kernel
theorem dX6_change_30 : decode cX6_change 30 = .ok (.ifCond .le 27, 3) := by decide +kernel
theorem dX6_change_33 : decode cX6_change 33 = .ok (.aload 4, 2) := by decide +kernel
theorem dX6_change_35 : decode cX6_change 35 = .ok (.getfield 140, 3) := by decide +kernel
theorem dX6_change_38 : decode cX6_change 38 = .ok (.iload_n 2, 1) := by decide +kernel
theorem dX6_change_39 : decode cX6_change 39 = .ok (.ldc 143, 2) := by decide +kernel
theorem dX6_change_41 : decode cX6_change 41 = .ok (.aload 4, 2) := by decide +kernel
theorem dX6_change_43 : decode cX6_change 43 = .ok (.getfield 140, 3) := by decide +kernel
theorem dX6_change_46 : decode cX6_change 46 = .ok (.iload_n 2, 1) := by decide +kernel
theorem dX6_change_47 : decode cX6_change 47 = .ok (.iaload, 1) := by decide +kernel
theorem dX6_change_48 : decode cX6_change 48 = .ok (.iload 5, 2) := by decide +kernel
theorem dX6_change_50 : decode cX6_change 50 = .ok (.iadd, 1) := by decide +kernel
theorem dX6_change_51 : decode cX6_change 51 = .ok (.invokestatic 144, 3) := by decide +kernel
theorem dX6_change_54 : decode cX6_change 54 = .ok (.iastore, 1) := by decide +kernel
theorem dX6_change_55 : decode cX6_change 55 = .ok (.iconst 0, 1) := by decide +kernel
theorem dX6_change_56 : decode cX6_change 56 = .ok (.ireturn, 1) := by decide +kernel
theorem dX6_change_57 : decode cX6_change 57 = .ok (.aload_n 0, 1) := by decide +kernel
theorem dX6_change_58 : decode cX6_change 58 = .ok (.iload_n 1, 1) := by decide +kernel
theorem dX6_change_59 : decode cX6_change 59 = .ok (.iload_n 2, 1) := by decide +kernel
theorem dX6_change_60 : decode cX6_change 60 = .ok (.iload_n 3, 1) := by decide +kernel
theorem dX6_change_61 : decode cX6_change 61 = .ok (.invokevirtual 149, 3) := by decide +kernel
theorem dX6_change_64 : decode cX6_change 64 = .ok (.aload 4, 2) := by decide +kernel
theorem dX6_change_66 : decode cX6_change 66 = .ok (.getfield 77, 3) := by decide +kernel
theorem dX6_change_69 : decode cX6_change 69 = .ok (.iload_n 2, 1) := by decide +kernel
theorem dX6_change_70 : decode cX6_change 70 = .ok (.dup2, 1) := by decide +kernel
theorem dX6_change_71 : decode cX6_change 71 = .ok (.iaload, 1) := by decide +kernel
theorem dX6_change_72 : decode cX6_change 72 = .ok (.iload_n 3, 1) := by decide +kernel
theorem dX6_change_73 : decode cX6_change 73 = .ok (.iadd, 1) := by decide +kernel
theorem dX6_change_74 : decode cX6_change 74 = .ok (.iastore, 1) := by decide +kernel
theorem dX6_change_75 : decode cX6_change 75 = .ok (.iconst 1, 1) := by decide +kernel
theorem dX6_change_76 : decode cX6_change 76 = .ok (.ireturn, 1) := by decide +kernel
theorem dX6_useLoans_0 : decode cX6_useLoans 0 = .ok (.iload_n 3, 1) := by decide +kernel
theorem dX6_useLoans_1 : decode cX6_useLoans 1 = .ok (.istore 4, 2) := by decide +kernel
theorem dX6_useLoans_3 : decode cX6_useLoans 3 = .ok (.iconst 0, 1) := by decide +kernel
theorem dX6_useLoans_4 : decode cX6_useLoans 4 = .ok (.istore 5, 2) := by decide +kernel
theorem dX6_useLoans_6 : decode cX6_useLoans 6 = .ok (.iload 5, 2) := by decide +kernel
theorem dX6_useLoans_8 : decode cX6_useLoans 8 = .ok (.aload_n 0, 1) := by decide +kernel
theorem dX6_useLoans_9 : decode cX6_useLoans 9 = .ok (.getfield 50, 3) := by decide +kernel
theorem dX6_useLoans_12 : decode cX6_useLoans 12 = .ok (.if_icmp .ge 65, 3) := by decide +kernel
theorem dX6_useLoans_15 : decode cX6_useLoans 15 = .ok (.iload 4, 2) := by decide +kernel
theorem dX6_useLoans_17 : decode cX6_useLoans 17 = .ok (.ifCond .le 60, 3) := by decide +kernel
theorem dX6_useLoans_20 : decode cX6_useLoans 20 = .ok (.aload_n 0, 1) := by decide +kernel
theorem dX6_useLoans_21 : decode cX6_useLoans 21 = .ok (.iload_n 1, 1) := by decide +kernel
theorem dX6_useLoans_22 : decode cX6_useLoans 22 = .ok (.iload_n 2, 1) := by decide +kernel
theorem dX6_useLoans_23 : decode cX6_useLoans 23 = .ok (.invokevirtual 153, 3) := by decide +kernel
theorem dX6_useLoans_26 : decode cX6_useLoans 26 = .ok (.istore 6, 2) := by decide +kernel
theorem dX6_useLoans_28 : decode cX6_useLoans 28 = .ok (.iload 6, 2) := by decide +kernel
theorem dX6_useLoans_30 : decode cX6_useLoans 30 = .ok (.iconst (-1), 1) := by decide +kernel
theorem dX6_useLoans_31 : decode cX6_useLoans 31 = .ok (.if_icmp .ne 4, 3) := by decide +kernel
theorem dX6_useLoans_34 : decode cX6_useLoans 34 = .ok (.return_, 1) := by decide +kernel
theorem dX6_useLoans_35 : decode cX6_useLoans 35 = .ok (.iload 4, 2) := by decide +kernel
theorem dX6_useLoans_37 : decode cX6_useLoans 37 = .ok (.aload_n 0, 1) := by decide +kernel
theorem dX6_useLoans_38 : decode cX6_useLoans 38 = .ok (.iload 6, 2) := by decide +kernel
theorem dX6_useLoans_40 : decode cX6_useLoans 40 = .ok (.invokevirtual 123, 3) := by decide +kernel
theorem dX6_useLoans_43 : decode cX6_useLoans 43 = .ok (.invokestatic 144, 3) := by decide +kernel
theorem dX6_useLoans_46 : decode cX6_useLoans 46 = .ok (.istore 7, 2) := by decide +kernel
theorem dX6_useLoans_48 : decode cX6_useLoans 48 = .ok (.aload_n 0, 1) := by decide +kernel
theorem dX6_useLoans_49 : decode cX6_useLoans 49 = .ok (.iload_n 1, 1) := by decide +kernel
theorem dX6_useLoans_50 : decode cX6_useLoans 50 = .ok (.invokevirtual 73, 3) := by decide +kernel
theorem dX6_useLoans_53 : decode cX6_useLoans 53 = .ok (.getfield 99, 3) := by decide +kernel
theorem dX6_useLoans_56 : decode cX6_useLoans 56 = .ok (.iload 6, 2) := by decide +kernel
theorem dX6_useLoans_58 : decode cX6_useLoans 58 = .ok (.dup2, 1) := by decide +kernel
theorem dX6_useLoans_59 : decode cX6_useLoans 59 = .ok (.iaload, 1) := by decide +kernel
theorem dX6_useLoans_60 : decode cX6_useLoans 60 = .ok (.iload 7, 2) := by decide +kernel
theorem dX6_useLoans_62 : decode cX6_useLoans 62 = .ok (.iadd, 1) := by decide +kernel
theorem dX6_useLoans_63 : decode cX6_useLoans 63 = .ok (.iastore, 1) := by decide +kernel
theorem dX6_useLoans_64 : decode cX6_useLoans 64 = .ok (.iload 4, 2) := by decide +kernel
theorem dX6_useLoans_66 : decode cX6_useLoans 66 = .ok (.iload 7, 2) := by decide +kernel
theorem dX6_useLoans_68 : decode cX6_useLoans 68 = .ok (.isub, 1) := by decide +kernel
theorem dX6_useLoans_69 : decode cX6_useLoans 69 = .ok (.istore 4, 2) := by decide +kernel
theorem dX6_useLoans_71 : decode cX6_useLoans 71 = .ok (.iinc 5 1, 3) := by decide +kernel
theorem dX6_useLoans_74 : decode cX6_useLoans 74 = .ok (.goto (-68), 3) := by decide +kernel
theorem dX6_useLoans_77 : decode cX6_useLoans 77 = .ok (.return_, 1) := by decide +kernel
theorem dX6_soonestLoan_0 : decode cX6_soonestLoan 0 = .ok (.iconst (-1), 1) := by decide +kernel
theorem dX6_soonestLoan_1 : decode cX6_soonestLoan 1 = .ok (.istore_n 3, 1) := by decide +kernel
theorem dX6_soonestLoan_2 : decode cX6_soonestLoan 2 = .ok (.iconst 0, 1) := by decide +kernel
theorem dX6_soonestLoan_3 : decode cX6_soonestLoan 3 = .ok (.istore 4, 2) := by decide +kernel
theorem dX6_soonestLoan_5 : decode cX6_soonestLoan 5 = .ok (.iload 4, 2) := by decide +kernel
theorem dX6_soonestLoan_7 : decode cX6_soonestLoan 7 = .ok (.aload_n 0, 1) := by decide +kernel
theorem dX6_soonestLoan_8 : decode cX6_soonestLoan 8 = .ok (.getfield 50, 3) := by decide +kernel
theorem dX6_soonestLoan_11 : decode cX6_soonestLoan 11 = .ok (.if_icmp .ge 88, 3) := by decide +kernel
theorem dX6_soonestLoan_14 : decode cX6_soonestLoan 14 = .ok (.aload_n 0, 1) := by decide +kernel
theorem dX6_soonestLoan_15 : decode cX6_soonestLoan 15 = .ok (.getfield 11, 3) := by decide +kernel
theorem dX6_soonestLoan_18 : decode cX6_soonestLoan 18 = .ok (.iload 4, 2) := by decide +kernel
theorem dX6_soonestLoan_20 : decode cX6_soonestLoan 20 = .ok (.aaload, 1) := by decide +kernel
theorem dX6_soonestLoan_21 : decode cX6_soonestLoan 21 = .ok (.getfield 96, 3) := by decide +kernel
theorem dX6_soonestLoan_24 : decode cX6_soonestLoan 24 = .ok (.iload_n 1, 1) := by decide +kernel
theorem dX6_soonestLoan_25 : decode cX6_soonestLoan 25 = .ok (.if_icmp .ne 30, 3) := by decide +kernel
theorem dX6_soonestLoan_28 : decode cX6_soonestLoan 28 = .ok (.aload_n 0, 1) := by decide +kernel
theorem dX6_soonestLoan_29 : decode cX6_soonestLoan 29 = .ok (.getfield 11, 3) := by decide +kernel
theorem dX6_soonestLoan_32 : decode cX6_soonestLoan 32 = .ok (.iload 4, 2) := by decide +kernel
theorem dX6_soonestLoan_34 : decode cX6_soonestLoan 34 = .ok (.aaload, 1) := by decide +kernel
theorem dX6_soonestLoan_35 : decode cX6_soonestLoan 35 = .ok (.getfield 90, 3) := by decide +kernel
theorem dX6_soonestLoan_38 : decode cX6_soonestLoan 38 = .ok (.iload_n 2, 1) := by decide +kernel
theorem dX6_soonestLoan_39 : decode cX6_soonestLoan 39 = .ok (.if_icmp .ne 16, 3) := by decide +kernel
theorem dX6_soonestLoan_42 : decode cX6_soonestLoan 42 = .ok (.aload_n 0, 1) := by decide +kernel
theorem dX6_soonestLoan_43 : decode cX6_soonestLoan 43 = .ok (.iload 4, 2) := by decide +kernel
theorem dX6_soonestLoan_45 : decode cX6_soonestLoan 45 = .ok (.invokevirtual 123, 3) := by decide +kernel
theorem dX6_soonestLoan_48 : decode cX6_soonestLoan 48 = .ok (.ifCond .le 7, 3) := by decide +kernel
theorem dX6_soonestLoan_51 : decode cX6_soonestLoan 51 = .ok (.iconst 1, 1) := by decide +kernel
theorem dX6_soonestLoan_52 : decode cX6_soonestLoan 52 = .ok (.goto 4, 3) := by decide +kernel
theorem dX6_soonestLoan_55 : decode cX6_soonestLoan 55 = .ok (.iconst 0, 1) := by decide +kernel
theorem dX6_soonestLoan_56 : decode cX6_soonestLoan 56 = .ok (.istore 5, 2) := by decide +kernel
theorem dX6_soonestLoan_58 : decode cX6_soonestLoan 58 = .ok (.iload 5, 2) := by decide +kernel
theorem dX6_soonestLoan_60 : decode cX6_soonestLoan 60 = .ok (.ifCond .eq 33, 3) := by decide +kernel
theorem dX6_soonestLoan_63 : decode cX6_soonestLoan 63 = .ok (.iload_n 3, 1) := by decide +kernel
theorem dX6_soonestLoan_64 : decode cX6_soonestLoan 64 = .ok (.iconst (-1), 1) := by decide +kernel
theorem dX6_soonestLoan_65 : decode cX6_soonestLoan 65 = .ok (.if_icmp .eq 25, 3) := by decide +kernel
theorem dX6_soonestLoan_68 : decode cX6_soonestLoan 68 = .ok (.aload_n 0, 1) := by decide +kernel
theorem dX6_soonestLoan_69 : decode cX6_soonestLoan 69 = .ok (.getfield 11, 3) := by decide +kernel
theorem dX6_soonestLoan_72 : decode cX6_soonestLoan 72 = .ok (.iload 4, 2) := by decide +kernel
theorem dX6_soonestLoan_74 : decode cX6_soonestLoan 74 = .ok (.aaload, 1) := by decide +kernel
theorem dX6_soonestLoan_75 : decode cX6_soonestLoan 75 = .ok (.getfield 112, 3) := by decide +kernel
theorem dX6_soonestLoan_78 : decode cX6_soonestLoan 78 = .ok (.aload_n 0, 1) := by decide +kernel
theorem dX6_soonestLoan_79 : decode cX6_soonestLoan 79 = .ok (.getfield 11, 3) := by decide +kernel
theorem dX6_soonestLoan_82 : decode cX6_soonestLoan 82 = .ok (.iload_n 3, 1) := by decide +kernel
theorem dX6_soonestLoan_83 : decode cX6_soonestLoan 83 = .ok (.aaload, 1) := by decide +kernel
theorem dX6_soonestLoan_84 : decode cX6_soonestLoan 84 = .ok (.getfield 112, 3) := by decide +kernel
theorem dX6_soonestLoan_87 : decode cX6_soonestLoan 87 = .ok (.if_icmp .ge 6, 3) := by decide +kernel
theorem dX6_soonestLoan_90 : decode cX6_soonestLoan 90 = .ok (.iload 4, 2) := by decide +kernel
theorem dX6_soonestLoan_92 : decode cX6_soonestLoan 92 = .ok (.istore_n 3, 1) := by decide +kernel
theorem dX6_soonestLoan_93 : decode cX6_soonestLoan 93 = .ok (.iinc 4 1, 3) := by decide +kernel
theorem dX6_soonestLoan_96 : decode cX6_soonestLoan 96 = .ok (.goto (-91), 3) := by decide +kernel
theorem dX6_soonestLoan_99 : decode cX6_soonestLoan 99 = .ok (.iload_n 3, 1) := by decide +kernel
theorem dX6_soonestLoan_100 : decode cX6_soonestLoan 100 = .ok (.ireturn, 1) := by decide +kernel
theorem dX6_give_0 : decode cX6_give 0 = .ok (.aload_n 0, 1) := by decide +kernel
theorem dX6_give_1 : decode cX6_give 1 = .ok (.iload_n 2, 1) := by decide +kernel
theorem dX6_give_2 : decode cX6_give 2 = .ok (.invokevirtual 73, 3) := by decide +kernel
theorem dX6_give_5 : decode cX6_give 5 = .ok (.iload_n 3, 1) := by decide +kernel
theorem dX6_give_6 : decode cX6_give 6 = .ok (.iload_n 1, 1) := by decide +kernel
theorem dX6_give_7 : decode cX6_give 7 = .ok (.iload 4, 2) := by decide +kernel
theorem dX6_give_9 : decode cX6_give 9 = .ok (.invokevirtual 156, 3) := by decide +kernel
theorem dX6_give_12 : decode cX6_give 12 = .ok (.return_, 1) := by decide +kernel
theorem dX6_makeLoan_0 : decode cX6_makeLoan 0 = .ok (.aload_n 0, 1) := by decide +kernel
theorem dX6_makeLoan_1 : decode cX6_makeLoan 1 = .ok (.getfield 50, 3) := by decide +kernel
theorem dX6_makeLoan_4 : decode cX6_makeLoan 4 = .ok (.istore 6, 2) := by decide +kernel
theorem dX6_makeLoan_6 : decode cX6_makeLoan 6 = .ok (.aload_n 0, 1) := by decide +kernel
theorem dX6_makeLoan_7 : decode cX6_makeLoan 7 = .ok (.getfield 11, 3) := by decide +kernel
theorem dX6_makeLoan_10 : decode cX6_makeLoan 10 = .ok (.iload 6, 2) := by decide +kernel
theorem dX6_makeLoan_12 : decode cX6_makeLoan 12 = .ok (.aaload, 1) := by decide +kernel
theorem dX6_makeLoan_13 : decode cX6_makeLoan 13 = .ok (.astore 7, 2) := by decide +kernel
theorem dX6_makeLoan_15 : decode cX6_makeLoan 15 = .ok (.aload 7, 2) := by decide +kernel
theorem dX6_makeLoan_17 : decode cX6_makeLoan 17 = .ok (.iload_n 2, 1) := by decide +kernel
theorem dX6_makeLoan_18 : decode cX6_makeLoan 18 = .ok (.putfield 102, 3) := by decide +kernel
theorem dX6_makeLoan_21 : decode cX6_makeLoan 21 = .ok (.aload 7, 2) := by decide +kernel
theorem dX6_makeLoan_23 : decode cX6_makeLoan 23 = .ok (.iload_n 3, 1) := by decide +kernel
theorem dX6_makeLoan_24 : decode cX6_makeLoan 24 = .ok (.putfield 96, 3) := by decide +kernel
theorem dX6_makeLoan_27 : decode cX6_makeLoan 27 = .ok (.aload 7, 2) := by decide +kernel
theorem dX6_makeLoan_29 : decode cX6_makeLoan 29 = .ok (.iload_n 1, 1) := by decide +kernel
theorem dX6_makeLoan_30 : decode cX6_makeLoan 30 = .ok (.putfield 90, 3) := by decide +kernel
theorem dX6_makeLoan_33 : decode cX6_makeLoan 33 = .ok (.aload 7, 2) := by decide +kernel
theorem dX6_makeLoan_35 : decode cX6_makeLoan 35 = .ok (.iload 4, 2) := by decide +kernel
theorem dX6_makeLoan_37 : decode cX6_makeLoan 37 = .ok (.putfield 109, 3) := by decide +kernel
theorem dX6_makeLoan_40 : decode cX6_makeLoan 40 = .ok (.aload 7, 2) := by decide +kernel
theorem dX6_makeLoan_42 : decode cX6_makeLoan 42 = .ok (.aload_n 0, 1) := by decide +kernel
theorem dX6_makeLoan_43 : decode cX6_makeLoan 43 = .ok (.getfield 47, 3) := by decide +kernel
theorem dX6_makeLoan_46 : decode cX6_makeLoan 46 = .ok (.iload 5, 2) := by decide +kernel
theorem dX6_makeLoan_48 : decode cX6_makeLoan 48 = .ok (.iadd, 1) := by decide +kernel
theorem dX6_makeLoan_49 : decode cX6_makeLoan 49 = .ok (.putfield 112, 3) := by decide +kernel
theorem dX6_makeLoan_52 : decode cX6_makeLoan 52 = .ok (.aload_n 0, 1) := by decide +kernel
theorem dX6_makeLoan_53 : decode cX6_makeLoan 53 = .ok (.dup, 1) := by decide +kernel
theorem dX6_makeLoan_54 : decode cX6_makeLoan 54 = .ok (.getfield 50, 3) := by decide +kernel
theorem dX6_makeLoan_57 : decode cX6_makeLoan 57 = .ok (.iconst 1, 1) := by decide +kernel
theorem dX6_makeLoan_58 : decode cX6_makeLoan 58 = .ok (.iadd, 1) := by decide +kernel
theorem dX6_makeLoan_59 : decode cX6_makeLoan 59 = .ok (.putfield 50, 3) := by decide +kernel
theorem dX6_makeLoan_62 : decode cX6_makeLoan 62 = .ok (.aload_n 0, 1) := by decide +kernel
theorem dX6_makeLoan_63 : decode cX6_makeLoan 63 = .ok (.iload_n 2, 1) := by decide +kernel
theorem dX6_makeLoan_64 : decode cX6_makeLoan 64 = .ok (.invokevirtual 73, 3) := by decide +kernel
theorem dX6_makeLoan_67 : decode cX6_makeLoan 67 = .ok (.astore 8, 2) := by decide +kernel
theorem dX6_makeLoan_69 : decode cX6_makeLoan 69 = .ok (.aload 8, 2) := by decide +kernel
theorem dX6_makeLoan_71 : decode cX6_makeLoan 71 = .ok (.dup, 1) := by decide +kernel
theorem dX6_makeLoan_72 : decode cX6_makeLoan 72 = .ok (.getfield 159, 3) := by decide +kernel
theorem dX6_makeLoan_75 : decode cX6_makeLoan 75 = .ok (.iconst 1, 1) := by decide +kernel
theorem dX6_makeLoan_76 : decode cX6_makeLoan 76 = .ok (.iload 6, 2) := by decide +kernel
theorem dX6_makeLoan_78 : decode cX6_makeLoan 78 = .ok (.ishl, 1) := by decide +kernel
theorem dX6_makeLoan_79 : decode cX6_makeLoan 79 = .ok (.ior, 1) := by decide +kernel
theorem dX6_makeLoan_80 : decode cX6_makeLoan 80 = .ok (.putfield 159, 3) := by decide +kernel
theorem dX6_makeLoan_83 : decode cX6_makeLoan 83 = .ok (.aload 8, 2) := by decide +kernel
theorem dX6_makeLoan_85 : decode cX6_makeLoan 85 = .ok (.dup, 1) := by decide +kernel
theorem dX6_makeLoan_86 : decode cX6_makeLoan 86 = .ok (.getfield 137, 3) := by decide +kernel
theorem dX6_makeLoan_89 : decode cX6_makeLoan 89 = .ok (.iconst 1, 1) := by decide +kernel
theorem dX6_makeLoan_90 : decode cX6_makeLoan 90 = .ok (.iadd, 1) := by decide +kernel
theorem dX6_makeLoan_91 : decode cX6_makeLoan 91 = .ok (.putfield 137, 3) := by decide +kernel
theorem dX6_makeLoan_94 : decode cX6_makeLoan 94 = .ok (.iload 6, 2) := by decide +kernel
theorem dX6_makeLoan_96 : decode cX6_makeLoan 96 = .ok (.ireturn, 1) := by decide +kernel
theorem dX6_shareOut_0 : decode cX6_shareOut 0 = .ok (.iconst 0, 1) := by decide +kernel
theorem dX6_shareOut_1 : decode cX6_shareOut 1 = .ok (.istore_n 3, 1) := by decide +kernel
theorem dX6_shareOut_2 : decode cX6_shareOut 2 = .ok (.iconst 0, 1) := by decide +kernel
theorem dX6_shareOut_3 : decode cX6_shareOut 3 = .ok (.istore 4, 2) := by decide +kernel
theorem dX6_shareOut_5 : decode cX6_shareOut 5 = .ok (.iload 4, 2) := by decide +kernel
theorem dX6_shareOut_7 : decode cX6_shareOut 7 = .ok (.aload_n 0, 1) := by decide +kernel
theorem dX6_shareOut_8 : decode cX6_shareOut 8 = .ok (.getfield 23, 3) := by decide +kernel
theorem dX6_shareOut_11 : decode cX6_shareOut 11 = .ok (.if_icmp .ge 29, 3) := by decide +kernel
theorem dX6_shareOut_14 : decode cX6_shareOut 14 = .ok (.iload_n 3, 1) := by decide +kernel
theorem dX6_shareOut_15 : decode cX6_shareOut 15 = .ok (.aload_n 0, 1) := by decide +kernel
theorem dX6_shareOut_16 : decode cX6_shareOut 16 = .ok (.getfield 29, 3) := by decide +kernel
theorem dX6_shareOut_19 : decode cX6_shareOut 19 = .ok (.iload_n 1, 1) := by decide +kernel
theorem dX6_shareOut_20 : decode cX6_shareOut 20 = .ok (.aaload, 1) := by decide +kernel
theorem dX6_shareOut_21 : decode cX6_shareOut 21 = .ok (.getfield 69, 3) := by decide +kernel
theorem dX6_shareOut_24 : decode cX6_shareOut 24 = .ok (.iload 4, 2) := by decide +kernel
theorem dX6_shareOut_26 : decode cX6_shareOut 26 = .ok (.aaload, 1) := by decide +kernel
theorem dX6_shareOut_27 : decode cX6_shareOut 27 = .ok (.getfield 140, 3) := by decide +kernel
theorem dX6_shareOut_30 : decode cX6_shareOut 30 = .ok (.iload_n 2, 1) := by decide +kernel
theorem dX6_shareOut_31 : decode cX6_shareOut 31 = .ok (.iaload, 1) := by decide +kernel
theorem dX6_shareOut_32 : decode cX6_shareOut 32 = .ok (.iadd, 1) := by decide +kernel
theorem dX6_shareOut_33 : decode cX6_shareOut 33 = .ok (.istore_n 3, 1) := by decide +kernel
theorem dX6_shareOut_34 : decode cX6_shareOut 34 = .ok (.iinc 4 1, 3) := by decide +kernel
theorem dX6_shareOut_37 : decode cX6_shareOut 37 = .ok (.goto (-32), 3) := by decide +kernel
theorem dX6_shareOut_40 : decode cX6_shareOut 40 = .ok (.iload_n 3, 1) := by decide +kernel
theorem dX6_shareOut_41 : decode cX6_shareOut 41 = .ok (.ifCond .gt 5, 3) := by decide +kernel
theorem dX6_shareOut_44 : decode cX6_shareOut 44 = .ok (.iconst 0, 1) := by decide +kernel
theorem dX6_shareOut_45 : decode cX6_shareOut 45 = .ok (.ireturn, 1) := by decide +kernel
theorem dX6_shareOut_46 : decode cX6_shareOut 46 = .ok (.aload_n 0, 1) := by decide +kernel
theorem dX6_shareOut_47 : decode cX6_shareOut 47 = .ok (.iload_n 1, 1) := by decide +kernel
theorem dX6_shareOut_48 : decode cX6_shareOut 48 = .ok (.iload_n 2, 1) := by decide +kernel
theorem dX6_shareOut_49 : decode cX6_shareOut 49 = .ok (.invokevirtual 120, 3) := by decide +kernel
theorem dX6_shareOut_52 : decode cX6_shareOut 52 = .ok (.i2l, 1) := by decide +kernel
theorem dX6_shareOut_53 : decode cX6_shareOut 53 = .ok (.lstore 4, 2) := by decide +kernel
theorem dX6_shareOut_55 : decode cX6_shareOut 55 = .ok (.iconst 0, 1) := by decide +kernel
theorem dX6_shareOut_56 : decode cX6_shareOut 56 = .ok (.istore 6, 2) := by decide +kernel
theorem dX6_shareOut_58 : decode cX6_shareOut 58 = .ok (.iconst 0, 1) := by decide +kernel
theorem dX6_shareOut_59 : decode cX6_shareOut 59 = .ok (.istore 7, 2) := by decide +kernel
theorem dX6_shareOut_61 : decode cX6_shareOut 61 = .ok (.iload 7, 2) := by decide +kernel
theorem dX6_shareOut_63 : decode cX6_shareOut 63 = .ok (.aload_n 0, 1) := by decide +kernel
theorem dX6_shareOut_64 : decode cX6_shareOut 64 = .ok (.getfield 23, 3) := by decide +kernel
theorem dX6_shareOut_67 : decode cX6_shareOut 67 = .ok (.if_icmp .ge 67, 3) := by decide +kernel
theorem dX6_shareOut_70 : decode cX6_shareOut 70 = .ok (.lload 4, 2) := by decide +kernel
theorem dX6_shareOut_72 : decode cX6_shareOut 72 = .ok (.aload_n 0, 1) := by decide +kernel
theorem dX6_shareOut_73 : decode cX6_shareOut 73 = .ok (.getfield 29, 3) := by decide +kernel
theorem dX6_shareOut_76 : decode cX6_shareOut 76 = .ok (.iload_n 1, 1) := by decide +kernel
theorem dX6_shareOut_77 : decode cX6_shareOut 77 = .ok (.aaload, 1) := by decide +kernel
theorem dX6_shareOut_78 : decode cX6_shareOut 78 = .ok (.getfield 69, 3) := by decide +kernel
theorem dX6_shareOut_81 : decode cX6_shareOut 81 = .ok (.iload 7, 2) := by decide +kernel
theorem dX6_shareOut_83 : decode cX6_shareOut 83 = .ok (.aaload, 1) := by decide +kernel
theorem dX6_shareOut_84 : decode cX6_shareOut 84 = .ok (.getfield 140, 3) := by decide +kernel
theorem dX6_shareOut_87 : decode cX6_shareOut 87 = .ok (.iload_n 2, 1) := by decide +kernel
theorem dX6_shareOut_88 : decode cX6_shareOut 88 = .ok (.iaload, 1) := by decide +kernel
theorem dX6_shareOut_89 : decode cX6_shareOut 89 = .ok (.i2l, 1) := by decide +kernel
theorem dX6_shareOut_90 : decode cX6_shareOut 90 = .ok (.lmul, 1) := by decide +kernel
theorem dX6_shareOut_91 : decode cX6_shareOut 91 = .ok (.iload_n 3, 1) := by decide +kernel
theorem dX6_shareOut_92 : decode cX6_shareOut 92 = .ok (.i2l, 1) := by decide +kernel
theorem dX6_shareOut_93 : decode cX6_shareOut 93 = .ok (.ldiv, 1) := by decide +kernel
theorem dX6_shareOut_94 : decode cX6_shareOut 94 = .ok (.lstore 8, 2) := by decide +kernel
theorem dX6_shareOut_96 : decode cX6_shareOut 96 = .ok (.iload 7, 2) := by decide +kernel
theorem dX6_shareOut_98 : decode cX6_shareOut 98 = .ok (.iload_n 1, 1) := by decide +kernel
theorem dX6_shareOut_99 : decode cX6_shareOut 99 = .ok (.if_icmp .eq 29, 3) := by decide +kernel
theorem dX6_shareOut_102 : decode cX6_shareOut 102 = .ok (.lload 8, 2) := by decide +kernel
theorem dX6_shareOut_104 : decode cX6_shareOut 104 = .ok (.lconst 0, 1) := by decide +kernel
theorem dX6_shareOut_105 : decode cX6_shareOut 105 = .ok (.lcmp, 1) := by decide +kernel
theorem dX6_shareOut_106 : decode cX6_shareOut 106 = .ok (.ifCond .le 22, 3) := by decide +kernel
theorem dX6_shareOut_109 : decode cX6_shareOut 109 = .ok (.aload_n 0, 1) := by decide +kernel
theorem dX6_shareOut_110 : decode cX6_shareOut 110 = .ok (.iload_n 2, 1) := by decide +kernel
theorem dX6_shareOut_111 : decode cX6_shareOut 111 = .ok (.iload_n 1, 1) := by decide +kernel
theorem dX6_shareOut_112 : decode cX6_shareOut 112 = .ok (.iload 7, 2) := by decide +kernel
theorem dX6_shareOut_114 : decode cX6_shareOut 114 = .ok (.lload 8, 2) := by decide +kernel
theorem dX6_shareOut_116 : decode cX6_shareOut 116 = .ok (.l2i, 1) := by decide +kernel
theorem dX6_shareOut_117 : decode cX6_shareOut 117 = .ok (.invokevirtual 162, 3) := by decide +kernel
theorem dX6_shareOut_120 : decode cX6_shareOut 120 = .ok (.iload 6, 2) := by decide +kernel
theorem dX6_shareOut_122 : decode cX6_shareOut 122 = .ok (.lload 8, 2) := by decide +kernel
theorem dX6_shareOut_124 : decode cX6_shareOut 124 = .ok (.l2i, 1) := by decide +kernel
theorem dX6_shareOut_125 : decode cX6_shareOut 125 = .ok (.iadd, 1) := by decide +kernel
theorem dX6_shareOut_126 : decode cX6_shareOut 126 = .ok (.istore 6, 2) := by decide +kernel
theorem dX6_shareOut_128 : decode cX6_shareOut 128 = .ok (.iinc 7 1, 3) := by decide +kernel
theorem dX6_shareOut_131 : decode cX6_shareOut 131 = .ok (.goto (-70), 3) := by decide +kernel
theorem dX6_shareOut_134 : decode cX6_shareOut 134 = .ok (.iload 6, 2) := by decide +kernel
theorem dX6_shareOut_136 : decode cX6_shareOut 136 = .ok (.ireturn, 1) := by decide +kernel
theorem dX6_letPass_0 : decode cX6_letPass 0 = .ok (.aload_n 0, 1) := by decide +kernel
theorem dX6_letPass_1 : decode cX6_letPass 1 = .ok (.dup, 1) := by decide +kernel
theorem dX6_letPass_2 : decode cX6_letPass 2 = .ok (.getfield 47, 3) := by decide +kernel
theorem dX6_letPass_5 : decode cX6_letPass 5 = .ok (.iload_n 1, 1) := by decide +kernel
theorem dX6_letPass_6 : decode cX6_letPass 6 = .ok (.iadd, 1) := by decide +kernel
theorem dX6_letPass_7 : decode cX6_letPass 7 = .ok (.putfield 47, 3) := by decide +kernel
theorem dX6_letPass_10 : decode cX6_letPass 10 = .ok (.iconst 0, 1) := by decide +kernel
theorem dX6_letPass_11 : decode cX6_letPass 11 = .ok (.istore_n 2, 1) := by decide +kernel
theorem dX6_letPass_12 : decode cX6_letPass 12 = .ok (.iload_n 2, 1) := by decide +kernel
theorem dX6_letPass_13 : decode cX6_letPass 13 = .ok (.aload_n 0, 1) := by decide +kernel
theorem dX6_letPass_14 : decode cX6_letPass 14 = .ok (.getfield 23, 3) := by decide +kernel
theorem dX6_letPass_17 : decode cX6_letPass 17 = .ok (.if_icmp .ge 21, 3) := by decide +kernel
theorem dX6_letPass_20 : decode cX6_letPass 20 = .ok (.aload_n 0, 1) := by decide +kernel
theorem dX6_letPass_21 : decode cX6_letPass 21 = .ok (.iload_n 2, 1) := by decide +kernel
theorem dX6_letPass_22 : decode cX6_letPass 22 = .ok (.invokevirtual 73, 3) := by decide +kernel
theorem dX6_letPass_25 : decode cX6_letPass 25 = .ok (.aload_n 0, 1) := by decide +kernel
theorem dX6_letPass_26 : decode cX6_letPass 26 = .ok (.getfield 47, 3) := by decide +kernel
theorem dX6_letPass_29 : decode cX6_letPass 29 = .ok (.putfield 115, 3) := by decide +kernel
theorem dX6_letPass_32 : decode cX6_letPass 32 = .ok (.iinc 2 1, 3) := by decide +kernel
theorem dX6_letPass_35 : decode cX6_letPass 35 = .ok (.goto (-23), 3) := by decide +kernel
theorem dX6_letPass_38 : decode cX6_letPass 38 = .ok (.return_, 1) := by decide +kernel
theorem dX6_loanFact_0 : decode cX6_loanFact 0 = .ok (.aload_n 0, 1) := by decide +kernel
theorem dX6_loanFact_1 : decode cX6_loanFact 1 = .ok (.getfield 11, 3) := by decide +kernel
theorem dX6_loanFact_4 : decode cX6_loanFact 4 = .ok (.iload_n 1, 1) := by decide +kernel
theorem dX6_loanFact_5 : decode cX6_loanFact 5 = .ok (.aaload, 1) := by decide +kernel
theorem dX6_loanFact_6 : decode cX6_loanFact 6 = .ok (.astore_n 3, 1) := by decide +kernel
theorem dX6_loanFact_7 : decode cX6_loanFact 7 = .ok (.iload_n 2, 1) := by decide +kernel
theorem dX6_loanFact_8 : decode cX6_loanFact 8 = .ok (.tableswitch 89 0 6 #[44, 49, 54, 59, 64, 69, 83], 44) := by decide +kernel
theorem dX6_loanFact_52 : decode cX6_loanFact 52 = .ok (.aload_n 3, 1) := by decide +kernel
theorem dX6_loanFact_53 : decode cX6_loanFact 53 = .ok (.getfield 102, 3) := by decide +kernel
theorem dX6_loanFact_56 : decode cX6_loanFact 56 = .ok (.ireturn, 1) := by decide +kernel
theorem dX6_loanFact_57 : decode cX6_loanFact 57 = .ok (.aload_n 3, 1) := by decide +kernel
theorem dX6_loanFact_58 : decode cX6_loanFact 58 = .ok (.getfield 96, 3) := by decide +kernel
theorem dX6_loanFact_61 : decode cX6_loanFact 61 = .ok (.ireturn, 1) := by decide +kernel
theorem dX6_loanFact_62 : decode cX6_loanFact 62 = .ok (.aload_n 3, 1) := by decide +kernel
theorem dX6_loanFact_63 : decode cX6_loanFact 63 = .ok (.getfield 90, 3) := by decide +kernel
theorem dX6_loanFact_66 : decode cX6_loanFact 66 = .ok (.ireturn, 1) := by decide +kernel
theorem dX6_loanFact_67 : decode cX6_loanFact 67 = .ok (.aload_n 3, 1) := by decide +kernel
theorem dX6_loanFact_68 : decode cX6_loanFact 68 = .ok (.getfield 109, 3) := by decide +kernel
theorem dX6_loanFact_71 : decode cX6_loanFact 71 = .ok (.ireturn, 1) := by decide +kernel
theorem dX6_loanFact_72 : decode cX6_loanFact 72 = .ok (.aload_n 3, 1) := by decide +kernel
theorem dX6_loanFact_73 : decode cX6_loanFact 73 = .ok (.getfield 112, 3) := by decide +kernel
theorem dX6_loanFact_76 : decode cX6_loanFact 76 = .ok (.ireturn, 1) := by decide +kernel
theorem dX6_loanFact_77 : decode cX6_loanFact 77 = .ok (.aload_n 0, 1) := by decide +kernel
theorem dX6_loanFact_78 : decode cX6_loanFact 78 = .ok (.aload_n 3, 1) := by decide +kernel
theorem dX6_loanFact_79 : decode cX6_loanFact 79 = .ok (.getfield 96, 3) := by decide +kernel
theorem dX6_loanFact_82 : decode cX6_loanFact 82 = .ok (.invokevirtual 73, 3) := by decide +kernel
theorem dX6_loanFact_85 : decode cX6_loanFact 85 = .ok (.getfield 99, 3) := by decide +kernel
theorem dX6_loanFact_88 : decode cX6_loanFact 88 = .ok (.iload_n 1, 1) := by decide +kernel
theorem dX6_loanFact_89 : decode cX6_loanFact 89 = .ok (.iaload, 1) := by decide +kernel
theorem dX6_loanFact_90 : decode cX6_loanFact 90 = .ok (.ireturn, 1) := by decide +kernel
theorem dX6_loanFact_91 : decode cX6_loanFact 91 = .ok (.aload_n 0, 1) := by decide +kernel
theorem dX6_loanFact_92 : decode cX6_loanFact 92 = .ok (.iload_n 1, 1) := by decide +kernel
theorem dX6_loanFact_93 : decode cX6_loanFact 93 = .ok (.invokevirtual 123, 3) := by decide +kernel
theorem dX6_loanFact_96 : decode cX6_loanFact 96 = .ok (.ireturn, 1) := by decide +kernel
theorem dX6_loanFact_97 : decode cX6_loanFact 97 = .ok (.aload_n 0, 1) := by decide +kernel
theorem dX6_loanFact_98 : decode cX6_loanFact 98 = .ok (.aload_n 3, 1) := by decide +kernel
theorem dX6_loanFact_99 : decode cX6_loanFact 99 = .ok (.invokevirtual 105, 3) := by decide +kernel
theorem dX6_loanFact_102 : decode cX6_loanFact 102 = .ok (.ifCond .eq 7, 3) := by decide +kernel
theorem dX6_loanFact_105 : decode cX6_loanFact 105 = .ok (.iconst 1, 1) := by decide +kernel
theorem dX6_loanFact_106 : decode cX6_loanFact 106 = .ok (.goto 4, 3) := by decide +kernel
theorem dX6_loanFact_109 : decode cX6_loanFact 109 = .ok (.iconst 0, 1) := by decide +kernel
theorem dX6_loanFact_110 : decode cX6_loanFact 110 = .ok (.ireturn, 1) := by decide +kernel
theorem dX6_post_0 : decode cX6_post 0 = .ok (.aload_n 0, 1) := by decide +kernel
theorem dX6_post_1 : decode cX6_post 1 = .ok (.getfield 53, 3) := by decide +kernel
theorem dX6_post_4 : decode cX6_post 4 = .ok (.istore_n 3, 1) := by decide +kernel
theorem dX6_post_5 : decode cX6_post 5 = .ok (.aload_n 0, 1) := by decide +kernel
theorem dX6_post_6 : decode cX6_post 6 = .ok (.getfield 19, 3) := by decide +kernel
theorem dX6_post_9 : decode cX6_post 9 = .ok (.iload_n 3, 1) := by decide +kernel
theorem dX6_post_10 : decode cX6_post 10 = .ok (.aaload, 1) := by decide +kernel
theorem dX6_post_11 : decode cX6_post 11 = .ok (.astore 4, 2) := by decide +kernel
theorem dX6_post_13 : decode cX6_post 13 = .ok (.aload 4, 2) := by decide +kernel
theorem dX6_post_15 : decode cX6_post 15 = .ok (.iload_n 1, 1) := by decide +kernel
theorem dX6_post_16 : decode cX6_post 16 = .ok (.putfield 165, 3) := by decide +kernel
theorem dX6_post_19 : decode cX6_post 19 = .ok (.aload 4, 2) := by decide +kernel
theorem dX6_post_21 : decode cX6_post 21 = .ok (.iload_n 2, 1) := by decide +kernel
theorem dX6_post_22 : decode cX6_post 22 = .ok (.putfield 168, 3) := by decide +kernel
theorem dX6_post_25 : decode cX6_post 25 = .ok (.aload 4, 2) := by decide +kernel
theorem dX6_post_27 : decode cX6_post 27 = .ok (.aload_n 0, 1) := by decide +kernel
theorem dX6_post_28 : decode cX6_post 28 = .ok (.getfield 47, 3) := by decide +kernel
theorem dX6_post_31 : decode cX6_post 31 = .ok (.putfield 171, 3) := by decide +kernel
theorem dX6_post_34 : decode cX6_post 34 = .ok (.aload 4, 2) := by decide +kernel
theorem dX6_post_36 : decode cX6_post 36 = .ok (.getfield 174, 3) := by decide +kernel
theorem dX6_post_39 : decode cX6_post 39 = .ok (.aload_n 0, 1) := by decide +kernel
theorem dX6_post_40 : decode cX6_post 40 = .ok (.getfield 29, 3) := by decide +kernel
theorem dX6_post_43 : decode cX6_post 43 = .ok (.iload_n 1, 1) := by decide +kernel
theorem dX6_post_44 : decode cX6_post 44 = .ok (.aaload, 1) := by decide +kernel
theorem dX6_post_45 : decode cX6_post 45 = .ok (.invokevirtual 59, 3) := by decide +kernel
theorem dX6_post_48 : decode cX6_post 48 = .ok (.aload_n 0, 1) := by decide +kernel
theorem dX6_post_49 : decode cX6_post 49 = .ok (.dup, 1) := by decide +kernel
theorem dX6_post_50 : decode cX6_post 50 = .ok (.getfield 53, 3) := by decide +kernel
theorem dX6_post_53 : decode cX6_post 53 = .ok (.iconst 1, 1) := by decide +kernel
theorem dX6_post_54 : decode cX6_post 54 = .ok (.iadd, 1) := by decide +kernel
theorem dX6_post_55 : decode cX6_post 55 = .ok (.putfield 53, 3) := by decide +kernel
theorem dX6_post_58 : decode cX6_post 58 = .ok (.iload_n 3, 1) := by decide +kernel
theorem dX6_post_59 : decode cX6_post 59 = .ok (.ireturn, 1) := by decide +kernel
theorem dX6_postAgain_0 : decode cX6_postAgain 0 = .ok (.aload_n 0, 1) := by decide +kernel
theorem dX6_postAgain_1 : decode cX6_postAgain 1 = .ok (.getfield 53, 3) := by decide +kernel
theorem dX6_postAgain_4 : decode cX6_postAgain 4 = .ok (.istore_n 2, 1) := by decide +kernel
theorem dX6_postAgain_5 : decode cX6_postAgain 5 = .ok (.aload_n 0, 1) := by decide +kernel
theorem dX6_postAgain_6 : decode cX6_postAgain 6 = .ok (.getfield 19, 3) := by decide +kernel
theorem dX6_postAgain_9 : decode cX6_postAgain 9 = .ok (.iload_n 2, 1) := by decide +kernel
theorem dX6_postAgain_10 : decode cX6_postAgain 10 = .ok (.aaload, 1) := by decide +kernel
theorem dX6_postAgain_11 : decode cX6_postAgain 11 = .ok (.aload_n 0, 1) := by decide +kernel
theorem dX6_postAgain_12 : decode cX6_postAgain 12 = .ok (.getfield 19, 3) := by decide +kernel
theorem dX6_postAgain_15 : decode cX6_postAgain 15 = .ok (.iload_n 1, 1) := by decide +kernel
theorem dX6_postAgain_16 : decode cX6_postAgain 16 = .ok (.aaload, 1) := by decide +kernel
theorem dX6_postAgain_17 : decode cX6_postAgain 17 = .ok (.invokevirtual 66, 3) := by decide +kernel
theorem dX6_postAgain_20 : decode cX6_postAgain 20 = .ok (.aload_n 0, 1) := by decide +kernel
theorem dX6_postAgain_21 : decode cX6_postAgain 21 = .ok (.dup, 1) := by decide +kernel
theorem dX6_postAgain_22 : decode cX6_postAgain 22 = .ok (.getfield 53, 3) := by decide +kernel
theorem dX6_postAgain_25 : decode cX6_postAgain 25 = .ok (.iconst 1, 1) := by decide +kernel
theorem dX6_postAgain_26 : decode cX6_postAgain 26 = .ok (.iadd, 1) := by decide +kernel
theorem dX6_postAgain_27 : decode cX6_postAgain 27 = .ok (.putfield 53, 3) := by decide +kernel
theorem dX6_postAgain_30 : decode cX6_postAgain 30 = .ok (.iload_n 2, 1) := by decide +kernel
theorem dX6_postAgain_31 : decode cX6_postAgain 31 = .ok (.ireturn, 1) := by decide +kernel
theorem dX6_handOver_0 : decode cX6_handOver 0 = .ok (.aload_n 0, 1) := by decide +kernel
theorem dX6_handOver_1 : decode cX6_handOver 1 = .ok (.getfield 19, 3) := by decide +kernel
theorem dX6_handOver_4 : decode cX6_handOver 4 = .ok (.iload_n 1, 1) := by decide +kernel
theorem dX6_handOver_5 : decode cX6_handOver 5 = .ok (.aaload, 1) := by decide +kernel
theorem dX6_handOver_6 : decode cX6_handOver 6 = .ok (.astore_n 2, 1) := by decide +kernel
theorem dX6_handOver_7 : decode cX6_handOver 7 = .ok (.aload_n 0, 1) := by decide +kernel
theorem dX6_handOver_8 : decode cX6_handOver 8 = .ok (.getfield 29, 3) := by decide +kernel
theorem dX6_handOver_11 : decode cX6_handOver 11 = .ok (.aload_n 2, 1) := by decide +kernel
theorem dX6_handOver_12 : decode cX6_handOver 12 = .ok (.getfield 168, 3) := by decide +kernel
theorem dX6_handOver_15 : decode cX6_handOver 15 = .ok (.aaload, 1) := by decide +kernel
theorem dX6_handOver_16 : decode cX6_handOver 16 = .ok (.aload_n 2, 1) := by decide +kernel
theorem dX6_handOver_17 : decode cX6_handOver 17 = .ok (.getfield 174, 3) := by decide +kernel
theorem dX6_handOver_20 : decode cX6_handOver 20 = .ok (.aload_n 2, 1) := by decide +kernel
theorem dX6_handOver_21 : decode cX6_handOver 21 = .ok (.getfield 168, 3) := by decide +kernel
theorem dX6_handOver_24 : decode cX6_handOver 24 = .ok (.invokevirtual 178, 3) := by decide +kernel
theorem dX6_handOver_27 : decode cX6_handOver 27 = .ok (.istore_n 3, 1) := by decide +kernel
theorem dX6_handOver_28 : decode cX6_handOver 28 = .ok (.aload_n 0, 1) := by decide +kernel
theorem dX6_handOver_29 : decode cX6_handOver 29 = .ok (.iload_n 1, 1) := by decide +kernel
theorem dX6_handOver_30 : decode cX6_handOver 30 = .ok (.invokevirtual 182, 3) := by decide +kernel
theorem dX6_handOver_33 : decode cX6_handOver 33 = .ok (.iload_n 3, 1) := by decide +kernel
theorem dX6_handOver_34 : decode cX6_handOver 34 = .ok (.ireturn, 1) := by decide +kernel
theorem dX6_drop_0 : decode cX6_drop 0 = .ok (.aload_n 0, 1) := by decide +kernel
theorem dX6_drop_1 : decode cX6_drop 1 = .ok (.getfield 19, 3) := by decide +kernel
theorem dX6_drop_4 : decode cX6_drop 4 = .ok (.iload_n 1, 1) := by decide +kernel
theorem dX6_drop_5 : decode cX6_drop 5 = .ok (.aaload, 1) := by decide +kernel
theorem dX6_drop_6 : decode cX6_drop 6 = .ok (.astore_n 2, 1) := by decide +kernel
theorem dX6_drop_7 : decode cX6_drop 7 = .ok (.iload_n 1, 1) := by decide +kernel
theorem dX6_drop_8 : decode cX6_drop 8 = .ok (.istore_n 3, 1) := by decide +kernel
theorem dX6_drop_9 : decode cX6_drop 9 = .ok (.iload_n 3, 1) := by decide +kernel
theorem dX6_drop_10 : decode cX6_drop 10 = .ok (.iconst 1, 1) := by decide +kernel
theorem dX6_drop_11 : decode cX6_drop 11 = .ok (.iadd, 1) := by decide +kernel
theorem dX6_drop_12 : decode cX6_drop 12 = .ok (.aload_n 0, 1) := by decide +kernel
theorem dX6_drop_13 : decode cX6_drop 13 = .ok (.getfield 53, 3) := by decide +kernel
theorem dX6_drop_16 : decode cX6_drop 16 = .ok (.if_icmp .ge 23, 3) := by decide +kernel
theorem dX6_drop_19 : decode cX6_drop 19 = .ok (.aload_n 0, 1) := by decide +kernel
theorem dX6_drop_20 : decode cX6_drop 20 = .ok (.getfield 19, 3) := by decide +kernel
theorem dX6_drop_23 : decode cX6_drop 23 = .ok (.iload_n 3, 1) := by decide +kernel
theorem dX6_drop_24 : decode cX6_drop 24 = .ok (.aload_n 0, 1) := by decide +kernel
theorem dX6_drop_25 : decode cX6_drop 25 = .ok (.getfield 19, 3) := by decide +kernel
theorem dX6_drop_28 : decode cX6_drop 28 = .ok (.iload_n 3, 1) := by decide +kernel
theorem dX6_drop_29 : decode cX6_drop 29 = .ok (.iconst 1, 1) := by decide +kernel
theorem dX6_drop_30 : decode cX6_drop 30 = .ok (.iadd, 1) := by decide +kernel
theorem dX6_drop_31 : decode cX6_drop 31 = .ok (.aaload, 1) := by decide +kernel
theorem dX6_drop_32 : decode cX6_drop 32 = .ok (.aastore, 1) := by decide +kernel
theorem dX6_drop_33 : decode cX6_drop 33 = .ok (.iinc 3 1, 3) := by decide +kernel
theorem dX6_drop_36 : decode cX6_drop 36 = .ok (.goto (-27), 3) := by decide +kernel
theorem dX6_drop_39 : decode cX6_drop 39 = .ok (.aload_n 0, 1) := by decide +kernel
theorem dX6_drop_40 : decode cX6_drop 40 = .ok (.dup, 1) := by decide +kernel
theorem dX6_drop_41 : decode cX6_drop 41 = .ok (.getfield 53, 3) := by decide +kernel
theorem dX6_drop_44 : decode cX6_drop 44 = .ok (.iconst 1, 1) := by decide +kernel
theorem dX6_drop_45 : decode cX6_drop 45 = .ok (.isub, 1) := by decide +kernel
theorem dX6_drop_46 : decode cX6_drop 46 = .ok (.putfield 53, 3) := by decide +kernel
theorem dX6_drop_49 : decode cX6_drop 49 = .ok (.aload_n 0, 1) := by decide +kernel
theorem dX6_drop_50 : decode cX6_drop 50 = .ok (.getfield 19, 3) := by decide +kernel
theorem dX6_drop_53 : decode cX6_drop 53 = .ok (.aload_n 0, 1) := by decide +kernel
theorem dX6_drop_54 : decode cX6_drop 54 = .ok (.getfield 53, 3) := by decide +kernel
theorem dX6_drop_57 : decode cX6_drop 57 = .ok (.aload_n 2, 1) := by decide +kernel
theorem dX6_drop_58 : decode cX6_drop 58 = .ok (.aastore, 1) := by decide +kernel
theorem dX6_drop_59 : decode cX6_drop 59 = .ok (.return_, 1) := by decide +kernel
theorem dX7_init_0 : decode cX7_init 0 = .ok (.aload_n 0, 1) := by decide +kernel
theorem dX7_init_1 : decode cX7_init 1 = .ok (.invokespecial 1, 3) := by decide +kernel
theorem dX7_init_4 : decode cX7_init 4 = .ok (.aload_n 0, 1) := by decide +kernel
theorem dX7_init_5 : decode cX7_init 5 = .ok (.iload_n 1, 1) := by decide +kernel
theorem dX7_init_6 : decode cX7_init 6 = .ok (.anewarray 7, 3) := by decide +kernel
theorem dX7_init_9 : decode cX7_init 9 = .ok (.putfield 9, 3) := by decide +kernel
theorem dX7_init_12 : decode cX7_init 12 = .ok (.iconst 0, 1) := by decide +kernel
theorem dX7_init_13 : decode cX7_init 13 = .ok (.istore_n 2, 1) := by decide +kernel
theorem dX7_init_14 : decode cX7_init 14 = .ok (.iload_n 2, 1) := by decide +kernel
theorem dX7_init_15 : decode cX7_init 15 = .ok (.iload_n 1, 1) := by decide +kernel
theorem dX7_init_16 : decode cX7_init 16 = .ok (.if_icmp .ge 22, 3) := by decide +kernel
theorem dX7_init_19 : decode cX7_init 19 = .ok (.aload_n 0, 1) := by decide +kernel
theorem dX7_init_20 : decode cX7_init 20 = .ok (.getfield 9, 3) := by decide +kernel
theorem dX7_init_23 : decode cX7_init 23 = .ok (.iload_n 2, 1) := by decide +kernel
theorem dX7_init_24 : decode cX7_init 24 = .ok (.new 7, 3) := by decide +kernel
theorem dX7_init_27 : decode cX7_init 27 = .ok (.dup, 1) := by decide +kernel
theorem dX7_init_28 : decode cX7_init 28 = .ok (.invokespecial 15, 3) := by decide +kernel
theorem dX7_init_31 : decode cX7_init 31 = .ok (.aastore, 1) := by decide +kernel
theorem dX7_init_32 : decode cX7_init 32 = .ok (.iinc 2 1, 3) := by decide +kernel
theorem dX7_init_35 : decode cX7_init 35 = .ok (.goto (-21), 3) := by decide +kernel
theorem dX7_init_38 : decode cX7_init 38 = .ok (.return_, 1) := by decide +kernel
theorem dX7_clear_0 : decode cX7_clear 0 = .ok (.iconst 0, 1) := by decide +kernel
theorem dX7_clear_1 : decode cX7_clear 1 = .ok (.istore_n 1, 1) := by decide +kernel
theorem dX7_clear_2 : decode cX7_clear 2 = .ok (.iload_n 1, 1) := by decide +kernel
theorem dX7_clear_3 : decode cX7_clear 3 = .ok (.aload_n 0, 1) := by decide +kernel
theorem dX7_clear_4 : decode cX7_clear 4 = .ok (.getfield 9, 3) := by decide +kernel
theorem dX7_clear_7 : decode cX7_clear 7 = .ok (.arraylength, 1) := by decide +kernel
theorem dX7_clear_8 : decode cX7_clear 8 = .ok (.if_icmp .ge 18, 3) := by decide +kernel
theorem dX7_clear_11 : decode cX7_clear 11 = .ok (.aload_n 0, 1) := by decide +kernel
theorem dX7_clear_12 : decode cX7_clear 12 = .ok (.getfield 9, 3) := by decide +kernel
theorem dX7_clear_15 : decode cX7_clear 15 = .ok (.iload_n 1, 1) := by decide +kernel
theorem dX7_clear_16 : decode cX7_clear 16 = .ok (.aaload, 1) := by decide +kernel
theorem dX7_clear_17 : decode cX7_clear 17 = .ok (.invokevirtual 16, 3) := by decide +kernel
theorem dX7_clear_20 : decode cX7_clear 20 = .ok (.iinc 1 1, 3) := by decide +kernel
theorem dX7_clear_23 : decode cX7_clear 23 = .ok (.goto (-21), 3) := by decide +kernel
theorem dX7_clear_26 : decode cX7_clear 26 = .ok (.return_, 1) := by decide +kernel
theorem dX7_copyFrom_0 : decode cX7_copyFrom 0 = .ok (.iconst 0, 1) := by decide +kernel
theorem dX7_copyFrom_1 : decode cX7_copyFrom 1 = .ok (.istore_n 2, 1) := by decide +kernel
theorem dX7_copyFrom_2 : decode cX7_copyFrom 2 = .ok (.iload_n 2, 1) := by decide +kernel
theorem dX7_copyFrom_3 : decode cX7_copyFrom 3 = .ok (.aload_n 0, 1) := by decide +kernel
theorem dX7_copyFrom_4 : decode cX7_copyFrom 4 = .ok (.getfield 9, 3) := by decide +kernel
theorem dX7_copyFrom_7 : decode cX7_copyFrom 7 = .ok (.arraylength, 1) := by decide +kernel
theorem dX7_copyFrom_8 : decode cX7_copyFrom 8 = .ok (.if_icmp .ge 24, 3) := by decide +kernel
theorem dX7_copyFrom_11 : decode cX7_copyFrom 11 = .ok (.aload_n 0, 1) := by decide +kernel
theorem dX7_copyFrom_12 : decode cX7_copyFrom 12 = .ok (.getfield 9, 3) := by decide +kernel
theorem dX7_copyFrom_15 : decode cX7_copyFrom 15 = .ok (.iload_n 2, 1) := by decide +kernel
theorem dX7_copyFrom_16 : decode cX7_copyFrom 16 = .ok (.aaload, 1) := by decide +kernel
theorem dX7_copyFrom_17 : decode cX7_copyFrom 17 = .ok (.aload_n 1, 1) := by decide +kernel
theorem dX7_copyFrom_18 : decode cX7_copyFrom 18 = .ok (.getfield 9, 3) := by decide +kernel
theorem dX7_copyFrom_21 : decode cX7_copyFrom 21 = .ok (.iload_n 2, 1) := by decide +kernel
theorem dX7_copyFrom_22 : decode cX7_copyFrom 22 = .ok (.aaload, 1) := by decide +kernel
theorem dX7_copyFrom_23 : decode cX7_copyFrom 23 = .ok (.invokevirtual 19, 3) := by decide +kernel
theorem dX7_copyFrom_26 : decode cX7_copyFrom 26 = .ok (.iinc 2 1, 3) := by decide +kernel
theorem dX7_copyFrom_29 : decode cX7_copyFrom 29 = .ok (.goto (-27), 3) := by decide +kernel
theorem dX7_copyFrom_32 : decode cX7_copyFrom 32 = .ok (.return_, 1) := by decide +kernel
theorem dX7_learn_0 : decode cX7_learn 0 = .ok (.iconst 0, 1) := by decide +kernel
theorem dX7_learn_1 : decode cX7_learn 1 = .ok (.istore_n 3, 1) := by decide +kernel
theorem dX7_learn_2 : decode cX7_learn 2 = .ok (.iconst 0, 1) := by decide +kernel
theorem dX7_learn_3 : decode cX7_learn 3 = .ok (.istore 4, 2) := by decide +kernel
theorem dX7_learn_5 : decode cX7_learn 5 = .ok (.iload 4, 2) := by decide +kernel
theorem dX7_learn_7 : decode cX7_learn 7 = .ok (.aload_n 0, 1) := by decide +kernel
theorem dX7_learn_8 : decode cX7_learn 8 = .ok (.getfield 9, 3) := by decide +kernel
theorem dX7_learn_11 : decode cX7_learn 11 = .ok (.arraylength, 1) := by decide +kernel
theorem dX7_learn_12 : decode cX7_learn 12 = .ok (.if_icmp .ge 55, 3) := by decide +kernel
theorem dX7_learn_15 : decode cX7_learn 15 = .ok (.iload 4, 2) := by decide +kernel
theorem dX7_learn_17 : decode cX7_learn 17 = .ok (.iload_n 2, 1) := by decide +kernel
theorem dX7_learn_18 : decode cX7_learn 18 = .ok (.if_icmp .eq 43, 3) := by decide +kernel
theorem dX7_learn_21 : decode cX7_learn 21 = .ok (.aload_n 0, 1) := by decide +kernel
theorem dX7_learn_22 : decode cX7_learn 22 = .ok (.getfield 9, 3) := by decide +kernel
theorem dX7_learn_25 : decode cX7_learn 25 = .ok (.iload 4, 2) := by decide +kernel
theorem dX7_learn_27 : decode cX7_learn 27 = .ok (.aaload, 1) := by decide +kernel
theorem dX7_learn_28 : decode cX7_learn 28 = .ok (.aload_n 1, 1) := by decide +kernel
theorem dX7_learn_29 : decode cX7_learn 29 = .ok (.getfield 9, 3) := by decide +kernel
theorem dX7_learn_32 : decode cX7_learn 32 = .ok (.iload 4, 2) := by decide +kernel
theorem dX7_learn_34 : decode cX7_learn 34 = .ok (.aaload, 1) := by decide +kernel
theorem dX7_learn_35 : decode cX7_learn 35 = .ok (.invokevirtual 23, 3) := by decide +kernel
theorem dX7_learn_38 : decode cX7_learn 38 = .ok (.ifCond .eq 23, 3) := by decide +kernel
theorem dX7_learn_41 : decode cX7_learn 41 = .ok (.aload_n 0, 1) := by decide +kernel
theorem dX7_learn_42 : decode cX7_learn 42 = .ok (.getfield 9, 3) := by decide +kernel
theorem dX7_learn_45 : decode cX7_learn 45 = .ok (.iload 4, 2) := by decide +kernel
theorem dX7_learn_47 : decode cX7_learn 47 = .ok (.aaload, 1) := by decide +kernel
theorem dX7_learn_48 : decode cX7_learn 48 = .ok (.aload_n 1, 1) := by decide +kernel
theorem dX7_learn_49 : decode cX7_learn 49 = .ok (.getfield 9, 3) := by decide +kernel
theorem dX7_learn_52 : decode cX7_learn 52 = .ok (.iload 4, 2) := by decide +kernel
theorem dX7_learn_54 : decode cX7_learn 54 = .ok (.aaload, 1) := by decide +kernel
theorem dX7_learn_55 : decode cX7_learn 55 = .ok (.invokevirtual 19, 3) := by decide +kernel
theorem dX7_learn_58 : decode cX7_learn 58 = .ok (.iinc 3 1, 3) := by decide +kernel
theorem dX7_learn_61 : decode cX7_learn 61 = .ok (.iinc 4 1, 3) := by decide +kernel
theorem dX7_learn_64 : decode cX7_learn 64 = .ok (.goto (-59), 3) := by decide +kernel
theorem dX7_learn_67 : decode cX7_learn 67 = .ok (.iload_n 3, 1) := by decide +kernel
theorem dX7_learn_68 : decode cX7_learn 68 = .ok (.ireturn, 1) := by decide +kernel

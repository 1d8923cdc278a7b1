theorem dX8_init_0 : decode cX8_init 0 = .ok (.aload_n 0, 1) := by decide +kernel
theorem dX8_init_1 : decode cX8_init 1 = .ok (.invokespecial 3, 3) := by decide +kernel
theorem dX8_init_4 : decode cX8_init 4 = .ok (.aload_n 0, 1) := by decide +kernel
theorem dX8_init_5 : decode cX8_init 5 = .ok (.iconst 2, 1) := by decide +kernel
theorem dX8_init_6 : decode cX8_init 6 = .ok (.iconst 5, 1) := by decide +kernel
theorem dX8_init_7 : decode cX8_init 7 = .ok (.iload_n 1, 1) := by decide +kernel
theorem dX8_init_8 : decode cX8_init 8 = .ok (.invokestatic 9, 3) := by decide +kernel
theorem dX8_init_11 : decode cX8_init 11 = .ok (.invokestatic 15, 3) := by decide +kernel
theorem dX8_init_14 : decode cX8_init 14 = .ok (.putfield 18, 3) := by decide +kernel
theorem dX8_init_17 : decode cX8_init 17 = .ok (.aload_n 0, 1) := by decide +kernel
theorem dX8_init_18 : decode cX8_init 18 = .ok (.new 22, 3) := by decide +kernel
theorem dX8_init_21 : decode cX8_init 21 = .ok (.dup, 1) := by decide +kernel
theorem dX8_init_22 : decode cX8_init 22 = .ok (.aload_n 0, 1) := by decide +kernel
theorem dX8_init_23 : decode cX8_init 23 = .ok (.getfield 18, 3) := by decide +kernel
theorem dX8_init_26 : decode cX8_init 26 = .ok (.invokespecial 24, 3) := by decide +kernel
theorem dX8_init_29 : decode cX8_init 29 = .ok (.putfield 27, 3) := by decide +kernel
theorem dX8_init_32 : decode cX8_init 32 = .ok (.aload_n 0, 1) := by decide +kernel
theorem dX8_init_33 : decode cX8_init 33 = .ok (.new 31, 3) := by decide +kernel
theorem dX8_init_36 : decode cX8_init 36 = .ok (.dup, 1) := by decide +kernel
theorem dX8_init_37 : decode cX8_init 37 = .ok (.aload_n 0, 1) := by decide +kernel
theorem dX8_init_38 : decode cX8_init 38 = .ok (.getfield 18, 3) := by decide +kernel
theorem dX8_init_41 : decode cX8_init 41 = .ok (.invokespecial 33, 3) := by decide +kernel
theorem dX8_init_44 : decode cX8_init 44 = .ok (.putfield 34, 3) := by decide +kernel
theorem dX8_init_47 : decode cX8_init 47 = .ok (.aload_n 0, 1) := by decide +kernel
theorem dX8_init_48 : decode cX8_init 48 = .ok (.new 38, 3) := by decide +kernel
theorem dX8_init_51 : decode cX8_init 51 = .ok (.dup, 1) := by decide +kernel
theorem dX8_init_52 : decode cX8_init 52 = .ok (.invokespecial 40, 3) := by decide +kernel
theorem dX8_init_55 : decode cX8_init 55 = .ok (.putfield 41, 3) := by decide +kernel
theorem dX8_init_58 : decode cX8_init 58 = .ok (.aload_n 0, 1) := by decide +kernel
theorem dX8_init_59 : decode cX8_init 59 = .ok (.getfield 27, 3) := by decide +kernel
theorem dX8_init_62 : decode cX8_init 62 = .ok (.iconst 0, 1) := by decide +kernel
theorem dX8_init_63 : decode cX8_init 63 = .ok (.bipush 100, 2) := by decide +kernel
theorem dX8_init_65 : decode cX8_init 65 = .ok (.bipush 50, 2) := by decide +kernel
theorem dX8_init_67 : decode cX8_init 67 = .ok (.invokevirtual 45, 3) := by decide +kernel
theorem dX8_init_70 : decode cX8_init 70 = .ok (.return_, 1) := by decide +kernel
theorem dX8_sites_0 : decode cX8_sites 0 = .ok (.aload_n 0, 1) := by decide +kernel
theorem dX8_sites_1 : decode cX8_sites 1 = .ok (.getfield 18, 3) := by decide +kernel
theorem dX8_sites_4 : decode cX8_sites 4 = .ok (.ireturn, 1) := by decide +kernel
theorem dX8_begin_0 : decode cX8_begin 0 = .ok (.iload_n 1, 1) := by decide +kernel
theorem dX8_begin_1 : decode cX8_begin 1 = .ok (.sipush (-10000), 3) := by decide +kernel
theorem dX8_begin_4 : decode cX8_begin 4 = .ok (.if_icmp .lt 19, 3) := by decide +kernel
theorem dX8_begin_7 : decode cX8_begin 7 = .ok (.iload_n 1, 1) := by decide +kernel
theorem dX8_begin_8 : decode cX8_begin 8 = .ok (.iload_n 2, 1) := by decide +kernel
theorem dX8_begin_9 : decode cX8_begin 9 = .ok (.if_icmp .gt 14, 3) := by decide +kernel
theorem dX8_begin_12 : decode cX8_begin 12 = .ok (.iload_n 2, 1) := by decide +kernel
theorem dX8_begin_13 : decode cX8_begin 13 = .ok (.sipush 10000, 3) := by decide +kernel
theorem dX8_begin_16 : decode cX8_begin 16 = .ok (.if_icmp .gt 7, 3) := by decide +kernel
theorem dX8_begin_19 : decode cX8_begin 19 = .ok (.iconst 1, 1) := by decide +kernel
theorem dX8_begin_20 : decode cX8_begin 20 = .ok (.goto 4, 3) := by decide +kernel
theorem dX8_begin_23 : decode cX8_begin 23 = .ok (.iconst 0, 1) := by decide +kernel
theorem dX8_begin_24 : decode cX8_begin 24 = .ok (.istore 4, 2) := by decide +kernel
theorem dX8_begin_26 : decode cX8_begin 26 = .ok (.iload 4, 2) := by decide +kernel
theorem dX8_begin_28 : decode cX8_begin 28 = .ok (.ifCond .eq 13, 3) := by decide +kernel
theorem dX8_begin_31 : decode cX8_begin 31 = .ok (.iload_n 3, 1) := by decide +kernel
theorem dX8_begin_32 : decode cX8_begin 32 = .ok (.iload_n 1, 1) := by decide +kernel
theorem dX8_begin_33 : decode cX8_begin 33 = .ok (.if_icmp .lt 8, 3) := by decide +kernel
theorem dX8_begin_36 : decode cX8_begin 36 = .ok (.iload_n 3, 1) := by decide +kernel
theorem dX8_begin_37 : decode cX8_begin 37 = .ok (.iload_n 2, 1) := by decide +kernel
theorem dX8_begin_38 : decode cX8_begin 38 = .ok (.if_icmp .le 13, 3) := by decide +kernel
theorem dX8_begin_41 : decode cX8_begin 41 = .ok (.new 49, 3) := by decide +kernel
theorem dX8_begin_44 : decode cX8_begin 44 = .ok (.dup, 1) := by decide +kernel
theorem dX8_begin_45 : decode cX8_begin 45 = .ok (.ldc 51, 2) := by decide +kernel
theorem dX8_begin_47 : decode cX8_begin 47 = .ok (.invokespecial 53, 3) := by decide +kernel
theorem dX8_begin_50 : decode cX8_begin 50 = .ok (.athrow, 1) := by decide +kernel
theorem dX8_begin_51 : decode cX8_begin 51 = .ok (.aload_n 0, 1) := by decide +kernel
theorem dX8_begin_52 : decode cX8_begin 52 = .ok (.getfield 27, 3) := by decide +kernel
theorem dX8_begin_55 : decode cX8_begin 55 = .ok (.invokevirtual 56, 3) := by decide +kernel
theorem dX8_begin_58 : decode cX8_begin 58 = .ok (.istore 5, 2) := by decide +kernel
theorem dX8_begin_60 : decode cX8_begin 60 = .ok (.aload_n 0, 1) := by decide +kernel
theorem dX8_begin_61 : decode cX8_begin 61 = .ok (.getfield 27, 3) := by decide +kernel
theorem dX8_begin_64 : decode cX8_begin 64 = .ok (.iload_n 1, 1) := by decide +kernel
theorem dX8_begin_65 : decode cX8_begin 65 = .ok (.iload_n 2, 1) := by decide +kernel
theorem dX8_begin_66 : decode cX8_begin 66 = .ok (.iload_n 3, 1) := by decide +kernel
theorem dX8_begin_67 : decode cX8_begin 67 = .ok (.invokevirtual 45, 3) := by decide +kernel
theorem dX8_begin_70 : decode cX8_begin 70 = .ok (.aload_n 0, 1) := by decide +kernel
theorem dX8_begin_71 : decode cX8_begin 71 = .ok (.getfield 34, 3) := by decide +kernel
theorem dX8_begin_74 : decode cX8_begin 74 = .ok (.invokevirtual 60, 3) := by decide +kernel
theorem dX8_begin_77 : decode cX8_begin 77 = .ok (.iload 5, 2) := by decide +kernel
theorem dX8_begin_79 : decode cX8_begin 79 = .ok (.ireturn, 1) := by decide +kernel
theorem dX8_increase_0 : decode cX8_increase 0 = .ok (.aload_n 0, 1) := by decide +kernel
theorem dX8_increase_1 : decode cX8_increase 1 = .ok (.iload_n 1, 1) := by decide +kernel
theorem dX8_increase_2 : decode cX8_increase 2 = .ok (.iload_n 2, 1) := by decide +kernel
theorem dX8_increase_3 : decode cX8_increase 3 = .ok (.invokevirtual 63, 3) := by decide +kernel
theorem dX8_increase_6 : decode cX8_increase 6 = .ok (.invokestatic 66, 3) := by decide +kernel
theorem dX8_increase_9 : decode cX8_increase 9 = .ok (.aload_n 0, 1) := by decide +kernel
theorem dX8_increase_10 : decode cX8_increase 10 = .ok (.getfield 34, 3) := by decide +kernel
theorem dX8_increase_13 : decode cX8_increase 13 = .ok (.aload_n 0, 1) := by decide +kernel
theorem dX8_increase_14 : decode cX8_increase 14 = .ok (.getfield 27, 3) := by decide +kernel
theorem dX8_increase_17 : decode cX8_increase 17 = .ok (.invokevirtual 69, 3) := by decide +kernel
theorem dX8_increase_20 : decode cX8_increase 20 = .ok (.aload_n 0, 1) := by decide +kernel
theorem dX8_increase_21 : decode cX8_increase 21 = .ok (.getfield 27, 3) := by decide +kernel
theorem dX8_increase_24 : decode cX8_increase 24 = .ok (.iload_n 1, 1) := by decide +kernel
theorem dX8_increase_25 : decode cX8_increase 25 = .ok (.iconst 0, 1) := by decide +kernel
theorem dX8_increase_26 : decode cX8_increase 26 = .ok (.iload_n 2, 1) := by decide +kernel
theorem dX8_increase_27 : decode cX8_increase 27 = .ok (.invokevirtual 73, 3) := by decide +kernel
theorem dX8_increase_30 : decode cX8_increase 30 = .ok (.ireturn, 1) := by decide +kernel
theorem dX8_decrease_0 : decode cX8_decrease 0 = .ok (.aload_n 0, 1) := by decide +kernel
theorem dX8_decrease_1 : decode cX8_decrease 1 = .ok (.iload_n 1, 1) := by decide +kernel
theorem dX8_decrease_2 : decode cX8_decrease 2 = .ok (.iload_n 2, 1) := by decide +kernel
theorem dX8_decrease_3 : decode cX8_decrease 3 = .ok (.invokevirtual 63, 3) := by decide +kernel
theorem dX8_decrease_6 : decode cX8_decrease 6 = .ok (.invokestatic 66, 3) := by decide +kernel
theorem dX8_decrease_9 : decode cX8_decrease 9 = .ok (.aload_n 0, 1) := by decide +kernel
theorem dX8_decrease_10 : decode cX8_decrease 10 = .ok (.getfield 34, 3) := by decide +kernel
theorem dX8_decrease_13 : decode cX8_decrease 13 = .ok (.aload_n 0, 1) := by decide +kernel
theorem dX8_decrease_14 : decode cX8_decrease 14 = .ok (.getfield 27, 3) := by decide +kernel
theorem dX8_decrease_17 : decode cX8_decrease 17 = .ok (.invokevirtual 69, 3) := by decide +kernel
theorem dX8_decrease_20 : decode cX8_decrease 20 = .ok (.aload_n 0, 1) := by decide +kernel
theorem dX8_decrease_21 : decode cX8_decrease 21 = .ok (.getfield 27, 3) := by decide +kernel
theorem dX8_decrease_24 : decode cX8_decrease 24 = .ok (.iload_n 1, 1) := by decide +kernel
theorem dX8_decrease_25 : decode cX8_decrease 25 = .ok (.iconst 1, 1) := by decide +kernel
theorem dX8_decrease_26 : decode cX8_decrease 26 = .ok (.iload_n 2, 1) := by decide +kernel
theorem dX8_decrease_27 : decode cX8_decrease 27 = .ok (.invokevirtual 73, 3) := by decide +kernel
theorem dX8_decrease_30 : decode cX8_decrease 30 = .ok (.ireturn, 1) := by decide +kernel
theorem dX8_transfer_0 : decode cX8_transfer 0 = .ok (.aload_n 0, 1) := by decide +kernel
theorem dX8_transfer_1 : decode cX8_transfer 1 = .ok (.iload_n 1, 1) := by decide +kernel
theorem dX8_transfer_2 : decode cX8_transfer 2 = .ok (.iload_n 2, 1) := by decide +kernel
theorem dX8_transfer_3 : decode cX8_transfer 3 = .ok (.iload_n 3, 1) := by decide +kernel
theorem dX8_transfer_4 : decode cX8_transfer 4 = .ok (.iload 4, 2) := by decide +kernel
theorem dX8_transfer_6 : decode cX8_transfer 6 = .ok (.invokevirtual 77, 3) := by decide +kernel
theorem dX8_transfer_9 : decode cX8_transfer 9 = .ok (.invokestatic 66, 3) := by decide +kernel
theorem dX8_transfer_12 : decode cX8_transfer 12 = .ok (.aload_n 0, 1) := by decide +kernel
theorem dX8_transfer_13 : decode cX8_transfer 13 = .ok (.getfield 34, 3) := by decide +kernel
theorem dX8_transfer_16 : decode cX8_transfer 16 = .ok (.aload_n 0, 1) := by decide +kernel
theorem dX8_transfer_17 : decode cX8_transfer 17 = .ok (.getfield 27, 3) := by decide +kernel
theorem dX8_transfer_20 : decode cX8_transfer 20 = .ok (.invokevirtual 69, 3) := by decide +kernel
theorem dX8_transfer_23 : decode cX8_transfer 23 = .ok (.aload_n 0, 1) := by decide +kernel
theorem dX8_transfer_24 : decode cX8_transfer 24 = .ok (.getfield 27, 3) := by decide +kernel
theorem dX8_transfer_27 : decode cX8_transfer 27 = .ok (.iload_n 1, 1) := by decide +kernel
theorem dX8_transfer_28 : decode cX8_transfer 28 = .ok (.iload_n 2, 1) := by decide +kernel
theorem dX8_transfer_29 : decode cX8_transfer 29 = .ok (.iload_n 3, 1) := by decide +kernel
theorem dX8_transfer_30 : decode cX8_transfer 30 = .ok (.iload 4, 2) := by decide +kernel
theorem dX8_transfer_32 : decode cX8_transfer 32 = .ok (.invokevirtual 81, 3) := by decide +kernel
theorem dX8_transfer_35 : decode cX8_transfer 35 = .ok (.aload_n 0, 1) := by decide +kernel
theorem dX8_transfer_36 : decode cX8_transfer 36 = .ok (.getfield 27, 3) := by decide +kernel
theorem dX8_transfer_39 : decode cX8_transfer 39 = .ok (.iload_n 2, 1) := by decide +kernel
theorem dX8_transfer_40 : decode cX8_transfer 40 = .ok (.iload_n 1, 1) := by decide +kernel
theorem dX8_transfer_41 : decode cX8_transfer 41 = .ok (.invokevirtual 85, 3) := by decide +kernel
theorem dX8_transfer_44 : decode cX8_transfer 44 = .ok (.ireturn, 1) := by decide +kernel
theorem dX8_lend_0 : decode cX8_lend 0 = .ok (.aload_n 0, 1) := by decide +kernel
theorem dX8_lend_1 : decode cX8_lend 1 = .ok (.iload_n 1, 1) := by decide +kernel
theorem dX8_lend_2 : decode cX8_lend 2 = .ok (.iload_n 2, 1) := by decide +kernel
theorem dX8_lend_3 : decode cX8_lend 3 = .ok (.iload_n 3, 1) := by decide +kernel
theorem dX8_lend_4 : decode cX8_lend 4 = .ok (.iload 4, 2) := by decide +kernel
theorem dX8_lend_6 : decode cX8_lend 6 = .ok (.iload 5, 2) := by decide +kernel
theorem dX8_lend_8 : decode cX8_lend 8 = .ok (.invokevirtual 88, 3) := by decide +kernel
theorem dX8_lend_11 : decode cX8_lend 11 = .ok (.invokestatic 66, 3) := by decide +kernel
theorem dX8_lend_14 : decode cX8_lend 14 = .ok (.aload_n 0, 1) := by decide +kernel
theorem dX8_lend_15 : decode cX8_lend 15 = .ok (.getfield 34, 3) := by decide +kernel
theorem dX8_lend_18 : decode cX8_lend 18 = .ok (.aload_n 0, 1) := by decide +kernel
theorem dX8_lend_19 : decode cX8_lend 19 = .ok (.getfield 27, 3) := by decide +kernel
theorem dX8_lend_22 : decode cX8_lend 22 = .ok (.invokevirtual 69, 3) := by decide +kernel
theorem dX8_lend_25 : decode cX8_lend 25 = .ok (.aload_n 0, 1) := by decide +kernel
theorem dX8_lend_26 : decode cX8_lend 26 = .ok (.getfield 27, 3) := by decide +kernel
theorem dX8_lend_29 : decode cX8_lend 29 = .ok (.iload_n 1, 1) := by decide +kernel
theorem dX8_lend_30 : decode cX8_lend 30 = .ok (.iload_n 2, 1) := by decide +kernel
theorem dX8_lend_31 : decode cX8_lend 31 = .ok (.iload_n 3, 1) := by decide +kernel
theorem dX8_lend_32 : decode cX8_lend 32 = .ok (.iload 4, 2) := by decide +kernel
theorem dX8_lend_34 : decode cX8_lend 34 = .ok (.iload 5, 2) := by decide +kernel
theorem dX8_lend_36 : decode cX8_lend 36 = .ok (.invokevirtual 92, 3) := by decide +kernel
theorem dX8_lend_39 : decode cX8_lend 39 = .ok (.ireturn, 1) := by decide +kernel
theorem dX8_rebalance_0 : decode cX8_rebalance 0 = .ok (.aload_n 0, 1) := by decide +kernel
theorem dX8_rebalance_1 : decode cX8_rebalance 1 = .ok (.iload_n 1, 1) := by decide +kernel
theorem dX8_rebalance_2 : decode cX8_rebalance 2 = .ok (.iload_n 2, 1) := by decide +kernel
theorem dX8_rebalance_3 : decode cX8_rebalance 3 = .ok (.invokevirtual 95, 3) := by decide +kernel
theorem dX8_rebalance_6 : decode cX8_rebalance 6 = .ok (.invokestatic 66, 3) := by decide +kernel
theorem dX8_rebalance_9 : decode cX8_rebalance 9 = .ok (.aload_n 0, 1) := by decide +kernel
theorem dX8_rebalance_10 : decode cX8_rebalance 10 = .ok (.getfield 34, 3) := by decide +kernel
theorem dX8_rebalance_13 : decode cX8_rebalance 13 = .ok (.aload_n 0, 1) := by decide +kernel
theorem dX8_rebalance_14 : decode cX8_rebalance 14 = .ok (.getfield 27, 3) := by decide +kernel
theorem dX8_rebalance_17 : decode cX8_rebalance 17 = .ok (.invokevirtual 98, 3) := by decide +kernel
theorem dX8_rebalance_20 : decode cX8_rebalance 20 = .ok (.aload_n 0, 1) := by decide +kernel
theorem dX8_rebalance_21 : decode cX8_rebalance 21 = .ok (.getfield 27, 3) := by decide +kernel
theorem dX8_rebalance_24 : decode cX8_rebalance 24 = .ok (.iload_n 1, 1) := by decide +kernel
theorem dX8_rebalance_25 : decode cX8_rebalance 25 = .ok (.iload_n 2, 1) := by decide +kernel
theorem dX8_rebalance_26 : decode cX8_rebalance 26 = .ok (.invokevirtual 101, 3) := by decide +kernel
theorem dX8_rebalance_29 : decode cX8_rebalance 29 = .ok (.istore_n 3, 1) := by decide +kernel
theorem dX8_rebalance_30 : decode cX8_rebalance 30 = .ok (.iload_n 3, 1) := by decide +kernel
theorem dX8_rebalance_31 : decode cX8_rebalance 31 = .ok (.ifCond .le 10, 3) := by decide +kernel
theorem dX8_rebalance_34 : decode cX8_rebalance 34 = .ok (.aload_n 0, 1) := by decide +kernel
theorem dX8_rebalance_35 : decode cX8_rebalance 35 = .ok (.getfield 34, 3) := by decide +kernel
theorem dX8_rebalance_38 : decode cX8_rebalance 38 = .ok (.invokevirtual 104, 3) := by decide +kernel
theorem dX8_rebalance_41 : decode cX8_rebalance 41 = .ok (.iload_n 3, 1) := by decide +kernel
theorem dX8_rebalance_42 : decode cX8_rebalance 42 = .ok (.ireturn, 1) := by decide +kernel
theorem dX8_pass_0 : decode cX8_pass 0 = .ok (.aload_n 0, 1) := by decide +kernel
theorem dX8_pass_1 : decode cX8_pass 1 = .ok (.iload_n 1, 1) := by decide +kernel
theorem dX8_pass_2 : decode cX8_pass 2 = .ok (.invokevirtual 107, 3) := by decide +kernel
theorem dX8_pass_5 : decode cX8_pass 5 = .ok (.invokestatic 66, 3) := by decide +kernel
theorem dX8_pass_8 : decode cX8_pass 8 = .ok (.aload_n 0, 1) := by decide +kernel
theorem dX8_pass_9 : decode cX8_pass 9 = .ok (.getfield 34, 3) := by decide +kernel
theorem dX8_pass_12 : decode cX8_pass 12 = .ok (.aload_n 0, 1) := by decide +kernel
theorem dX8_pass_13 : decode cX8_pass 13 = .ok (.getfield 27, 3) := by decide +kernel
theorem dX8_pass_16 : decode cX8_pass 16 = .ok (.invokevirtual 69, 3) := by decide +kernel
theorem dX8_pass_19 : decode cX8_pass 19 = .ok (.aload_n 0, 1) := by decide +kernel
theorem dX8_pass_20 : decode cX8_pass 20 = .ok (.getfield 27, 3) := by decide +kernel
theorem dX8_pass_23 : decode cX8_pass 23 = .ok (.iload_n 1, 1) := by decide +kernel
theorem dX8_pass_24 : decode cX8_pass 24 = .ok (.invokevirtual 111, 3) := by decide +kernel
theorem dX8_pass_27 : decode cX8_pass 27 = .ok (.aload_n 0, 1) := by decide +kernel
theorem dX8_pass_28 : decode cX8_pass 28 = .ok (.getfield 27, 3) := by decide +kernel
theorem dX8_pass_31 : decode cX8_pass 31 = .ok (.getfield 114, 3) := by decide +kernel
theorem dX8_pass_34 : decode cX8_pass 34 = .ok (.ireturn, 1) := by decide +kernel
theorem dX8_send_0 : decode cX8_send 0 = .ok (.aload_n 0, 1) := by decide +kernel
theorem dX8_send_1 : decode cX8_send 1 = .ok (.iload_n 1, 1) := by decide +kernel
theorem dX8_send_2 : decode cX8_send 2 = .ok (.iload_n 2, 1) := by decide +kernel
theorem dX8_send_3 : decode cX8_send 3 = .ok (.invokevirtual 117, 3) := by decide +kernel
theorem dX8_send_6 : decode cX8_send 6 = .ok (.invokestatic 66, 3) := by decide +kernel
theorem dX8_send_9 : decode cX8_send 9 = .ok (.aload_n 0, 1) := by decide +kernel
theorem dX8_send_10 : decode cX8_send 10 = .ok (.getfield 34, 3) := by decide +kernel
theorem dX8_send_13 : decode cX8_send 13 = .ok (.aload_n 0, 1) := by decide +kernel
theorem dX8_send_14 : decode cX8_send 14 = .ok (.getfield 27, 3) := by decide +kernel
theorem dX8_send_17 : decode cX8_send 17 = .ok (.invokevirtual 69, 3) := by decide +kernel
theorem dX8_send_20 : decode cX8_send 20 = .ok (.aload_n 0, 1) := by decide +kernel
theorem dX8_send_21 : decode cX8_send 21 = .ok (.getfield 27, 3) := by decide +kernel
theorem dX8_send_24 : decode cX8_send 24 = .ok (.iload_n 1, 1) := by decide +kernel
theorem dX8_send_25 : decode cX8_send 25 = .ok (.iload_n 2, 1) := by decide +kernel
theorem dX8_send_26 : decode cX8_send 26 = .ok (.invokevirtual 120, 3) := by decide +kernel
theorem dX8_send_29 : decode cX8_send 29 = .ok (.ireturn, 1) := by decide +kernel
theorem dX8_deliver_0 : decode cX8_deliver 0 = .ok (.aload_n 0, 1) := by decide +kernel
theorem dX8_deliver_1 : decode cX8_deliver 1 = .ok (.iload_n 1, 1) := by decide +kernel
theorem dX8_deliver_2 : decode cX8_deliver 2 = .ok (.invokevirtual 123, 3) := by decide +kernel
theorem dX8_deliver_5 : decode cX8_deliver 5 = .ok (.invokestatic 66, 3) := by decide +kernel
theorem dX8_deliver_8 : decode cX8_deliver 8 = .ok (.aload_n 0, 1) := by decide +kernel
theorem dX8_deliver_9 : decode cX8_deliver 9 = .ok (.getfield 34, 3) := by decide +kernel
theorem dX8_deliver_12 : decode cX8_deliver 12 = .ok (.aload_n 0, 1) := by decide +kernel
theorem dX8_deliver_13 : decode cX8_deliver 13 = .ok (.getfield 27, 3) := by decide +kernel
theorem dX8_deliver_16 : decode cX8_deliver 16 = .ok (.invokevirtual 69, 3) := by decide +kernel
theorem dX8_deliver_19 : decode cX8_deliver 19 = .ok (.aload_n 0, 1) := by decide +kernel
theorem dX8_deliver_20 : decode cX8_deliver 20 = .ok (.getfield 27, 3) := by decide +kernel
theorem dX8_deliver_23 : decode cX8_deliver 23 = .ok (.iload_n 1, 1) := by decide +kernel
theorem dX8_deliver_24 : decode cX8_deliver 24 = .ok (.invokevirtual 126, 3) := by decide +kernel
theorem dX8_deliver_27 : decode cX8_deliver 27 = .ok (.ireturn, 1) := by decide +kernel
theorem dX8_lose_0 : decode cX8_lose 0 = .ok (.aload_n 0, 1) := by decide +kernel
theorem dX8_lose_1 : decode cX8_lose 1 = .ok (.iload_n 1, 1) := by decide +kernel
theorem dX8_lose_2 : decode cX8_lose 2 = .ok (.invokevirtual 123, 3) := by decide +kernel
theorem dX8_lose_5 : decode cX8_lose 5 = .ok (.invokestatic 66, 3) := by decide +kernel
theorem dX8_lose_8 : decode cX8_lose 8 = .ok (.aload_n 0, 1) := by decide +kernel
theorem dX8_lose_9 : decode cX8_lose 9 = .ok (.getfield 34, 3) := by decide +kernel
theorem dX8_lose_12 : decode cX8_lose 12 = .ok (.aload_n 0, 1) := by decide +kernel
theorem dX8_lose_13 : decode cX8_lose 13 = .ok (.getfield 27, 3) := by decide +kernel
theorem dX8_lose_16 : decode cX8_lose 16 = .ok (.invokevirtual 69, 3) := by decide +kernel
theorem dX8_lose_19 : decode cX8_lose 19 = .ok (.aload_n 0, 1) := by decide +kernel
theorem dX8_lose_20 : decode cX8_lose 20 = .ok (.getfield 27, 3) := by decide +kernel
theorem dX8_lose_23 : decode cX8_lose 23 = .ok (.iload_n 1, 1) := by decide +kernel
theorem dX8_lose_24 : decode cX8_lose 24 = .ok (.invokevirtual 129, 3) := by decide +kernel
theorem dX8_lose_27 : decode cX8_lose 27 = .ok (.aload_n 0, 1) := by decide +kernel
theorem dX8_lose_28 : decode cX8_lose 28 = .ok (.getfield 27, 3) := by decide +kernel
theorem dX8_lose_31 : decode cX8_lose 31 = .ok (.getfield 132, 3) := by decide +kernel
theorem dX8_lose_34 : decode cX8_lose 34 = .ok (.ireturn, 1) := by decide +kernel
theorem dX8_repeat_0 : decode cX8_repeat 0 = .ok (.aload_n 0, 1) := by decide +kernel
theorem dX8_repeat_1 : decode cX8_repeat 1 = .ok (.iload_n 1, 1) := by decide +kernel
theorem dX8_repeat_2 : decode cX8_repeat 2 = .ok (.invokevirtual 123, 3) := by decide +kernel
theorem dX8_repeat_5 : decode cX8_repeat 5 = .ok (.invokestatic 66, 3) := by decide +kernel
theorem dX8_repeat_8 : decode cX8_repeat 8 = .ok (.aload_n 0, 1) := by decide +kernel
theorem dX8_repeat_9 : decode cX8_repeat 9 = .ok (.getfield 27, 3) := by decide +kernel
theorem dX8_repeat_12 : decode cX8_repeat 12 = .ok (.getfield 132, 3) := by decide +kernel
theorem dX8_repeat_15 : decode cX8_repeat 15 = .ok (.bipush 8, 2) := by decide +kernel
theorem dX8_repeat_17 : decode cX8_repeat 17 = .ok (.if_icmp .lt 13, 3) := by decide +kernel
theorem dX8_repeat_20 : decode cX8_repeat 20 = .ok (.new 135, 3) := by decide +kernel
theorem dX8_repeat_23 : decode cX8_repeat 23 = .ok (.dup, 1) := by decide +kernel
theorem dX8_repeat_24 : decode cX8_repeat 24 = .ok (.ldc 137, 2) := by decide +kernel
theorem dX8_repeat_26 : decode cX8_repeat 26 = .ok (.invokespecial 139, 3) := by decide +kernel
theorem dX8_repeat_29 : decode cX8_repeat 29 = .ok (.athrow, 1) := by decide +kernel
theorem dX8_repeat_30 : decode cX8_repeat 30 = .ok (.aload_n 0, 1) := by decide +kernel
theorem dX8_repeat_31 : decode cX8_repeat 31 = .ok (.getfield 34, 3) := by decide +kernel
theorem dX8_repeat_34 : decode cX8_repeat 34 = .ok (.aload_n 0, 1) := by decide +kernel
theorem dX8_repeat_35 : decode cX8_repeat 35 = .ok (.getfield 27, 3) := by decide +kernel
theorem dX8_repeat_38 : decode cX8_repeat 38 = .ok (.invokevirtual 69, 3) := by decide +kernel
theorem dX8_repeat_41 : decode cX8_repeat 41 = .ok (.aload_n 0, 1) := by decide +kernel
theorem dX8_repeat_42 : decode cX8_repeat 42 = .ok (.getfield 27, 3) := by decide +kernel
theorem dX8_repeat_45 : decode cX8_repeat 45 = .ok (.iload_n 1, 1) := by decide +kernel
theorem dX8_repeat_46 : decode cX8_repeat 46 = .ok (.invokevirtual 140, 3) := by decide +kernel
theorem dX8_repeat_49 : decode cX8_repeat 49 = .ok (.ireturn, 1) := by decide +kernel
theorem dX8_messages_0 : decode cX8_messages 0 = .ok (.aload_n 0, 1) := by decide +kernel
theorem dX8_messages_1 : decode cX8_messages 1 = .ok (.getfield 27, 3) := by decide +kernel
theorem dX8_messages_4 : decode cX8_messages 4 = .ok (.getfield 132, 3) := by decide +kernel
theorem dX8_messages_7 : decode cX8_messages 7 = .ok (.ireturn, 1) := by decide +kernel
theorem dX8_message_0 : decode cX8_message 0 = .ok (.aload_n 0, 1) := by decide +kernel
theorem dX8_message_1 : decode cX8_message 1 = .ok (.iload_n 1, 1) := by decide +kernel
theorem dX8_message_2 : decode cX8_message 2 = .ok (.invokevirtual 123, 3) := by decide +kernel
theorem dX8_message_5 : decode cX8_message 5 = .ok (.invokestatic 66, 3) := by decide +kernel
theorem dX8_message_8 : decode cX8_message 8 = .ok (.iload_n 2, 1) := by decide +kernel
theorem dX8_message_9 : decode cX8_message 9 = .ok (.ifCond .lt 8, 3) := by decide +kernel
theorem dX8_message_12 : decode cX8_message 12 = .ok (.iload_n 2, 1) := by decide +kernel
theorem dX8_message_13 : decode cX8_message 13 = .ok (.iconst 3, 1) := by decide +kernel
theorem dX8_message_14 : decode cX8_message 14 = .ok (.if_icmp .lt 13, 3) := by decide +kernel
theorem dX8_message_17 : decode cX8_message 17 = .ok (.new 143, 3) := by decide +kernel
theorem dX8_message_20 : decode cX8_message 20 = .ok (.dup, 1) := by decide +kernel
theorem dX8_message_21 : decode cX8_message 21 = .ok (.ldc 145, 2) := by decide +kernel
theorem dX8_message_23 : decode cX8_message 23 = .ok (.invokespecial 147, 3) := by decide +kernel
theorem dX8_message_26 : decode cX8_message 26 = .ok (.athrow, 1) := by decide +kernel
theorem dX8_message_27 : decode cX8_message 27 = .ok (.aload_n 0, 1) := by decide +kernel
theorem dX8_message_28 : decode cX8_message 28 = .ok (.getfield 27, 3) := by decide +kernel
theorem dX8_message_31 : decode cX8_message 31 = .ok (.getfield 148, 3) := by decide +kernel
theorem dX8_message_34 : decode cX8_message 34 = .ok (.iload_n 1, 1) := by decide +kernel
theorem dX8_message_35 : decode cX8_message 35 = .ok (.aaload, 1) := by decide +kernel
theorem dX8_message_36 : decode cX8_message 36 = .ok (.iload_n 2, 1) := by decide +kernel
theorem dX8_message_37 : decode cX8_message 37 = .ok (.invokevirtual 152, 3) := by decide +kernel
theorem dX8_message_40 : decode cX8_message 40 = .ok (.ireturn, 1) := by decide +kernel
theorem dX8_time_0 : decode cX8_time 0 = .ok (.aload_n 0, 1) := by decide +kernel
theorem dX8_time_1 : decode cX8_time 1 = .ok (.getfield 27, 3) := by decide +kernel
theorem dX8_time_4 : decode cX8_time 4 = .ok (.getfield 114, 3) := by decide +kernel
theorem dX8_time_7 : decode cX8_time 7 = .ok (.ireturn, 1) := by decide +kernel
theorem dX8_value_0 : decode cX8_value 0 = .ok (.aload_n 0, 1) := by decide +kernel
theorem dX8_value_1 : decode cX8_value 1 = .ok (.getfield 27, 3) := by decide +kernel
theorem dX8_value_4 : decode cX8_value 4 = .ok (.invokevirtual 56, 3) := by decide +kernel
theorem dX8_value_7 : decode cX8_value 7 = .ok (.ireturn, 1) := by decide +kernel
theorem dX8_known_0 : decode cX8_known 0 = .ok (.aload_n 0, 1) := by decide +kernel
theorem dX8_known_1 : decode cX8_known 1 = .ok (.iload_n 1, 1) := by decide +kernel
theorem dX8_known_2 : decode cX8_known 2 = .ok (.invokevirtual 157, 3) := by decide +kernel
theorem dX8_known_5 : decode cX8_known 5 = .ok (.invokestatic 66, 3) := by decide +kernel
theorem dX8_known_8 : decode cX8_known 8 = .ok (.aload_n 0, 1) := by decide +kernel
theorem dX8_known_9 : decode cX8_known 9 = .ok (.getfield 27, 3) := by decide +kernel
theorem dX8_known_12 : decode cX8_known 12 = .ok (.iload_n 1, 1) := by decide +kernel
theorem dX8_known_13 : decode cX8_known 13 = .ok (.invokevirtual 160, 3) := by decide +kernel
theorem dX8_known_16 : decode cX8_known 16 = .ok (.ireturn, 1) := by decide +kernel
theorem dX8_own_0 : decode cX8_own 0 = .ok (.aload_n 0, 1) := by decide +kernel
theorem dX8_own_1 : decode cX8_own 1 = .ok (.iload_n 1, 1) := by decide +kernel
theorem dX8_own_2 : decode cX8_own 2 = .ok (.iload_n 2, 1) := by decide +kernel
theorem dX8_own_3 : decode cX8_own 3 = .ok (.invokevirtual 95, 3) := by decide +kernel
theorem dX8_own_6 : decode cX8_own 6 = .ok (.invokestatic 66, 3) := by decide +kernel
theorem dX8_own_9 : decode cX8_own 9 = .ok (.aload_n 0, 1) := by decide +kernel
theorem dX8_own_10 : decode cX8_own 10 = .ok (.getfield 27, 3) := by decide +kernel
theorem dX8_own_13 : decode cX8_own 13 = .ok (.iload_n 1, 1) := by decide +kernel
theorem dX8_own_14 : decode cX8_own 14 = .ok (.iload_n 2, 1) := by decide +kernel
theorem dX8_own_15 : decode cX8_own 15 = .ok (.invokevirtual 85, 3) := by decide +kernel
theorem dX8_own_18 : decode cX8_own 18 = .ok (.ireturn, 1) := by decide +kernel
theorem dX8_available_0 : decode cX8_available 0 = .ok (.aload_n 0, 1) := by decide +kernel
theorem dX8_available_1 : decode cX8_available 1 = .ok (.iload_n 1, 1) := by decide +kernel
theorem dX8_available_2 : decode cX8_available 2 = .ok (.iload_n 2, 1) := by decide +kernel
theorem dX8_available_3 : decode cX8_available 3 = .ok (.invokevirtual 95, 3) := by decide +kernel
theorem dX8_available_6 : decode cX8_available 6 = .ok (.invokestatic 66, 3) := by decide +kernel
theorem dX8_available_9 : decode cX8_available 9 = .ok (.aload_n 0, 1) := by decide +kernel
theorem dX8_available_10 : decode cX8_available 10 = .ok (.getfield 27, 3) := by decide +kernel
theorem dX8_available_13 : decode cX8_available 13 = .ok (.iload_n 1, 1) := by decide +kernel
theorem dX8_available_14 : decode cX8_available 14 = .ok (.iload_n 2, 1) := by decide +kernel
theorem dX8_available_15 : decode cX8_available 15 = .ok (.invokevirtual 163, 3) := by decide +kernel
theorem dX8_available_18 : decode cX8_available 18 = .ok (.ireturn, 1) := by decide +kernel
theorem dX8_dormant_0 : decode cX8_dormant 0 = .ok (.iload_n 1, 1) := by decide +kernel
theorem dX8_dormant_1 : decode cX8_dormant 1 = .ok (.invokestatic 166, 3) := by decide +kernel
theorem dX8_dormant_4 : decode cX8_dormant 4 = .ok (.ifCond .ne 13, 3) := by decide +kernel
theorem dX8_dormant_7 : decode cX8_dormant 7 = .ok (.new 143, 3) := by decide +kernel
theorem dX8_dormant_10 : decode cX8_dormant 10 = .ok (.dup, 1) := by decide +kernel
theorem dX8_dormant_11 : decode cX8_dormant 11 = .ok (.ldc 170, 2) := by decide +kernel
theorem dX8_dormant_13 : decode cX8_dormant 13 = .ok (.invokespecial 147, 3) := by decide +kernel
theorem dX8_dormant_16 : decode cX8_dormant 16 = .ok (.athrow, 1) := by decide +kernel
theorem dX8_dormant_17 : decode cX8_dormant 17 = .ok (.aload_n 0, 1) := by decide +kernel
theorem dX8_dormant_18 : decode cX8_dormant 18 = .ok (.getfield 27, 3) := by decide +kernel
theorem dX8_dormant_21 : decode cX8_dormant 21 = .ok (.iload_n 1, 1) := by decide +kernel
theorem dX8_dormant_22 : decode cX8_dormant 22 = .ok (.invokevirtual 172, 3) := by decide +kernel
theorem dX8_dormant_25 : decode cX8_dormant 25 = .ok (.ireturn, 1) := by decide +kernel
theorem dX8_demand_0 : decode cX8_demand 0 = .ok (.aload_n 0, 1) := by decide +kernel
theorem dX8_demand_1 : decode cX8_demand 1 = .ok (.iload_n 1, 1) := by decide +kernel
theorem dX8_demand_2 : decode cX8_demand 2 = .ok (.iload_n 3, 1) := by decide +kernel
theorem dX8_demand_3 : decode cX8_demand 3 = .ok (.invokevirtual 95, 3) := by decide +kernel
theorem dX8_demand_6 : decode cX8_demand 6 = .ok (.invokestatic 66, 3) := by decide +kernel
theorem dX8_demand_9 : decode cX8_demand 9 = .ok (.aload_n 0, 1) := by decide +kernel
theorem dX8_demand_10 : decode cX8_demand 10 = .ok (.iload_n 2, 1) := by decide +kernel
theorem dX8_demand_11 : decode cX8_demand 11 = .ok (.invokevirtual 157, 3) := by decide +kernel
theorem dX8_demand_14 : decode cX8_demand 14 = .ok (.invokestatic 66, 3) := by decide +kernel
theorem dX8_demand_17 : decode cX8_demand 17 = .ok (.aload_n 0, 1) := by decide +kernel
theorem dX8_demand_18 : decode cX8_demand 18 = .ok (.getfield 27, 3) := by decide +kernel
theorem dX8_demand_21 : decode cX8_demand 21 = .ok (.getfield 175, 3) := by decide +kernel
theorem dX8_demand_24 : decode cX8_demand 24 = .ok (.iload_n 1, 1) := by decide +kernel
theorem dX8_demand_25 : decode cX8_demand 25 = .ok (.aaload, 1) := by decide +kernel
theorem dX8_demand_26 : decode cX8_demand 26 = .ok (.getfield 179, 3) := by decide +kernel
theorem dX8_demand_29 : decode cX8_demand 29 = .ok (.iload_n 2, 1) := by decide +kernel
theorem dX8_demand_30 : decode cX8_demand 30 = .ok (.aaload, 1) := by decide +kernel
theorem dX8_demand_31 : decode cX8_demand 31 = .ok (.getfield 185, 3) := by decide +kernel
theorem dX8_demand_34 : decode cX8_demand 34 = .ok (.iload_n 3, 1) := by decide +kernel
theorem dX8_demand_35 : decode cX8_demand 35 = .ok (.iaload, 1) := by decide +kernel
theorem dX8_demand_36 : decode cX8_demand 36 = .ok (.ireturn, 1) := by decide +kernel
theorem dX8_version_0 : decode cX8_version 0 = .ok (.aload_n 0, 1) := by decide +kernel
theorem dX8_version_1 : decode cX8_version 1 = .ok (.iload_n 1, 1) := by decide +kernel
theorem dX8_version_2 : decode cX8_version 2 = .ok (.invokevirtual 157, 3) := by decide +kernel
theorem dX8_version_5 : decode cX8_version 5 = .ok (.invokestatic 66, 3) := by decide +kernel
theorem dX8_version_8 : decode cX8_version 8 = .ok (.aload_n 0, 1) := by decide +kernel
theorem dX8_version_9 : decode cX8_version 9 = .ok (.iload_n 2, 1) := by decide +kernel
theorem dX8_version_10 : decode cX8_version 10 = .ok (.invokevirtual 157, 3) := by decide +kernel
theorem dX8_version_13 : decode cX8_version 13 = .ok (.invokestatic 66, 3) := by decide +kernel
theorem dX8_version_16 : decode cX8_version 16 = .ok (.aload_n 0, 1) := by decide +kernel
theorem dX8_version_17 : decode cX8_version 17 = .ok (.getfield 27, 3) := by decide +kernel
theorem dX8_version_20 : decode cX8_version 20 = .ok (.getfield 175, 3) := by decide +kernel
theorem dX8_version_23 : decode cX8_version 23 = .ok (.iload_n 1, 1) := by decide +kernel
theorem dX8_version_24 : decode cX8_version 24 = .ok (.aaload, 1) := by decide +kernel
theorem dX8_version_25 : decode cX8_version 25 = .ok (.getfield 179, 3) := by decide +kernel
theorem dX8_version_28 : decode cX8_version 28 = .ok (.iload_n 2, 1) := by decide +kernel
theorem dX8_version_29 : decode cX8_version 29 = .ok (.aaload, 1) := by decide +kernel
theorem dX8_version_30 : decode cX8_version 30 = .ok (.getfield 191, 3) := by decide +kernel
theorem dX8_version_33 : decode cX8_version 33 = .ok (.ireturn, 1) := by decide +kernel
theorem dX8_copyTime_0 : decode cX8_copyTime 0 = .ok (.aload_n 0, 1) := by decide +kernel
theorem dX8_copyTime_1 : decode cX8_copyTime 1 = .ok (.iload_n 1, 1) := by decide +kernel
theorem dX8_copyTime_2 : decode cX8_copyTime 2 = .ok (.invokevirtual 157, 3) := by decide +kernel
theorem dX8_copyTime_5 : decode cX8_copyTime 5 = .ok (.invokestatic 66, 3) := by decide +kernel
theorem dX8_copyTime_8 : decode cX8_copyTime 8 = .ok (.aload_n 0, 1) := by decide +kernel
theorem dX8_copyTime_9 : decode cX8_copyTime 9 = .ok (.iload_n 2, 1) := by decide +kernel
theorem dX8_copyTime_10 : decode cX8_copyTime 10 = .ok (.invokevirtual 157, 3) := by decide +kernel
theorem dX8_copyTime_13 : decode cX8_copyTime 13 = .ok (.invokestatic 66, 3) := by decide +kernel
theorem dX8_copyTime_16 : decode cX8_copyTime 16 = .ok (.aload_n 0, 1) := by decide +kernel
theorem dX8_copyTime_17 : decode cX8_copyTime 17 = .ok (.getfield 27, 3) := by decide +kernel
theorem dX8_copyTime_20 : decode cX8_copyTime 20 = .ok (.getfield 175, 3) := by decide +kernel
theorem dX8_copyTime_23 : decode cX8_copyTime 23 = .ok (.iload_n 1, 1) := by decide +kernel
theorem dX8_copyTime_24 : decode cX8_copyTime 24 = .ok (.aaload, 1) := by decide +kernel
theorem dX8_copyTime_25 : decode cX8_copyTime 25 = .ok (.getfield 179, 3) := by decide +kernel
theorem dX8_copyTime_28 : decode cX8_copyTime 28 = .ok (.iload_n 2, 1) := by decide +kernel
theorem dX8_copyTime_29 : decode cX8_copyTime 29 = .ok (.aaload, 1) := by decide +kernel
theorem dX8_copyTime_30 : decode cX8_copyTime 30 = .ok (.getfield 194, 3) := by decide +kernel
theorem dX8_copyTime_33 : decode cX8_copyTime 33 = .ok (.ireturn, 1) := by decide +kernel
theorem dX8_loans_0 : decode cX8_loans 0 = .ok (.aload_n 0, 1) := by decide +kernel
theorem dX8_loans_1 : decode cX8_loans 1 = .ok (.getfield 27, 3) := by decide +kernel
theorem dX8_loans_4 : decode cX8_loans 4 = .ok (.getfield 195, 3) := by decide +kernel
theorem dX8_loans_7 : decode cX8_loans 7 = .ok (.ireturn, 1) := by decide +kernel
theorem dX8_loan_0 : decode cX8_loan 0 = .ok (.iload_n 1, 1) := by decide +kernel
theorem dX8_loan_1 : decode cX8_loan 1 = .ok (.ifCond .lt 24, 3) := by decide +kernel
theorem dX8_loan_4 : decode cX8_loan 4 = .ok (.iload_n 1, 1) := by decide +kernel
theorem dX8_loan_5 : decode cX8_loan 5 = .ok (.aload_n 0, 1) := by decide +kernel
theorem dX8_loan_6 : decode cX8_loan 6 = .ok (.getfield 27, 3) := by decide +kernel
theorem dX8_loan_9 : decode cX8_loan 9 = .ok (.getfield 195, 3) := by decide +kernel
theorem dX8_loan_12 : decode cX8_loan 12 = .ok (.if_icmp .ge 13, 3) := by decide +kernel
theorem dX8_loan_15 : decode cX8_loan 15 = .ok (.iload_n 2, 1) := by decide +kernel
theorem dX8_loan_16 : decode cX8_loan 16 = .ok (.ifCond .lt 9, 3) := by decide +kernel
theorem dX8_loan_19 : decode cX8_loan 19 = .ok (.iload_n 2, 1) := by decide +kernel
theorem dX8_loan_20 : decode cX8_loan 20 = .ok (.bipush 8, 2) := by decide +kernel
theorem dX8_loan_22 : decode cX8_loan 22 = .ok (.if_icmp .lt 13, 3) := by decide +kernel
theorem dX8_loan_25 : decode cX8_loan 25 = .ok (.new 143, 3) := by decide +kernel
theorem dX8_loan_28 : decode cX8_loan 28 = .ok (.dup, 1) := by decide +kernel
theorem dX8_loan_29 : decode cX8_loan 29 = .ok (.ldc 198, 2) := by decide +kernel
theorem dX8_loan_31 : decode cX8_loan 31 = .ok (.invokespecial 147, 3) := by decide +kernel
theorem dX8_loan_34 : decode cX8_loan 34 = .ok (.athrow, 1) := by decide +kernel
theorem dX8_loan_35 : decode cX8_loan 35 = .ok (.aload_n 0, 1) := by decide +kernel
theorem dX8_loan_36 : decode cX8_loan 36 = .ok (.getfield 27, 3) := by decide +kernel
theorem dX8_loan_39 : decode cX8_loan 39 = .ok (.iload_n 1, 1) := by decide +kernel
theorem dX8_loan_40 : decode cX8_loan 40 = .ok (.iload_n 2, 1) := by decide +kernel
theorem dX8_loan_41 : decode cX8_loan 41 = .ok (.invokevirtual 200, 3) := by decide +kernel
theorem dX8_loan_44 : decode cX8_loan 44 = .ok (.ireturn, 1) := by decide +kernel
theorem dX8_helpers_0 : decode cX8_helpers 0 = .ok (.aload_n 0, 1) := by decide +kernel
theorem dX8_helpers_1 : decode cX8_helpers 1 = .ok (.iload_n 1, 1) := by decide +kernel
theorem dX8_helpers_2 : decode cX8_helpers 2 = .ok (.iload_n 2, 1) := by decide +kernel
theorem dX8_helpers_3 : decode cX8_helpers 3 = .ok (.invokevirtual 95, 3) := by decide +kernel
theorem dX8_helpers_6 : decode cX8_helpers 6 = .ok (.invokestatic 66, 3) := by decide +kernel
theorem dX8_helpers_9 : decode cX8_helpers 9 = .ok (.iload_n 3, 1) := by decide +kernel
theorem dX8_helpers_10 : decode cX8_helpers 10 = .ok (.ifCond .lt 10, 3) := by decide +kernel
theorem dX8_helpers_13 : decode cX8_helpers 13 = .ok (.iload_n 3, 1) := by decide +kernel
theorem dX8_helpers_14 : decode cX8_helpers 14 = .ok (.sipush 30000, 3) := by decide +kernel
theorem dX8_helpers_17 : decode cX8_helpers 17 = .ok (.if_icmp .le 13, 3) := by decide +kernel
theorem dX8_helpers_20 : decode cX8_helpers 20 = .ok (.new 49, 3) := by decide +kernel
theorem dX8_helpers_23 : decode cX8_helpers 23 = .ok (.dup, 1) := by decide +kernel
theorem dX8_helpers_24 : decode cX8_helpers 24 = .ok (.ldc 203, 2) := by decide +kernel
theorem dX8_helpers_26 : decode cX8_helpers 26 = .ok (.invokespecial 53, 3) := by decide +kernel
theorem dX8_helpers_29 : decode cX8_helpers 29 = .ok (.athrow, 1) := by decide +kernel
theorem dX8_helpers_30 : decode cX8_helpers 30 = .ok (.aload_n 0, 1) := by decide +kernel
theorem dX8_helpers_31 : decode cX8_helpers 31 = .ok (.getfield 27, 3) := by decide +kernel
theorem dX8_helpers_34 : decode cX8_helpers 34 = .ok (.iload_n 1, 1) := by decide +kernel
theorem dX8_helpers_35 : decode cX8_helpers 35 = .ok (.iload_n 2, 1) := by decide +kernel
theorem dX8_helpers_36 : decode cX8_helpers 36 = .ok (.iload_n 3, 1) := by decide +kernel
theorem dX8_helpers_37 : decode cX8_helpers 37 = .ok (.invokevirtual 205, 3) := by decide +kernel
theorem dX8_helpers_40 : decode cX8_helpers 40 = .ok (.ireturn, 1) := by decide +kernel
theorem dX8_type_0 : decode cX8_type 0 = .ok (.iload_n 1, 1) := by decide +kernel
theorem dX8_type_1 : decode cX8_type 1 = .ok (.bipush 32, 2) := by decide +kernel
theorem dX8_type_3 : decode cX8_type 3 = .ok (.if_icmp .lt 9, 3) := by decide +kernel
theorem dX8_type_6 : decode cX8_type 6 = .ok (.iload_n 1, 1) := by decide +kernel
theorem dX8_type_7 : decode cX8_type 7 = .ok (.bipush 126, 2) := by decide +kernel
theorem dX8_type_9 : decode cX8_type 9 = .ok (.if_icmp .le 13, 3) := by decide +kernel
theorem dX8_type_12 : decode cX8_type 12 = .ok (.new 49, 3) := by decide +kernel
theorem dX8_type_15 : decode cX8_type 15 = .ok (.dup, 1) := by decide +kernel
theorem dX8_type_16 : decode cX8_type 16 = .ok (.ldc 209, 2) := by decide +kernel
theorem dX8_type_18 : decode cX8_type 18 = .ok (.invokespecial 53, 3) := by decide +kernel
theorem dX8_type_21 : decode cX8_type 21 = .ok (.athrow, 1) := by decide +kernel
theorem dX8_type_22 : decode cX8_type 22 = .ok (.aload_n 0, 1) := by decide +kernel
theorem dX8_type_23 : decode cX8_type 23 = .ok (.getfield 41, 3) := by decide +kernel
theorem dX8_type_26 : decode cX8_type 26 = .ok (.getfield 211, 3) := by decide +kernel
theorem dX8_type_29 : decode cX8_type 29 = .ok (.bipush 60, 2) := by decide +kernel
theorem dX8_type_31 : decode cX8_type 31 = .ok (.if_icmp .lt 13, 3) := by decide +kernel
theorem dX8_type_34 : decode cX8_type 34 = .ok (.new 135, 3) := by decide +kernel
theorem dX8_type_37 : decode cX8_type 37 = .ok (.dup, 1) := by decide +kernel
theorem dX8_type_38 : decode cX8_type 38 = .ok (.ldc 214, 2) := by decide +kernel
theorem dX8_type_40 : decode cX8_type 40 = .ok (.invokespecial 139, 3) := by decide +kernel
theorem dX8_type_43 : decode cX8_type 43 = .ok (.athrow, 1) := by decide +kernel
theorem dX8_type_44 : decode cX8_type 44 = .ok (.aload_n 0, 1) := by decide +kernel
theorem dX8_type_45 : decode cX8_type 45 = .ok (.getfield 41, 3) := by decide +kernel
theorem dX8_type_48 : decode cX8_type 48 = .ok (.iload_n 1, 1) := by decide +kernel
theorem dX8_type_49 : decode cX8_type 49 = .ok (.invokevirtual 216, 3) := by decide +kernel
theorem dX8_type_52 : decode cX8_type 52 = .ok (.aload_n 0, 1) := by decide +kernel
theorem dX8_type_53 : decode cX8_type 53 = .ok (.getfield 41, 3) := by decide +kernel
theorem dX8_type_56 : decode cX8_type 56 = .ok (.getfield 211, 3) := by decide +kernel
theorem dX8_type_59 : decode cX8_type 59 = .ok (.ireturn, 1) := by decide +kernel
theorem dX8_clearText_0 : decode cX8_clearText 0 = .ok (.aload_n 0, 1) := by decide +kernel
theorem dX8_clearText_1 : decode cX8_clearText 1 = .ok (.getfield 41, 3) := by decide +kernel
theorem dX8_clearText_4 : decode cX8_clearText 4 = .ok (.getfield 211, 3) := by decide +kernel
theorem dX8_clearText_7 : decode cX8_clearText 7 = .ok (.istore_n 1, 1) := by decide +kernel
theorem dX8_clearText_8 : decode cX8_clearText 8 = .ok (.aload_n 0, 1) := by decide +kernel
theorem dX8_clearText_9 : decode cX8_clearText 9 = .ok (.getfield 41, 3) := by decide +kernel
theorem dX8_clearText_12 : decode cX8_clearText 12 = .ok (.iconst 0, 1) := by decide +kernel
theorem dX8_clearText_13 : decode cX8_clearText 13 = .ok (.putfield 211, 3) := by decide +kernel
theorem dX8_clearText_16 : decode cX8_clearText 16 = .ok (.iload_n 1, 1) := by decide +kernel
theorem dX8_clearText_17 : decode cX8_clearText 17 = .ok (.ireturn, 1) := by decide +kernel
theorem dX8_runScript_0 : decode cX8_runScript 0 = .ok (.aload_n 0, 1) := by decide +kernel
theorem dX8_runScript_1 : decode cX8_runScript 1 = .ok (.getfield 41, 3) := by decide +kernel
theorem dX8_runScript_4 : decode cX8_runScript 4 = .ok (.invokevirtual 219, 3) := by decide +kernel
theorem dX8_runScript_7 : decode cX8_runScript 7 = .ok (.istore_n 1, 1) := by decide +kernel
theorem dX8_runScript_8 : decode cX8_runScript 8 = .ok (.iload_n 1, 1) := by decide +kernel
theorem dX8_runScript_9 : decode cX8_runScript 9 = .ok (.iconst (-1), 1) := by decide +kernel
theorem dX8_runScript_10 : decode cX8_runScript 10 = .ok (.if_icmp .eq 7, 3) := by decide +kernel
theorem dX8_runScript_13 : decode cX8_runScript 13 = .ok (.iconst (-1), 1) := by decide +kernel
theorem dX8_runScript_14 : decode cX8_runScript 14 = .ok (.iload_n 1, 1) := by decide +kernel
theorem dX8_runScript_15 : decode cX8_runScript 15 = .ok (.isub, 1) := by decide +kernel
theorem dX8_runScript_16 : decode cX8_runScript 16 = .ok (.ireturn, 1) := by decide +kernel
theorem dX8_runScript_17 : decode cX8_runScript 17 = .ok (.aload_n 0, 1) := by decide +kernel
theorem dX8_runScript_18 : decode cX8_runScript 18 = .ok (.getfield 34, 3) := by decide +kernel
theorem dX8_runScript_21 : decode cX8_runScript 21 = .ok (.aload_n 0, 1) := by decide +kernel
theorem dX8_runScript_22 : decode cX8_runScript 22 = .ok (.getfield 27, 3) := by decide +kernel
theorem dX8_runScript_25 : decode cX8_runScript 25 = .ok (.invokevirtual 98, 3) := by decide +kernel
theorem dX8_runScript_28 : decode cX8_runScript 28 = .ok (.iconst 0, 1) := by decide +kernel
theorem dX8_runScript_29 : decode cX8_runScript 29 = .ok (.istore_n 2, 1) := by decide +kernel
theorem dX8_runScript_30 : decode cX8_runScript 30 = .ok (.iload_n 2, 1) := by decide +kernel
theorem dX8_runScript_31 : decode cX8_runScript 31 = .ok (.aload_n 0, 1) := by decide +kernel
theorem dX8_runScript_32 : decode cX8_runScript 32 = .ok (.getfield 41, 3) := by decide +kernel
theorem dX8_runScript_35 : decode cX8_runScript 35 = .ok (.getfield 222, 3) := by decide +kernel
theorem dX8_runScript_38 : decode cX8_runScript 38 = .ok (.if_icmp .ge 42, 3) := by decide +kernel
theorem dX8_runScript_41 : decode cX8_runScript 41 = .ok (.aload_n 0, 1) := by decide +kernel
theorem dX8_runScript_42 : decode cX8_runScript 42 = .ok (.aload_n 0, 1) := by decide +kernel
theorem dX8_runScript_43 : decode cX8_runScript 43 = .ok (.getfield 41, 3) := by decide +kernel
theorem dX8_runScript_46 : decode cX8_runScript 46 = .ok (.getfield 225, 3) := by decide +kernel
theorem dX8_runScript_49 : decode cX8_runScript 49 = .ok (.iload_n 2, 1) := by decide +kernel
theorem dX8_runScript_50 : decode cX8_runScript 50 = .ok (.aaload, 1) := by decide +kernel
theorem dX8_runScript_51 : decode cX8_runScript 51 = .ok (.invokevirtual 229, 3) := by decide +kernel
theorem dX8_runScript_54 : decode cX8_runScript 54 = .ok (.ifCond .ne 20, 3) := by decide +kernel
theorem dX8_runScript_57 : decode cX8_runScript 57 = .ok (.aload_n 0, 1) := by decide +kernel
theorem dX8_runScript_58 : decode cX8_runScript 58 = .ok (.getfield 34, 3) := by decide +kernel
theorem dX8_runScript_61 : decode cX8_runScript 61 = .ok (.aload_n 0, 1) := by decide +kernel
theorem dX8_runScript_62 : decode cX8_runScript 62 = .ok (.getfield 27, 3) := by decide +kernel
theorem dX8_runScript_65 : decode cX8_runScript 65 = .ok (.invokevirtual 233, 3) := by decide +kernel
theorem dX8_runScript_68 : decode cX8_runScript 68 = .ok (.sipush (-1000), 3) := by decide +kernel
theorem dX8_runScript_71 : decode cX8_runScript 71 = .ok (.iload_n 2, 1) := by decide +kernel
theorem dX8_runScript_72 : decode cX8_runScript 72 = .ok (.isub, 1) := by decide +kernel
theorem dX8_runScript_73 : decode cX8_runScript 73 = .ok (.ireturn, 1) := by decide +kernel
theorem dX8_runScript_74 : decode cX8_runScript 74 = .ok (.iinc 2 1, 3) := by decide +kernel
theorem dX8_runScript_77 : decode cX8_runScript 77 = .ok (.goto (-47), 3) := by decide +kernel
theorem dX8_runScript_80 : decode cX8_runScript 80 = .ok (.aload_n 0, 1) := by decide +kernel
theorem dX8_runScript_81 : decode cX8_runScript 81 = .ok (.getfield 34, 3) := by decide +kernel
theorem dX8_runScript_84 : decode cX8_runScript 84 = .ok (.invokevirtual 104, 3) := by decide +kernel
theorem dX8_runScript_87 : decode cX8_runScript 87 = .ok (.aload_n 0, 1) := by decide +kernel
theorem dX8_runScript_88 : decode cX8_runScript 88 = .ok (.getfield 41, 3) := by decide +kernel
theorem dX8_runScript_91 : decode cX8_runScript 91 = .ok (.iconst 0, 1) := by decide +kernel
theorem dX8_runScript_92 : decode cX8_runScript 92 = .ok (.putfield 211, 3) := by decide +kernel
theorem dX8_runScript_95 : decode cX8_runScript 95 = .ok (.aload_n 0, 1) := by decide +kernel
theorem dX8_runScript_96 : decode cX8_runScript 96 = .ok (.getfield 41, 3) := by decide +kernel
theorem dX8_runScript_99 : decode cX8_runScript 99 = .ok (.getfield 222, 3) := by decide +kernel
theorem dX8_runScript_102 : decode cX8_runScript 102 = .ok (.ireturn, 1) := by decide +kernel
theorem dX8_undo_0 : decode cX8_undo 0 = .ok (.aload_n 0, 1) := by decide +kernel
theorem dX8_undo_1 : decode cX8_undo 1 = .ok (.getfield 34, 3) := by decide +kernel
theorem dX8_undo_4 : decode cX8_undo 4 = .ok (.getfield 236, 3) := by decide +kernel
theorem dX8_undo_7 : decode cX8_undo 7 = .ok (.ifCond .ne 13, 3) := by decide +kernel
theorem dX8_undo_10 : decode cX8_undo 10 = .ok (.new 135, 3) := by decide +kernel
theorem dX8_undo_13 : decode cX8_undo 13 = .ok (.dup, 1) := by decide +kernel
theorem dX8_undo_14 : decode cX8_undo 14 = .ok (.ldc 237, 2) := by decide +kernel
theorem dX8_undo_16 : decode cX8_undo 16 = .ok (.invokespecial 139, 3) := by decide +kernel
theorem dX8_undo_19 : decode cX8_undo 19 = .ok (.athrow, 1) := by decide +kernel
theorem dX8_undo_20 : decode cX8_undo 20 = .ok (.aload_n 0, 1) := by decide +kernel
theorem dX8_undo_21 : decode cX8_undo 21 = .ok (.getfield 34, 3) := by decide +kernel
theorem dX8_undo_24 : decode cX8_undo 24 = .ok (.aload_n 0, 1) := by decide +kernel
theorem dX8_undo_25 : decode cX8_undo 25 = .ok (.getfield 27, 3) := by decide +kernel
theorem dX8_undo_28 : decode cX8_undo 28 = .ok (.invokevirtual 239, 3) := by decide +kernel
theorem dX8_undo_31 : decode cX8_undo 31 = .ok (.aload_n 0, 1) := by decide +kernel
theorem dX8_undo_32 : decode cX8_undo 32 = .ok (.getfield 34, 3) := by decide +kernel
theorem dX8_undo_35 : decode cX8_undo 35 = .ok (.getfield 236, 3) := by decide +kernel
theorem dX8_undo_38 : decode cX8_undo 38 = .ok (.ireturn, 1) := by decide +kernel
theorem dX8_fingerprint_0 : decode cX8_fingerprint 0 = .ok (.ldc2_w 242, 3) := by decide +kernel
theorem dX8_fingerprint_3 : decode cX8_fingerprint 3 = .ok (.lstore_n 1, 1) := by decide +kernel
theorem dX8_fingerprint_4 : decode cX8_fingerprint 4 = .ok (.lload_n 1, 1) := by decide +kernel
theorem dX8_fingerprint_5 : decode cX8_fingerprint 5 = .ok (.aload_n 0, 1) := by decide +kernel
theorem dX8_fingerprint_6 : decode cX8_fingerprint 6 = .ok (.getfield 27, 3) := by decide +kernel
theorem dX8_fingerprint_9 : decode cX8_fingerprint 9 = .ok (.getfield 114, 3) := by decide +kernel
theorem dX8_fingerprint_12 : decode cX8_fingerprint 12 = .ok (.invokestatic 244, 3) := by decide +kernel
theorem dX8_fingerprint_15 : decode cX8_fingerprint 15 = .ok (.lstore_n 1, 1) := by decide +kernel
theorem dX8_fingerprint_16 : decode cX8_fingerprint 16 = .ok (.lload_n 1, 1) := by decide +kernel
theorem dX8_fingerprint_17 : decode cX8_fingerprint 17 = .ok (.aload_n 0, 1) := by decide +kernel
theorem dX8_fingerprint_18 : decode cX8_fingerprint 18 = .ok (.getfield 27, 3) := by decide +kernel
theorem dX8_fingerprint_21 : decode cX8_fingerprint 21 = .ok (.invokevirtual 56, 3) := by decide +kernel
theorem dX8_fingerprint_24 : decode cX8_fingerprint 24 = .ok (.invokestatic 244, 3) := by decide +kernel
theorem dX8_fingerprint_27 : decode cX8_fingerprint 27 = .ok (.lstore_n 1, 1) := by decide +kernel
theorem dX8_fingerprint_28 : decode cX8_fingerprint 28 = .ok (.lload_n 1, 1) := by decide +kernel
theorem dX8_fingerprint_29 : decode cX8_fingerprint 29 = .ok (.aload_n 0, 1) := by decide +kernel
theorem dX8_fingerprint_30 : decode cX8_fingerprint 30 = .ok (.getfield 27, 3) := by decide +kernel
theorem dX8_fingerprint_33 : decode cX8_fingerprint 33 = .ok (.getfield 195, 3) := by decide +kernel
theorem dX8_fingerprint_36 : decode cX8_fingerprint 36 = .ok (.invokestatic 244, 3) := by decide +kernel
theorem dX8_fingerprint_39 : decode cX8_fingerprint 39 = .ok (.lstore_n 1, 1) := by decide +kernel
theorem dX8_fingerprint_40 : decode cX8_fingerprint 40 = .ok (.lload_n 1, 1) := by decide +kernel
theorem dX8_fingerprint_41 : decode cX8_fingerprint 41 = .ok (.aload_n 0, 1) := by decide +kernel
theorem dX8_fingerprint_42 : decode cX8_fingerprint 42 = .ok (.getfield 27, 3) := by decide +kernel
theorem dX8_fingerprint_45 : decode cX8_fingerprint 45 = .ok (.getfield 132, 3) := by decide +kernel
theorem dX8_fingerprint_48 : decode cX8_fingerprint 48 = .ok (.invokestatic 244, 3) := by decide +kernel
theorem dX8_fingerprint_51 : decode cX8_fingerprint 51 = .ok (.lstore_n 1, 1) := by decide +kernel
theorem dX8_fingerprint_52 : decode cX8_fingerprint 52 = .ok (.iconst 0, 1) := by decide +kernel
theorem dX8_fingerprint_53 : decode cX8_fingerprint 53 = .ok (.istore_n 3, 1) := by decide +kernel
theorem dX8_fingerprint_54 : decode cX8_fingerprint 54 = .ok (.iload_n 3, 1) := by decide +kernel
theorem dX8_fingerprint_55 : decode cX8_fingerprint 55 = .ok (.aload_n 0, 1) := by decide +kernel
theorem dX8_fingerprint_56 : decode cX8_fingerprint 56 = .ok (.getfield 18, 3) := by decide +kernel
theorem dX8_fingerprint_59 : decode cX8_fingerprint 59 = .ok (.if_icmp .ge 16, 3) := by decide +kernel
theorem dX8_fingerprint_62 : decode cX8_fingerprint 62 = .ok (.aload_n 0, 1) := by decide +kernel
theorem dX8_fingerprint_63 : decode cX8_fingerprint 63 = .ok (.lload_n 1, 1) := by decide +kernel
theorem dX8_fingerprint_64 : decode cX8_fingerprint 64 = .ok (.iload_n 3, 1) := by decide +kernel
theorem dX8_fingerprint_65 : decode cX8_fingerprint 65 = .ok (.invokevirtual 248, 3) := by decide +kernel
theorem dX8_fingerprint_68 : decode cX8_fingerprint 68 = .ok (.lstore_n 1, 1) := by decide +kernel
theorem dX8_fingerprint_69 : decode cX8_fingerprint 69 = .ok (.iinc 3 1, 3) := by decide +kernel
theorem dX8_fingerprint_72 : decode cX8_fingerprint 72 = .ok (.goto (-18), 3) := by decide +kernel
theorem dX8_fingerprint_75 : decode cX8_fingerprint 75 = .ok (.iconst 0, 1) := by decide +kernel
theorem dX8_fingerprint_76 : decode cX8_fingerprint 76 = .ok (.istore_n 3, 1) := by decide +kernel
theorem dX8_fingerprint_77 : decode cX8_fingerprint 77 = .ok (.iload_n 3, 1) := by decide +kernel
theorem dX8_fingerprint_78 : decode cX8_fingerprint 78 = .ok (.aload_n 0, 1) := by decide +kernel
theorem dX8_fingerprint_79 : decode cX8_fingerprint 79 = .ok (.getfield 27, 3) := by decide +kernel
theorem dX8_fingerprint_82 : decode cX8_fingerprint 82 = .ok (.getfield 195, 3) := by decide +kernel
theorem dX8_fingerprint_85 : decode cX8_fingerprint 85 = .ok (.if_icmp .ge 40, 3) := by decide +kernel
theorem dX8_fingerprint_88 : decode cX8_fingerprint 88 = .ok (.iconst 5, 1) := by decide +kernel
theorem dX8_fingerprint_89 : decode cX8_fingerprint 89 = .ok (.istore 4, 2) := by decide +kernel
theorem dX8_fingerprint_91 : decode cX8_fingerprint 91 = .ok (.iload 4, 2) := by decide +kernel
theorem dX8_fingerprint_93 : decode cX8_fingerprint 93 = .ok (.bipush 8, 2) := by decide +kernel
theorem dX8_fingerprint_95 : decode cX8_fingerprint 95 = .ok (.if_icmp .ge 24, 3) := by decide +kernel
theorem dX8_fingerprint_98 : decode cX8_fingerprint 98 = .ok (.lload_n 1, 1) := by decide +kernel
theorem dX8_fingerprint_99 : decode cX8_fingerprint 99 = .ok (.aload_n 0, 1) := by decide +kernel
theorem dX8_fingerprint_100 : decode cX8_fingerprint 100 = .ok (.getfield 27, 3) := by decide +kernel
theorem dX8_fingerprint_103 : decode cX8_fingerprint 103 = .ok (.iload_n 3, 1) := by decide +kernel
theorem dX8_fingerprint_104 : decode cX8_fingerprint 104 = .ok (.iload 4, 2) := by decide +kernel
theorem dX8_fingerprint_106 : decode cX8_fingerprint 106 = .ok (.invokevirtual 200, 3) := by decide +kernel
theorem dX8_fingerprint_109 : decode cX8_fingerprint 109 = .ok (.invokestatic 244, 3) := by decide +kernel
theorem dX8_fingerprint_112 : decode cX8_fingerprint 112 = .ok (.lstore_n 1, 1) := by decide +kernel
theorem dX8_fingerprint_113 : decode cX8_fingerprint 113 = .ok (.iinc 4 1, 3) := by decide +kernel
theorem dX8_fingerprint_116 : decode cX8_fingerprint 116 = .ok (.goto (-25), 3) := by decide +kernel
theorem dX8_fingerprint_119 : decode cX8_fingerprint 119 = .ok (.iinc 3 1, 3) := by decide +kernel
theorem dX8_fingerprint_122 : decode cX8_fingerprint 122 = .ok (.goto (-45), 3) := by decide +kernel
theorem dX8_fingerprint_125 : decode cX8_fingerprint 125 = .ok (.lload_n 1, 1) := by decide +kernel
theorem dX8_fingerprint_126 : decode cX8_fingerprint 126 = .ok (.lreturn, 1) := by decide +kernel
theorem dX8_withSite_0 : decode cX8_withSite 0 = .ok (.lload_n 1, 1) := by decide +kernel
theorem dX8_withSite_1 : decode cX8_withSite 1 = .ok (.lstore 4, 2) := by decide +kernel
theorem dX8_withSite_3 : decode cX8_withSite 3 = .ok (.iconst 0, 1) := by decide +kernel
theorem dX8_withSite_4 : decode cX8_withSite 4 = .ok (.istore 6, 2) := by decide +kernel
theorem dX8_withSite_6 : decode cX8_withSite 6 = .ok (.iload 6, 2) := by decide +kernel
theorem dX8_withSite_8 : decode cX8_withSite 8 = .ok (.iconst 2, 1) := by decide +kernel
theorem dX8_withSite_9 : decode cX8_withSite 9 = .ok (.if_icmp .ge 43, 3) := by decide +kernel
theorem dX8_withSite_12 : decode cX8_withSite 12 = .ok (.lload 4, 2) := by decide +kernel
theorem dX8_withSite_14 : decode cX8_withSite 14 = .ok (.aload_n 0, 1) := by decide +kernel
theorem dX8_withSite_15 : decode cX8_withSite 15 = .ok (.getfield 27, 3) := by decide +kernel
theorem dX8_withSite_18 : decode cX8_withSite 18 = .ok (.iload_n 3, 1) := by decide +kernel
theorem dX8_withSite_19 : decode cX8_withSite 19 = .ok (.iload 6, 2) := by decide +kernel
theorem dX8_withSite_21 : decode cX8_withSite 21 = .ok (.invokevirtual 85, 3) := by decide +kernel
theorem dX8_withSite_24 : decode cX8_withSite 24 = .ok (.invokestatic 244, 3) := by decide +kernel
theorem dX8_withSite_27 : decode cX8_withSite 27 = .ok (.lstore 4, 2) := by decide +kernel
theorem dX8_withSite_29 : decode cX8_withSite 29 = .ok (.lload 4, 2) := by decide +kernel
theorem dX8_withSite_31 : decode cX8_withSite 31 = .ok (.aload_n 0, 1) := by decide +kernel
theorem dX8_withSite_32 : decode cX8_withSite 32 = .ok (.getfield 27, 3) := by decide +kernel
theorem dX8_withSite_35 : decode cX8_withSite 35 = .ok (.iload_n 3, 1) := by decide +kernel
theorem dX8_withSite_36 : decode cX8_withSite 36 = .ok (.iload 6, 2) := by decide +kernel
theorem dX8_withSite_38 : decode cX8_withSite 38 = .ok (.invokevirtual 163, 3) := by decide +kernel
theorem dX8_withSite_41 : decode cX8_withSite 41 = .ok (.invokestatic 244, 3) := by decide +kernel
theorem dX8_withSite_44 : decode cX8_withSite 44 = .ok (.lstore 4, 2) := by decide +kernel
theorem dX8_withSite_46 : decode cX8_withSite 46 = .ok (.iinc 6 1, 3) := by decide +kernel
theorem dX8_withSite_49 : decode cX8_withSite 49 = .ok (.goto (-43), 3) := by decide +kernel
theorem dX8_withSite_52 : decode cX8_withSite 52 = .ok (.lload 4, 2) := by decide +kernel
theorem dX8_withSite_54 : decode cX8_withSite 54 = .ok (.aload_n 0, 1) := by decide +kernel
theorem dX8_withSite_55 : decode cX8_withSite 55 = .ok (.getfield 27, 3) := by decide +kernel
theorem dX8_withSite_58 : decode cX8_withSite 58 = .ok (.iload_n 3, 1) := by decide +kernel
theorem dX8_withSite_59 : decode cX8_withSite 59 = .ok (.invokevirtual 160, 3) := by decide +kernel
theorem dX8_withSite_62 : decode cX8_withSite 62 = .ok (.invokestatic 244, 3) := by decide +kernel
theorem dX8_withSite_65 : decode cX8_withSite 65 = .ok (.lstore 4, 2) := by decide +kernel
theorem dX8_withSite_67 : decode cX8_withSite 67 = .ok (.iconst 0, 1) := by decide +kernel
theorem dX8_withSite_68 : decode cX8_withSite 68 = .ok (.istore 6, 2) := by decide +kernel
theorem dX8_withSite_70 : decode cX8_withSite 70 = .ok (.iload 6, 2) := by decide +kernel
theorem dX8_withSite_72 : decode cX8_withSite 72 = .ok (.aload_n 0, 1) := by decide +kernel
theorem dX8_withSite_73 : decode cX8_withSite 73 = .ok (.getfield 18, 3) := by decide +kernel
theorem dX8_withSite_76 : decode cX8_withSite 76 = .ok (.if_icmp .ge 59, 3) := by decide +kernel
theorem dX8_withSite_79 : decode cX8_withSite 79 = .ok (.lload 4, 2) := by decide +kernel
theorem dX8_withSite_81 : decode cX8_withSite 81 = .ok (.aload_n 0, 1) := by decide +kernel
theorem dX8_withSite_82 : decode cX8_withSite 82 = .ok (.getfield 27, 3) := by decide +kernel
theorem dX8_withSite_85 : decode cX8_withSite 85 = .ok (.getfield 175, 3) := by decide +kernel
theorem dX8_withSite_88 : decode cX8_withSite 88 = .ok (.iload_n 3, 1) := by decide +kernel
theorem dX8_withSite_89 : decode cX8_withSite 89 = .ok (.aaload, 1) := by decide +kernel
theorem dX8_withSite_90 : decode cX8_withSite 90 = .ok (.getfield 179, 3) := by decide +kernel
theorem dX8_withSite_93 : decode cX8_withSite 93 = .ok (.iload 6, 2) := by decide +kernel
theorem dX8_withSite_95 : decode cX8_withSite 95 = .ok (.aaload, 1) := by decide +kernel
theorem dX8_withSite_96 : decode cX8_withSite 96 = .ok (.getfield 191, 3) := by decide +kernel
theorem dX8_withSite_99 : decode cX8_withSite 99 = .ok (.invokestatic 244, 3) := by decide +kernel
theorem dX8_withSite_102 : decode cX8_withSite 102 = .ok (.lstore 4, 2) := by decide +kernel
theorem dX8_withSite_104 : decode cX8_withSite 104 = .ok (.lload 4, 2) := by decide +kernel
theorem dX8_withSite_106 : decode cX8_withSite 106 = .ok (.aload_n 0, 1) := by decide +kernel
theorem dX8_withSite_107 : decode cX8_withSite 107 = .ok (.getfield 27, 3) := by decide +kernel
theorem dX8_withSite_110 : decode cX8_withSite 110 = .ok (.getfield 175, 3) := by decide +kernel
theorem dX8_withSite_113 : decode cX8_withSite 113 = .ok (.iload_n 3, 1) := by decide +kernel
theorem dX8_withSite_114 : decode cX8_withSite 114 = .ok (.aaload, 1) := by decide +kernel
theorem dX8_withSite_115 : decode cX8_withSite 115 = .ok (.getfield 179, 3) := by decide +kernel
theorem dX8_withSite_118 : decode cX8_withSite 118 = .ok (.iload 6, 2) := by decide +kernel
theorem dX8_withSite_120 : decode cX8_withSite 120 = .ok (.aaload, 1) := by decide +kernel
theorem dX8_withSite_121 : decode cX8_withSite 121 = .ok (.getfield 194, 3) := by decide +kernel
theorem dX8_withSite_124 : decode cX8_withSite 124 = .ok (.invokestatic 244, 3) := by decide +kernel
theorem dX8_withSite_127 : decode cX8_withSite 127 = .ok (.lstore 4, 2) := by decide +kernel
theorem dX8_withSite_129 : decode cX8_withSite 129 = .ok (.iinc 6 1, 3) := by decide +kernel
theorem dX8_withSite_132 : decode cX8_withSite 132 = .ok (.goto (-62), 3) := by decide +kernel
theorem dX8_withSite_135 : decode cX8_withSite 135 = .ok (.lload 4, 2) := by decide +kernel
theorem dX8_withSite_137 : decode cX8_withSite 137 = .ok (.lreturn, 1) := by decide +kernel
theorem dX8_mixed_0 : decode cX8_mixed 0 = .ok (.ldc2_w 251, 3) := by decide +kernel
theorem dX8_mixed_3 : decode cX8_mixed 3 = .ok (.lload_n 0, 1) := by decide +kernel
theorem dX8_mixed_4 : decode cX8_mixed 4 = .ok (.lmul, 1) := by decide +kernel
theorem dX8_mixed_5 : decode cX8_mixed 5 = .ok (.iload_n 2, 1) := by decide +kernel
theorem dX8_mixed_6 : decode cX8_mixed 6 = .ok (.i2l, 1) := by decide +kernel
theorem dX8_mixed_7 : decode cX8_mixed 7 = .ok (.ladd, 1) := by decide +kernel
theorem dX8_mixed_8 : decode cX8_mixed 8 = .ok (.lreturn, 1) := by decide +kernel
theorem dX8_runCommand_0 : decode cX8_runCommand 0 = .ok (.aload_n 1, 1) := by decide +kernel
theorem dX8_runCommand_1 : decode cX8_runCommand 1 = .ok (.getfield 253, 3) := by decide +kernel
theorem dX8_runCommand_4 : decode cX8_runCommand 4 = .ok (.lookupswitch 166 #[(43, 60), (45, 100), (100, 147), (109, 154), (116, 160), (117, 140)], 60) := by decide +kernel
theorem dX8_runCommand_64 : decode cX8_runCommand 64 = .ok (.aload_n 0, 1) := by decide +kernel
theorem dX8_runCommand_65 : decode cX8_runCommand 65 = .ok (.aload_n 1, 1) := by decide +kernel
theorem dX8_runCommand_66 : decode cX8_runCommand 66 = .ok (.getfield 258, 3) := by decide +kernel
theorem dX8_runCommand_69 : decode cX8_runCommand 69 = .ok (.aload_n 1, 1) := by decide +kernel
theorem dX8_runCommand_70 : decode cX8_runCommand 70 = .ok (.getfield 261, 3) := by decide +kernel
theorem dX8_runCommand_73 : decode cX8_runCommand 73 = .ok (.invokevirtual 63, 3) := by decide +kernel
theorem dX8_runCommand_76 : decode cX8_runCommand 76 = .ok (.ifCond .ne 26, 3) := by decide +kernel
theorem dX8_runCommand_79 : decode cX8_runCommand 79 = .ok (.aload_n 0, 1) := by decide +kernel
theorem dX8_runCommand_80 : decode cX8_runCommand 80 = .ok (.getfield 27, 3) := by decide +kernel
theorem dX8_runCommand_83 : decode cX8_runCommand 83 = .ok (.aload_n 1, 1) := by decide +kernel
theorem dX8_runCommand_84 : decode cX8_runCommand 84 = .ok (.getfield 258, 3) := by decide +kernel
theorem dX8_runCommand_87 : decode cX8_runCommand 87 = .ok (.iconst 0, 1) := by decide +kernel
theorem dX8_runCommand_88 : decode cX8_runCommand 88 = .ok (.aload_n 1, 1) := by decide +kernel
theorem dX8_runCommand_89 : decode cX8_runCommand 89 = .ok (.getfield 261, 3) := by decide +kernel
theorem dX8_runCommand_92 : decode cX8_runCommand 92 = .ok (.invokevirtual 73, 3) := by decide +kernel
theorem dX8_runCommand_95 : decode cX8_runCommand 95 = .ok (.ifCond .eq 7, 3) := by decide +kernel
theorem dX8_runCommand_98 : decode cX8_runCommand 98 = .ok (.iconst 1, 1) := by decide +kernel
theorem dX8_runCommand_99 : decode cX8_runCommand 99 = .ok (.goto 4, 3) := by decide +kernel
theorem dX8_runCommand_102 : decode cX8_runCommand 102 = .ok (.iconst 0, 1) := by decide +kernel
theorem dX8_runCommand_103 : decode cX8_runCommand 103 = .ok (.ireturn, 1) := by decide +kernel
theorem dX8_runCommand_104 : decode cX8_runCommand 104 = .ok (.aload_n 0, 1) := by decide +kernel
theorem dX8_runCommand_105 : decode cX8_runCommand 105 = .ok (.aload_n 1, 1) := by decide +kernel
theorem dX8_runCommand_106 : decode cX8_runCommand 106 = .ok (.getfield 258, 3) := by decide +kernel
theorem dX8_runCommand_109 : decode cX8_runCommand 109 = .ok (.aload_n 1, 1) := by decide +kernel
theorem dX8_runCommand_110 : decode cX8_runCommand 110 = .ok (.getfield 261, 3) := by decide +kernel
theorem dX8_runCommand_113 : decode cX8_runCommand 113 = .ok (.invokevirtual 63, 3) := by decide +kernel
theorem dX8_runCommand_116 : decode cX8_runCommand 116 = .ok (.ifCond .ne 26, 3) := by decide +kernel
theorem dX8_runCommand_119 : decode cX8_runCommand 119 = .ok (.aload_n 0, 1) := by decide +kernel
theorem dX8_runCommand_120 : decode cX8_runCommand 120 = .ok (.getfield 27, 3) := by decide +kernel
theorem dX8_runCommand_123 : decode cX8_runCommand 123 = .ok (.aload_n 1, 1) := by decide +kernel
theorem dX8_runCommand_124 : decode cX8_runCommand 124 = .ok (.getfield 258, 3) := by decide +kernel
theorem dX8_runCommand_127 : decode cX8_runCommand 127 = .ok (.iconst 1, 1) := by decide +kernel
theorem dX8_runCommand_128 : decode cX8_runCommand 128 = .ok (.aload_n 1, 1) := by decide +kernel
theorem dX8_runCommand_129 : decode cX8_runCommand 129 = .ok (.getfield 261, 3) := by decide +kernel
theorem dX8_runCommand_132 : decode cX8_runCommand 132 = .ok (.invokevirtual 73, 3) := by decide +kernel
theorem dX8_runCommand_135 : decode cX8_runCommand 135 = .ok (.ifCond .eq 7, 3) := by decide +kernel
theorem dX8_runCommand_138 : decode cX8_runCommand 138 = .ok (.iconst 1, 1) := by decide +kernel
theorem dX8_runCommand_139 : decode cX8_runCommand 139 = .ok (.goto 4, 3) := by decide +kernel
theorem dX8_runCommand_142 : decode cX8_runCommand 142 = .ok (.iconst 0, 1) := by decide +kernel
theorem dX8_runCommand_143 : decode cX8_runCommand 143 = .ok (.ireturn, 1) := by decide +kernel
theorem dX8_runCommand_144 : decode cX8_runCommand 144 = .ok (.aload_n 0, 1) := by decide +kernel
theorem dX8_runCommand_145 : decode cX8_runCommand 145 = .ok (.iconst 0, 1) := by decide +kernel
theorem dX8_runCommand_146 : decode cX8_runCommand 146 = .ok (.aload_n 1, 1) := by decide +kernel
theorem dX8_runCommand_147 : decode cX8_runCommand 147 = .ok (.invokevirtual 264, 3) := by decide +kernel
theorem dX8_runCommand_150 : decode cX8_runCommand 150 = .ok (.ireturn, 1) := by decide +kernel
theorem dX8_runCommand_151 : decode cX8_runCommand 151 = .ok (.aload_n 0, 1) := by decide +kernel
theorem dX8_runCommand_152 : decode cX8_runCommand 152 = .ok (.iconst 1, 1) := by decide +kernel
theorem dX8_runCommand_153 : decode cX8_runCommand 153 = .ok (.aload_n 1, 1) := by decide +kernel
theorem dX8_runCommand_154 : decode cX8_runCommand 154 = .ok (.invokevirtual 264, 3) := by decide +kernel
theorem dX8_runCommand_157 : decode cX8_runCommand 157 = .ok (.ireturn, 1) := by decide +kernel
theorem dX8_runCommand_158 : decode cX8_runCommand 158 = .ok (.aload_n 0, 1) := by decide +kernel
theorem dX8_runCommand_159 : decode cX8_runCommand 159 = .ok (.aload_n 1, 1) := by decide +kernel
theorem dX8_runCommand_160 : decode cX8_runCommand 160 = .ok (.invokevirtual 268, 3) := by decide +kernel
theorem dX8_runCommand_163 : decode cX8_runCommand 163 = .ok (.ireturn, 1) := by decide +kernel
theorem dX8_runCommand_164 : decode cX8_runCommand 164 = .ok (.aload_n 0, 1) := by decide +kernel
theorem dX8_runCommand_165 : decode cX8_runCommand 165 = .ok (.aload_n 1, 1) := by decide +kernel
theorem dX8_runCommand_166 : decode cX8_runCommand 166 = .ok (.invokevirtual 271, 3) := by decide +kernel
theorem dX8_runCommand_169 : decode cX8_runCommand 169 = .ok (.ireturn, 1) := by decide +kernel
theorem dX8_runCommand_170 : decode cX8_runCommand 170 = .ok (.iconst 0, 1) := by decide +kernel
theorem dX8_runCommand_171 : decode cX8_runCommand 171 = .ok (.ireturn, 1) := by decide +kernel
theorem dX8_runTransfer_0 : decode cX8_runTransfer 0 = .ok (.aload_n 0, 1) := by decide +kernel
theorem dX8_runTransfer_1 : decode cX8_runTransfer 1 = .ok (.iload_n 1, 1) := by decide +kernel
theorem dX8_runTransfer_2 : decode cX8_runTransfer 2 = .ok (.aload_n 2, 1) := by decide +kernel
theorem dX8_runTransfer_3 : decode cX8_runTransfer 3 = .ok (.getfield 258, 3) := by decide +kernel
theorem dX8_runTransfer_6 : decode cX8_runTransfer 6 = .ok (.aload_n 2, 1) := by decide +kernel
theorem dX8_runTransfer_7 : decode cX8_runTransfer 7 = .ok (.getfield 274, 3) := by decide +kernel
theorem dX8_runTransfer_10 : decode cX8_runTransfer 10 = .ok (.aload_n 2, 1) := by decide +kernel
theorem dX8_runTransfer_11 : decode cX8_runTransfer 11 = .ok (.getfield 261, 3) := by decide +kernel
theorem dX8_runTransfer_14 : decode cX8_runTransfer 14 = .ok (.invokevirtual 77, 3) := by decide +kernel
theorem dX8_runTransfer_17 : decode cX8_runTransfer 17 = .ok (.ifCond .eq 5, 3) := by decide +kernel
theorem dX8_runTransfer_20 : decode cX8_runTransfer 20 = .ok (.iconst 0, 1) := by decide +kernel
theorem dX8_runTransfer_21 : decode cX8_runTransfer 21 = .ok (.ireturn, 1) := by decide +kernel
theorem dX8_runTransfer_22 : decode cX8_runTransfer 22 = .ok (.aload_n 0, 1) := by decide +kernel
theorem dX8_runTransfer_23 : decode cX8_runTransfer 23 = .ok (.getfield 27, 3) := by decide +kernel
theorem dX8_runTransfer_26 : decode cX8_runTransfer 26 = .ok (.iload_n 1, 1) := by decide +kernel
theorem dX8_runTransfer_27 : decode cX8_runTransfer 27 = .ok (.aload_n 2, 1) := by decide +kernel
theorem dX8_runTransfer_28 : decode cX8_runTransfer 28 = .ok (.getfield 258, 3) := by decide +kernel
theorem dX8_runTransfer_31 : decode cX8_runTransfer 31 = .ok (.aload_n 2, 1) := by decide +kernel
theorem dX8_runTransfer_32 : decode cX8_runTransfer 32 = .ok (.getfield 274, 3) := by decide +kernel
theorem dX8_runTransfer_35 : decode cX8_runTransfer 35 = .ok (.aload_n 2, 1) := by decide +kernel
theorem dX8_runTransfer_36 : decode cX8_runTransfer 36 = .ok (.getfield 261, 3) := by decide +kernel
theorem dX8_runTransfer_39 : decode cX8_runTransfer 39 = .ok (.invokevirtual 81, 3) := by decide +kernel
theorem dX8_runTransfer_42 : decode cX8_runTransfer 42 = .ok (.iconst 1, 1) := by decide +kernel
theorem dX8_runTransfer_43 : decode cX8_runTransfer 43 = .ok (.ireturn, 1) := by decide +kernel
theorem dX8_runMessage_0 : decode cX8_runMessage 0 = .ok (.aload_n 0, 1) := by decide +kernel
theorem dX8_runMessage_1 : decode cX8_runMessage 1 = .ok (.aload_n 1, 1) := by decide +kernel
theorem dX8_runMessage_2 : decode cX8_runMessage 2 = .ok (.getfield 258, 3) := by decide +kernel
theorem dX8_runMessage_5 : decode cX8_runMessage 5 = .ok (.aload_n 1, 1) := by decide +kernel
theorem dX8_runMessage_6 : decode cX8_runMessage 6 = .ok (.getfield 274, 3) := by decide +kernel
theorem dX8_runMessage_9 : decode cX8_runMessage 9 = .ok (.invokevirtual 117, 3) := by decide +kernel
theorem dX8_runMessage_12 : decode cX8_runMessage 12 = .ok (.ifCond .eq 5, 3) := by decide +kernel
theorem dX8_runMessage_15 : decode cX8_runMessage 15 = .ok (.iconst 0, 1) := by decide +kernel
theorem dX8_runMessage_16 : decode cX8_runMessage 16 = .ok (.ireturn, 1) := by decide +kernel
theorem dX8_runMessage_17 : decode cX8_runMessage 17 = .ok (.aload_n 0, 1) := by decide +kernel
theorem dX8_runMessage_18 : decode cX8_runMessage 18 = .ok (.getfield 27, 3) := by decide +kernel
theorem dX8_runMessage_21 : decode cX8_runMessage 21 = .ok (.aload_n 0, 1) := by decide +kernel
theorem dX8_runMessage_22 : decode cX8_runMessage 22 = .ok (.getfield 27, 3) := by decide +kernel
theorem dX8_runMessage_25 : decode cX8_runMessage 25 = .ok (.aload_n 1, 1) := by decide +kernel
theorem dX8_runMessage_26 : decode cX8_runMessage 26 = .ok (.getfield 258, 3) := by decide +kernel
theorem dX8_runMessage_29 : decode cX8_runMessage 29 = .ok (.aload_n 1, 1) := by decide +kernel
theorem dX8_runMessage_30 : decode cX8_runMessage 30 = .ok (.getfield 274, 3) := by decide +kernel
theorem dX8_runMessage_33 : decode cX8_runMessage 33 = .ok (.invokevirtual 120, 3) := by decide +kernel
theorem dX8_runMessage_36 : decode cX8_runMessage 36 = .ok (.invokevirtual 126, 3) := by decide +kernel
theorem dX8_runMessage_39 : decode cX8_runMessage 39 = .ok (.pop, 1) := by decide +kernel
theorem dX8_runMessage_40 : decode cX8_runMessage 40 = .ok (.iconst 1, 1) := by decide +kernel
theorem dX8_runMessage_41 : decode cX8_runMessage 41 = .ok (.ireturn, 1) := by decide +kernel
theorem dX8_runPass_0 : decode cX8_runPass 0 = .ok (.aload_n 0, 1) := by decide +kernel
theorem dX8_runPass_1 : decode cX8_runPass 1 = .ok (.aload_n 1, 1) := by decide +kernel
theorem dX8_runPass_2 : decode cX8_runPass 2 = .ok (.getfield 261, 3) := by decide +kernel
theorem dX8_runPass_5 : decode cX8_runPass 5 = .ok (.invokevirtual 107, 3) := by decide +kernel
theorem dX8_runPass_8 : decode cX8_runPass 8 = .ok (.ifCond .eq 5, 3) := by decide +kernel
theorem dX8_runPass_11 : decode cX8_runPass 11 = .ok (.iconst 0, 1) := by decide +kernel
theorem dX8_runPass_12 : decode cX8_runPass 12 = .ok (.ireturn, 1) := by decide +kernel
theorem dX8_runPass_13 : decode cX8_runPass 13 = .ok (.aload_n 0, 1) := by decide +kernel
theorem dX8_runPass_14 : decode cX8_runPass 14 = .ok (.getfield 27, 3) := by decide +kernel
theorem dX8_runPass_17 : decode cX8_runPass 17 = .ok (.aload_n 1, 1) := by decide +kernel
theorem dX8_runPass_18 : decode cX8_runPass 18 = .ok (.getfield 261, 3) := by decide +kernel
theorem dX8_runPass_21 : decode cX8_runPass 21 = .ok (.invokevirtual 111, 3) := by decide +kernel
theorem dX8_runPass_24 : decode cX8_runPass 24 = .ok (.iconst 1, 1) := by decide +kernel
theorem dX8_runPass_25 : decode cX8_runPass 25 = .ok (.ireturn, 1) := by decide +kernel
theorem dX8_throwFor_0 : decode cX8_throwFor 0 = .ok (.iload_n 0, 1) := by decide +kernel
theorem dX8_throwFor_1 : decode cX8_throwFor 1 = .ok (.iconst 1, 1) := by decide +kernel
theorem dX8_throwFor_2 : decode cX8_throwFor 2 = .ok (.if_icmp .ne 14, 3) := by decide +kernel
theorem dX8_throwFor_5 : decode cX8_throwFor 5 = .ok (.new 143, 3) := by decide +kernel
theorem dX8_throwFor_8 : decode cX8_throwFor 8 = .ok (.dup, 1) := by decide +kernel
theorem dX8_throwFor_9 : decode cX8_throwFor 9 = .ok (.ldc_w 277, 3) := by decide +kernel
theorem dX8_throwFor_12 : decode cX8_throwFor 12 = .ok (.invokespecial 147, 3) := by decide +kernel
theorem dX8_throwFor_15 : decode cX8_throwFor 15 = .ok (.athrow, 1) := by decide +kernel
theorem dX8_throwFor_16 : decode cX8_throwFor 16 = .ok (.iload_n 0, 1) := by decide +kernel
theorem dX8_throwFor_17 : decode cX8_throwFor 17 = .ok (.iconst 2, 1) := by decide +kernel
theorem dX8_throwFor_18 : decode cX8_throwFor 18 = .ok (.if_icmp .ne 14, 3) := by decide +kernel
theorem dX8_throwFor_21 : decode cX8_throwFor 21 = .ok (.new 49, 3) := by decide +kernel
theorem dX8_throwFor_24 : decode cX8_throwFor 24 = .ok (.dup, 1) := by decide +kernel
theorem dX8_throwFor_25 : decode cX8_throwFor 25 = .ok (.ldc_w 279, 3) := by decide +kernel
theorem dX8_throwFor_28 : decode cX8_throwFor 28 = .ok (.invokespecial 53, 3) := by decide +kernel
theorem dX8_throwFor_31 : decode cX8_throwFor 31 = .ok (.athrow, 1) := by decide +kernel
theorem dX8_throwFor_32 : decode cX8_throwFor 32 = .ok (.iload_n 0, 1) := by decide +kernel
theorem dX8_throwFor_33 : decode cX8_throwFor 33 = .ok (.iconst 3, 1) := by decide +kernel
theorem dX8_throwFor_34 : decode cX8_throwFor 34 = .ok (.if_icmp .ne 14, 3) := by decide +kernel
theorem dX8_throwFor_37 : decode cX8_throwFor 37 = .ok (.new 135, 3) := by decide +kernel
theorem dX8_throwFor_40 : decode cX8_throwFor 40 = .ok (.dup, 1) := by decide +kernel
theorem dX8_throwFor_41 : decode cX8_throwFor 41 = .ok (.ldc_w 281, 3) := by decide +kernel
theorem dX8_throwFor_44 : decode cX8_throwFor 44 = .ok (.invokespecial 139, 3) := by decide +kernel
theorem dX8_throwFor_47 : decode cX8_throwFor 47 = .ok (.athrow, 1) := by decide +kernel
theorem dX8_throwFor_48 : decode cX8_throwFor 48 = .ok (.return_, 1) := by decide +kernel
theorem dX8_changeFault_0 : decode cX8_changeFault 0 = .ok (.aload_n 0, 1) := by decide +kernel
theorem dX8_changeFault_1 : decode cX8_changeFault 1 = .ok (.iload_n 1, 1) := by decide +kernel
theorem dX8_changeFault_2 : decode cX8_changeFault 2 = .ok (.invokevirtual 283, 3) := by decide +kernel
theorem dX8_changeFault_5 : decode cX8_changeFault 5 = .ok (.ifCond .ne 5, 3) := by decide +kernel
theorem dX8_changeFault_8 : decode cX8_changeFault 8 = .ok (.iconst 1, 1) := by decide +kernel
theorem dX8_changeFault_9 : decode cX8_changeFault 9 = .ok (.ireturn, 1) := by decide +kernel
theorem dX8_changeFault_10 : decode cX8_changeFault 10 = .ok (.iload_n 2, 1) := by decide +kernel
theorem dX8_changeFault_11 : decode cX8_changeFault 11 = .ok (.invokestatic 286, 3) := by decide +kernel
theorem dX8_changeFault_14 : decode cX8_changeFault 14 = .ok (.ifCond .eq 7, 3) := by decide +kernel
theorem dX8_changeFault_17 : decode cX8_changeFault 17 = .ok (.iconst 0, 1) := by decide +kernel
theorem dX8_changeFault_18 : decode cX8_changeFault 18 = .ok (.goto 4, 3) := by decide +kernel
theorem dX8_changeFault_21 : decode cX8_changeFault 21 = .ok (.iconst 2, 1) := by decide +kernel
theorem dX8_changeFault_22 : decode cX8_changeFault 22 = .ok (.ireturn, 1) := by decide +kernel
theorem dX8_transferFault_0 : decode cX8_transferFault 0 = .ok (.aload_n 0, 1) := by decide +kernel
theorem dX8_transferFault_1 : decode cX8_transferFault 1 = .ok (.iload_n 2, 1) := by decide +kernel
theorem dX8_transferFault_2 : decode cX8_transferFault 2 = .ok (.invokevirtual 283, 3) := by decide +kernel
theorem dX8_transferFault_5 : decode cX8_transferFault 5 = .ok (.ifCond .eq 18, 3) := by decide +kernel
theorem dX8_transferFault_8 : decode cX8_transferFault 8 = .ok (.aload_n 0, 1) := by decide +kernel
theorem dX8_transferFault_9 : decode cX8_transferFault 9 = .ok (.iload_n 3, 1) := by decide +kernel
theorem dX8_transferFault_10 : decode cX8_transferFault 10 = .ok (.invokevirtual 283, 3) := by decide +kernel
theorem dX8_transferFault_13 : decode cX8_transferFault 13 = .ok (.ifCond .eq 10, 3) := by decide +kernel
theorem dX8_transferFault_16 : decode cX8_transferFault 16 = .ok (.iload_n 1, 1) := by decide +kernel
theorem dX8_transferFault_17 : decode cX8_transferFault 17 = .ok (.invokestatic 166, 3) := by decide +kernel
theorem dX8_transferFault_20 : decode cX8_transferFault 20 = .ok (.ifCond .ne 5, 3) := by decide +kernel
theorem dX8_transferFault_23 : decode cX8_transferFault 23 = .ok (.iconst 1, 1) := by decide +kernel
theorem dX8_transferFault_24 : decode cX8_transferFault 24 = .ok (.ireturn, 1) := by decide +kernel
theorem dX8_transferFault_25 : decode cX8_transferFault 25 = .ok (.iload_n 2, 1) := by decide +kernel
theorem dX8_transferFault_26 : decode cX8_transferFault 26 = .ok (.iload_n 3, 1) := by decide +kernel
theorem dX8_transferFault_27 : decode cX8_transferFault 27 = .ok (.if_icmp .eq 11, 3) := by decide +kernel
theorem dX8_transferFault_30 : decode cX8_transferFault 30 = .ok (.iload 4, 2) := by decide +kernel
theorem dX8_transferFault_32 : decode cX8_transferFault 32 = .ok (.invokestatic 286, 3) := by decide +kernel
theorem dX8_transferFault_35 : decode cX8_transferFault 35 = .ok (.ifCond .ne 5, 3) := by decide +kernel
theorem dX8_transferFault_38 : decode cX8_transferFault 38 = .ok (.iconst 2, 1) := by decide +kernel
theorem dX8_transferFault_39 : decode cX8_transferFault 39 = .ok (.ireturn, 1) := by decide +kernel
theorem dX8_transferFault_40 : decode cX8_transferFault 40 = .ok (.aload_n 0, 1) := by decide +kernel
theorem dX8_transferFault_41 : decode cX8_transferFault 41 = .ok (.getfield 27, 3) := by decide +kernel
theorem dX8_transferFault_44 : decode cX8_transferFault 44 = .ok (.iload_n 2, 1) := by decide +kernel
theorem dX8_transferFault_45 : decode cX8_transferFault 45 = .ok (.iload_n 1, 1) := by decide +kernel
theorem dX8_transferFault_46 : decode cX8_transferFault 46 = .ok (.invokevirtual 85, 3) := by decide +kernel
theorem dX8_transferFault_49 : decode cX8_transferFault 49 = .ok (.iload 4, 2) := by decide +kernel
theorem dX8_transferFault_51 : decode cX8_transferFault 51 = .ok (.if_icmp .ge 7, 3) := by decide +kernel
theorem dX8_transferFault_54 : decode cX8_transferFault 54 = .ok (.iconst 3, 1) := by decide +kernel
theorem dX8_transferFault_55 : decode cX8_transferFault 55 = .ok (.goto 4, 3) := by decide +kernel
theorem dX8_transferFault_58 : decode cX8_transferFault 58 = .ok (.iconst 0, 1) := by decide +kernel
theorem dX8_transferFault_59 : decode cX8_transferFault 59 = .ok (.ireturn, 1) := by decide +kernel
theorem dX8_lendFault_0 : decode cX8_lendFault 0 = .ok (.aload_n 0, 1) := by decide +kernel
theorem dX8_lendFault_1 : decode cX8_lendFault 1 = .ok (.iload_n 1, 1) := by decide +kernel
theorem dX8_lendFault_2 : decode cX8_lendFault 2 = .ok (.iload_n 2, 1) := by decide +kernel
theorem dX8_lendFault_3 : decode cX8_lendFault 3 = .ok (.iload_n 3, 1) := by decide +kernel
theorem dX8_lendFault_4 : decode cX8_lendFault 4 = .ok (.iload 4, 2) := by decide +kernel
theorem dX8_lendFault_6 : decode cX8_lendFault 6 = .ok (.invokevirtual 77, 3) := by decide +kernel
theorem dX8_lendFault_9 : decode cX8_lendFault 9 = .ok (.istore 6, 2) := by decide +kernel
theorem dX8_lendFault_11 : decode cX8_lendFault 11 = .ok (.iload 6, 2) := by decide +kernel
theorem dX8_lendFault_13 : decode cX8_lendFault 13 = .ok (.iconst 1, 1) := by decide +kernel
theorem dX8_lendFault_14 : decode cX8_lendFault 14 = .ok (.if_icmp .eq 9, 3) := by decide +kernel
theorem dX8_lendFault_17 : decode cX8_lendFault 17 = .ok (.iload 6, 2) := by decide +kernel
theorem dX8_lendFault_19 : decode cX8_lendFault 19 = .ok (.iconst 2, 1) := by decide +kernel
theorem dX8_lendFault_20 : decode cX8_lendFault 20 = .ok (.if_icmp .ne 6, 3) := by decide +kernel
theorem dX8_lendFault_23 : decode cX8_lendFault 23 = .ok (.iload 6, 2) := by decide +kernel
theorem dX8_lendFault_25 : decode cX8_lendFault 25 = .ok (.ireturn, 1) := by decide +kernel
theorem dX8_lendFault_26 : decode cX8_lendFault 26 = .ok (.iload 5, 2) := by decide +kernel
theorem dX8_lendFault_28 : decode cX8_lendFault 28 = .ok (.iconst 1, 1) := by decide +kernel
theorem dX8_lendFault_29 : decode cX8_lendFault 29 = .ok (.if_icmp .lt 11, 3) := by decide +kernel
theorem dX8_lendFault_32 : decode cX8_lendFault 32 = .ok (.iload 5, 2) := by decide +kernel
theorem dX8_lendFault_34 : decode cX8_lendFault 34 = .ok (.sipush 1000, 3) := by decide +kernel
theorem dX8_lendFault_37 : decode cX8_lendFault 37 = .ok (.if_icmp .le 5, 3) := by decide +kernel
theorem dX8_lendFault_40 : decode cX8_lendFault 40 = .ok (.iconst 2, 1) := by decide +kernel
theorem dX8_lendFault_41 : decode cX8_lendFault 41 = .ok (.ireturn, 1) := by decide +kernel
theorem dX8_lendFault_42 : decode cX8_lendFault 42 = .ok (.aload_n 0, 1) := by decide +kernel
theorem dX8_lendFault_43 : decode cX8_lendFault 43 = .ok (.getfield 27, 3) := by decide +kernel
theorem dX8_lendFault_46 : decode cX8_lendFault 46 = .ok (.getfield 195, 3) := by decide +kernel
theorem dX8_lendFault_49 : decode cX8_lendFault 49 = .ok (.bipush 10, 2) := by decide +kernel
theorem dX8_lendFault_51 : decode cX8_lendFault 51 = .ok (.if_icmp .lt 7, 3) := by decide +kernel
theorem dX8_lendFault_54 : decode cX8_lendFault 54 = .ok (.iconst 3, 1) := by decide +kernel
theorem dX8_lendFault_55 : decode cX8_lendFault 55 = .ok (.goto 5, 3) := by decide +kernel
theorem dX8_lendFault_58 : decode cX8_lendFault 58 = .ok (.iload 6, 2) := by decide +kernel
theorem dX8_lendFault_60 : decode cX8_lendFault 60 = .ok (.ireturn, 1) := by decide +kernel
theorem dX8_passFault_0 : decode cX8_passFault 0 = .ok (.iload_n 1, 1) := by decide +kernel
theorem dX8_passFault_1 : decode cX8_passFault 1 = .ok (.iconst 1, 1) := by decide +kernel
theorem dX8_passFault_2 : decode cX8_passFault 2 = .ok (.if_icmp .lt 10, 3) := by decide +kernel
theorem dX8_passFault_5 : decode cX8_passFault 5 = .ok (.iload_n 1, 1) := by decide +kernel
theorem dX8_passFault_6 : decode cX8_passFault 6 = .ok (.sipush 1000, 3) := by decide +kernel
theorem dX8_passFault_9 : decode cX8_passFault 9 = .ok (.if_icmp .le 5, 3) := by decide +kernel
theorem dX8_passFault_12 : decode cX8_passFault 12 = .ok (.iconst 2, 1) := by decide +kernel
theorem dX8_passFault_13 : decode cX8_passFault 13 = .ok (.ireturn, 1) := by decide +kernel
theorem dX8_passFault_14 : decode cX8_passFault 14 = .ok (.aload_n 0, 1) := by decide +kernel
theorem dX8_passFault_15 : decode cX8_passFault 15 = .ok (.getfield 27, 3) := by decide +kernel
theorem dX8_passFault_18 : decode cX8_passFault 18 = .ok (.getfield 114, 3) := by decide +kernel
theorem dX8_passFault_21 : decode cX8_passFault 21 = .ok (.ldc_w 289, 3) := by decide +kernel
theorem dX8_passFault_24 : decode cX8_passFault 24 = .ok (.iload_n 1, 1) := by decide +kernel
theorem dX8_passFault_25 : decode cX8_passFault 25 = .ok (.isub, 1) := by decide +kernel
theorem dX8_passFault_26 : decode cX8_passFault 26 = .ok (.if_icmp .le 7, 3) := by decide +kernel
theorem dX8_passFault_29 : decode cX8_passFault 29 = .ok (.iconst 3, 1) := by decide +kernel
theorem dX8_passFault_30 : decode cX8_passFault 30 = .ok (.goto 4, 3) := by decide +kernel
theorem dX8_passFault_33 : decode cX8_passFault 33 = .ok (.iconst 0, 1) := by decide +kernel
theorem dX8_passFault_34 : decode cX8_passFault 34 = .ok (.ireturn, 1) := by decide +kernel
theorem dX8_sendFault_0 : decode cX8_sendFault 0 = .ok (.aload_n 0, 1) := by decide +kernel
theorem dX8_sendFault_1 : decode cX8_sendFault 1 = .ok (.iload_n 1, 1) := by decide +kernel
theorem dX8_sendFault_2 : decode cX8_sendFault 2 = .ok (.invokevirtual 283, 3) := by decide +kernel
theorem dX8_sendFault_5 : decode cX8_sendFault 5 = .ok (.ifCond .eq 11, 3) := by decide +kernel
theorem dX8_sendFault_8 : decode cX8_sendFault 8 = .ok (.aload_n 0, 1) := by decide +kernel
theorem dX8_sendFault_9 : decode cX8_sendFault 9 = .ok (.iload_n 2, 1) := by decide +kernel
theorem dX8_sendFault_10 : decode cX8_sendFault 10 = .ok (.invokevirtual 283, 3) := by decide +kernel
theorem dX8_sendFault_13 : decode cX8_sendFault 13 = .ok (.ifCond .ne 5, 3) := by decide +kernel
theorem dX8_sendFault_16 : decode cX8_sendFault 16 = .ok (.iconst 1, 1) := by decide +kernel
theorem dX8_sendFault_17 : decode cX8_sendFault 17 = .ok (.ireturn, 1) := by decide +kernel
theorem dX8_sendFault_18 : decode cX8_sendFault 18 = .ok (.iload_n 1, 1) := by decide +kernel
theorem dX8_sendFault_19 : decode cX8_sendFault 19 = .ok (.iload_n 2, 1) := by decide +kernel
theorem dX8_sendFault_20 : decode cX8_sendFault 20 = .ok (.if_icmp .ne 5, 3) := by decide +kernel
theorem dX8_sendFault_23 : decode cX8_sendFault 23 = .ok (.iconst 2, 1) := by decide +kernel
theorem dX8_sendFault_24 : decode cX8_sendFault 24 = .ok (.ireturn, 1) := by decide +kernel
theorem dX8_sendFault_25 : decode cX8_sendFault 25 = .ok (.aload_n 0, 1) := by decide +kernel
theorem dX8_sendFault_26 : decode cX8_sendFault 26 = .ok (.getfield 27, 3) := by decide +kernel
theorem dX8_sendFault_29 : decode cX8_sendFault 29 = .ok (.getfield 132, 3) := by decide +kernel
theorem dX8_sendFault_32 : decode cX8_sendFault 32 = .ok (.bipush 8, 2) := by decide +kernel
theorem dX8_sendFault_34 : decode cX8_sendFault 34 = .ok (.if_icmp .lt 7, 3) := by decide +kernel
theorem dX8_sendFault_37 : decode cX8_sendFault 37 = .ok (.iconst 3, 1) := by decide +kernel
theorem dX8_sendFault_38 : decode cX8_sendFault 38 = .ok (.goto 4, 3) := by decide +kernel
theorem dX8_sendFault_41 : decode cX8_sendFault 41 = .ok (.iconst 0, 1) := by decide +kernel
theorem dX8_sendFault_42 : decode cX8_sendFault 42 = .ok (.ireturn, 1) := by decide +kernel
theorem dX8_messageFault_0 : decode cX8_messageFault 0 = .ok (.iload_n 1, 1) := by decide +kernel
theorem dX8_messageFault_1 : decode cX8_messageFault 1 = .ok (.ifCond .lt 18, 3) := by decide +kernel
theorem dX8_messageFault_4 : decode cX8_messageFault 4 = .ok (.iload_n 1, 1) := by decide +kernel
theorem dX8_messageFault_5 : decode cX8_messageFault 5 = .ok (.aload_n 0, 1) := by decide +kernel
theorem dX8_messageFault_6 : decode cX8_messageFault 6 = .ok (.getfield 27, 3) := by decide +kernel
theorem dX8_messageFault_9 : decode cX8_messageFault 9 = .ok (.getfield 132, 3) := by decide +kernel
theorem dX8_messageFault_12 : decode cX8_messageFault 12 = .ok (.if_icmp .ge 7, 3) := by decide +kernel
theorem dX8_messageFault_15 : decode cX8_messageFault 15 = .ok (.iconst 0, 1) := by decide +kernel
theorem dX8_messageFault_16 : decode cX8_messageFault 16 = .ok (.goto 4, 3) := by decide +kernel
theorem dX8_messageFault_19 : decode cX8_messageFault 19 = .ok (.iconst 1, 1) := by decide +kernel
theorem dX8_messageFault_20 : decode cX8_messageFault 20 = .ok (.ireturn, 1) := by decide +kernel
theorem dX8_siteFault_0 : decode cX8_siteFault 0 = .ok (.aload_n 0, 1) := by decide +kernel
theorem dX8_siteFault_1 : decode cX8_siteFault 1 = .ok (.iload_n 1, 1) := by decide +kernel
theorem dX8_siteFault_2 : decode cX8_siteFault 2 = .ok (.invokevirtual 283, 3) := by decide +kernel
theorem dX8_siteFault_5 : decode cX8_siteFault 5 = .ok (.ifCond .eq 7, 3) := by decide +kernel
theorem dX8_siteFault_8 : decode cX8_siteFault 8 = .ok (.iconst 0, 1) := by decide +kernel
theorem dX8_siteFault_9 : decode cX8_siteFault 9 = .ok (.goto 4, 3) := by decide +kernel
theorem dX8_siteFault_12 : decode cX8_siteFault 12 = .ok (.iconst 1, 1) := by decide +kernel
theorem dX8_siteFault_13 : decode cX8_siteFault 13 = .ok (.ireturn, 1) := by decide +kernel
theorem dX8_siteAndKindFault_0 : decode cX8_siteAndKindFault 0 = .ok (.aload_n 0, 1) := by decide +kernel
theorem dX8_siteAndKindFault_1 : decode cX8_siteAndKindFault 1 = .ok (.iload_n 1, 1) := by decide +kernel
theorem dX8_siteAndKindFault_2 : decode cX8_siteAndKindFault 2 = .ok (.invokevirtual 283, 3) := by decide +kernel
theorem dX8_siteAndKindFault_5 : decode cX8_siteAndKindFault 5 = .ok (.ifCond .eq 14, 3) := by decide +kernel
theorem dX8_siteAndKindFault_8 : decode cX8_siteAndKindFault 8 = .ok (.iload_n 2, 1) := by decide +kernel
theorem dX8_siteAndKindFault_9 : decode cX8_siteAndKindFault 9 = .ok (.invokestatic 166, 3) := by decide +kernel
theorem dX8_siteAndKindFault_12 : decode cX8_siteAndKindFault 12 = .ok (.ifCond .eq 7, 3) := by decide +kernel
theorem dX8_siteAndKindFault_15 : decode cX8_siteAndKindFault 15 = .ok (.iconst 0, 1) := by decide +kernel
theorem dX8_siteAndKindFault_16 : decode cX8_siteAndKindFault 16 = .ok (.goto 4, 3) := by decide +kernel
theorem dX8_siteAndKindFault_19 : decode cX8_siteAndKindFault 19 = .ok (.iconst 1, 1) := by decide +kernel
theorem dX8_siteAndKindFault_20 : decode cX8_siteAndKindFault 20 = .ok (.ireturn, 1) := by decide +kernel
theorem dX8_isSite_0 : decode cX8_isSite 0 = .ok (.iload_n 1, 1) := by decide +kernel
theorem dX8_isSite_1 : decode cX8_isSite 1 = .ok (.ifCond .lt 15, 3) := by decide +kernel
theorem dX8_isSite_4 : decode cX8_isSite 4 = .ok (.iload_n 1, 1) := by decide +kernel
theorem dX8_isSite_5 : decode cX8_isSite 5 = .ok (.aload_n 0, 1) := by decide +kernel
theorem dX8_isSite_6 : decode cX8_isSite 6 = .ok (.getfield 18, 3) := by decide +kernel
theorem dX8_isSite_9 : decode cX8_isSite 9 = .ok (.if_icmp .ge 7, 3) := by decide +kernel
theorem dX8_isSite_12 : decode cX8_isSite 12 = .ok (.iconst 1, 1) := by decide +kernel
theorem dX8_isSite_13 : decode cX8_isSite 13 = .ok (.goto 4, 3) := by decide +kernel
theorem dX8_isSite_16 : decode cX8_isSite 16 = .ok (.iconst 0, 1) := by decide +kernel
theorem dX8_isSite_17 : decode cX8_isSite 17 = .ok (.ireturn, 1) := by decide +kernel
theorem dX8_isKind_0 : decode cX8_isKind 0 = .ok (.iload_n 0, 1) := by decide +kernel
theorem dX8_isKind_1 : decode cX8_isKind 1 = .ok (.ifCond .eq 8, 3) := by decide +kernel
theorem dX8_isKind_4 : decode cX8_isKind 4 = .ok (.iload_n 0, 1) := by decide +kernel
theorem dX8_isKind_5 : decode cX8_isKind 5 = .ok (.iconst 1, 1) := by decide +kernel
theorem dX8_isKind_6 : decode cX8_isKind 6 = .ok (.if_icmp .ne 7, 3) := by decide +kernel
theorem dX8_isKind_9 : decode cX8_isKind 9 = .ok (.iconst 1, 1) := by decide +kernel
theorem dX8_isKind_10 : decode cX8_isKind 10 = .ok (.goto 4, 3) := by decide +kernel
theorem dX8_isKind_13 : decode cX8_isKind 13 = .ok (.iconst 0, 1) := by decide +kernel
theorem dX8_isKind_14 : decode cX8_isKind 14 = .ok (.ireturn, 1) := by decide +kernel
theorem dX8_isAmount_0 : decode cX8_isAmount 0 = .ok (.iload_n 0, 1) := by decide +kernel
theorem dX8_isAmount_1 : decode cX8_isAmount 1 = .ok (.iconst 1, 1) := by decide +kernel
theorem dX8_isAmount_2 : decode cX8_isAmount 2 = .ok (.if_icmp .lt 14, 3) := by decide +kernel
theorem dX8_isAmount_5 : decode cX8_isAmount 5 = .ok (.iload_n 0, 1) := by decide +kernel
theorem dX8_isAmount_6 : decode cX8_isAmount 6 = .ok (.sipush 999, 3) := by decide +kernel
theorem dX8_isAmount_9 : decode cX8_isAmount 9 = .ok (.if_icmp .gt 7, 3) := by decide +kernel
theorem dX8_isAmount_12 : decode cX8_isAmount 12 = .ok (.iconst 1, 1) := by decide +kernel
theorem dX8_isAmount_13 : decode cX8_isAmount 13 = .ok (.goto 4, 3) := by decide +kernel
theorem dX8_isAmount_16 : decode cX8_isAmount 16 = .ok (.iconst 0, 1) := by decide +kernel
theorem dX8_isAmount_17 : decode cX8_isAmount 17 = .ok (.ireturn, 1) := by decide +kernel

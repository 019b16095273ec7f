theorem dX5_init_0 : decode cX5_init 0 = .ok (.aload_n 0, 1) := by decide +kernel
theorem dX5_init_1 : decode cX5_init 1 = .ok (.invokespecial 3, 3) := by decide +kernel
theorem dX5_init_4 : decode cX5_init 4 = .ok (.aload_n 0, 1) := by decide +kernel
theorem dX5_init_5 : decode cX5_init 5 = .ok (.new 9, 3) := by decide +kernel
theorem dX5_init_8 : decode cX5_init 8 = .ok (.dup, 1) := by decide +kernel
theorem dX5_init_9 : decode cX5_init 9 = .ok (.bipush 24, 2) := by decide +kernel
theorem dX5_init_11 : decode cX5_init 11 = .ok (.invokespecial 11, 3) := by decide +kernel
theorem dX5_init_14 : decode cX5_init 14 = .ok (.putfield 14, 3) := by decide +kernel
theorem dX5_init_17 : decode cX5_init 17 = .ok (.aload_n 0, 1) := by decide +kernel
theorem dX5_init_18 : decode cX5_init 18 = .ok (.new 9, 3) := by decide +kernel
theorem dX5_init_21 : decode cX5_init 21 = .ok (.dup, 1) := by decide +kernel
theorem dX5_init_22 : decode cX5_init 22 = .ok (.bipush 24, 2) := by decide +kernel
theorem dX5_init_24 : decode cX5_init 24 = .ok (.invokespecial 11, 3) := by decide +kernel
theorem dX5_init_27 : decode cX5_init 27 = .ok (.putfield 20, 3) := by decide +kernel
theorem dX5_init_30 : decode cX5_init 30 = .ok (.aload_n 0, 1) := by decide +kernel
theorem dX5_init_31 : decode cX5_init 31 = .ok (.new 9, 3) := by decide +kernel
theorem dX5_init_34 : decode cX5_init 34 = .ok (.dup, 1) := by decide +kernel
theorem dX5_init_35 : decode cX5_init 35 = .ok (.bipush 24, 2) := by decide +kernel
theorem dX5_init_37 : decode cX5_init 37 = .ok (.invokespecial 11, 3) := by decide +kernel
theorem dX5_init_40 : decode cX5_init 40 = .ok (.putfield 23, 3) := by decide +kernel
theorem dX5_init_43 : decode cX5_init 43 = .ok (.aload_n 0, 1) := by decide +kernel
theorem dX5_init_44 : decode cX5_init 44 = .ok (.new 9, 3) := by decide +kernel
theorem dX5_init_47 : decode cX5_init 47 = .ok (.dup, 1) := by decide +kernel
theorem dX5_init_48 : decode cX5_init 48 = .ok (.bipush 8, 2) := by decide +kernel
theorem dX5_init_50 : decode cX5_init 50 = .ok (.invokespecial 11, 3) := by decide +kernel
theorem dX5_init_53 : decode cX5_init 53 = .ok (.putfield 26, 3) := by decide +kernel
theorem dX5_init_56 : decode cX5_init 56 = .ok (.return_, 1) := by decide +kernel
theorem dX5_begin_0 : decode cX5_begin 0 = .ok (.aload_n 0, 1) := by decide +kernel
theorem dX5_begin_1 : decode cX5_begin 1 = .ok (.getfield 14, 3) := by decide +kernel
theorem dX5_begin_4 : decode cX5_begin 4 = .ok (.aload_n 1, 1) := by decide +kernel
theorem dX5_begin_5 : decode cX5_begin 5 = .ok (.getfield 29, 3) := by decide +kernel
theorem dX5_begin_8 : decode cX5_begin 8 = .ok (.invokevirtual 34, 3) := by decide +kernel
theorem dX5_begin_11 : decode cX5_begin 11 = .ok (.aload_n 0, 1) := by decide +kernel
theorem dX5_begin_12 : decode cX5_begin 12 = .ok (.getfield 20, 3) := by decide +kernel
theorem dX5_begin_15 : decode cX5_begin 15 = .ok (.invokevirtual 38, 3) := by decide +kernel
theorem dX5_begin_18 : decode cX5_begin 18 = .ok (.aload_n 0, 1) := by decide +kernel
theorem dX5_begin_19 : decode cX5_begin 19 = .ok (.getfield 23, 3) := by decide +kernel
theorem dX5_begin_22 : decode cX5_begin 22 = .ok (.aload_n 1, 1) := by decide +kernel
theorem dX5_begin_23 : decode cX5_begin 23 = .ok (.getfield 41, 3) := by decide +kernel
theorem dX5_begin_26 : decode cX5_begin 26 = .ok (.invokevirtual 34, 3) := by decide +kernel
theorem dX5_begin_29 : decode cX5_begin 29 = .ok (.aload_n 0, 1) := by decide +kernel
theorem dX5_begin_30 : decode cX5_begin 30 = .ok (.getfield 26, 3) := by decide +kernel
theorem dX5_begin_33 : decode cX5_begin 33 = .ok (.invokevirtual 38, 3) := by decide +kernel
theorem dX5_begin_36 : decode cX5_begin 36 = .ok (.return_, 1) := by decide +kernel
theorem dX5_copy_0 : decode cX5_copy 0 = .ok (.aload_n 0, 1) := by decide +kernel
theorem dX5_copy_1 : decode cX5_copy 1 = .ok (.getfield 14, 3) := by decide +kernel
theorem dX5_copy_4 : decode cX5_copy 4 = .ok (.aload_n 1, 1) := by decide +kernel
theorem dX5_copy_5 : decode cX5_copy 5 = .ok (.getfield 14, 3) := by decide +kernel
theorem dX5_copy_8 : decode cX5_copy 8 = .ok (.invokevirtual 34, 3) := by decide +kernel
theorem dX5_copy_11 : decode cX5_copy 11 = .ok (.aload_n 0, 1) := by decide +kernel
theorem dX5_copy_12 : decode cX5_copy 12 = .ok (.getfield 20, 3) := by decide +kernel
theorem dX5_copy_15 : decode cX5_copy 15 = .ok (.aload_n 1, 1) := by decide +kernel
theorem dX5_copy_16 : decode cX5_copy 16 = .ok (.getfield 20, 3) := by decide +kernel
theorem dX5_copy_19 : decode cX5_copy 19 = .ok (.invokevirtual 34, 3) := by decide +kernel
theorem dX5_copy_22 : decode cX5_copy 22 = .ok (.aload_n 0, 1) := by decide +kernel
theorem dX5_copy_23 : decode cX5_copy 23 = .ok (.getfield 23, 3) := by decide +kernel
theorem dX5_copy_26 : decode cX5_copy 26 = .ok (.aload_n 1, 1) := by decide +kernel
theorem dX5_copy_27 : decode cX5_copy 27 = .ok (.getfield 23, 3) := by decide +kernel
theorem dX5_copy_30 : decode cX5_copy 30 = .ok (.invokevirtual 34, 3) := by decide +kernel
theorem dX5_copy_33 : decode cX5_copy 33 = .ok (.aload_n 0, 1) := by decide +kernel
theorem dX5_copy_34 : decode cX5_copy 34 = .ok (.getfield 26, 3) := by decide +kernel
theorem dX5_copy_37 : decode cX5_copy 37 = .ok (.aload_n 1, 1) := by decide +kernel
theorem dX5_copy_38 : decode cX5_copy 38 = .ok (.getfield 26, 3) := by decide +kernel
theorem dX5_copy_41 : decode cX5_copy 41 = .ok (.invokevirtual 34, 3) := by decide +kernel
theorem dX5_copy_44 : decode cX5_copy 44 = .ok (.return_, 1) := by decide +kernel
theorem dX5_lies_0 : decode cX5_lies 0 = .ok (.aload_n 0, 1) := by decide +kernel
theorem dX5_lies_1 : decode cX5_lies 1 = .ok (.getfield 14, 3) := by decide +kernel
theorem dX5_lies_4 : decode cX5_lies 4 = .ok (.iload_n 1, 1) := by decide +kernel
theorem dX5_lies_5 : decode cX5_lies 5 = .ok (.invokevirtual 42, 3) := by decide +kernel
theorem dX5_lies_8 : decode cX5_lies 8 = .ok (.iconst (-1), 1) := by decide +kernel
theorem dX5_lies_9 : decode cX5_lies 9 = .ok (.if_icmp .eq 7, 3) := by decide +kernel
theorem dX5_lies_12 : decode cX5_lies 12 = .ok (.iconst 1, 1) := by decide +kernel
theorem dX5_lies_13 : decode cX5_lies 13 = .ok (.goto 4, 3) := by decide +kernel
theorem dX5_lies_16 : decode cX5_lies 16 = .ok (.iconst 0, 1) := by decide +kernel
theorem dX5_lies_17 : decode cX5_lies 17 = .ok (.ireturn, 1) := by decide +kernel
theorem dX5_size_0 : decode cX5_size 0 = .ok (.iconst 0, 1) := by decide +kernel
theorem dX5_size_1 : decode cX5_size 1 = .ok (.istore_n 2, 1) := by decide +kernel
theorem dX5_size_2 : decode cX5_size 2 = .ok (.iconst 0, 1) := by decide +kernel
theorem dX5_size_3 : decode cX5_size 3 = .ok (.istore_n 3, 1) := by decide +kernel
theorem dX5_size_4 : decode cX5_size 4 = .ok (.iload_n 3, 1) := by decide +kernel
theorem dX5_size_5 : decode cX5_size 5 = .ok (.bipush 24, 2) := by decide +kernel
theorem dX5_size_7 : decode cX5_size 7 = .ok (.if_icmp .ge 24, 3) := by decide +kernel
theorem dX5_size_10 : decode cX5_size 10 = .ok (.aload_n 0, 1) := by decide +kernel
theorem dX5_size_11 : decode cX5_size 11 = .ok (.getfield 14, 3) := by decide +kernel
theorem dX5_size_14 : decode cX5_size 14 = .ok (.iload_n 3, 1) := by decide +kernel
theorem dX5_size_15 : decode cX5_size 15 = .ok (.invokevirtual 42, 3) := by decide +kernel
theorem dX5_size_18 : decode cX5_size 18 = .ok (.iload_n 1, 1) := by decide +kernel
theorem dX5_size_19 : decode cX5_size 19 = .ok (.if_icmp .ne 6, 3) := by decide +kernel
theorem dX5_size_22 : decode cX5_size 22 = .ok (.iinc 2 1, 3) := by decide +kernel
theorem dX5_size_25 : decode cX5_size 25 = .ok (.iinc 3 1, 3) := by decide +kernel
theorem dX5_size_28 : decode cX5_size 28 = .ok (.goto (-24), 3) := by decide +kernel
theorem dX5_size_31 : decode cX5_size 31 = .ok (.iload_n 2, 1) := by decide +kernel
theorem dX5_size_32 : decode cX5_size 32 = .ok (.ireturn, 1) := by decide +kernel
theorem dX5_inRow_0 : decode cX5_inRow 0 = .ok (.iconst 0, 1) := by decide +kernel
theorem dX5_inRow_1 : decode cX5_inRow 1 = .ok (.istore_n 3, 1) := by decide +kernel
theorem dX5_inRow_2 : decode cX5_inRow 2 = .ok (.iconst 0, 1) := by decide +kernel
theorem dX5_inRow_3 : decode cX5_inRow 3 = .ok (.istore 4, 2) := by decide +kernel
theorem dX5_inRow_5 : decode cX5_inRow 5 = .ok (.iload 4, 2) := by decide +kernel
theorem dX5_inRow_7 : decode cX5_inRow 7 = .ok (.bipush 24, 2) := by decide +kernel
theorem dX5_inRow_9 : decode cX5_inRow 9 = .ok (.if_icmp .ge 44, 3) := by decide +kernel
theorem dX5_inRow_12 : decode cX5_inRow 12 = .ok (.aload_n 0, 1) := by decide +kernel
theorem dX5_inRow_13 : decode cX5_inRow 13 = .ok (.getfield 20, 3) := by decide +kernel
theorem dX5_inRow_16 : decode cX5_inRow 16 = .ok (.iload 4, 2) := by decide +kernel
theorem dX5_inRow_18 : decode cX5_inRow 18 = .ok (.invokevirtual 42, 3) := by decide +kernel
theorem dX5_inRow_21 : decode cX5_inRow 21 = .ok (.istore 5, 2) := by decide +kernel
theorem dX5_inRow_23 : decode cX5_inRow 23 = .ok (.aload_n 0, 1) := by decide +kernel
theorem dX5_inRow_24 : decode cX5_inRow 24 = .ok (.getfield 14, 3) := by decide +kernel
theorem dX5_inRow_27 : decode cX5_inRow 27 = .ok (.iload 5, 2) := by decide +kernel
theorem dX5_inRow_29 : decode cX5_inRow 29 = .ok (.invokevirtual 42, 3) := by decide +kernel
theorem dX5_inRow_32 : decode cX5_inRow 32 = .ok (.iload_n 1, 1) := by decide +kernel
theorem dX5_inRow_33 : decode cX5_inRow 33 = .ok (.if_icmp .ne 14, 3) := by decide +kernel
theorem dX5_inRow_36 : decode cX5_inRow 36 = .ok (.iload_n 3, 1) := by decide +kernel
theorem dX5_inRow_37 : decode cX5_inRow 37 = .ok (.iload_n 2, 1) := by decide +kernel
theorem dX5_inRow_38 : decode cX5_inRow 38 = .ok (.if_icmp .ne 6, 3) := by decide +kernel
theorem dX5_inRow_41 : decode cX5_inRow 41 = .ok (.iload 5, 2) := by decide +kernel
theorem dX5_inRow_43 : decode cX5_inRow 43 = .ok (.ireturn, 1) := by decide +kernel
theorem dX5_inRow_44 : decode cX5_inRow 44 = .ok (.iinc 3 1, 3) := by decide +kernel
theorem dX5_inRow_47 : decode cX5_inRow 47 = .ok (.iinc 4 1, 3) := by decide +kernel
theorem dX5_inRow_50 : decode cX5_inRow 50 = .ok (.goto (-45), 3) := by decide +kernel
theorem dX5_inRow_53 : decode cX5_inRow 53 = .ok (.iconst (-1), 1) := by decide +kernel
theorem dX5_inRow_54 : decode cX5_inRow 54 = .ok (.ireturn, 1) := by decide +kernel
theorem dX5_putBehind_0 : decode cX5_putBehind 0 = .ok (.aload_n 0, 1) := by decide +kernel
theorem dX5_putBehind_1 : decode cX5_putBehind 1 = .ok (.getfield 20, 3) := by decide +kernel
theorem dX5_putBehind_4 : decode cX5_putBehind 4 = .ok (.aload_n 0, 1) := by decide +kernel
theorem dX5_putBehind_5 : decode cX5_putBehind 5 = .ok (.getfield 20, 3) := by decide +kernel
theorem dX5_putBehind_8 : decode cX5_putBehind 8 = .ok (.iload_n 1, 1) := by decide +kernel
theorem dX5_putBehind_9 : decode cX5_putBehind 9 = .ok (.invokevirtual 46, 3) := by decide +kernel
theorem dX5_putBehind_12 : decode cX5_putBehind 12 = .ok (.bipush 23, 2) := by decide +kernel
theorem dX5_putBehind_14 : decode cX5_putBehind 14 = .ok (.invokevirtual 49, 3) := by decide +kernel
theorem dX5_putBehind_17 : decode cX5_putBehind 17 = .ok (.aload_n 0, 1) := by decide +kernel
theorem dX5_putBehind_18 : decode cX5_putBehind 18 = .ok (.getfield 14, 3) := by decide +kernel
theorem dX5_putBehind_21 : decode cX5_putBehind 21 = .ok (.iload_n 1, 1) := by decide +kernel
theorem dX5_putBehind_22 : decode cX5_putBehind 22 = .ok (.iload_n 2, 1) := by decide +kernel
theorem dX5_putBehind_23 : decode cX5_putBehind 23 = .ok (.invokevirtual 53, 3) := by decide +kernel
theorem dX5_putBehind_26 : decode cX5_putBehind 26 = .ok (.return_, 1) := by decide +kernel
theorem dX5_sell_0 : decode cX5_sell 0 = .ok (.aload_n 0, 1) := by decide +kernel
theorem dX5_sell_1 : decode cX5_sell 1 = .ok (.getfield 14, 3) := by decide +kernel
theorem dX5_sell_4 : decode cX5_sell 4 = .ok (.iload_n 1, 1) := by decide +kernel
theorem dX5_sell_5 : decode cX5_sell 5 = .ok (.iconst (-1), 1) := by decide +kernel
theorem dX5_sell_6 : decode cX5_sell 6 = .ok (.invokevirtual 53, 3) := by decide +kernel
theorem dX5_sell_9 : decode cX5_sell 9 = .ok (.return_, 1) := by decide +kernel
theorem dX5_sold_0 : decode cX5_sold 0 = .ok (.iconst 0, 1) := by decide +kernel
theorem dX5_sold_1 : decode cX5_sold 1 = .ok (.istore_n 2, 1) := by decide +kernel
theorem dX5_sold_2 : decode cX5_sold 2 = .ok (.iconst 0, 1) := by decide +kernel
theorem dX5_sold_3 : decode cX5_sold 3 = .ok (.istore_n 3, 1) := by decide +kernel
theorem dX5_sold_4 : decode cX5_sold 4 = .ok (.iload_n 3, 1) := by decide +kernel
theorem dX5_sold_5 : decode cX5_sold 5 = .ok (.iload_n 1, 1) := by decide +kernel
theorem dX5_sold_6 : decode cX5_sold 6 = .ok (.if_icmp .ge 20, 3) := by decide +kernel
theorem dX5_sold_9 : decode cX5_sold 9 = .ok (.aload_n 0, 1) := by decide +kernel
theorem dX5_sold_10 : decode cX5_sold 10 = .ok (.iload_n 3, 1) := by decide +kernel
theorem dX5_sold_11 : decode cX5_sold 11 = .ok (.invokevirtual 56, 3) := by decide +kernel
theorem dX5_sold_14 : decode cX5_sold 14 = .ok (.ifCond .ne 6, 3) := by decide +kernel
theorem dX5_sold_17 : decode cX5_sold 17 = .ok (.iinc 2 1, 3) := by decide +kernel
theorem dX5_sold_20 : decode cX5_sold 20 = .ok (.iinc 3 1, 3) := by decide +kernel
theorem dX5_sold_23 : decode cX5_sold 23 = .ok (.goto (-19), 3) := by decide +kernel
theorem dX5_sold_26 : decode cX5_sold 26 = .ok (.iload_n 2, 1) := by decide +kernel
theorem dX5_sold_27 : decode cX5_sold 27 = .ok (.ireturn, 1) := by decide +kernel
theorem dX5_offOwn_0 : decode cX5_offOwn 0 = .ok (.aload_n 0, 1) := by decide +kernel
theorem dX5_offOwn_1 : decode cX5_offOwn 1 = .ok (.iload_n 2, 1) := by decide +kernel
theorem dX5_offOwn_2 : decode cX5_offOwn 2 = .ok (.invokevirtual 56, 3) := by decide +kernel
theorem dX5_offOwn_5 : decode cX5_offOwn 5 = .ok (.ifCond .eq 24, 3) := by decide +kernel
theorem dX5_offOwn_8 : decode cX5_offOwn 8 = .ok (.aload_n 0, 1) := by decide +kernel
theorem dX5_offOwn_9 : decode cX5_offOwn 9 = .ok (.getfield 14, 3) := by decide +kernel
theorem dX5_offOwn_12 : decode cX5_offOwn 12 = .ok (.iload_n 2, 1) := by decide +kernel
theorem dX5_offOwn_13 : decode cX5_offOwn 13 = .ok (.invokevirtual 42, 3) := by decide +kernel
theorem dX5_offOwn_16 : decode cX5_offOwn 16 = .ok (.aload_n 1, 1) := by decide +kernel
theorem dX5_offOwn_17 : decode cX5_offOwn 17 = .ok (.iload_n 2, 1) := by decide +kernel
theorem dX5_offOwn_18 : decode cX5_offOwn 18 = .ok (.iconst 3, 1) := by decide +kernel
theorem dX5_offOwn_19 : decode cX5_offOwn 19 = .ok (.invokevirtual 60, 3) := by decide +kernel
theorem dX5_offOwn_22 : decode cX5_offOwn 22 = .ok (.isub, 1) := by decide +kernel
theorem dX5_offOwn_23 : decode cX5_offOwn 23 = .ok (.invokestatic 64, 3) := by decide +kernel
theorem dX5_offOwn_26 : decode cX5_offOwn 26 = .ok (.goto 4, 3) := by decide +kernel
theorem dX5_offOwn_29 : decode cX5_offOwn 29 = .ok (.iconst 0, 1) := by decide +kernel
theorem dX5_offOwn_30 : decode cX5_offOwn 30 = .ok (.ireturn, 1) := by decide +kernel
theorem dX5_allOff_0 : decode cX5_allOff 0 = .ok (.iconst 0, 1) := by decide +kernel
theorem dX5_allOff_1 : decode cX5_allOff 1 = .ok (.istore_n 2, 1) := by decide +kernel
theorem dX5_allOff_2 : decode cX5_allOff 2 = .ok (.iconst 0, 1) := by decide +kernel
theorem dX5_allOff_3 : decode cX5_allOff 3 = .ok (.istore_n 3, 1) := by decide +kernel
theorem dX5_allOff_4 : decode cX5_allOff 4 = .ok (.iload_n 3, 1) := by decide +kernel
theorem dX5_allOff_5 : decode cX5_allOff 5 = .ok (.aload_n 1, 1) := by decide +kernel
theorem dX5_allOff_6 : decode cX5_allOff 6 = .ok (.getfield 69, 3) := by decide +kernel
theorem dX5_allOff_9 : decode cX5_allOff 9 = .ok (.if_icmp .ge 18, 3) := by decide +kernel
theorem dX5_allOff_12 : decode cX5_allOff 12 = .ok (.iload_n 2, 1) := by decide +kernel
theorem dX5_allOff_13 : decode cX5_allOff 13 = .ok (.aload_n 0, 1) := by decide +kernel
theorem dX5_allOff_14 : decode cX5_allOff 14 = .ok (.aload_n 1, 1) := by decide +kernel
theorem dX5_allOff_15 : decode cX5_allOff 15 = .ok (.iload_n 3, 1) := by decide +kernel
theorem dX5_allOff_16 : decode cX5_allOff 16 = .ok (.invokevirtual 73, 3) := by decide +kernel
theorem dX5_allOff_19 : decode cX5_allOff 19 = .ok (.iadd, 1) := by decide +kernel
theorem dX5_allOff_20 : decode cX5_allOff 20 = .ok (.istore_n 2, 1) := by decide +kernel
theorem dX5_allOff_21 : decode cX5_allOff 21 = .ok (.iinc 3 1, 3) := by decide +kernel
theorem dX5_allOff_24 : decode cX5_allOff 24 = .ok (.goto (-20), 3) := by decide +kernel
theorem dX5_allOff_27 : decode cX5_allOff 27 = .ok (.iload_n 2, 1) := by decide +kernel
theorem dX5_allOff_28 : decode cX5_allOff 28 = .ok (.ireturn, 1) := by decide +kernel
theorem dX6_init_0 : decode cX6_init 0 = .ok (.aload_n 0, 1) := by decide +kernel
theorem dX6_init_1 : decode cX6_init 1 = .ok (.invokespecial 3, 3) := by decide +kernel
theorem dX6_init_4 : decode cX6_init 4 = .ok (.aload_n 0, 1) := by decide +kernel
theorem dX6_init_5 : decode cX6_init 5 = .ok (.new 9, 3) := by decide +kernel
theorem dX6_init_8 : decode cX6_init 8 = .ok (.dup, 1) := by decide +kernel
theorem dX6_init_9 : decode cX6_init 9 = .ok (.bipush 24, 2) := by decide +kernel
theorem dX6_init_11 : decode cX6_init 11 = .ok (.invokespecial 11, 3) := by decide +kernel
theorem dX6_init_14 : decode cX6_init 14 = .ok (.putfield 14, 3) := by decide +kernel
theorem dX6_init_17 : decode cX6_init 17 = .ok (.aload_n 0, 1) := by decide +kernel
theorem dX6_init_18 : decode cX6_init 18 = .ok (.new 9, 3) := by decide +kernel
theorem dX6_init_21 : decode cX6_init 21 = .ok (.dup, 1) := by decide +kernel
theorem dX6_init_22 : decode cX6_init 22 = .ok (.bipush 24, 2) := by decide +kernel
theorem dX6_init_24 : decode cX6_init 24 = .ok (.invokespecial 11, 3) := by decide +kernel
theorem dX6_init_27 : decode cX6_init 27 = .ok (.putfield 20, 3) := by decide +kernel
theorem dX6_init_30 : decode cX6_init 30 = .ok (.aload_n 0, 1) := by decide +kernel
theorem dX6_init_31 : decode cX6_init 31 = .ok (.aload_n 1, 1) := by decide +kernel
theorem dX6_init_32 : decode cX6_init 32 = .ok (.putfield 23, 3) := by decide +kernel
theorem dX6_init_35 : decode cX6_init 35 = .ok (.return_, 1) := by decide +kernel
theorem dX6_list_0 : decode cX6_list 0 = .ok (.aload_n 0, 1) := by decide +kernel
theorem dX6_list_1 : decode cX6_list 1 = .ok (.getfield 20, 3) := by decide +kernel
theorem dX6_list_4 : decode cX6_list 4 = .ok (.aload_n 0, 1) := by decide +kernel
theorem dX6_list_5 : decode cX6_list 5 = .ok (.getfield 23, 3) := by decide +kernel
theorem dX6_list_8 : decode cX6_list 8 = .ok (.getfield 27, 3) := by decide +kernel
theorem dX6_list_11 : decode cX6_list 11 = .ok (.invokevirtual 30, 3) := by decide +kernel
theorem dX6_list_14 : decode cX6_list 14 = .ok (.iconst 0, 1) := by decide +kernel
theorem dX6_list_15 : decode cX6_list 15 = .ok (.istore_n 1, 1) := by decide +kernel
theorem dX6_list_16 : decode cX6_list 16 = .ok (.iconst 0, 1) := by decide +kernel
theorem dX6_list_17 : decode cX6_list 17 = .ok (.istore_n 2, 1) := by decide +kernel
theorem dX6_list_18 : decode cX6_list 18 = .ok (.iload_n 2, 1) := by decide +kernel
theorem dX6_list_19 : decode cX6_list 19 = .ok (.bipush 24, 2) := by decide +kernel
theorem dX6_list_21 : decode cX6_list 21 = .ok (.if_icmp .ge 56, 3) := by decide +kernel
theorem dX6_list_24 : decode cX6_list 24 = .ok (.aload_n 0, 1) := by decide +kernel
theorem dX6_list_25 : decode cX6_list 25 = .ok (.getfield 20, 3) := by decide +kernel
theorem dX6_list_28 : decode cX6_list 28 = .ok (.iload_n 2, 1) := by decide +kernel
theorem dX6_list_29 : decode cX6_list 29 = .ok (.invokevirtual 34, 3) := by decide +kernel
theorem dX6_list_32 : decode cX6_list 32 = .ok (.iload_n 2, 1) := by decide +kernel
theorem dX6_list_33 : decode cX6_list 33 = .ok (.if_icmp .eq 38, 3) := by decide +kernel
theorem dX6_list_36 : decode cX6_list 36 = .ok (.aload_n 0, 1) := by decide +kernel
theorem dX6_list_37 : decode cX6_list 37 = .ok (.getfield 20, 3) := by decide +kernel
theorem dX6_list_40 : decode cX6_list 40 = .ok (.iload_n 2, 1) := by decide +kernel
theorem dX6_list_41 : decode cX6_list 41 = .ok (.invokevirtual 38, 3) := by decide +kernel
theorem dX6_list_44 : decode cX6_list 44 = .ok (.istore_n 3, 1) := by decide +kernel
theorem dX6_list_45 : decode cX6_list 45 = .ok (.aload_n 0, 1) := by decide +kernel
theorem dX6_list_46 : decode cX6_list 46 = .ok (.getfield 20, 3) := by decide +kernel
theorem dX6_list_49 : decode cX6_list 49 = .ok (.iload_n 2, 1) := by decide +kernel
theorem dX6_list_50 : decode cX6_list 50 = .ok (.iload_n 3, 1) := by decide +kernel
theorem dX6_list_51 : decode cX6_list 51 = .ok (.invokevirtual 41, 3) := by decide +kernel
theorem dX6_list_54 : decode cX6_list 54 = .ok (.aload_n 0, 1) := by decide +kernel
theorem dX6_list_55 : decode cX6_list 55 = .ok (.getfield 14, 3) := by decide +kernel
theorem dX6_list_58 : decode cX6_list 58 = .ok (.iload_n 1, 1) := by decide +kernel
theorem dX6_list_59 : decode cX6_list 59 = .ok (.bipush 100, 2) := by decide +kernel
theorem dX6_list_61 : decode cX6_list 61 = .ok (.iload_n 2, 1) := by decide +kernel
theorem dX6_list_62 : decode cX6_list 62 = .ok (.imul, 1) := by decide +kernel
theorem dX6_list_63 : decode cX6_list 63 = .ok (.iload_n 3, 1) := by decide +kernel
theorem dX6_list_64 : decode cX6_list 64 = .ok (.iadd, 1) := by decide +kernel
theorem dX6_list_65 : decode cX6_list 65 = .ok (.invokevirtual 45, 3) := by decide +kernel
theorem dX6_list_68 : decode cX6_list 68 = .ok (.iinc 1 1, 3) := by decide +kernel
theorem dX6_list_71 : decode cX6_list 71 = .ok (.iinc 2 1, 3) := by decide +kernel
theorem dX6_list_74 : decode cX6_list 74 = .ok (.goto (-56), 3) := by decide +kernel
theorem dX6_list_77 : decode cX6_list 77 = .ok (.iload_n 1, 1) := by decide +kernel
theorem dX6_list_78 : decode cX6_list 78 = .ok (.ireturn, 1) := by decide +kernel
theorem dX7_init_0 : decode cX7_init 0 = .ok (.aload_n 0, 1) := by decide +kernel
theorem dX7_init_1 : decode cX7_init 1 = .ok (.invokespecial 3, 3) := by decide +kernel
theorem dX7_init_4 : decode cX7_init 4 = .ok (.aload_n 0, 1) := by decide +kernel
theorem dX7_init_5 : decode cX7_init 5 = .ok (.new 9, 3) := by decide +kernel
theorem dX7_init_8 : decode cX7_init 8 = .ok (.dup, 1) := by decide +kernel
theorem dX7_init_9 : decode cX7_init 9 = .ok (.bipush 8, 2) := by decide +kernel
theorem dX7_init_11 : decode cX7_init 11 = .ok (.invokespecial 11, 3) := by decide +kernel
theorem dX7_init_14 : decode cX7_init 14 = .ok (.putfield 14, 3) := by decide +kernel
theorem dX7_init_17 : decode cX7_init 17 = .ok (.aload_n 0, 1) := by decide +kernel
theorem dX7_init_18 : decode cX7_init 18 = .ok (.new 9, 3) := by decide +kernel
theorem dX7_init_21 : decode cX7_init 21 = .ok (.dup, 1) := by decide +kernel
theorem dX7_init_22 : decode cX7_init 22 = .ok (.bipush 96, 2) := by decide +kernel
theorem dX7_init_24 : decode cX7_init 24 = .ok (.invokespecial 11, 3) := by decide +kernel
theorem dX7_init_27 : decode cX7_init 27 = .ok (.putfield 20, 3) := by decide +kernel
theorem dX7_init_30 : decode cX7_init 30 = .ok (.aload_n 0, 1) := by decide +kernel
theorem dX7_init_31 : decode cX7_init 31 = .ok (.new 9, 3) := by decide +kernel
theorem dX7_init_34 : decode cX7_init 34 = .ok (.dup, 1) := by decide +kernel
theorem dX7_init_35 : decode cX7_init 35 = .ok (.bipush 24, 2) := by decide +kernel
theorem dX7_init_37 : decode cX7_init 37 = .ok (.invokespecial 11, 3) := by decide +kernel
theorem dX7_init_40 : decode cX7_init 40 = .ok (.putfield 23, 3) := by decide +kernel
theorem dX7_init_43 : decode cX7_init 43 = .ok (.aload_n 0, 1) := by decide +kernel
theorem dX7_init_44 : decode cX7_init 44 = .ok (.new 9, 3) := by decide +kernel
theorem dX7_init_47 : decode cX7_init 47 = .ok (.dup, 1) := by decide +kernel
theorem dX7_init_48 : decode cX7_init 48 = .ok (.bipush 24, 2) := by decide +kernel
theorem dX7_init_50 : decode cX7_init 50 = .ok (.invokespecial 11, 3) := by decide +kernel
theorem dX7_init_53 : decode cX7_init 53 = .ok (.putfield 26, 3) := by decide +kernel
theorem dX7_init_56 : decode cX7_init 56 = .ok (.aload_n 0, 1) := by decide +kernel
theorem dX7_init_57 : decode cX7_init 57 = .ok (.new 9, 3) := by decide +kernel
theorem dX7_init_60 : decode cX7_init 60 = .ok (.dup, 1) := by decide +kernel
theorem dX7_init_61 : decode cX7_init 61 = .ok (.bipush 36, 2) := by decide +kernel
theorem dX7_init_63 : decode cX7_init 63 = .ok (.invokespecial 11, 3) := by decide +kernel
theorem dX7_init_66 : decode cX7_init 66 = .ok (.putfield 29, 3) := by decide +kernel
theorem dX7_init_69 : decode cX7_init 69 = .ok (.aload_n 0, 1) := by decide +kernel
theorem dX7_init_70 : decode cX7_init 70 = .ok (.new 9, 3) := by decide +kernel
theorem dX7_init_73 : decode cX7_init 73 = .ok (.dup, 1) := by decide +kernel
theorem dX7_init_74 : decode cX7_init 74 = .ok (.bipush 9, 2) := by decide +kernel
theorem dX7_init_76 : decode cX7_init 76 = .ok (.invokespecial 11, 3) := by decide +kernel
theorem dX7_init_79 : decode cX7_init 79 = .ok (.putfield 32, 3) := by decide +kernel
theorem dX7_init_82 : decode cX7_init 82 = .ok (.aload_n 0, 1) := by decide +kernel
theorem dX7_init_83 : decode cX7_init 83 = .ok (.new 9, 3) := by decide +kernel
theorem dX7_init_86 : decode cX7_init 86 = .ok (.dup, 1) := by decide +kernel
theorem dX7_init_87 : decode cX7_init 87 = .ok (.iconst 4, 1) := by decide +kernel
theorem dX7_init_88 : decode cX7_init 88 = .ok (.invokespecial 11, 3) := by decide +kernel
theorem dX7_init_91 : decode cX7_init 91 = .ok (.putfield 35, 3) := by decide +kernel
theorem dX7_init_94 : decode cX7_init 94 = .ok (.return_, 1) := by decide +kernel
theorem dX7_clear_0 : decode cX7_clear 0 = .ok (.aload_n 0, 1) := by decide +kernel
theorem dX7_clear_1 : decode cX7_clear 1 = .ok (.iconst 0, 1) := by decide +kernel
theorem dX7_clear_2 : decode cX7_clear 2 = .ok (.putfield 38, 3) := by decide +kernel
theorem dX7_clear_5 : decode cX7_clear 5 = .ok (.aload_n 0, 1) := by decide +kernel
theorem dX7_clear_6 : decode cX7_clear 6 = .ok (.iconst 0, 1) := by decide +kernel
theorem dX7_clear_7 : decode cX7_clear 7 = .ok (.putfield 42, 3) := by decide +kernel
theorem dX7_clear_10 : decode cX7_clear 10 = .ok (.aload_n 0, 1) := by decide +kernel
theorem dX7_clear_11 : decode cX7_clear 11 = .ok (.iconst 0, 1) := by decide +kernel
theorem dX7_clear_12 : decode cX7_clear 12 = .ok (.putfield 45, 3) := by decide +kernel
theorem dX7_clear_15 : decode cX7_clear 15 = .ok (.aload_n 0, 1) := by decide +kernel
theorem dX7_clear_16 : decode cX7_clear 16 = .ok (.iconst 5, 1) := by decide +kernel
theorem dX7_clear_17 : decode cX7_clear 17 = .ok (.putfield 48, 3) := by decide +kernel
theorem dX7_clear_20 : decode cX7_clear 20 = .ok (.aload_n 0, 1) := by decide +kernel
theorem dX7_clear_21 : decode cX7_clear 21 = .ok (.getfield 14, 3) := by decide +kernel
theorem dX7_clear_24 : decode cX7_clear 24 = .ok (.iconst 0, 1) := by decide +kernel
theorem dX7_clear_25 : decode cX7_clear 25 = .ok (.invokevirtual 51, 3) := by decide +kernel
theorem dX7_clear_28 : decode cX7_clear 28 = .ok (.aload_n 0, 1) := by decide +kernel
theorem dX7_clear_29 : decode cX7_clear 29 = .ok (.getfield 20, 3) := by decide +kernel
theorem dX7_clear_32 : decode cX7_clear 32 = .ok (.iconst 0, 1) := by decide +kernel
theorem dX7_clear_33 : decode cX7_clear 33 = .ok (.invokevirtual 51, 3) := by decide +kernel
theorem dX7_clear_36 : decode cX7_clear 36 = .ok (.aload_n 0, 1) := by decide +kernel
theorem dX7_clear_37 : decode cX7_clear 37 = .ok (.getfield 23, 3) := by decide +kernel
theorem dX7_clear_40 : decode cX7_clear 40 = .ok (.iconst (-1), 1) := by decide +kernel
theorem dX7_clear_41 : decode cX7_clear 41 = .ok (.invokevirtual 51, 3) := by decide +kernel
theorem dX7_clear_44 : decode cX7_clear 44 = .ok (.aload_n 0, 1) := by decide +kernel
theorem dX7_clear_45 : decode cX7_clear 45 = .ok (.getfield 26, 3) := by decide +kernel
theorem dX7_clear_48 : decode cX7_clear 48 = .ok (.invokevirtual 54, 3) := by decide +kernel
theorem dX7_clear_51 : decode cX7_clear 51 = .ok (.aload_n 0, 1) := by decide +kernel
theorem dX7_clear_52 : decode cX7_clear 52 = .ok (.getfield 29, 3) := by decide +kernel
theorem dX7_clear_55 : decode cX7_clear 55 = .ok (.iconst 0, 1) := by decide +kernel
theorem dX7_clear_56 : decode cX7_clear 56 = .ok (.invokevirtual 51, 3) := by decide +kernel
theorem dX7_clear_59 : decode cX7_clear 59 = .ok (.iconst 1, 1) := by decide +kernel
theorem dX7_clear_60 : decode cX7_clear 60 = .ok (.istore_n 1, 1) := by decide +kernel
theorem dX7_clear_61 : decode cX7_clear 61 = .ok (.iload_n 1, 1) := by decide +kernel
theorem dX7_clear_62 : decode cX7_clear 62 = .ok (.bipush 8, 2) := by decide +kernel
theorem dX7_clear_64 : decode cX7_clear 64 = .ok (.if_icmp .gt 20, 3) := by decide +kernel
theorem dX7_clear_67 : decode cX7_clear 67 = .ok (.aload_n 0, 1) := by decide +kernel
theorem dX7_clear_68 : decode cX7_clear 68 = .ok (.getfield 32, 3) := by decide +kernel
theorem dX7_clear_71 : decode cX7_clear 71 = .ok (.iload_n 1, 1) := by decide +kernel
theorem dX7_clear_72 : decode cX7_clear 72 = .ok (.iload_n 1, 1) := by decide +kernel
theorem dX7_clear_73 : decode cX7_clear 73 = .ok (.iconst 1, 1) := by decide +kernel
theorem dX7_clear_74 : decode cX7_clear 74 = .ok (.isub, 1) := by decide +kernel
theorem dX7_clear_75 : decode cX7_clear 75 = .ok (.invokevirtual 57, 3) := by decide +kernel
theorem dX7_clear_78 : decode cX7_clear 78 = .ok (.iinc 1 1, 3) := by decide +kernel
theorem dX7_clear_81 : decode cX7_clear 81 = .ok (.goto (-20), 3) := by decide +kernel
theorem dX7_clear_84 : decode cX7_clear 84 = .ok (.aload_n 0, 1) := by decide +kernel
theorem dX7_clear_85 : decode cX7_clear 85 = .ok (.getfield 35, 3) := by decide +kernel
theorem dX7_clear_88 : decode cX7_clear 88 = .ok (.iconst 0, 1) := by decide +kernel
theorem dX7_clear_89 : decode cX7_clear 89 = .ok (.invokevirtual 51, 3) := by decide +kernel
theorem dX7_clear_92 : decode cX7_clear 92 = .ok (.aload_n 0, 1) := by decide +kernel
theorem dX7_clear_93 : decode cX7_clear 93 = .ok (.getfield 35, 3) := by decide +kernel
theorem dX7_clear_96 : decode cX7_clear 96 = .ok (.iconst 0, 1) := by decide +kernel
theorem dX7_clear_97 : decode cX7_clear 97 = .ok (.iconst 1, 1) := by decide +kernel
theorem dX7_clear_98 : decode cX7_clear 98 = .ok (.invokevirtual 57, 3) := by decide +kernel
theorem dX7_clear_101 : decode cX7_clear 101 = .ok (.return_, 1) := by decide +kernel
theorem dX7_copy_0 : decode cX7_copy 0 = .ok (.aload_n 0, 1) := by decide +kernel
theorem dX7_copy_1 : decode cX7_copy 1 = .ok (.aload_n 1, 1) := by decide +kernel
theorem dX7_copy_2 : decode cX7_copy 2 = .ok (.getfield 38, 3) := by decide +kernel
theorem dX7_copy_5 : decode cX7_copy 5 = .ok (.putfield 38, 3) := by decide +kernel
theorem dX7_copy_8 : decode cX7_copy 8 = .ok (.aload_n 0, 1) := by decide +kernel
theorem dX7_copy_9 : decode cX7_copy 9 = .ok (.aload_n 1, 1) := by decide +kernel
theorem dX7_copy_10 : decode cX7_copy 10 = .ok (.getfield 42, 3) := by decide +kernel
theorem dX7_copy_13 : decode cX7_copy 13 = .ok (.putfield 42, 3) := by decide +kernel
theorem dX7_copy_16 : decode cX7_copy 16 = .ok (.aload_n 0, 1) := by decide +kernel
theorem dX7_copy_17 : decode cX7_copy 17 = .ok (.aload_n 1, 1) := by decide +kernel
theorem dX7_copy_18 : decode cX7_copy 18 = .ok (.getfield 45, 3) := by decide +kernel
theorem dX7_copy_21 : decode cX7_copy 21 = .ok (.putfield 45, 3) := by decide +kernel
theorem dX7_copy_24 : decode cX7_copy 24 = .ok (.aload_n 0, 1) := by decide +kernel
theorem dX7_copy_25 : decode cX7_copy 25 = .ok (.aload_n 1, 1) := by decide +kernel
theorem dX7_copy_26 : decode cX7_copy 26 = .ok (.getfield 48, 3) := by decide +kernel
theorem dX7_copy_29 : decode cX7_copy 29 = .ok (.putfield 48, 3) := by decide +kernel
theorem dX7_copy_32 : decode cX7_copy 32 = .ok (.aload_n 0, 1) := by decide +kernel
theorem dX7_copy_33 : decode cX7_copy 33 = .ok (.getfield 14, 3) := by decide +kernel
theorem dX7_copy_36 : decode cX7_copy 36 = .ok (.aload_n 1, 1) := by decide +kernel
theorem dX7_copy_37 : decode cX7_copy 37 = .ok (.getfield 14, 3) := by decide +kernel
theorem dX7_copy_40 : decode cX7_copy 40 = .ok (.invokevirtual 61, 3) := by decide +kernel
theorem dX7_copy_43 : decode cX7_copy 43 = .ok (.aload_n 0, 1) := by decide +kernel
theorem dX7_copy_44 : decode cX7_copy 44 = .ok (.getfield 20, 3) := by decide +kernel
theorem dX7_copy_47 : decode cX7_copy 47 = .ok (.aload_n 1, 1) := by decide +kernel
theorem dX7_copy_48 : decode cX7_copy 48 = .ok (.getfield 20, 3) := by decide +kernel
theorem dX7_copy_51 : decode cX7_copy 51 = .ok (.invokevirtual 61, 3) := by decide +kernel
theorem dX7_copy_54 : decode cX7_copy 54 = .ok (.aload_n 0, 1) := by decide +kernel
theorem dX7_copy_55 : decode cX7_copy 55 = .ok (.getfield 23, 3) := by decide +kernel
theorem dX7_copy_58 : decode cX7_copy 58 = .ok (.aload_n 1, 1) := by decide +kernel
theorem dX7_copy_59 : decode cX7_copy 59 = .ok (.getfield 23, 3) := by decide +kernel
theorem dX7_copy_62 : decode cX7_copy 62 = .ok (.invokevirtual 61, 3) := by decide +kernel
theorem dX7_copy_65 : decode cX7_copy 65 = .ok (.aload_n 0, 1) := by decide +kernel
theorem dX7_copy_66 : decode cX7_copy 66 = .ok (.getfield 26, 3) := by decide +kernel
theorem dX7_copy_69 : decode cX7_copy 69 = .ok (.aload_n 1, 1) := by decide +kernel
theorem dX7_copy_70 : decode cX7_copy 70 = .ok (.getfield 26, 3) := by decide +kernel
theorem dX7_copy_73 : decode cX7_copy 73 = .ok (.invokevirtual 61, 3) := by decide +kernel
theorem dX7_copy_76 : decode cX7_copy 76 = .ok (.aload_n 0, 1) := by decide +kernel
theorem dX7_copy_77 : decode cX7_copy 77 = .ok (.getfield 29, 3) := by decide +kernel
theorem dX7_copy_80 : decode cX7_copy 80 = .ok (.aload_n 1, 1) := by decide +kernel
theorem dX7_copy_81 : decode cX7_copy 81 = .ok (.getfield 29, 3) := by decide +kernel
theorem dX7_copy_84 : decode cX7_copy 84 = .ok (.invokevirtual 61, 3) := by decide +kernel
theorem dX7_copy_87 : decode cX7_copy 87 = .ok (.aload_n 0, 1) := by decide +kernel
theorem dX7_copy_88 : decode cX7_copy 88 = .ok (.getfield 32, 3) := by decide +kernel
theorem dX7_copy_91 : decode cX7_copy 91 = .ok (.aload_n 1, 1) := by decide +kernel
theorem dX7_copy_92 : decode cX7_copy 92 = .ok (.getfield 32, 3) := by decide +kernel
theorem dX7_copy_95 : decode cX7_copy 95 = .ok (.invokevirtual 61, 3) := by decide +kernel
theorem dX7_copy_98 : decode cX7_copy 98 = .ok (.aload_n 0, 1) := by decide +kernel
theorem dX7_copy_99 : decode cX7_copy 99 = .ok (.getfield 35, 3) := by decide +kernel
theorem dX7_copy_102 : decode cX7_copy 102 = .ok (.aload_n 1, 1) := by decide +kernel
theorem dX7_copy_103 : decode cX7_copy 103 = .ok (.getfield 35, 3) := by decide +kernel
theorem dX7_copy_106 : decode cX7_copy 106 = .ok (.invokevirtual 61, 3) := by decide +kernel
theorem dX7_copy_109 : decode cX7_copy 109 = .ok (.return_, 1) := by decide +kernel
theorem dX7_hasCrate_0 : decode cX7_hasCrate 0 = .ok (.iload_n 1, 1) := by decide +kernel
theorem dX7_hasCrate_1 : decode cX7_hasCrate 1 = .ok (.ifCond .lt 15, 3) := by decide +kernel
theorem dX7_hasCrate_4 : decode cX7_hasCrate 4 = .ok (.iload_n 1, 1) := by decide +kernel
theorem dX7_hasCrate_5 : decode cX7_hasCrate 5 = .ok (.aload_n 0, 1) := by decide +kernel
theorem dX7_hasCrate_6 : decode cX7_hasCrate 6 = .ok (.getfield 38, 3) := by decide +kernel
theorem dX7_hasCrate_9 : decode cX7_hasCrate 9 = .ok (.if_icmp .ge 7, 3) := by decide +kernel
theorem dX7_hasCrate_12 : decode cX7_hasCrate 12 = .ok (.iconst 1, 1) := by decide +kernel
theorem dX7_hasCrate_13 : decode cX7_hasCrate 13 = .ok (.goto 4, 3) := by decide +kernel
theorem dX7_hasCrate_16 : decode cX7_hasCrate 16 = .ok (.iconst 0, 1) := by decide +kernel
theorem dX7_hasCrate_17 : decode cX7_hasCrate 17 = .ok (.ireturn, 1) := by decide +kernel
theorem dX7_ofSleeve_0 : decode cX7_ofSleeve 0 = .ok (.aload_n 0, 1) := by decide +kernel
theorem dX7_ofSleeve_1 : decode cX7_ofSleeve 1 = .ok (.getfield 20, 3) := by decide +kernel
theorem dX7_ofSleeve_4 : decode cX7_ofSleeve 4 = .ok (.iload_n 1, 1) := by decide +kernel
theorem dX7_ofSleeve_5 : decode cX7_ofSleeve 5 = .ok (.iconst 4, 1) := by decide +kernel
theorem dX7_ofSleeve_6 : decode cX7_ofSleeve 6 = .ok (.imul, 1) := by decide +kernel
theorem dX7_ofSleeve_7 : decode cX7_ofSleeve 7 = .ok (.iload_n 2, 1) := by decide +kernel
theorem dX7_ofSleeve_8 : decode cX7_ofSleeve 8 = .ok (.iadd, 1) := by decide +kernel
theorem dX7_ofSleeve_9 : decode cX7_ofSleeve 9 = .ok (.invokevirtual 65, 3) := by decide +kernel
theorem dX7_ofSleeve_12 : decode cX7_ofSleeve 12 = .ok (.ireturn, 1) := by decide +kernel
theorem dX7_ofLooker_0 : decode cX7_ofLooker 0 = .ok (.aload_n 0, 1) := by decide +kernel
theorem dX7_ofLooker_1 : decode cX7_ofLooker 1 = .ok (.getfield 29, 3) := by decide +kernel
theorem dX7_ofLooker_4 : decode cX7_ofLooker 4 = .ok (.iload_n 1, 1) := by decide +kernel
theorem dX7_ofLooker_5 : decode cX7_ofLooker 5 = .ok (.bipush 6, 2) := by decide +kernel
theorem dX7_ofLooker_7 : decode cX7_ofLooker 7 = .ok (.imul, 1) := by decide +kernel
theorem dX7_ofLooker_8 : decode cX7_ofLooker 8 = .ok (.iload_n 2, 1) := by decide +kernel
theorem dX7_ofLooker_9 : decode cX7_ofLooker 9 = .ok (.iadd, 1) := by decide +kernel
theorem dX7_ofLooker_10 : decode cX7_ofLooker 10 = .ok (.invokevirtual 65, 3) := by decide +kernel
theorem dX7_ofLooker_13 : decode cX7_ofLooker 13 = .ok (.ireturn, 1) := by decide +kernel
theorem dX7_addCrate_0 : decode cX7_addCrate 0 = .ok (.aload_n 0, 1) := by decide +kernel
theorem dX7_addCrate_1 : decode cX7_addCrate 1 = .ok (.getfield 14, 3) := by decide +kernel
theorem dX7_addCrate_4 : decode cX7_addCrate 4 = .ok (.aload_n 0, 1) := by decide +kernel
theorem dX7_addCrate_5 : decode cX7_addCrate 5 = .ok (.getfield 38, 3) := by decide +kernel
theorem dX7_addCrate_8 : decode cX7_addCrate 8 = .ok (.iload_n 1, 1) := by decide +kernel
theorem dX7_addCrate_9 : decode cX7_addCrate 9 = .ok (.invokevirtual 57, 3) := by decide +kernel
theorem dX7_addCrate_12 : decode cX7_addCrate 12 = .ok (.aload_n 0, 1) := by decide +kernel
theorem dX7_addCrate_13 : decode cX7_addCrate 13 = .ok (.dup, 1) := by decide +kernel
theorem dX7_addCrate_14 : decode cX7_addCrate 14 = .ok (.getfield 38, 3) := by decide +kernel
theorem dX7_addCrate_17 : decode cX7_addCrate 17 = .ok (.iconst 1, 1) := by decide +kernel
theorem dX7_addCrate_18 : decode cX7_addCrate 18 = .ok (.iadd, 1) := by decide +kernel
theorem dX7_addCrate_19 : decode cX7_addCrate 19 = .ok (.putfield 38, 3) := by decide +kernel
theorem dX7_addCrate_22 : decode cX7_addCrate 22 = .ok (.return_, 1) := by decide +kernel
theorem dX7_addSleeve_0 : decode cX7_addSleeve 0 = .ok (.aload_n 0, 1) := by decide +kernel
theorem dX7_addSleeve_1 : decode cX7_addSleeve 1 = .ok (.getfield 42, 3) := by decide +kernel
theorem dX7_addSleeve_4 : decode cX7_addSleeve 4 = .ok (.iconst 4, 1) := by decide +kernel
theorem dX7_addSleeve_5 : decode cX7_addSleeve 5 = .ok (.imul, 1) := by decide +kernel
theorem dX7_addSleeve_6 : decode cX7_addSleeve 6 = .ok (.istore 4, 2) := by decide +kernel
theorem dX7_addSleeve_8 : decode cX7_addSleeve 8 = .ok (.aload_n 0, 1) := by decide +kernel
theorem dX7_addSleeve_9 : decode cX7_addSleeve 9 = .ok (.iload_n 1, 1) := by decide +kernel
theorem dX7_addSleeve_10 : decode cX7_addSleeve 10 = .ok (.invokevirtual 69, 3) := by decide +kernel
theorem dX7_addSleeve_13 : decode cX7_addSleeve 13 = .ok (.istore 5, 2) := by decide +kernel
theorem dX7_addSleeve_15 : decode cX7_addSleeve 15 = .ok (.aload_n 0, 1) := by decide +kernel
theorem dX7_addSleeve_16 : decode cX7_addSleeve 16 = .ok (.getfield 20, 3) := by decide +kernel
theorem dX7_addSleeve_19 : decode cX7_addSleeve 19 = .ok (.iload 4, 2) := by decide +kernel
theorem dX7_addSleeve_21 : decode cX7_addSleeve 21 = .ok (.iconst 0, 1) := by decide +kernel
theorem dX7_addSleeve_22 : decode cX7_addSleeve 22 = .ok (.iadd, 1) := by decide +kernel
theorem dX7_addSleeve_23 : decode cX7_addSleeve 23 = .ok (.iload_n 1, 1) := by decide +kernel
theorem dX7_addSleeve_24 : decode cX7_addSleeve 24 = .ok (.invokevirtual 57, 3) := by decide +kernel
theorem dX7_addSleeve_27 : decode cX7_addSleeve 27 = .ok (.aload_n 0, 1) := by decide +kernel
theorem dX7_addSleeve_28 : decode cX7_addSleeve 28 = .ok (.getfield 20, 3) := by decide +kernel
theorem dX7_addSleeve_31 : decode cX7_addSleeve 31 = .ok (.iload 4, 2) := by decide +kernel
theorem dX7_addSleeve_33 : decode cX7_addSleeve 33 = .ok (.iconst 1, 1) := by decide +kernel
theorem dX7_addSleeve_34 : decode cX7_addSleeve 34 = .ok (.iadd, 1) := by decide +kernel
theorem dX7_addSleeve_35 : decode cX7_addSleeve 35 = .ok (.iload_n 2, 1) := by decide +kernel
theorem dX7_addSleeve_36 : decode cX7_addSleeve 36 = .ok (.invokevirtual 57, 3) := by decide +kernel
theorem dX7_addSleeve_39 : decode cX7_addSleeve 39 = .ok (.aload_n 0, 1) := by decide +kernel
theorem dX7_addSleeve_40 : decode cX7_addSleeve 40 = .ok (.getfield 20, 3) := by decide +kernel
theorem dX7_addSleeve_43 : decode cX7_addSleeve 43 = .ok (.iload 4, 2) := by decide +kernel
theorem dX7_addSleeve_45 : decode cX7_addSleeve 45 = .ok (.iconst 2, 1) := by decide +kernel
theorem dX7_addSleeve_46 : decode cX7_addSleeve 46 = .ok (.iadd, 1) := by decide +kernel
theorem dX7_addSleeve_47 : decode cX7_addSleeve 47 = .ok (.iload_n 3, 1) := by decide +kernel
theorem dX7_addSleeve_48 : decode cX7_addSleeve 48 = .ok (.invokevirtual 57, 3) := by decide +kernel
theorem dX7_addSleeve_51 : decode cX7_addSleeve 51 = .ok (.aload_n 0, 1) := by decide +kernel
theorem dX7_addSleeve_52 : decode cX7_addSleeve 52 = .ok (.getfield 20, 3) := by decide +kernel
theorem dX7_addSleeve_55 : decode cX7_addSleeve 55 = .ok (.iload 4, 2) := by decide +kernel
theorem dX7_addSleeve_57 : decode cX7_addSleeve 57 = .ok (.iconst 3, 1) := by decide +kernel
theorem dX7_addSleeve_58 : decode cX7_addSleeve 58 = .ok (.iadd, 1) := by decide +kernel
theorem dX7_addSleeve_59 : decode cX7_addSleeve 59 = .ok (.iload 5, 2) := by decide +kernel
theorem dX7_addSleeve_61 : decode cX7_addSleeve 61 = .ok (.invokevirtual 57, 3) := by decide +kernel
theorem dX7_addSleeve_64 : decode cX7_addSleeve 64 = .ok (.aload_n 0, 1) := by decide +kernel
theorem dX7_addSleeve_65 : decode cX7_addSleeve 65 = .ok (.getfield 23, 3) := by decide +kernel
theorem dX7_addSleeve_68 : decode cX7_addSleeve 68 = .ok (.aload_n 0, 1) := by decide +kernel
theorem dX7_addSleeve_69 : decode cX7_addSleeve 69 = .ok (.getfield 42, 3) := by decide +kernel
theorem dX7_addSleeve_72 : decode cX7_addSleeve 72 = .ok (.iload 5, 2) := by decide +kernel
theorem dX7_addSleeve_74 : decode cX7_addSleeve 74 = .ok (.invokevirtual 57, 3) := by decide +kernel
theorem dX7_addSleeve_77 : decode cX7_addSleeve 77 = .ok (.aload_n 0, 1) := by decide +kernel
theorem dX7_addSleeve_78 : decode cX7_addSleeve 78 = .ok (.dup, 1) := by decide +kernel
theorem dX7_addSleeve_79 : decode cX7_addSleeve 79 = .ok (.getfield 42, 3) := by decide +kernel
theorem dX7_addSleeve_82 : decode cX7_addSleeve 82 = .ok (.iconst 1, 1) := by decide +kernel
theorem dX7_addSleeve_83 : decode cX7_addSleeve 83 = .ok (.iadd, 1) := by decide +kernel
theorem dX7_addSleeve_84 : decode cX7_addSleeve 84 = .ok (.putfield 42, 3) := by decide +kernel
theorem dX7_addSleeve_87 : decode cX7_addSleeve 87 = .ok (.return_, 1) := by decide +kernel
theorem dX7_ownCrate_0 : decode cX7_ownCrate 0 = .ok (.iconst 0, 1) := by decide +kernel
theorem dX7_ownCrate_1 : decode cX7_ownCrate 1 = .ok (.istore_n 2, 1) := by decide +kernel
theorem dX7_ownCrate_2 : decode cX7_ownCrate 2 = .ok (.iconst 1, 1) := by decide +kernel
theorem dX7_ownCrate_3 : decode cX7_ownCrate 3 = .ok (.istore_n 3, 1) := by decide +kernel
theorem dX7_ownCrate_4 : decode cX7_ownCrate 4 = .ok (.iload_n 3, 1) := by decide +kernel
theorem dX7_ownCrate_5 : decode cX7_ownCrate 5 = .ok (.aload_n 0, 1) := by decide +kernel
theorem dX7_ownCrate_6 : decode cX7_ownCrate 6 = .ok (.getfield 38, 3) := by decide +kernel
theorem dX7_ownCrate_9 : decode cX7_ownCrate 9 = .ok (.if_icmp .ge 23, 3) := by decide +kernel
theorem dX7_ownCrate_12 : decode cX7_ownCrate 12 = .ok (.aload_n 0, 1) := by decide +kernel
theorem dX7_ownCrate_13 : decode cX7_ownCrate 13 = .ok (.getfield 14, 3) := by decide +kernel
theorem dX7_ownCrate_16 : decode cX7_ownCrate 16 = .ok (.iload_n 3, 1) := by decide +kernel
theorem dX7_ownCrate_17 : decode cX7_ownCrate 17 = .ok (.invokevirtual 65, 3) := by decide +kernel
theorem dX7_ownCrate_20 : decode cX7_ownCrate 20 = .ok (.iload_n 1, 1) := by decide +kernel
theorem dX7_ownCrate_21 : decode cX7_ownCrate 21 = .ok (.if_icmp .gt 5, 3) := by decide +kernel
theorem dX7_ownCrate_24 : decode cX7_ownCrate 24 = .ok (.iload_n 3, 1) := by decide +kernel
theorem dX7_ownCrate_25 : decode cX7_ownCrate 25 = .ok (.istore_n 2, 1) := by decide +kernel
theorem dX7_ownCrate_26 : decode cX7_ownCrate 26 = .ok (.iinc 3 1, 3) := by decide +kernel
theorem dX7_ownCrate_29 : decode cX7_ownCrate 29 = .ok (.goto (-25), 3) := by decide +kernel
theorem dX7_ownCrate_32 : decode cX7_ownCrate 32 = .ok (.iload_n 2, 1) := by decide +kernel
theorem dX7_ownCrate_33 : decode cX7_ownCrate 33 = .ok (.ireturn, 1) := by decide +kernel
theorem dX7_addLooker_0 : decode cX7_addLooker 0 = .ok (.aload_n 0, 1) := by decide +kernel
theorem dX7_addLooker_1 : decode cX7_addLooker 1 = .ok (.getfield 45, 3) := by decide +kernel
theorem dX7_addLooker_4 : decode cX7_addLooker 4 = .ok (.bipush 6, 2) := by decide +kernel
theorem dX7_addLooker_6 : decode cX7_addLooker 6 = .ok (.imul, 1) := by decide +kernel
theorem dX7_addLooker_7 : decode cX7_addLooker 7 = .ok (.istore 6, 2) := by decide +kernel
theorem dX7_addLooker_9 : decode cX7_addLooker 9 = .ok (.aload_n 0, 1) := by decide +kernel
theorem dX7_addLooker_10 : decode cX7_addLooker 10 = .ok (.getfield 29, 3) := by decide +kernel
theorem dX7_addLooker_13 : decode cX7_addLooker 13 = .ok (.iload 6, 2) := by decide +kernel
theorem dX7_addLooker_15 : decode cX7_addLooker 15 = .ok (.iconst 0, 1) := by decide +kernel
theorem dX7_addLooker_16 : decode cX7_addLooker 16 = .ok (.iadd, 1) := by decide +kernel
theorem dX7_addLooker_17 : decode cX7_addLooker 17 = .ok (.iload_n 1, 1) := by decide +kernel
theorem dX7_addLooker_18 : decode cX7_addLooker 18 = .ok (.invokevirtual 57, 3) := by decide +kernel
theorem dX7_addLooker_21 : decode cX7_addLooker 21 = .ok (.aload_n 0, 1) := by decide +kernel
theorem dX7_addLooker_22 : decode cX7_addLooker 22 = .ok (.getfield 29, 3) := by decide +kernel
theorem dX7_addLooker_25 : decode cX7_addLooker 25 = .ok (.iload 6, 2) := by decide +kernel
theorem dX7_addLooker_27 : decode cX7_addLooker 27 = .ok (.iconst 1, 1) := by decide +kernel
theorem dX7_addLooker_28 : decode cX7_addLooker 28 = .ok (.iadd, 1) := by decide +kernel
theorem dX7_addLooker_29 : decode cX7_addLooker 29 = .ok (.iload_n 2, 1) := by decide +kernel
theorem dX7_addLooker_30 : decode cX7_addLooker 30 = .ok (.invokevirtual 57, 3) := by decide +kernel
theorem dX7_addLooker_33 : decode cX7_addLooker 33 = .ok (.aload_n 0, 1) := by decide +kernel
theorem dX7_addLooker_34 : decode cX7_addLooker 34 = .ok (.getfield 29, 3) := by decide +kernel
theorem dX7_addLooker_37 : decode cX7_addLooker 37 = .ok (.iload 6, 2) := by decide +kernel
theorem dX7_addLooker_39 : decode cX7_addLooker 39 = .ok (.iconst 2, 1) := by decide +kernel
theorem dX7_addLooker_40 : decode cX7_addLooker 40 = .ok (.iadd, 1) := by decide +kernel
theorem dX7_addLooker_41 : decode cX7_addLooker 41 = .ok (.iload_n 3, 1) := by decide +kernel
theorem dX7_addLooker_42 : decode cX7_addLooker 42 = .ok (.invokevirtual 57, 3) := by decide +kernel
theorem dX7_addLooker_45 : decode cX7_addLooker 45 = .ok (.aload_n 0, 1) := by decide +kernel
theorem dX7_addLooker_46 : decode cX7_addLooker 46 = .ok (.getfield 29, 3) := by decide +kernel
theorem dX7_addLooker_49 : decode cX7_addLooker 49 = .ok (.iload 6, 2) := by decide +kernel
theorem dX7_addLooker_51 : decode cX7_addLooker 51 = .ok (.iconst 3, 1) := by decide +kernel
theorem dX7_addLooker_52 : decode cX7_addLooker 52 = .ok (.iadd, 1) := by decide +kernel
theorem dX7_addLooker_53 : decode cX7_addLooker 53 = .ok (.iload 4, 2) := by decide +kernel
theorem dX7_addLooker_55 : decode cX7_addLooker 55 = .ok (.invokevirtual 57, 3) := by decide +kernel
theorem dX7_addLooker_58 : decode cX7_addLooker 58 = .ok (.aload_n 0, 1) := by decide +kernel
theorem dX7_addLooker_59 : decode cX7_addLooker 59 = .ok (.getfield 29, 3) := by decide +kernel
theorem dX7_addLooker_62 : decode cX7_addLooker 62 = .ok (.iload 6, 2) := by decide +kernel
theorem dX7_addLooker_64 : decode cX7_addLooker 64 = .ok (.iconst 4, 1) := by decide +kernel
theorem dX7_addLooker_65 : decode cX7_addLooker 65 = .ok (.iadd, 1) := by decide +kernel
theorem dX7_addLooker_66 : decode cX7_addLooker 66 = .ok (.iload 5, 2) := by decide +kernel
theorem dX7_addLooker_68 : decode cX7_addLooker 68 = .ok (.invokevirtual 57, 3) := by decide +kernel
theorem dX7_addLooker_71 : decode cX7_addLooker 71 = .ok (.aload_n 0, 1) := by decide +kernel
theorem dX7_addLooker_72 : decode cX7_addLooker 72 = .ok (.dup, 1) := by decide +kernel
theorem dX7_addLooker_73 : decode cX7_addLooker 73 = .ok (.getfield 45, 3) := by decide +kernel
theorem dX7_addLooker_76 : decode cX7_addLooker 76 = .ok (.iconst 1, 1) := by decide +kernel
theorem dX7_addLooker_77 : decode cX7_addLooker 77 = .ok (.iadd, 1) := by decide +kernel
theorem dX7_addLooker_78 : decode cX7_addLooker 78 = .ok (.putfield 45, 3) := by decide +kernel
theorem dX7_addLooker_81 : decode cX7_addLooker 81 = .ok (.return_, 1) := by decide +kernel
theorem dX7_turnLeft_0 : decode cX7_turnLeft 0 = .ok (.aload_n 0, 1) := by decide +kernel
theorem dX7_turnLeft_1 : decode cX7_turnLeft 1 = .ok (.getfield 29, 3) := by decide +kernel
theorem dX7_turnLeft_4 : decode cX7_turnLeft 4 = .ok (.iload_n 1, 1) := by decide +kernel
theorem dX7_turnLeft_5 : decode cX7_turnLeft 5 = .ok (.bipush 6, 2) := by decide +kernel
theorem dX7_turnLeft_7 : decode cX7_turnLeft 7 = .ok (.imul, 1) := by decide +kernel
theorem dX7_turnLeft_8 : decode cX7_turnLeft 8 = .ok (.iconst 5, 1) := by decide +kernel
theorem dX7_turnLeft_9 : decode cX7_turnLeft 9 = .ok (.iadd, 1) := by decide +kernel
theorem dX7_turnLeft_10 : decode cX7_turnLeft 10 = .ok (.iconst 1, 1) := by decide +kernel
theorem dX7_turnLeft_11 : decode cX7_turnLeft 11 = .ok (.invokevirtual 57, 3) := by decide +kernel
theorem dX7_turnLeft_14 : decode cX7_turnLeft 14 = .ok (.return_, 1) := by decide +kernel
theorem dX7_leftBits_0 : decode cX7_leftBits 0 = .ok (.iconst 0, 1) := by decide +kernel
theorem dX7_leftBits_1 : decode cX7_leftBits 1 = .ok (.istore_n 1, 1) := by decide +kernel
theorem dX7_leftBits_2 : decode cX7_leftBits 2 = .ok (.iconst 0, 1) := by decide +kernel
theorem dX7_leftBits_3 : decode cX7_leftBits 3 = .ok (.istore_n 2, 1) := by decide +kernel
theorem dX7_leftBits_4 : decode cX7_leftBits 4 = .ok (.iload_n 2, 1) := by decide +kernel
theorem dX7_leftBits_5 : decode cX7_leftBits 5 = .ok (.aload_n 0, 1) := by decide +kernel
theorem dX7_leftBits_6 : decode cX7_leftBits 6 = .ok (.getfield 45, 3) := by decide +kernel
theorem dX7_leftBits_9 : decode cX7_leftBits 9 = .ok (.if_icmp .ge 20, 3) := by decide +kernel
theorem dX7_leftBits_12 : decode cX7_leftBits 12 = .ok (.iload_n 1, 1) := by decide +kernel
theorem dX7_leftBits_13 : decode cX7_leftBits 13 = .ok (.aload_n 0, 1) := by decide +kernel
theorem dX7_leftBits_14 : decode cX7_leftBits 14 = .ok (.iload_n 2, 1) := by decide +kernel
theorem dX7_leftBits_15 : decode cX7_leftBits 15 = .ok (.iconst 5, 1) := by decide +kernel
theorem dX7_leftBits_16 : decode cX7_leftBits 16 = .ok (.invokevirtual 72, 3) := by decide +kernel
theorem dX7_leftBits_19 : decode cX7_leftBits 19 = .ok (.iload_n 2, 1) := by decide +kernel
theorem dX7_leftBits_20 : decode cX7_leftBits 20 = .ok (.ishl, 1) := by decide +kernel
theorem dX7_leftBits_21 : decode cX7_leftBits 21 = .ok (.ior, 1) := by decide +kernel
theorem dX7_leftBits_22 : decode cX7_leftBits 22 = .ok (.istore_n 1, 1) := by decide +kernel
theorem dX7_leftBits_23 : decode cX7_leftBits 23 = .ok (.iinc 2 1, 3) := by decide +kernel
theorem dX7_leftBits_26 : decode cX7_leftBits 26 = .ok (.goto (-22), 3) := by decide +kernel
theorem dX7_leftBits_29 : decode cX7_leftBits 29 = .ok (.iload_n 1, 1) := by decide +kernel
theorem dX7_leftBits_30 : decode cX7_leftBits 30 = .ok (.ireturn, 1) := by decide +kernel
theorem dX8_init_0 : decode cX8_init 0 = .ok (.aload_n 0, 1) := by decide +kernel
theorem dX8_init_1 : decode cX8_init 1 = .ok (.invokespecial 3, 3) := by decide +kernel
theorem dX8_init_4 : decode cX8_init 4 = .ok (.aload_n 0, 1) := by decide +kernel
theorem dX8_init_5 : decode cX8_init 5 = .ok (.lconst 1, 1) := by decide +kernel
theorem dX8_init_6 : decode cX8_init 6 = .ok (.putfield 9, 3) := by decide +kernel
theorem dX8_init_9 : decode cX8_init 9 = .ok (.aload_n 0, 1) := by decide +kernel
theorem dX8_init_10 : decode cX8_init 10 = .ok (.new 15, 3) := by decide +kernel
theorem dX8_init_13 : decode cX8_init 13 = .ok (.dup, 1) := by decide +kernel
theorem dX8_init_14 : decode cX8_init 14 = .ok (.bipush 8, 2) := by decide +kernel
theorem dX8_init_16 : decode cX8_init 16 = .ok (.invokespecial 17, 3) := by decide +kernel
theorem dX8_init_19 : decode cX8_init 19 = .ok (.putfield 20, 3) := by decide +kernel
theorem dX8_init_22 : decode cX8_init 22 = .ok (.aload_n 0, 1) := by decide +kernel
theorem dX8_init_23 : decode cX8_init 23 = .ok (.bipush 8, 2) := by decide +kernel
theorem dX8_init_25 : decode cX8_init 25 = .ok (.newarray .long, 2) := by decide +kernel
theorem dX8_init_27 : decode cX8_init 27 = .ok (.putfield 24, 3) := by decide +kernel
theorem dX8_init_30 : decode cX8_init 30 = .ok (.aload_n 0, 1) := by decide +kernel
theorem dX8_init_31 : decode cX8_init 31 = .ok (.bipush 8, 2) := by decide +kernel
theorem dX8_init_33 : decode cX8_init 33 = .ok (.newarray .long, 2) := by decide +kernel
theorem dX8_init_35 : decode cX8_init 35 = .ok (.putfield 28, 3) := by decide +kernel
theorem dX8_init_38 : decode cX8_init 38 = .ok (.aload_n 0, 1) := by decide +kernel
theorem dX8_init_39 : decode cX8_init 39 = .ok (.aload_n 1, 1) := by decide +kernel
theorem dX8_init_40 : decode cX8_init 40 = .ok (.putfield 31, 3) := by decide +kernel
theorem dX8_init_43 : decode cX8_init 43 = .ok (.aload_n 0, 1) := by decide +kernel
theorem dX8_init_44 : decode cX8_init 44 = .ok (.aload_n 2, 1) := by decide +kernel
theorem dX8_init_45 : decode cX8_init 45 = .ok (.putfield 35, 3) := by decide +kernel
theorem dX8_init_48 : decode cX8_init 48 = .ok (.return_, 1) := by decide +kernel
theorem dX8_share_0 : decode cX8_share 0 = .ok (.iload_n 1, 1) := by decide +kernel
theorem dX8_share_1 : decode cX8_share 1 = .ok (.ifCond .lt 21, 3) := by decide +kernel
theorem dX8_share_4 : decode cX8_share 4 = .ok (.iload_n 1, 1) := by decide +kernel
theorem dX8_share_5 : decode cX8_share 5 = .ok (.aload_n 0, 1) := by decide +kernel
theorem dX8_share_6 : decode cX8_share 6 = .ok (.getfield 24, 3) := by decide +kernel
theorem dX8_share_9 : decode cX8_share 9 = .ok (.arraylength, 1) := by decide +kernel
theorem dX8_share_10 : decode cX8_share 10 = .ok (.if_icmp .ge 12, 3) := by decide +kernel
theorem dX8_share_13 : decode cX8_share 13 = .ok (.aload_n 0, 1) := by decide +kernel
theorem dX8_share_14 : decode cX8_share 14 = .ok (.getfield 24, 3) := by decide +kernel
theorem dX8_share_17 : decode cX8_share 17 = .ok (.iload_n 1, 1) := by decide +kernel
theorem dX8_share_18 : decode cX8_share 18 = .ok (.laload, 1) := by decide +kernel
theorem dX8_share_19 : decode cX8_share 19 = .ok (.goto 4, 3) := by decide +kernel
theorem dX8_share_22 : decode cX8_share 22 = .ok (.lconst 0, 1) := by decide +kernel
theorem dX8_share_23 : decode cX8_share 23 = .ok (.lreturn, 1) := by decide +kernel
theorem dX8_give_0 : decode cX8_give 0 = .ok (.iload_n 1, 1) := by decide +kernel
theorem dX8_give_1 : decode cX8_give 1 = .ok (.ifCond .lt 22, 3) := by decide +kernel
theorem dX8_give_4 : decode cX8_give 4 = .ok (.iload_n 1, 1) := by decide +kernel
theorem dX8_give_5 : decode cX8_give 5 = .ok (.aload_n 0, 1) := by decide +kernel
theorem dX8_give_6 : decode cX8_give 6 = .ok (.getfield 24, 3) := by decide +kernel
theorem dX8_give_9 : decode cX8_give 9 = .ok (.arraylength, 1) := by decide +kernel
theorem dX8_give_10 : decode cX8_give 10 = .ok (.if_icmp .ge 13, 3) := by decide +kernel
theorem dX8_give_13 : decode cX8_give 13 = .ok (.aload_n 0, 1) := by decide +kernel
theorem dX8_give_14 : decode cX8_give 14 = .ok (.getfield 24, 3) := by decide +kernel
theorem dX8_give_17 : decode cX8_give 17 = .ok (.iload_n 1, 1) := by decide +kernel
theorem dX8_give_18 : decode cX8_give 18 = .ok (.dup2, 1) := by decide +kernel
theorem dX8_give_19 : decode cX8_give 19 = .ok (.laload, 1) := by decide +kernel
theorem dX8_give_20 : decode cX8_give 20 = .ok (.lload_n 2, 1) := by decide +kernel
theorem dX8_give_21 : decode cX8_give 21 = .ok (.ladd, 1) := by decide +kernel
theorem dX8_give_22 : decode cX8_give 22 = .ok (.lastore, 1) := by decide +kernel
theorem dX8_give_23 : decode cX8_give 23 = .ok (.return_, 1) := by decide +kernel
theorem dX8_putBack_0 : decode cX8_putBack 0 = .ok (.aload_n 0, 1) := by decide +kernel
theorem dX8_putBack_1 : decode cX8_putBack 1 = .ok (.invokevirtual 39, 3) := by decide +kernel
theorem dX8_putBack_4 : decode cX8_putBack 4 = .ok (.aload_n 0, 1) := by decide +kernel
theorem dX8_putBack_5 : decode cX8_putBack 5 = .ok (.lconst 1, 1) := by decide +kernel
theorem dX8_putBack_6 : decode cX8_putBack 6 = .ok (.putfield 9, 3) := by decide +kernel
theorem dX8_putBack_9 : decode cX8_putBack 9 = .ok (.aload_n 0, 1) := by decide +kernel
theorem dX8_putBack_10 : decode cX8_putBack 10 = .ok (.aload_n 0, 1) := by decide +kernel
theorem dX8_putBack_11 : decode cX8_putBack 11 = .ok (.getfield 35, 3) := by decide +kernel
theorem dX8_putBack_14 : decode cX8_putBack 14 = .ok (.getfield 42, 3) := by decide +kernel
theorem dX8_putBack_17 : decode cX8_putBack 17 = .ok (.iload_n 1, 1) := by decide +kernel
theorem dX8_putBack_18 : decode cX8_putBack 18 = .ok (.invokevirtual 47, 3) := by decide +kernel
theorem dX8_putBack_21 : decode cX8_putBack 21 = .ok (.lconst 1, 1) := by decide +kernel
theorem dX8_putBack_22 : decode cX8_putBack 22 = .ok (.invokevirtual 51, 3) := by decide +kernel
theorem dX8_putBack_25 : decode cX8_putBack 25 = .ok (.iconst 0, 1) := by decide +kernel
theorem dX8_putBack_26 : decode cX8_putBack 26 = .ok (.istore_n 3, 1) := by decide +kernel
theorem dX8_putBack_27 : decode cX8_putBack 27 = .ok (.iload_n 3, 1) := by decide +kernel
theorem dX8_putBack_28 : decode cX8_putBack 28 = .ok (.iload_n 2, 1) := by decide +kernel
theorem dX8_putBack_29 : decode cX8_putBack 29 = .ok (.if_icmp .ge 22, 3) := by decide +kernel
theorem dX8_putBack_32 : decode cX8_putBack 32 = .ok (.aload_n 0, 1) := by decide +kernel
theorem dX8_putBack_33 : decode cX8_putBack 33 = .ok (.aload_n 0, 1) := by decide +kernel
theorem dX8_putBack_34 : decode cX8_putBack 34 = .ok (.getfield 31, 3) := by decide +kernel
theorem dX8_putBack_37 : decode cX8_putBack 37 = .ok (.iload_n 1, 1) := by decide +kernel
theorem dX8_putBack_38 : decode cX8_putBack 38 = .ok (.iconst 3, 1) := by decide +kernel
theorem dX8_putBack_39 : decode cX8_putBack 39 = .ok (.invokevirtual 55, 3) := by decide +kernel
theorem dX8_putBack_42 : decode cX8_putBack 42 = .ok (.invokevirtual 61, 3) := by decide +kernel
theorem dX8_putBack_45 : decode cX8_putBack 45 = .ok (.iinc 3 1, 3) := by decide +kernel
theorem dX8_putBack_48 : decode cX8_putBack 48 = .ok (.goto (-21), 3) := by decide +kernel
theorem dX8_putBack_51 : decode cX8_putBack 51 = .ok (.return_, 1) := by decide +kernel
theorem dX8_clearShares_0 : decode cX8_clearShares 0 = .ok (.iconst 0, 1) := by decide +kernel
theorem dX8_clearShares_1 : decode cX8_clearShares 1 = .ok (.istore_n 1, 1) := by decide +kernel
theorem dX8_clearShares_2 : decode cX8_clearShares 2 = .ok (.iload_n 1, 1) := by decide +kernel
theorem dX8_clearShares_3 : decode cX8_clearShares 3 = .ok (.aload_n 0, 1) := by decide +kernel
theorem dX8_clearShares_4 : decode cX8_clearShares 4 = .ok (.getfield 24, 3) := by decide +kernel
theorem dX8_clearShares_7 : decode cX8_clearShares 7 = .ok (.arraylength, 1) := by decide +kernel
theorem dX8_clearShares_8 : decode cX8_clearShares 8 = .ok (.if_icmp .ge 16, 3) := by decide +kernel
theorem dX8_clearShares_11 : decode cX8_clearShares 11 = .ok (.aload_n 0, 1) := by decide +kernel
theorem dX8_clearShares_12 : decode cX8_clearShares 12 = .ok (.getfield 24, 3) := by decide +kernel
theorem dX8_clearShares_15 : decode cX8_clearShares 15 = .ok (.iload_n 1, 1) := by decide +kernel
theorem dX8_clearShares_16 : decode cX8_clearShares 16 = .ok (.lconst 0, 1) := by decide +kernel
theorem dX8_clearShares_17 : decode cX8_clearShares 17 = .ok (.lastore, 1) := by decide +kernel
theorem dX8_clearShares_18 : decode cX8_clearShares 18 = .ok (.iinc 1 1, 3) := by decide +kernel
theorem dX8_clearShares_21 : decode cX8_clearShares 21 = .ok (.goto (-19), 3) := by decide +kernel
theorem dX8_clearShares_24 : decode cX8_clearShares 24 = .ok (.return_, 1) := by decide +kernel
theorem dX8_putBackOnce_0 : decode cX8_putBackOnce 0 = .ok (.iconst 0, 1) := by decide +kernel
theorem dX8_putBackOnce_1 : decode cX8_putBackOnce 1 = .ok (.istore_n 2, 1) := by decide +kernel
theorem dX8_putBackOnce_2 : decode cX8_putBackOnce 2 = .ok (.iload_n 2, 1) := by decide +kernel
theorem dX8_putBackOnce_3 : decode cX8_putBackOnce 3 = .ok (.aload_n 0, 1) := by decide +kernel
theorem dX8_putBackOnce_4 : decode cX8_putBackOnce 4 = .ok (.getfield 28, 3) := by decide +kernel
theorem dX8_putBackOnce_7 : decode cX8_putBackOnce 7 = .ok (.arraylength, 1) := by decide +kernel
theorem dX8_putBackOnce_8 : decode cX8_putBackOnce 8 = .ok (.if_icmp .ge 20, 3) := by decide +kernel
theorem dX8_putBackOnce_11 : decode cX8_putBackOnce 11 = .ok (.aload_n 0, 1) := by decide +kernel
theorem dX8_putBackOnce_12 : decode cX8_putBackOnce 12 = .ok (.getfield 28, 3) := by decide +kernel
theorem dX8_putBackOnce_15 : decode cX8_putBackOnce 15 = .ok (.iload_n 2, 1) := by decide +kernel
theorem dX8_putBackOnce_16 : decode cX8_putBackOnce 16 = .ok (.aload_n 0, 1) := by decide +kernel
theorem dX8_putBackOnce_17 : decode cX8_putBackOnce 17 = .ok (.iload_n 2, 1) := by decide +kernel
theorem dX8_putBackOnce_18 : decode cX8_putBackOnce 18 = .ok (.invokevirtual 64, 3) := by decide +kernel
theorem dX8_putBackOnce_21 : decode cX8_putBackOnce 21 = .ok (.lastore, 1) := by decide +kernel
theorem dX8_putBackOnce_22 : decode cX8_putBackOnce 22 = .ok (.iinc 2 1, 3) := by decide +kernel
theorem dX8_putBackOnce_25 : decode cX8_putBackOnce 25 = .ok (.goto (-23), 3) := by decide +kernel
theorem dX8_putBackOnce_28 : decode cX8_putBackOnce 28 = .ok (.aload_n 0, 1) := by decide +kernel
theorem dX8_putBackOnce_29 : decode cX8_putBackOnce 29 = .ok (.invokevirtual 39, 3) := by decide +kernel
theorem dX8_putBackOnce_32 : decode cX8_putBackOnce 32 = .ok (.iconst 0, 1) := by decide +kernel
theorem dX8_putBackOnce_33 : decode cX8_putBackOnce 33 = .ok (.istore_n 2, 1) := by decide +kernel
theorem dX8_putBackOnce_34 : decode cX8_putBackOnce 34 = .ok (.iload_n 2, 1) := by decide +kernel
theorem dX8_putBackOnce_35 : decode cX8_putBackOnce 35 = .ok (.aload_n 0, 1) := by decide +kernel
theorem dX8_putBackOnce_36 : decode cX8_putBackOnce 36 = .ok (.getfield 28, 3) := by decide +kernel
theorem dX8_putBackOnce_39 : decode cX8_putBackOnce 39 = .ok (.arraylength, 1) := by decide +kernel
theorem dX8_putBackOnce_40 : decode cX8_putBackOnce 40 = .ok (.if_icmp .ge 32, 3) := by decide +kernel
theorem dX8_putBackOnce_43 : decode cX8_putBackOnce 43 = .ok (.aload_n 0, 1) := by decide +kernel
theorem dX8_putBackOnce_44 : decode cX8_putBackOnce 44 = .ok (.getfield 28, 3) := by decide +kernel
theorem dX8_putBackOnce_47 : decode cX8_putBackOnce 47 = .ok (.iload_n 2, 1) := by decide +kernel
theorem dX8_putBackOnce_48 : decode cX8_putBackOnce 48 = .ok (.laload, 1) := by decide +kernel
theorem dX8_putBackOnce_49 : decode cX8_putBackOnce 49 = .ok (.lconst 0, 1) := by decide +kernel
theorem dX8_putBackOnce_50 : decode cX8_putBackOnce 50 = .ok (.lcmp, 1) := by decide +kernel
theorem dX8_putBackOnce_51 : decode cX8_putBackOnce 51 = .ok (.ifCond .eq 15, 3) := by decide +kernel
theorem dX8_putBackOnce_54 : decode cX8_putBackOnce 54 = .ok (.aload_n 0, 1) := by decide +kernel
theorem dX8_putBackOnce_55 : decode cX8_putBackOnce 55 = .ok (.iload_n 2, 1) := by decide +kernel
theorem dX8_putBackOnce_56 : decode cX8_putBackOnce 56 = .ok (.iload_n 1, 1) := by decide +kernel
theorem dX8_putBackOnce_57 : decode cX8_putBackOnce 57 = .ok (.aload_n 0, 1) := by decide +kernel
theorem dX8_putBackOnce_58 : decode cX8_putBackOnce 58 = .ok (.getfield 28, 3) := by decide +kernel
theorem dX8_putBackOnce_61 : decode cX8_putBackOnce 61 = .ok (.iload_n 2, 1) := by decide +kernel
theorem dX8_putBackOnce_62 : decode cX8_putBackOnce 62 = .ok (.laload, 1) := by decide +kernel
theorem dX8_putBackOnce_63 : decode cX8_putBackOnce 63 = .ok (.invokevirtual 68, 3) := by decide +kernel
theorem dX8_putBackOnce_66 : decode cX8_putBackOnce 66 = .ok (.iinc 2 1, 3) := by decide +kernel
theorem dX8_putBackOnce_69 : decode cX8_putBackOnce 69 = .ok (.goto (-35), 3) := by decide +kernel
theorem dX8_putBackOnce_72 : decode cX8_putBackOnce 72 = .ok (.aload_n 0, 1) := by decide +kernel
theorem dX8_putBackOnce_73 : decode cX8_putBackOnce 73 = .ok (.dup, 1) := by decide +kernel
theorem dX8_putBackOnce_74 : decode cX8_putBackOnce 74 = .ok (.getfield 9, 3) := by decide +kernel
theorem dX8_putBackOnce_77 : decode cX8_putBackOnce 77 = .ok (.ldc2_w 72, 3) := by decide +kernel
theorem dX8_putBackOnce_80 : decode cX8_putBackOnce 80 = .ok (.aload_n 0, 1) := by decide +kernel
theorem dX8_putBackOnce_81 : decode cX8_putBackOnce 81 = .ok (.getfield 31, 3) := by decide +kernel
theorem dX8_putBackOnce_84 : decode cX8_putBackOnce 84 = .ok (.getfield 74, 3) := by decide +kernel
theorem dX8_putBackOnce_87 : decode cX8_putBackOnce 87 = .ok (.i2l, 1) := by decide +kernel
theorem dX8_putBackOnce_88 : decode cX8_putBackOnce 88 = .ok (.lmul, 1) := by decide +kernel
theorem dX8_putBackOnce_89 : decode cX8_putBackOnce 89 = .ok (.aload_n 0, 1) := by decide +kernel
theorem dX8_putBackOnce_90 : decode cX8_putBackOnce 90 = .ok (.getfield 31, 3) := by decide +kernel
theorem dX8_putBackOnce_93 : decode cX8_putBackOnce 93 = .ok (.getfield 78, 3) := by decide +kernel
theorem dX8_putBackOnce_96 : decode cX8_putBackOnce 96 = .ok (.invokevirtual 81, 3) := by decide +kernel
theorem dX8_putBackOnce_99 : decode cX8_putBackOnce 99 = .ok (.i2l, 1) := by decide +kernel
theorem dX8_putBackOnce_100 : decode cX8_putBackOnce 100 = .ok (.lmul, 1) := by decide +kernel
theorem dX8_putBackOnce_101 : decode cX8_putBackOnce 101 = .ok (.lmul, 1) := by decide +kernel
theorem dX8_putBackOnce_102 : decode cX8_putBackOnce 102 = .ok (.putfield 9, 3) := by decide +kernel
theorem dX8_putBackOnce_105 : decode cX8_putBackOnce 105 = .ok (.return_, 1) := by decide +kernel
theorem dX8_handOn_0 : decode cX8_handOn 0 = .ok (.lload_n 3, 1) := by decide +kernel
theorem dX8_handOn_1 : decode cX8_handOn 1 = .ok (.aload_n 0, 1) := by decide +kernel
theorem dX8_handOn_2 : decode cX8_handOn 2 = .ok (.getfield 31, 3) := by decide +kernel
theorem dX8_handOn_5 : decode cX8_handOn 5 = .ok (.getfield 74, 3) := by decide +kernel
theorem dX8_handOn_8 : decode cX8_handOn 8 = .ok (.i2l, 1) := by decide +kernel
theorem dX8_handOn_9 : decode cX8_handOn 9 = .ok (.lmul, 1) := by decide +kernel
theorem dX8_handOn_10 : decode cX8_handOn 10 = .ok (.lstore 5, 2) := by decide +kernel
theorem dX8_handOn_12 : decode cX8_handOn 12 = .ok (.aload_n 0, 1) := by decide +kernel
theorem dX8_handOn_13 : decode cX8_handOn 13 = .ok (.iload_n 2, 1) := by decide +kernel
theorem dX8_handOn_14 : decode cX8_handOn 14 = .ok (.ldc2_w 72, 3) := by decide +kernel
theorem dX8_handOn_17 : decode cX8_handOn 17 = .ok (.lload 5, 2) := by decide +kernel
theorem dX8_handOn_19 : decode cX8_handOn 19 = .ok (.lmul, 1) := by decide +kernel
theorem dX8_handOn_20 : decode cX8_handOn 20 = .ok (.aload_n 0, 1) := by decide +kernel
theorem dX8_handOn_21 : decode cX8_handOn 21 = .ok (.getfield 31, 3) := by decide +kernel
theorem dX8_handOn_24 : decode cX8_handOn 24 = .ok (.getfield 78, 3) := by decide +kernel
theorem dX8_handOn_27 : decode cX8_handOn 27 = .ok (.iconst 0, 1) := by decide +kernel
theorem dX8_handOn_28 : decode cX8_handOn 28 = .ok (.invokevirtual 47, 3) := by decide +kernel
theorem dX8_handOn_31 : decode cX8_handOn 31 = .ok (.i2l, 1) := by decide +kernel
theorem dX8_handOn_32 : decode cX8_handOn 32 = .ok (.lmul, 1) := by decide +kernel
theorem dX8_handOn_33 : decode cX8_handOn 33 = .ok (.invokevirtual 51, 3) := by decide +kernel
theorem dX8_handOn_36 : decode cX8_handOn 36 = .ok (.aload_n 0, 1) := by decide +kernel
theorem dX8_handOn_37 : decode cX8_handOn 37 = .ok (.aload_n 0, 1) := by decide +kernel
theorem dX8_handOn_38 : decode cX8_handOn 38 = .ok (.iload_n 1, 1) := by decide +kernel
theorem dX8_handOn_39 : decode cX8_handOn 39 = .ok (.iconst (-1), 1) := by decide +kernel
theorem dX8_handOn_40 : decode cX8_handOn 40 = .ok (.invokevirtual 85, 3) := by decide +kernel
theorem dX8_handOn_43 : decode cX8_handOn 43 = .ok (.lload 5, 2) := by decide +kernel
theorem dX8_handOn_45 : decode cX8_handOn 45 = .ok (.aload_n 0, 1) := by decide +kernel
theorem dX8_handOn_46 : decode cX8_handOn 46 = .ok (.getfield 31, 3) := by decide +kernel
theorem dX8_handOn_49 : decode cX8_handOn 49 = .ok (.getfield 78, 3) := by decide +kernel
theorem dX8_handOn_52 : decode cX8_handOn 52 = .ok (.iconst 1, 1) := by decide +kernel
theorem dX8_handOn_53 : decode cX8_handOn 53 = .ok (.invokevirtual 47, 3) := by decide +kernel
theorem dX8_handOn_56 : decode cX8_handOn 56 = .ok (.i2l, 1) := by decide +kernel
theorem dX8_handOn_57 : decode cX8_handOn 57 = .ok (.lmul, 1) := by decide +kernel
theorem dX8_handOn_58 : decode cX8_handOn 58 = .ok (.invokevirtual 51, 3) := by decide +kernel
theorem dX8_handOn_61 : decode cX8_handOn 61 = .ok (.aload_n 0, 1) := by decide +kernel
theorem dX8_handOn_62 : decode cX8_handOn 62 = .ok (.aload_n 0, 1) := by decide +kernel
theorem dX8_handOn_63 : decode cX8_handOn 63 = .ok (.iload_n 1, 1) := by decide +kernel
theorem dX8_handOn_64 : decode cX8_handOn 64 = .ok (.iconst 1, 1) := by decide +kernel
theorem dX8_handOn_65 : decode cX8_handOn 65 = .ok (.invokevirtual 85, 3) := by decide +kernel
theorem dX8_handOn_68 : decode cX8_handOn 68 = .ok (.lload 5, 2) := by decide +kernel
theorem dX8_handOn_70 : decode cX8_handOn 70 = .ok (.aload_n 0, 1) := by decide +kernel
theorem dX8_handOn_71 : decode cX8_handOn 71 = .ok (.getfield 31, 3) := by decide +kernel
theorem dX8_handOn_74 : decode cX8_handOn 74 = .ok (.getfield 78, 3) := by decide +kernel
theorem dX8_handOn_77 : decode cX8_handOn 77 = .ok (.iconst 1, 1) := by decide +kernel
theorem dX8_handOn_78 : decode cX8_handOn 78 = .ok (.invokevirtual 47, 3) := by decide +kernel
theorem dX8_handOn_81 : decode cX8_handOn 81 = .ok (.i2l, 1) := by decide +kernel
theorem dX8_handOn_82 : decode cX8_handOn 82 = .ok (.lmul, 1) := by decide +kernel
theorem dX8_handOn_83 : decode cX8_handOn 83 = .ok (.invokevirtual 51, 3) := by decide +kernel
theorem dX8_handOn_86 : decode cX8_handOn 86 = .ok (.aload_n 0, 1) := by decide +kernel
theorem dX8_handOn_87 : decode cX8_handOn 87 = .ok (.iload_n 1, 1) := by decide +kernel
theorem dX8_handOn_88 : decode cX8_handOn 88 = .ok (.ldc2_w 72, 3) := by decide +kernel
theorem dX8_handOn_91 : decode cX8_handOn 91 = .ok (.lload 5, 2) := by decide +kernel
theorem dX8_handOn_93 : decode cX8_handOn 93 = .ok (.lmul, 1) := by decide +kernel
theorem dX8_handOn_94 : decode cX8_handOn 94 = .ok (.aload_n 0, 1) := by decide +kernel
theorem dX8_handOn_95 : decode cX8_handOn 95 = .ok (.getfield 31, 3) := by decide +kernel
theorem dX8_handOn_98 : decode cX8_handOn 98 = .ok (.getfield 78, 3) := by decide +kernel
theorem dX8_handOn_101 : decode cX8_handOn 101 = .ok (.iconst 2, 1) := by decide +kernel
theorem dX8_handOn_102 : decode cX8_handOn 102 = .ok (.invokevirtual 47, 3) := by decide +kernel
theorem dX8_handOn_105 : decode cX8_handOn 105 = .ok (.i2l, 1) := by decide +kernel
theorem dX8_handOn_106 : decode cX8_handOn 106 = .ok (.lmul, 1) := by decide +kernel
theorem dX8_handOn_107 : decode cX8_handOn 107 = .ok (.invokevirtual 51, 3) := by decide +kernel
theorem dX8_handOn_110 : decode cX8_handOn 110 = .ok (.iconst 0, 1) := by decide +kernel
theorem dX8_handOn_111 : decode cX8_handOn 111 = .ok (.istore 7, 2) := by decide +kernel
theorem dX8_handOn_113 : decode cX8_handOn 113 = .ok (.iload 7, 2) := by decide +kernel
theorem dX8_handOn_115 : decode cX8_handOn 115 = .ok (.aload_n 0, 1) := by decide +kernel
theorem dX8_handOn_116 : decode cX8_handOn 116 = .ok (.getfield 31, 3) := by decide +kernel
theorem dX8_handOn_119 : decode cX8_handOn 119 = .ok (.getfield 74, 3) := by decide +kernel
theorem dX8_handOn_122 : decode cX8_handOn 122 = .ok (.if_icmp .ge 33, 3) := by decide +kernel
theorem dX8_handOn_125 : decode cX8_handOn 125 = .ok (.aload_n 0, 1) := by decide +kernel
theorem dX8_handOn_126 : decode cX8_handOn 126 = .ok (.iload 7, 2) := by decide +kernel
theorem dX8_handOn_128 : decode cX8_handOn 128 = .ok (.ldc2_w 72, 3) := by decide +kernel
theorem dX8_handOn_131 : decode cX8_handOn 131 = .ok (.lload_n 3, 1) := by decide +kernel
theorem dX8_handOn_132 : decode cX8_handOn 132 = .ok (.lmul, 1) := by decide +kernel
theorem dX8_handOn_133 : decode cX8_handOn 133 = .ok (.aload_n 0, 1) := by decide +kernel
theorem dX8_handOn_134 : decode cX8_handOn 134 = .ok (.getfield 31, 3) := by decide +kernel
theorem dX8_handOn_137 : decode cX8_handOn 137 = .ok (.getfield 78, 3) := by decide +kernel
theorem dX8_handOn_140 : decode cX8_handOn 140 = .ok (.iconst 3, 1) := by decide +kernel
theorem dX8_handOn_141 : decode cX8_handOn 141 = .ok (.invokevirtual 47, 3) := by decide +kernel
theorem dX8_handOn_144 : decode cX8_handOn 144 = .ok (.i2l, 1) := by decide +kernel
theorem dX8_handOn_145 : decode cX8_handOn 145 = .ok (.lmul, 1) := by decide +kernel
theorem dX8_handOn_146 : decode cX8_handOn 146 = .ok (.invokevirtual 51, 3) := by decide +kernel
theorem dX8_handOn_149 : decode cX8_handOn 149 = .ok (.iinc 7 1, 3) := by decide +kernel
theorem dX8_handOn_152 : decode cX8_handOn 152 = .ok (.goto (-39), 3) := by decide +kernel
theorem dX8_handOn_155 : decode cX8_handOn 155 = .ok (.return_, 1) := by decide +kernel
theorem dX8_besideOrHere_0 : decode cX8_besideOrHere 0 = .ok (.aload_n 0, 1) := by decide +kernel
theorem dX8_besideOrHere_1 : decode cX8_besideOrHere 1 = .ok (.getfield 31, 3) := by decide +kernel
theorem dX8_besideOrHere_4 : decode cX8_besideOrHere 4 = .ok (.iload_n 1, 1) := by decide +kernel
theorem dX8_besideOrHere_5 : decode cX8_besideOrHere 5 = .ok (.iload_n 2, 1) := by decide +kernel
theorem dX8_besideOrHere_6 : decode cX8_besideOrHere 6 = .ok (.iadd, 1) := by decide +kernel
theorem dX8_besideOrHere_7 : decode cX8_besideOrHere 7 = .ok (.invokevirtual 88, 3) := by decide +kernel
theorem dX8_besideOrHere_10 : decode cX8_besideOrHere 10 = .ok (.ifCond .eq 9, 3) := by decide +kernel
theorem dX8_besideOrHere_13 : decode cX8_besideOrHere 13 = .ok (.iload_n 1, 1) := by decide +kernel
theorem dX8_besideOrHere_14 : decode cX8_besideOrHere 14 = .ok (.iload_n 2, 1) := by decide +kernel
theorem dX8_besideOrHere_15 : decode cX8_besideOrHere 15 = .ok (.iadd, 1) := by decide +kernel
theorem dX8_besideOrHere_16 : decode cX8_besideOrHere 16 = .ok (.goto 4, 3) := by decide +kernel
theorem dX8_besideOrHere_19 : decode cX8_besideOrHere 19 = .ok (.iload_n 1, 1) := by decide +kernel
theorem dX8_besideOrHere_20 : decode cX8_besideOrHere 20 = .ok (.ireturn, 1) := by decide +kernel
theorem dX8_canBe_0 : decode cX8_canBe 0 = .ok (.iconst 1, 1) := by decide +kernel
theorem dX8_canBe_1 : decode cX8_canBe 1 = .ok (.aload_n 0, 1) := by decide +kernel
theorem dX8_canBe_2 : decode cX8_canBe 2 = .ok (.getfield 31, 3) := by decide +kernel
theorem dX8_canBe_5 : decode cX8_canBe 5 = .ok (.iload_n 1, 1) := by decide +kernel
theorem dX8_canBe_6 : decode cX8_canBe 6 = .ok (.iconst 3, 1) := by decide +kernel
theorem dX8_canBe_7 : decode cX8_canBe 7 = .ok (.invokevirtual 55, 3) := by decide +kernel
theorem dX8_canBe_10 : decode cX8_canBe 10 = .ok (.ishl, 1) := by decide +kernel
theorem dX8_canBe_11 : decode cX8_canBe 11 = .ok (.istore_n 3, 1) := by decide +kernel
theorem dX8_canBe_12 : decode cX8_canBe 12 = .ok (.iconst 0, 1) := by decide +kernel
theorem dX8_canBe_13 : decode cX8_canBe 13 = .ok (.istore 4, 2) := by decide +kernel
theorem dX8_canBe_15 : decode cX8_canBe 15 = .ok (.iload 4, 2) := by decide +kernel
theorem dX8_canBe_17 : decode cX8_canBe 17 = .ok (.iload_n 2, 1) := by decide +kernel
theorem dX8_canBe_18 : decode cX8_canBe 18 = .ok (.if_icmp .ge 15, 3) := by decide +kernel
theorem dX8_canBe_21 : decode cX8_canBe 21 = .ok (.aload_n 0, 1) := by decide +kernel
theorem dX8_canBe_22 : decode cX8_canBe 22 = .ok (.iload_n 3, 1) := by decide +kernel
theorem dX8_canBe_23 : decode cX8_canBe 23 = .ok (.invokevirtual 92, 3) := by decide +kernel
theorem dX8_canBe_26 : decode cX8_canBe 26 = .ok (.istore_n 3, 1) := by decide +kernel
theorem dX8_canBe_27 : decode cX8_canBe 27 = .ok (.iinc 4 1, 3) := by decide +kernel
theorem dX8_canBe_30 : decode cX8_canBe 30 = .ok (.goto (-15), 3) := by decide +kernel
theorem dX8_canBe_33 : decode cX8_canBe 33 = .ok (.iload_n 3, 1) := by decide +kernel
theorem dX8_canBe_34 : decode cX8_canBe 34 = .ok (.aload_n 0, 1) := by decide +kernel
theorem dX8_canBe_35 : decode cX8_canBe 35 = .ok (.getfield 35, 3) := by decide +kernel
theorem dX8_canBe_38 : decode cX8_canBe 38 = .ok (.getfield 42, 3) := by decide +kernel
theorem dX8_canBe_41 : decode cX8_canBe 41 = .ok (.iload_n 1, 1) := by decide +kernel
theorem dX8_canBe_42 : decode cX8_canBe 42 = .ok (.invokevirtual 47, 3) := by decide +kernel
theorem dX8_canBe_45 : decode cX8_canBe 45 = .ok (.invokestatic 95, 3) := by decide +kernel
theorem dX8_canBe_48 : decode cX8_canBe 48 = .ok (.ireturn, 1) := by decide +kernel
theorem dX8_reachedFrom_0 : decode cX8_reachedFrom 0 = .ok (.aload_n 0, 1) := by decide +kernel
theorem dX8_reachedFrom_1 : decode cX8_reachedFrom 1 = .ok (.getfield 31, 3) := by decide +kernel
theorem dX8_reachedFrom_4 : decode cX8_reachedFrom 4 = .ok (.getfield 78, 3) := by decide +kernel
theorem dX8_reachedFrom_7 : decode cX8_reachedFrom 7 = .ok (.iconst 3, 1) := by decide +kernel
theorem dX8_reachedFrom_8 : decode cX8_reachedFrom 8 = .ok (.invokevirtual 47, 3) := by decide +kernel
theorem dX8_reachedFrom_11 : decode cX8_reachedFrom 11 = .ok (.ifCond .le 15, 3) := by decide +kernel
theorem dX8_reachedFrom_14 : decode cX8_reachedFrom 14 = .ok (.iconst 1, 1) := by decide +kernel
theorem dX8_reachedFrom_15 : decode cX8_reachedFrom 15 = .ok (.aload_n 0, 1) := by decide +kernel
theorem dX8_reachedFrom_16 : decode cX8_reachedFrom 16 = .ok (.getfield 31, 3) := by decide +kernel
theorem dX8_reachedFrom_19 : decode cX8_reachedFrom 19 = .ok (.getfield 74, 3) := by decide +kernel
theorem dX8_reachedFrom_22 : decode cX8_reachedFrom 22 = .ok (.ishl, 1) := by decide +kernel
theorem dX8_reachedFrom_23 : decode cX8_reachedFrom 23 = .ok (.iconst 1, 1) := by decide +kernel
theorem dX8_reachedFrom_24 : decode cX8_reachedFrom 24 = .ok (.isub, 1) := by decide +kernel
theorem dX8_reachedFrom_25 : decode cX8_reachedFrom 25 = .ok (.ireturn, 1) := by decide +kernel
theorem dX8_reachedFrom_26 : decode cX8_reachedFrom 26 = .ok (.iload_n 1, 1) := by decide +kernel
theorem dX8_reachedFrom_27 : decode cX8_reachedFrom 27 = .ok (.istore_n 2, 1) := by decide +kernel
theorem dX8_reachedFrom_28 : decode cX8_reachedFrom 28 = .ok (.aload_n 0, 1) := by decide +kernel
theorem dX8_reachedFrom_29 : decode cX8_reachedFrom 29 = .ok (.getfield 31, 3) := by decide +kernel
theorem dX8_reachedFrom_32 : decode cX8_reachedFrom 32 = .ok (.getfield 78, 3) := by decide +kernel
theorem dX8_reachedFrom_35 : decode cX8_reachedFrom 35 = .ok (.iconst 1, 1) := by decide +kernel
theorem dX8_reachedFrom_36 : decode cX8_reachedFrom 36 = .ok (.invokevirtual 47, 3) := by decide +kernel
theorem dX8_reachedFrom_39 : decode cX8_reachedFrom 39 = .ok (.ifCond .le 50, 3) := by decide +kernel
theorem dX8_reachedFrom_42 : decode cX8_reachedFrom 42 = .ok (.iconst 0, 1) := by decide +kernel
theorem dX8_reachedFrom_43 : decode cX8_reachedFrom 43 = .ok (.istore_n 3, 1) := by decide +kernel
theorem dX8_reachedFrom_44 : decode cX8_reachedFrom 44 = .ok (.iload_n 3, 1) := by decide +kernel
theorem dX8_reachedFrom_45 : decode cX8_reachedFrom 45 = .ok (.aload_n 0, 1) := by decide +kernel
theorem dX8_reachedFrom_46 : decode cX8_reachedFrom 46 = .ok (.getfield 31, 3) := by decide +kernel
theorem dX8_reachedFrom_49 : decode cX8_reachedFrom 49 = .ok (.getfield 74, 3) := by decide +kernel
theorem dX8_reachedFrom_52 : decode cX8_reachedFrom 52 = .ok (.if_icmp .ge 37, 3) := by decide +kernel
theorem dX8_reachedFrom_55 : decode cX8_reachedFrom 55 = .ok (.iload_n 1, 1) := by decide +kernel
theorem dX8_reachedFrom_56 : decode cX8_reachedFrom 56 = .ok (.iload_n 3, 1) := by decide +kernel
theorem dX8_reachedFrom_57 : decode cX8_reachedFrom 57 = .ok (.invokestatic 95, 3) := by decide +kernel
theorem dX8_reachedFrom_60 : decode cX8_reachedFrom 60 = .ok (.ifCond .eq 23, 3) := by decide +kernel
theorem dX8_reachedFrom_63 : decode cX8_reachedFrom 63 = .ok (.iload_n 2, 1) := by decide +kernel
theorem dX8_reachedFrom_64 : decode cX8_reachedFrom 64 = .ok (.iconst 1, 1) := by decide +kernel
theorem dX8_reachedFrom_65 : decode cX8_reachedFrom 65 = .ok (.aload_n 0, 1) := by decide +kernel
theorem dX8_reachedFrom_66 : decode cX8_reachedFrom 66 = .ok (.iload_n 3, 1) := by decide +kernel
theorem dX8_reachedFrom_67 : decode cX8_reachedFrom 67 = .ok (.iconst (-1), 1) := by decide +kernel
theorem dX8_reachedFrom_68 : decode cX8_reachedFrom 68 = .ok (.invokevirtual 85, 3) := by decide +kernel
theorem dX8_reachedFrom_71 : decode cX8_reachedFrom 71 = .ok (.ishl, 1) := by decide +kernel
theorem dX8_reachedFrom_72 : decode cX8_reachedFrom 72 = .ok (.iconst 1, 1) := by decide +kernel
theorem dX8_reachedFrom_73 : decode cX8_reachedFrom 73 = .ok (.aload_n 0, 1) := by decide +kernel
theorem dX8_reachedFrom_74 : decode cX8_reachedFrom 74 = .ok (.iload_n 3, 1) := by decide +kernel
theorem dX8_reachedFrom_75 : decode cX8_reachedFrom 75 = .ok (.iconst 1, 1) := by decide +kernel
theorem dX8_reachedFrom_76 : decode cX8_reachedFrom 76 = .ok (.invokevirtual 85, 3) := by decide +kernel
theorem dX8_reachedFrom_79 : decode cX8_reachedFrom 79 = .ok (.ishl, 1) := by decide +kernel
theorem dX8_reachedFrom_80 : decode cX8_reachedFrom 80 = .ok (.ior, 1) := by decide +kernel
theorem dX8_reachedFrom_81 : decode cX8_reachedFrom 81 = .ok (.ior, 1) := by decide +kernel
theorem dX8_reachedFrom_82 : decode cX8_reachedFrom 82 = .ok (.istore_n 2, 1) := by decide +kernel
theorem dX8_reachedFrom_83 : decode cX8_reachedFrom 83 = .ok (.iinc 3 1, 3) := by decide +kernel
theorem dX8_reachedFrom_86 : decode cX8_reachedFrom 86 = .ok (.goto (-42), 3) := by decide +kernel
theorem dX8_reachedFrom_89 : decode cX8_reachedFrom 89 = .ok (.iload_n 2, 1) := by decide +kernel
theorem dX8_reachedFrom_90 : decode cX8_reachedFrom 90 = .ok (.ireturn, 1) := by decide +kernel
theorem dX8_secondsOf_0 : decode cX8_secondsOf 0 = .ok (.aload_n 0, 1) := by decide +kernel
theorem dX8_secondsOf_1 : decode cX8_secondsOf 1 = .ok (.getfield 35, 3) := by decide +kernel
theorem dX8_secondsOf_4 : decode cX8_secondsOf 4 = .ok (.iload_n 1, 1) := by decide +kernel
theorem dX8_secondsOf_5 : decode cX8_secondsOf 5 = .ok (.invokevirtual 99, 3) := by decide +kernel
theorem dX8_secondsOf_8 : decode cX8_secondsOf 8 = .ok (.iconst 1, 1) := by decide +kernel
theorem dX8_secondsOf_9 : decode cX8_secondsOf 9 = .ok (.iadd, 1) := by decide +kernel
theorem dX8_secondsOf_10 : decode cX8_secondsOf 10 = .ok (.iload_n 2, 1) := by decide +kernel
theorem dX8_secondsOf_11 : decode cX8_secondsOf 11 = .ok (.invokestatic 102, 3) := by decide +kernel
theorem dX8_secondsOf_14 : decode cX8_secondsOf 14 = .ok (.ireturn, 1) := by decide +kernel
theorem dX8_rank_0 : decode cX8_rank 0 = .ok (.aload_n 0, 1) := by decide +kernel
theorem dX8_rank_1 : decode cX8_rank 1 = .ok (.iload_n 1, 1) := by decide +kernel
theorem dX8_rank_2 : decode cX8_rank 2 = .ok (.iload_n 2, 1) := by decide +kernel
theorem dX8_rank_3 : decode cX8_rank 3 = .ok (.invokevirtual 105, 3) := by decide +kernel
theorem dX8_rank_6 : decode cX8_rank 6 = .ok (.iconst 0, 1) := by decide +kernel
theorem dX8_rank_7 : decode cX8_rank 7 = .ok (.istore 4, 2) := by decide +kernel
theorem dX8_rank_9 : decode cX8_rank 9 = .ok (.iconst 0, 1) := by decide +kernel
theorem dX8_rank_10 : decode cX8_rank 10 = .ok (.istore 5, 2) := by decide +kernel
theorem dX8_rank_12 : decode cX8_rank 12 = .ok (.iload 5, 2) := by decide +kernel
theorem dX8_rank_14 : decode cX8_rank 14 = .ok (.aload_n 0, 1) := by decide +kernel
theorem dX8_rank_15 : decode cX8_rank 15 = .ok (.getfield 31, 3) := by decide +kernel
theorem dX8_rank_18 : decode cX8_rank 18 = .ok (.getfield 74, 3) := by decide +kernel
theorem dX8_rank_21 : decode cX8_rank 21 = .ok (.if_icmp .ge 38, 3) := by decide +kernel
theorem dX8_rank_24 : decode cX8_rank 24 = .ok (.aload_n 0, 1) := by decide +kernel
theorem dX8_rank_25 : decode cX8_rank 25 = .ok (.iload 4, 2) := by decide +kernel
theorem dX8_rank_27 : decode cX8_rank 27 = .ok (.iload_n 3, 1) := by decide +kernel
theorem dX8_rank_28 : decode cX8_rank 28 = .ok (.invokevirtual 109, 3) := by decide +kernel
theorem dX8_rank_31 : decode cX8_rank 31 = .ok (.istore 6, 2) := by decide +kernel
theorem dX8_rank_33 : decode cX8_rank 33 = .ok (.aload_n 0, 1) := by decide +kernel
theorem dX8_rank_34 : decode cX8_rank 34 = .ok (.getfield 20, 3) := by decide +kernel
theorem dX8_rank_37 : decode cX8_rank 37 = .ok (.iload 5, 2) := by decide +kernel
theorem dX8_rank_39 : decode cX8_rank 39 = .ok (.iload 6, 2) := by decide +kernel
theorem dX8_rank_41 : decode cX8_rank 41 = .ok (.invokevirtual 112, 3) := by decide +kernel
theorem dX8_rank_44 : decode cX8_rank 44 = .ok (.iload 4, 2) := by decide +kernel
theorem dX8_rank_46 : decode cX8_rank 46 = .ok (.iconst 1, 1) := by decide +kernel
theorem dX8_rank_47 : decode cX8_rank 47 = .ok (.iload 6, 2) := by decide +kernel
theorem dX8_rank_49 : decode cX8_rank 49 = .ok (.ishl, 1) := by decide +kernel
theorem dX8_rank_50 : decode cX8_rank 50 = .ok (.ior, 1) := by decide +kernel
theorem dX8_rank_51 : decode cX8_rank 51 = .ok (.istore 4, 2) := by decide +kernel
theorem dX8_rank_53 : decode cX8_rank 53 = .ok (.iinc 5 1, 3) := by decide +kernel
theorem dX8_rank_56 : decode cX8_rank 56 = .ok (.goto (-44), 3) := by decide +kernel
theorem dX8_rank_59 : decode cX8_rank 59 = .ok (.return_, 1) := by decide +kernel
theorem dX8_bestBut_0 : decode cX8_bestBut 0 = .ok (.iconst (-1), 1) := by decide +kernel
theorem dX8_bestBut_1 : decode cX8_bestBut 1 = .ok (.istore_n 3, 1) := by decide +kernel
theorem dX8_bestBut_2 : decode cX8_bestBut 2 = .ok (.iconst 0, 1) := by decide +kernel
theorem dX8_bestBut_3 : decode cX8_bestBut 3 = .ok (.istore 4, 2) := by decide +kernel
theorem dX8_bestBut_5 : decode cX8_bestBut 5 = .ok (.iload 4, 2) := by decide +kernel
theorem dX8_bestBut_7 : decode cX8_bestBut 7 = .ok (.aload_n 0, 1) := by decide +kernel
theorem dX8_bestBut_8 : decode cX8_bestBut 8 = .ok (.getfield 31, 3) := by decide +kernel
theorem dX8_bestBut_11 : decode cX8_bestBut 11 = .ok (.getfield 74, 3) := by decide +kernel
theorem dX8_bestBut_14 : decode cX8_bestBut 14 = .ok (.if_icmp .ge 37, 3) := by decide +kernel
theorem dX8_bestBut_17 : decode cX8_bestBut 17 = .ok (.iload_n 1, 1) := by decide +kernel
theorem dX8_bestBut_18 : decode cX8_bestBut 18 = .ok (.iload 4, 2) := by decide +kernel
theorem dX8_bestBut_20 : decode cX8_bestBut 20 = .ok (.invokestatic 95, 3) := by decide +kernel
theorem dX8_bestBut_23 : decode cX8_bestBut 23 = .ok (.ifCond .ne 22, 3) := by decide +kernel
theorem dX8_bestBut_26 : decode cX8_bestBut 26 = .ok (.iload_n 3, 1) := by decide +kernel
theorem dX8_bestBut_27 : decode cX8_bestBut 27 = .ok (.iconst (-1), 1) := by decide +kernel
theorem dX8_bestBut_28 : decode cX8_bestBut 28 = .ok (.if_icmp .eq 14, 3) := by decide +kernel
theorem dX8_bestBut_31 : decode cX8_bestBut 31 = .ok (.aload_n 0, 1) := by decide +kernel
theorem dX8_bestBut_32 : decode cX8_bestBut 32 = .ok (.iload 4, 2) := by decide +kernel
theorem dX8_bestBut_34 : decode cX8_bestBut 34 = .ok (.iload_n 3, 1) := by decide +kernel
theorem dX8_bestBut_35 : decode cX8_bestBut 35 = .ok (.iload_n 2, 1) := by decide +kernel
theorem dX8_bestBut_36 : decode cX8_bestBut 36 = .ok (.invokevirtual 115, 3) := by decide +kernel
theorem dX8_bestBut_39 : decode cX8_bestBut 39 = .ok (.ifCond .eq 6, 3) := by decide +kernel
theorem dX8_bestBut_42 : decode cX8_bestBut 42 = .ok (.iload 4, 2) := by decide +kernel
theorem dX8_bestBut_44 : decode cX8_bestBut 44 = .ok (.istore_n 3, 1) := by decide +kernel
theorem dX8_bestBut_45 : decode cX8_bestBut 45 = .ok (.iinc 4 1, 3) := by decide +kernel
theorem dX8_bestBut_48 : decode cX8_bestBut 48 = .ok (.goto (-43), 3) := by decide +kernel
theorem dX8_bestBut_51 : decode cX8_bestBut 51 = .ok (.iload_n 3, 1) := by decide +kernel
theorem dX8_bestBut_52 : decode cX8_bestBut 52 = .ok (.ireturn, 1) := by decide +kernel
theorem dX8_isAhead_0 : decode cX8_isAhead 0 = .ok (.aload_n 0, 1) := by decide +kernel
theorem dX8_isAhead_1 : decode cX8_isAhead 1 = .ok (.iload_n 1, 1) := by decide +kernel
theorem dX8_isAhead_2 : decode cX8_isAhead 2 = .ok (.invokevirtual 64, 3) := by decide +kernel
theorem dX8_isAhead_5 : decode cX8_isAhead 5 = .ok (.aload_n 0, 1) := by decide +kernel
theorem dX8_isAhead_6 : decode cX8_isAhead 6 = .ok (.iload_n 2, 1) := by decide +kernel
theorem dX8_isAhead_7 : decode cX8_isAhead 7 = .ok (.iload_n 3, 1) := by decide +kernel
theorem dX8_isAhead_8 : decode cX8_isAhead 8 = .ok (.invokevirtual 119, 3) := by decide +kernel
theorem dX8_isAhead_11 : decode cX8_isAhead 11 = .ok (.i2l, 1) := by decide +kernel
theorem dX8_isAhead_12 : decode cX8_isAhead 12 = .ok (.lmul, 1) := by decide +kernel
theorem dX8_isAhead_13 : decode cX8_isAhead 13 = .ok (.aload_n 0, 1) := by decide +kernel
theorem dX8_isAhead_14 : decode cX8_isAhead 14 = .ok (.iload_n 2, 1) := by decide +kernel
theorem dX8_isAhead_15 : decode cX8_isAhead 15 = .ok (.invokevirtual 64, 3) := by decide +kernel
theorem dX8_isAhead_18 : decode cX8_isAhead 18 = .ok (.aload_n 0, 1) := by decide +kernel
theorem dX8_isAhead_19 : decode cX8_isAhead 19 = .ok (.iload_n 1, 1) := by decide +kernel
theorem dX8_isAhead_20 : decode cX8_isAhead 20 = .ok (.iload_n 3, 1) := by decide +kernel
theorem dX8_isAhead_21 : decode cX8_isAhead 21 = .ok (.invokevirtual 119, 3) := by decide +kernel
theorem dX8_isAhead_24 : decode cX8_isAhead 24 = .ok (.i2l, 1) := by decide +kernel
theorem dX8_isAhead_25 : decode cX8_isAhead 25 = .ok (.lmul, 1) := by decide +kernel
theorem dX8_isAhead_26 : decode cX8_isAhead 26 = .ok (.lcmp, 1) := by decide +kernel
theorem dX8_isAhead_27 : decode cX8_isAhead 27 = .ok (.ifCond .le 7, 3) := by decide +kernel
theorem dX8_isAhead_30 : decode cX8_isAhead 30 = .ok (.iconst 1, 1) := by decide +kernel
theorem dX8_isAhead_31 : decode cX8_isAhead 31 = .ok (.goto 4, 3) := by decide +kernel
theorem dX8_isAhead_34 : decode cX8_isAhead 34 = .ok (.iconst 0, 1) := by decide +kernel
theorem dX8_isAhead_35 : decode cX8_isAhead 35 = .ok (.ireturn, 1) := by decide +kernel
theorem dX8_sharedSeconds_0 : decode cX8_sharedSeconds 0 = .ok (.lconst 0, 1) := by decide +kernel
theorem dX8_sharedSeconds_1 : decode cX8_sharedSeconds 1 = .ok (.lstore_n 2, 1) := by decide +kernel
theorem dX8_sharedSeconds_2 : decode cX8_sharedSeconds 2 = .ok (.lconst 0, 1) := by decide +kernel
theorem dX8_sharedSeconds_3 : decode cX8_sharedSeconds 3 = .ok (.lstore 4, 2) := by decide +kernel
theorem dX8_sharedSeconds_5 : decode cX8_sharedSeconds 5 = .ok (.iconst 0, 1) := by decide +kernel
theorem dX8_sharedSeconds_6 : decode cX8_sharedSeconds 6 = .ok (.istore 6, 2) := by decide +kernel
theorem dX8_sharedSeconds_8 : decode cX8_sharedSeconds 8 = .ok (.iload 6, 2) := by decide +kernel
theorem dX8_sharedSeconds_10 : decode cX8_sharedSeconds 10 = .ok (.aload_n 0, 1) := by decide +kernel
theorem dX8_sharedSeconds_11 : decode cX8_sharedSeconds 11 = .ok (.getfield 31, 3) := by decide +kernel
theorem dX8_sharedSeconds_14 : decode cX8_sharedSeconds 14 = .ok (.getfield 74, 3) := by decide +kernel
theorem dX8_sharedSeconds_17 : decode cX8_sharedSeconds 17 = .ok (.if_icmp .ge 45, 3) := by decide +kernel
theorem dX8_sharedSeconds_20 : decode cX8_sharedSeconds 20 = .ok (.aload_n 0, 1) := by decide +kernel
theorem dX8_sharedSeconds_21 : decode cX8_sharedSeconds 21 = .ok (.getfield 20, 3) := by decide +kernel
theorem dX8_sharedSeconds_24 : decode cX8_sharedSeconds 24 = .ok (.iload 6, 2) := by decide +kernel
theorem dX8_sharedSeconds_26 : decode cX8_sharedSeconds 26 = .ok (.invokevirtual 47, 3) := by decide +kernel
theorem dX8_sharedSeconds_29 : decode cX8_sharedSeconds 29 = .ok (.istore 7, 2) := by decide +kernel
theorem dX8_sharedSeconds_31 : decode cX8_sharedSeconds 31 = .ok (.lload 4, 2) := by decide +kernel
theorem dX8_sharedSeconds_33 : decode cX8_sharedSeconds 33 = .ok (.aload_n 0, 1) := by decide +kernel
theorem dX8_sharedSeconds_34 : decode cX8_sharedSeconds 34 = .ok (.iload 7, 2) := by decide +kernel
theorem dX8_sharedSeconds_36 : decode cX8_sharedSeconds 36 = .ok (.iload_n 1, 1) := by decide +kernel
theorem dX8_sharedSeconds_37 : decode cX8_sharedSeconds 37 = .ok (.invokevirtual 119, 3) := by decide +kernel
theorem dX8_sharedSeconds_40 : decode cX8_sharedSeconds 40 = .ok (.i2l, 1) := by decide +kernel
theorem dX8_sharedSeconds_41 : decode cX8_sharedSeconds 41 = .ok (.ladd, 1) := by decide +kernel
theorem dX8_sharedSeconds_42 : decode cX8_sharedSeconds 42 = .ok (.lstore 4, 2) := by decide +kernel
theorem dX8_sharedSeconds_44 : decode cX8_sharedSeconds 44 = .ok (.lload_n 2, 1) := by decide +kernel
theorem dX8_sharedSeconds_45 : decode cX8_sharedSeconds 45 = .ok (.aload_n 0, 1) := by decide +kernel
theorem dX8_sharedSeconds_46 : decode cX8_sharedSeconds 46 = .ok (.iload 7, 2) := by decide +kernel
theorem dX8_sharedSeconds_48 : decode cX8_sharedSeconds 48 = .ok (.invokevirtual 64, 3) := by decide +kernel
theorem dX8_sharedSeconds_51 : decode cX8_sharedSeconds 51 = .ok (.lload 4, 2) := by decide +kernel
theorem dX8_sharedSeconds_53 : decode cX8_sharedSeconds 53 = .ok (.lmul, 1) := by decide +kernel
theorem dX8_sharedSeconds_54 : decode cX8_sharedSeconds 54 = .ok (.ladd, 1) := by decide +kernel
theorem dX8_sharedSeconds_55 : decode cX8_sharedSeconds 55 = .ok (.lstore_n 2, 1) := by decide +kernel
theorem dX8_sharedSeconds_56 : decode cX8_sharedSeconds 56 = .ok (.iinc 6 1, 3) := by decide +kernel
theorem dX8_sharedSeconds_59 : decode cX8_sharedSeconds 59 = .ok (.goto (-51), 3) := by decide +kernel
theorem dX8_sharedSeconds_62 : decode cX8_sharedSeconds 62 = .ok (.lload_n 2, 1) := by decide +kernel
theorem dX8_sharedSeconds_63 : decode cX8_sharedSeconds 63 = .ok (.lreturn, 1) := by decide +kernel
theorem dX9_init_0 : decode cX9_init 0 = .ok (.aload_n 0, 1) := by decide +kernel
theorem dX9_init_1 : decode cX9_init 1 = .ok (.invokespecial 1, 3) := by decide +kernel
theorem dX9_init_4 : decode cX9_init 4 = .ok (.aload_n 0, 1) := by decide +kernel
theorem dX9_init_5 : decode cX9_init 5 = .ok (.new 7, 3) := by decide +kernel
theorem dX9_init_8 : decode cX9_init 8 = .ok (.dup, 1) := by decide +kernel
theorem dX9_init_9 : decode cX9_init 9 = .ok (.sipush 600, 3) := by decide +kernel
theorem dX9_init_12 : decode cX9_init 12 = .ok (.invokespecial 11, 3) := by decide +kernel
theorem dX9_init_15 : decode cX9_init 15 = .ok (.putfield 14, 3) := by decide +kernel
theorem dX9_init_18 : decode cX9_init 18 = .ok (.aload_n 0, 1) := by decide +kernel
theorem dX9_init_19 : decode cX9_init 19 = .ok (.iconst 0, 1) := by decide +kernel
theorem dX9_init_20 : decode cX9_init 20 = .ok (.putfield 18, 3) := by decide +kernel
theorem dX9_init_23 : decode cX9_init 23 = .ok (.aload_n 0, 1) := by decide +kernel
theorem dX9_init_24 : decode cX9_init 24 = .ok (.iconst (-1), 1) := by decide +kernel
theorem dX9_init_25 : decode cX9_init 25 = .ok (.putfield 22, 3) := by decide +kernel
theorem dX9_init_28 : decode cX9_init 28 = .ok (.aload_n 0, 1) := by decide +kernel
theorem dX9_init_29 : decode cX9_init 29 = .ok (.new 25, 3) := by decide +kernel
theorem dX9_init_32 : decode cX9_init 32 = .ok (.dup, 1) := by decide +kernel
theorem dX9_init_33 : decode cX9_init 33 = .ok (.invokespecial 27, 3) := by decide +kernel
theorem dX9_init_36 : decode cX9_init 36 = .ok (.putfield 28, 3) := by decide +kernel
theorem dX9_init_39 : decode cX9_init 39 = .ok (.aload_n 0, 1) := by decide +kernel
theorem dX9_init_40 : decode cX9_init 40 = .ok (.new 32, 3) := by decide +kernel
theorem dX9_init_43 : decode cX9_init 43 = .ok (.dup, 1) := by decide +kernel
theorem dX9_init_44 : decode cX9_init 44 = .ok (.invokespecial 34, 3) := by decide +kernel
theorem dX9_init_47 : decode cX9_init 47 = .ok (.putfield 35, 3) := by decide +kernel
theorem dX9_init_50 : decode cX9_init 50 = .ok (.aload_n 0, 1) := by decide +kernel
theorem dX9_init_51 : decode cX9_init 51 = .ok (.iconst 3, 1) := by decide +kernel
theorem dX9_init_52 : decode cX9_init 52 = .ok (.anewarray 32, 3) := by decide +kernel
theorem dX9_init_55 : decode cX9_init 55 = .ok (.dup, 1) := by decide +kernel
theorem dX9_init_56 : decode cX9_init 56 = .ok (.iconst 0, 1) := by decide +kernel
theorem dX9_init_57 : decode cX9_init 57 = .ok (.new 32, 3) := by decide +kernel
theorem dX9_init_60 : decode cX9_init 60 = .ok (.dup, 1) := by decide +kernel
theorem dX9_init_61 : decode cX9_init 61 = .ok (.invokespecial 34, 3) := by decide +kernel
theorem dX9_init_64 : decode cX9_init 64 = .ok (.aastore, 1) := by decide +kernel
theorem dX9_init_65 : decode cX9_init 65 = .ok (.dup, 1) := by decide +kernel
theorem dX9_init_66 : decode cX9_init 66 = .ok (.iconst 1, 1) := by decide +kernel
theorem dX9_init_67 : decode cX9_init 67 = .ok (.new 32, 3) := by decide +kernel
theorem dX9_init_70 : decode cX9_init 70 = .ok (.dup, 1) := by decide +kernel
theorem dX9_init_71 : decode cX9_init 71 = .ok (.invokespecial 34, 3) := by decide +kernel
theorem dX9_init_74 : decode cX9_init 74 = .ok (.aastore, 1) := by decide +kernel
theorem dX9_init_75 : decode cX9_init 75 = .ok (.dup, 1) := by decide +kernel
theorem dX9_init_76 : decode cX9_init 76 = .ok (.iconst 2, 1) := by decide +kernel
theorem dX9_init_77 : decode cX9_init 77 = .ok (.new 32, 3) := by decide +kernel
theorem dX9_init_80 : decode cX9_init 80 = .ok (.dup, 1) := by decide +kernel
theorem dX9_init_81 : decode cX9_init 81 = .ok (.invokespecial 34, 3) := by decide +kernel
theorem dX9_init_84 : decode cX9_init 84 = .ok (.aastore, 1) := by decide +kernel
theorem dX9_init_85 : decode cX9_init 85 = .ok (.putfield 39, 3) := by decide +kernel
theorem dX9_init_88 : decode cX9_init 88 = .ok (.aload_n 0, 1) := by decide +kernel
theorem dX9_init_89 : decode cX9_init 89 = .ok (.iconst 0, 1) := by decide +kernel
theorem dX9_init_90 : decode cX9_init 90 = .ok (.putfield 43, 3) := by decide +kernel
theorem dX9_init_93 : decode cX9_init 93 = .ok (.aload_n 0, 1) := by decide +kernel
theorem dX9_init_94 : decode cX9_init 94 = .ok (.new 7, 3) := by decide +kernel
theorem dX9_init_97 : decode cX9_init 97 = .ok (.dup, 1) := by decide +kernel
theorem dX9_init_98 : decode cX9_init 98 = .ok (.iconst 4, 1) := by decide +kernel
theorem dX9_init_99 : decode cX9_init 99 = .ok (.invokespecial 11, 3) := by decide +kernel
theorem dX9_init_102 : decode cX9_init 102 = .ok (.putfield 46, 3) := by decide +kernel
theorem dX9_init_105 : decode cX9_init 105 = .ok (.aload_n 0, 1) := by decide +kernel
theorem dX9_init_106 : decode cX9_init 106 = .ok (.new 49, 3) := by decide +kernel
theorem dX9_init_109 : decode cX9_init 109 = .ok (.dup, 1) := by decide +kernel
theorem dX9_init_110 : decode cX9_init 110 = .ok (.aload_n 0, 1) := by decide +kernel
theorem dX9_init_111 : decode cX9_init 111 = .ok (.getfield 14, 3) := by decide +kernel
theorem dX9_init_114 : decode cX9_init 114 = .ok (.invokespecial 51, 3) := by decide +kernel
theorem dX9_init_117 : decode cX9_init 117 = .ok (.putfield 54, 3) := by decide +kernel
theorem dX9_init_120 : decode cX9_init 120 = .ok (.aload_n 0, 1) := by decide +kernel
theorem dX9_init_121 : decode cX9_init 121 = .ok (.new 58, 3) := by decide +kernel
theorem dX9_init_124 : decode cX9_init 124 = .ok (.dup, 1) := by decide +kernel
theorem dX9_init_125 : decode cX9_init 125 = .ok (.aload_n 0, 1) := by decide +kernel
theorem dX9_init_126 : decode cX9_init 126 = .ok (.getfield 28, 3) := by decide +kernel
theorem dX9_init_129 : decode cX9_init 129 = .ok (.aload_n 0, 1) := by decide +kernel
theorem dX9_init_130 : decode cX9_init 130 = .ok (.getfield 35, 3) := by decide +kernel
theorem dX9_init_133 : decode cX9_init 133 = .ok (.invokespecial 60, 3) := by decide +kernel
theorem dX9_init_136 : decode cX9_init 136 = .ok (.putfield 63, 3) := by decide +kernel
theorem dX9_init_139 : decode cX9_init 139 = .ok (.aload_n 0, 1) := by decide +kernel
theorem dX9_init_140 : decode cX9_init 140 = .ok (.new 67, 3) := by decide +kernel
theorem dX9_init_143 : decode cX9_init 143 = .ok (.dup, 1) := by decide +kernel
theorem dX9_init_144 : decode cX9_init 144 = .ok (.aload_n 0, 1) := by decide +kernel
theorem dX9_init_145 : decode cX9_init 145 = .ok (.getfield 28, 3) := by decide +kernel
theorem dX9_init_148 : decode cX9_init 148 = .ok (.aload_n 0, 1) := by decide +kernel
theorem dX9_init_149 : decode cX9_init 149 = .ok (.getfield 35, 3) := by decide +kernel
theorem dX9_init_152 : decode cX9_init 152 = .ok (.invokespecial 69, 3) := by decide +kernel
theorem dX9_init_155 : decode cX9_init 155 = .ok (.putfield 70, 3) := by decide +kernel
theorem dX9_init_158 : decode cX9_init 158 = .ok (.aload_n 0, 1) := by decide +kernel
theorem dX9_init_159 : decode cX9_init 159 = .ok (.new 74, 3) := by decide +kernel
theorem dX9_init_162 : decode cX9_init 162 = .ok (.dup, 1) := by decide +kernel
theorem dX9_init_163 : decode cX9_init 163 = .ok (.aload_n 0, 1) := by decide +kernel
theorem dX9_init_164 : decode cX9_init 164 = .ok (.getfield 28, 3) := by decide +kernel
theorem dX9_init_167 : decode cX9_init 167 = .ok (.aload_n 0, 1) := by decide +kernel
theorem dX9_init_168 : decode cX9_init 168 = .ok (.getfield 35, 3) := by decide +kernel
theorem dX9_init_171 : decode cX9_init 171 = .ok (.invokespecial 76, 3) := by decide +kernel
theorem dX9_init_174 : decode cX9_init 174 = .ok (.putfield 77, 3) := by decide +kernel
theorem dX9_init_177 : decode cX9_init 177 = .ok (.aload_n 0, 1) := by decide +kernel
theorem dX9_init_178 : decode cX9_init 178 = .ok (.new 81, 3) := by decide +kernel
theorem dX9_init_181 : decode cX9_init 181 = .ok (.dup, 1) := by decide +kernel
theorem dX9_init_182 : decode cX9_init 182 = .ok (.aload_n 0, 1) := by decide +kernel
theorem dX9_init_183 : decode cX9_init 183 = .ok (.getfield 35, 3) := by decide +kernel
theorem dX9_init_186 : decode cX9_init 186 = .ok (.invokespecial 83, 3) := by decide +kernel
theorem dX9_init_189 : decode cX9_init 189 = .ok (.putfield 86, 3) := by decide +kernel
theorem dX9_init_192 : decode cX9_init 192 = .ok (.aload_n 0, 1) := by decide +kernel
theorem dX9_init_193 : decode cX9_init 193 = .ok (.new 90, 3) := by decide +kernel
theorem dX9_init_196 : decode cX9_init 196 = .ok (.dup, 1) := by decide +kernel
theorem dX9_init_197 : decode cX9_init 197 = .ok (.invokespecial 92, 3) := by decide +kernel
theorem dX9_init_200 : decode cX9_init 200 = .ok (.putfield 93, 3) := by decide +kernel
theorem dX9_init_203 : decode cX9_init 203 = .ok (.aload_n 0, 1) := by decide +kernel
theorem dX9_init_204 : decode cX9_init 204 = .ok (.getfield 28, 3) := by decide +kernel
theorem dX9_init_207 : decode cX9_init 207 = .ok (.invokevirtual 97, 3) := by decide +kernel
theorem dX9_init_210 : decode cX9_init 210 = .ok (.aload_n 0, 1) := by decide +kernel
theorem dX9_init_211 : decode cX9_init 211 = .ok (.getfield 35, 3) := by decide +kernel
theorem dX9_init_214 : decode cX9_init 214 = .ok (.aload_n 0, 1) := by decide +kernel
theorem dX9_init_215 : decode cX9_init 215 = .ok (.getfield 28, 3) := by decide +kernel
theorem dX9_init_218 : decode cX9_init 218 = .ok (.invokevirtual 100, 3) := by decide +kernel
theorem dX9_init_221 : decode cX9_init 221 = .ok (.return_, 1) := by decide +kernel
theorem dX9_feed_0 : decode cX9_feed 0 = .ok (.aload_n 0, 1) := by decide +kernel
theorem dX9_feed_1 : decode cX9_feed 1 = .ok (.getfield 18, 3) := by decide +kernel
theorem dX9_feed_4 : decode cX9_feed 4 = .ok (.bipush 20, 2) := by decide +kernel
theorem dX9_feed_6 : decode cX9_feed 6 = .ok (.iadd, 1) := by decide +kernel
theorem dX9_feed_7 : decode cX9_feed 7 = .ok (.sipush 600, 3) := by decide +kernel
theorem dX9_feed_10 : decode cX9_feed 10 = .ok (.if_icmp .le 5, 3) := by decide +kernel
theorem dX9_feed_13 : decode cX9_feed 13 = .ok (.iconst (-1), 1) := by decide +kernel
theorem dX9_feed_14 : decode cX9_feed 14 = .ok (.ireturn, 1) := by decide +kernel
theorem dX9_feed_15 : decode cX9_feed 15 = .ok (.aload_n 0, 1) := by decide +kernel
theorem dX9_feed_16 : decode cX9_feed 16 = .ok (.iload_n 1, 1) := by decide +kernel
theorem dX9_feed_17 : decode cX9_feed 17 = .ok (.invokevirtual 104, 3) := by decide +kernel
theorem dX9_feed_20 : decode cX9_feed 20 = .ok (.aload_n 0, 1) := by decide +kernel
theorem dX9_feed_21 : decode cX9_feed 21 = .ok (.iload_n 2, 1) := by decide +kernel
theorem dX9_feed_22 : decode cX9_feed 22 = .ok (.invokevirtual 104, 3) := by decide +kernel
theorem dX9_feed_25 : decode cX9_feed 25 = .ok (.aload_n 0, 1) := by decide +kernel
theorem dX9_feed_26 : decode cX9_feed 26 = .ok (.iload_n 3, 1) := by decide +kernel
theorem dX9_feed_27 : decode cX9_feed 27 = .ok (.invokevirtual 104, 3) := by decide +kernel
theorem dX9_feed_30 : decode cX9_feed 30 = .ok (.aload_n 0, 1) := by decide +kernel
theorem dX9_feed_31 : decode cX9_feed 31 = .ok (.iload 4, 2) := by decide +kernel
theorem dX9_feed_33 : decode cX9_feed 33 = .ok (.invokevirtual 104, 3) := by decide +kernel
theorem dX9_feed_36 : decode cX9_feed 36 = .ok (.aload_n 0, 1) := by decide +kernel
theorem dX9_feed_37 : decode cX9_feed 37 = .ok (.iload 5, 2) := by decide +kernel
theorem dX9_feed_39 : decode cX9_feed 39 = .ok (.invokevirtual 104, 3) := by decide +kernel
theorem dX9_feed_42 : decode cX9_feed 42 = .ok (.aload_n 0, 1) := by decide +kernel
theorem dX9_feed_43 : decode cX9_feed 43 = .ok (.getfield 18, 3) := by decide +kernel
theorem dX9_feed_46 : decode cX9_feed 46 = .ok (.ireturn, 1) := by decide +kernel
theorem dX9_putOnTape_0 : decode cX9_putOnTape 0 = .ok (.bipush 24, 2) := by decide +kernel
theorem dX9_putOnTape_2 : decode cX9_putOnTape 2 = .ok (.istore_n 2, 1) := by decide +kernel
theorem dX9_putOnTape_3 : decode cX9_putOnTape 3 = .ok (.iload_n 2, 1) := by decide +kernel
theorem dX9_putOnTape_4 : decode cX9_putOnTape 4 = .ok (.ifCond .lt 37, 3) := by decide +kernel
theorem dX9_putOnTape_7 : decode cX9_putOnTape 7 = .ok (.aload_n 0, 1) := by decide +kernel
theorem dX9_putOnTape_8 : decode cX9_putOnTape 8 = .ok (.getfield 14, 3) := by decide +kernel
theorem dX9_putOnTape_11 : decode cX9_putOnTape 11 = .ok (.aload_n 0, 1) := by decide +kernel
theorem dX9_putOnTape_12 : decode cX9_putOnTape 12 = .ok (.getfield 18, 3) := by decide +kernel
theorem dX9_putOnTape_15 : decode cX9_putOnTape 15 = .ok (.iload_n 1, 1) := by decide +kernel
theorem dX9_putOnTape_16 : decode cX9_putOnTape 16 = .ok (.iload_n 2, 1) := by decide +kernel
theorem dX9_putOnTape_17 : decode cX9_putOnTape 17 = .ok (.iushr, 1) := by decide +kernel
theorem dX9_putOnTape_18 : decode cX9_putOnTape 18 = .ok (.sipush 255, 3) := by decide +kernel
theorem dX9_putOnTape_21 : decode cX9_putOnTape 21 = .ok (.iand, 1) := by decide +kernel
theorem dX9_putOnTape_22 : decode cX9_putOnTape 22 = .ok (.invokevirtual 107, 3) := by decide +kernel
theorem dX9_putOnTape_25 : decode cX9_putOnTape 25 = .ok (.aload_n 0, 1) := by decide +kernel
theorem dX9_putOnTape_26 : decode cX9_putOnTape 26 = .ok (.dup, 1) := by decide +kernel
theorem dX9_putOnTape_27 : decode cX9_putOnTape 27 = .ok (.getfield 18, 3) := by decide +kernel
theorem dX9_putOnTape_30 : decode cX9_putOnTape 30 = .ok (.iconst 1, 1) := by decide +kernel
theorem dX9_putOnTape_31 : decode cX9_putOnTape 31 = .ok (.iadd, 1) := by decide +kernel
theorem dX9_putOnTape_32 : decode cX9_putOnTape 32 = .ok (.putfield 18, 3) := by decide +kernel
theorem dX9_putOnTape_35 : decode cX9_putOnTape 35 = .ok (.iinc 2 (-8), 3) := by decide +kernel
theorem dX9_putOnTape_38 : decode cX9_putOnTape 38 = .ok (.goto (-35), 3) := by decide +kernel
theorem dX9_putOnTape_41 : decode cX9_putOnTape 41 = .ok (.return_, 1) := by decide +kernel
theorem dX9_shop_0 : decode cX9_shop 0 = .ok (.aload_n 0, 1) := by decide +kernel
theorem dX9_shop_1 : decode cX9_shop 1 = .ok (.iload_n 1, 1) := by decide +kernel
theorem dX9_shop_2 : decode cX9_shop 2 = .ok (.ifCond .lt 15, 3) := by decide +kernel
theorem dX9_shop_5 : decode cX9_shop 5 = .ok (.iload_n 1, 1) := by decide +kernel
theorem dX9_shop_6 : decode cX9_shop 6 = .ok (.aload_n 0, 1) := by decide +kernel
theorem dX9_shop_7 : decode cX9_shop 7 = .ok (.getfield 18, 3) := by decide +kernel
theorem dX9_shop_10 : decode cX9_shop 10 = .ok (.if_icmp .gt 7, 3) := by decide +kernel
theorem dX9_shop_13 : decode cX9_shop 13 = .ok (.iconst 1, 1) := by decide +kernel
theorem dX9_shop_14 : decode cX9_shop 14 = .ok (.goto 4, 3) := by decide +kernel
theorem dX9_shop_17 : decode cX9_shop 17 = .ok (.iconst 0, 1) := by decide +kernel
theorem dX9_shop_18 : decode cX9_shop 18 = .ok (.invokevirtual 111, 3) := by decide +kernel
theorem dX9_shop_21 : decode cX9_shop 21 = .ok (.aload_n 0, 1) := by decide +kernel
theorem dX9_shop_22 : decode cX9_shop 22 = .ok (.iconst 0, 1) := by decide +kernel
theorem dX9_shop_23 : decode cX9_shop 23 = .ok (.putfield 18, 3) := by decide +kernel
theorem dX9_shop_26 : decode cX9_shop 26 = .ok (.aload_n 0, 1) := by decide +kernel
theorem dX9_shop_27 : decode cX9_shop 27 = .ok (.getfield 54, 3) := by decide +kernel
theorem dX9_shop_30 : decode cX9_shop 30 = .ok (.iload_n 1, 1) := by decide +kernel
theorem dX9_shop_31 : decode cX9_shop 31 = .ok (.invokevirtual 115, 3) := by decide +kernel
theorem dX9_shop_34 : decode cX9_shop 34 = .ok (.istore_n 2, 1) := by decide +kernel
theorem dX9_shop_35 : decode cX9_shop 35 = .ok (.aload_n 0, 1) := by decide +kernel
theorem dX9_shop_36 : decode cX9_shop 36 = .ok (.aload_n 0, 1) := by decide +kernel
theorem dX9_shop_37 : decode cX9_shop 37 = .ok (.getfield 54, 3) := by decide +kernel
theorem dX9_shop_40 : decode cX9_shop 40 = .ok (.getfield 119, 3) := by decide +kernel
theorem dX9_shop_43 : decode cX9_shop 43 = .ok (.putfield 22, 3) := by decide +kernel
theorem dX9_shop_46 : decode cX9_shop 46 = .ok (.iload_n 2, 1) := by decide +kernel
theorem dX9_shop_47 : decode cX9_shop 47 = .ok (.ifCond .eq 8, 3) := by decide +kernel
theorem dX9_shop_50 : decode cX9_shop 50 = .ok (.iload_n 2, 1) := by decide +kernel
theorem dX9_shop_51 : decode cX9_shop 51 = .ok (.bipush 10, 2) := by decide +kernel
theorem dX9_shop_53 : decode cX9_shop 53 = .ok (.isub, 1) := by decide +kernel
theorem dX9_shop_54 : decode cX9_shop 54 = .ok (.ireturn, 1) := by decide +kernel
theorem dX9_shop_55 : decode cX9_shop 55 = .ok (.aload_n 0, 1) := by decide +kernel
theorem dX9_shop_56 : decode cX9_shop 56 = .ok (.getfield 28, 3) := by decide +kernel
theorem dX9_shop_59 : decode cX9_shop 59 = .ok (.aload_n 0, 1) := by decide +kernel
theorem dX9_shop_60 : decode cX9_shop 60 = .ok (.getfield 54, 3) := by decide +kernel
theorem dX9_shop_63 : decode cX9_shop 63 = .ok (.getfield 122, 3) := by decide +kernel
theorem dX9_shop_66 : decode cX9_shop 66 = .ok (.invokevirtual 125, 3) := by decide +kernel
theorem dX9_shop_69 : decode cX9_shop 69 = .ok (.aload_n 0, 1) := by decide +kernel
theorem dX9_shop_70 : decode cX9_shop 70 = .ok (.getfield 35, 3) := by decide +kernel
theorem dX9_shop_73 : decode cX9_shop 73 = .ok (.aload_n 0, 1) := by decide +kernel
theorem dX9_shop_74 : decode cX9_shop 74 = .ok (.getfield 28, 3) := by decide +kernel
theorem dX9_shop_77 : decode cX9_shop 77 = .ok (.invokevirtual 100, 3) := by decide +kernel
theorem dX9_shop_80 : decode cX9_shop 80 = .ok (.aload_n 0, 1) := by decide +kernel
theorem dX9_shop_81 : decode cX9_shop 81 = .ok (.iconst 0, 1) := by decide +kernel
theorem dX9_shop_82 : decode cX9_shop 82 = .ok (.putfield 43, 3) := by decide +kernel
theorem dX9_shop_85 : decode cX9_shop 85 = .ok (.aload_n 0, 1) := by decide +kernel
theorem dX9_shop_86 : decode cX9_shop 86 = .ok (.getfield 28, 3) := by decide +kernel
theorem dX9_shop_89 : decode cX9_shop 89 = .ok (.getfield 128, 3) := by decide +kernel
theorem dX9_shop_92 : decode cX9_shop 92 = .ok (.ireturn, 1) := by decide +kernel
theorem dX9_fault_0 : decode cX9_fault 0 = .ok (.aload_n 0, 1) := by decide +kernel
theorem dX9_fault_1 : decode cX9_fault 1 = .ok (.getfield 22, 3) := by decide +kernel
theorem dX9_fault_4 : decode cX9_fault 4 = .ok (.ireturn, 1) := by decide +kernel
theorem dX9_told_0 : decode cX9_told 0 = .ok (.iload_n 1, 1) := by decide +kernel
theorem dX9_told_1 : decode cX9_told 1 = .ok (.tableswitch 63 0 3 #[31, 39, 47, 55], 31) := by decide +kernel
theorem dX9_told_32 : decode cX9_told 32 = .ok (.aload_n 0, 1) := by decide +kernel
theorem dX9_told_33 : decode cX9_told 33 = .ok (.getfield 28, 3) := by decide +kernel
theorem dX9_told_36 : decode cX9_told 36 = .ok (.getfield 131, 3) := by decide +kernel
theorem dX9_told_39 : decode cX9_told 39 = .ok (.ireturn, 1) := by decide +kernel
theorem dX9_told_40 : decode cX9_told 40 = .ok (.aload_n 0, 1) := by decide +kernel
theorem dX9_told_41 : decode cX9_told 41 = .ok (.getfield 28, 3) := by decide +kernel
theorem dX9_told_44 : decode cX9_told 44 = .ok (.getfield 128, 3) := by decide +kernel
theorem dX9_told_47 : decode cX9_told 47 = .ok (.ireturn, 1) := by decide +kernel
theorem dX9_told_48 : decode cX9_told 48 = .ok (.aload_n 0, 1) := by decide +kernel
theorem dX9_told_49 : decode cX9_told 49 = .ok (.getfield 28, 3) := by decide +kernel
theorem dX9_told_52 : decode cX9_told 52 = .ok (.getfield 134, 3) := by decide +kernel
theorem dX9_told_55 : decode cX9_told 55 = .ok (.ireturn, 1) := by decide +kernel
theorem dX9_told_56 : decode cX9_told 56 = .ok (.aload_n 0, 1) := by decide +kernel
theorem dX9_told_57 : decode cX9_told 57 = .ok (.getfield 28, 3) := by decide +kernel
theorem dX9_told_60 : decode cX9_told 60 = .ok (.getfield 137, 3) := by decide +kernel
theorem dX9_told_63 : decode cX9_told 63 = .ok (.ireturn, 1) := by decide +kernel
theorem dX9_told_64 : decode cX9_told 64 = .ok (.aload_n 0, 1) := by decide +kernel
theorem dX9_told_65 : decode cX9_told 65 = .ok (.iload_n 1, 1) := by decide +kernel
theorem dX9_told_66 : decode cX9_told 66 = .ok (.iconst 4, 1) := by decide +kernel
theorem dX9_told_67 : decode cX9_told 67 = .ok (.if_icmp .lt 13, 3) := by decide +kernel
theorem dX9_told_70 : decode cX9_told 70 = .ok (.iload_n 1, 1) := by decide +kernel
theorem dX9_told_71 : decode cX9_told 71 = .ok (.bipush 8, 2) := by decide +kernel
theorem dX9_told_73 : decode cX9_told 73 = .ok (.if_icmp .ge 7, 3) := by decide +kernel
theorem dX9_told_76 : decode cX9_told 76 = .ok (.iconst 1, 1) := by decide +kernel
theorem dX9_told_77 : decode cX9_told 77 = .ok (.goto 4, 3) := by decide +kernel
theorem dX9_told_80 : decode cX9_told 80 = .ok (.iconst 0, 1) := by decide +kernel
theorem dX9_told_81 : decode cX9_told 81 = .ok (.invokevirtual 111, 3) := by decide +kernel
theorem dX9_told_84 : decode cX9_told 84 = .ok (.aload_n 0, 1) := by decide +kernel
theorem dX9_told_85 : decode cX9_told 85 = .ok (.getfield 28, 3) := by decide +kernel
theorem dX9_told_88 : decode cX9_told 88 = .ok (.getfield 140, 3) := by decide +kernel
theorem dX9_told_91 : decode cX9_told 91 = .ok (.iload_n 1, 1) := by decide +kernel
theorem dX9_told_92 : decode cX9_told 92 = .ok (.iconst 4, 1) := by decide +kernel
theorem dX9_told_93 : decode cX9_told 93 = .ok (.isub, 1) := by decide +kernel
theorem dX9_told_94 : decode cX9_told 94 = .ok (.invokevirtual 143, 3) := by decide +kernel
theorem dX9_told_97 : decode cX9_told 97 = .ok (.ireturn, 1) := by decide +kernel
theorem dX9_crate_0 : decode cX9_crate 0 = .ok (.aload_n 0, 1) := by decide +kernel
theorem dX9_crate_1 : decode cX9_crate 1 = .ok (.iload_n 1, 1) := by decide +kernel
theorem dX9_crate_2 : decode cX9_crate 2 = .ok (.invokevirtual 146, 3) := by decide +kernel
theorem dX9_crate_5 : decode cX9_crate 5 = .ok (.aload_n 0, 1) := by decide +kernel
theorem dX9_crate_6 : decode cX9_crate 6 = .ok (.iload_n 2, 1) := by decide +kernel
theorem dX9_crate_7 : decode cX9_crate 7 = .ok (.ifCond .eq 8, 3) := by decide +kernel
theorem dX9_crate_10 : decode cX9_crate 10 = .ok (.iload_n 2, 1) := by decide +kernel
theorem dX9_crate_11 : decode cX9_crate 11 = .ok (.iconst 1, 1) := by decide +kernel
theorem dX9_crate_12 : decode cX9_crate 12 = .ok (.if_icmp .ne 7, 3) := by decide +kernel
theorem dX9_crate_15 : decode cX9_crate 15 = .ok (.iconst 1, 1) := by decide +kernel
theorem dX9_crate_16 : decode cX9_crate 16 = .ok (.goto 4, 3) := by decide +kernel
theorem dX9_crate_19 : decode cX9_crate 19 = .ok (.iconst 0, 1) := by decide +kernel
theorem dX9_crate_20 : decode cX9_crate 20 = .ok (.invokevirtual 111, 3) := by decide +kernel
theorem dX9_crate_23 : decode cX9_crate 23 = .ok (.iload_n 2, 1) := by decide +kernel
theorem dX9_crate_24 : decode cX9_crate 24 = .ok (.ifCond .ne 17, 3) := by decide +kernel
theorem dX9_crate_27 : decode cX9_crate 27 = .ok (.aload_n 0, 1) := by decide +kernel
theorem dX9_crate_28 : decode cX9_crate 28 = .ok (.getfield 28, 3) := by decide +kernel
theorem dX9_crate_31 : decode cX9_crate 31 = .ok (.getfield 149, 3) := by decide +kernel
theorem dX9_crate_34 : decode cX9_crate 34 = .ok (.iload_n 1, 1) := by decide +kernel
theorem dX9_crate_35 : decode cX9_crate 35 = .ok (.invokevirtual 143, 3) := by decide +kernel
theorem dX9_crate_38 : decode cX9_crate 38 = .ok (.goto 11, 3) := by decide +kernel
theorem dX9_crate_41 : decode cX9_crate 41 = .ok (.aload_n 0, 1) := by decide +kernel
theorem dX9_crate_42 : decode cX9_crate 42 = .ok (.getfield 35, 3) := by decide +kernel
theorem dX9_crate_45 : decode cX9_crate 45 = .ok (.iload_n 1, 1) := by decide +kernel
theorem dX9_crate_46 : decode cX9_crate 46 = .ok (.invokevirtual 152, 3) := by decide +kernel
theorem dX9_crate_49 : decode cX9_crate 49 = .ok (.ireturn, 1) := by decide +kernel
theorem dX9_row_0 : decode cX9_row 0 = .ok (.aload_n 0, 1) := by decide +kernel
theorem dX9_row_1 : decode cX9_row 1 = .ok (.iload_n 1, 1) := by decide +kernel
theorem dX9_row_2 : decode cX9_row 2 = .ok (.invokevirtual 146, 3) := by decide +kernel
theorem dX9_row_5 : decode cX9_row 5 = .ok (.aload_n 0, 1) := by decide +kernel
theorem dX9_row_6 : decode cX9_row 6 = .ok (.getfield 35, 3) := by decide +kernel
theorem dX9_row_9 : decode cX9_row 9 = .ok (.iload_n 1, 1) := by decide +kernel
theorem dX9_row_10 : decode cX9_row 10 = .ok (.iload_n 2, 1) := by decide +kernel
theorem dX9_row_11 : decode cX9_row 11 = .ok (.invokevirtual 155, 3) := by decide +kernel
theorem dX9_row_14 : decode cX9_row 14 = .ok (.ireturn, 1) := by decide +kernel
theorem dX9_sleeve_0 : decode cX9_sleeve 0 = .ok (.aload_n 0, 1) := by decide +kernel
theorem dX9_sleeve_1 : decode cX9_sleeve 1 = .ok (.iload_n 1, 1) := by decide +kernel
theorem dX9_sleeve_2 : decode cX9_sleeve 2 = .ok (.invokevirtual 159, 3) := by decide +kernel
theorem dX9_sleeve_5 : decode cX9_sleeve 5 = .ok (.aload_n 0, 1) := by decide +kernel
theorem dX9_sleeve_6 : decode cX9_sleeve 6 = .ok (.iload_n 2, 1) := by decide +kernel
theorem dX9_sleeve_7 : decode cX9_sleeve 7 = .ok (.ifCond .lt 13, 3) := by decide +kernel
theorem dX9_sleeve_10 : decode cX9_sleeve 10 = .ok (.iload_n 2, 1) := by decide +kernel
theorem dX9_sleeve_11 : decode cX9_sleeve 11 = .ok (.bipush 6, 2) := by decide +kernel
theorem dX9_sleeve_13 : decode cX9_sleeve 13 = .ok (.if_icmp .gt 7, 3) := by decide +kernel
theorem dX9_sleeve_16 : decode cX9_sleeve 16 = .ok (.iconst 1, 1) := by decide +kernel
theorem dX9_sleeve_17 : decode cX9_sleeve 17 = .ok (.goto 4, 3) := by decide +kernel
theorem dX9_sleeve_20 : decode cX9_sleeve 20 = .ok (.iconst 0, 1) := by decide +kernel
theorem dX9_sleeve_21 : decode cX9_sleeve 21 = .ok (.invokevirtual 111, 3) := by decide +kernel
theorem dX9_sleeve_24 : decode cX9_sleeve 24 = .ok (.iload_n 2, 1) := by decide +kernel
theorem dX9_sleeve_25 : decode cX9_sleeve 25 = .ok (.tableswitch 57 4 6 #[27, 39, 51], 27) := by decide +kernel
theorem dX9_sleeve_52 : decode cX9_sleeve 52 = .ok (.aload_n 0, 1) := by decide +kernel
theorem dX9_sleeve_53 : decode cX9_sleeve 53 = .ok (.getfield 35, 3) := by decide +kernel
theorem dX9_sleeve_56 : decode cX9_sleeve 56 = .ok (.getfield 162, 3) := by decide +kernel
theorem dX9_sleeve_59 : decode cX9_sleeve 59 = .ok (.iload_n 1, 1) := by decide +kernel
theorem dX9_sleeve_60 : decode cX9_sleeve 60 = .ok (.invokevirtual 143, 3) := by decide +kernel
theorem dX9_sleeve_63 : decode cX9_sleeve 63 = .ok (.ireturn, 1) := by decide +kernel
theorem dX9_sleeve_64 : decode cX9_sleeve 64 = .ok (.aload_n 0, 1) := by decide +kernel
theorem dX9_sleeve_65 : decode cX9_sleeve 65 = .ok (.getfield 35, 3) := by decide +kernel
theorem dX9_sleeve_68 : decode cX9_sleeve 68 = .ok (.getfield 165, 3) := by decide +kernel
theorem dX9_sleeve_71 : decode cX9_sleeve 71 = .ok (.iload_n 1, 1) := by decide +kernel
theorem dX9_sleeve_72 : decode cX9_sleeve 72 = .ok (.invokevirtual 143, 3) := by decide +kernel
theorem dX9_sleeve_75 : decode cX9_sleeve 75 = .ok (.ireturn, 1) := by decide +kernel
theorem dX9_sleeve_76 : decode cX9_sleeve 76 = .ok (.aload_n 0, 1) := by decide +kernel
theorem dX9_sleeve_77 : decode cX9_sleeve 77 = .ok (.iload_n 1, 1) := by decide +kernel
theorem dX9_sleeve_78 : decode cX9_sleeve 78 = .ok (.invokevirtual 168, 3) := by decide +kernel
theorem dX9_sleeve_81 : decode cX9_sleeve 81 = .ok (.ireturn, 1) := by decide +kernel
theorem dX9_sleeve_82 : decode cX9_sleeve 82 = .ok (.aload_n 0, 1) := by decide +kernel
theorem dX9_sleeve_83 : decode cX9_sleeve 83 = .ok (.getfield 28, 3) := by decide +kernel
theorem dX9_sleeve_86 : decode cX9_sleeve 86 = .ok (.iload_n 1, 1) := by decide +kernel
theorem dX9_sleeve_87 : decode cX9_sleeve 87 = .ok (.iload_n 2, 1) := by decide +kernel
theorem dX9_sleeve_88 : decode cX9_sleeve 88 = .ok (.invokevirtual 171, 3) := by decide +kernel
theorem dX9_sleeve_91 : decode cX9_sleeve 91 = .ok (.ireturn, 1) := by decide +kernel
theorem dX9_kindOf_0 : decode cX9_kindOf 0 = .ok (.aload_n 0, 1) := by decide +kernel
theorem dX9_kindOf_1 : decode cX9_kindOf 1 = .ok (.getfield 35, 3) := by decide +kernel
theorem dX9_kindOf_4 : decode cX9_kindOf 4 = .ok (.iload_n 1, 1) := by decide +kernel
theorem dX9_kindOf_5 : decode cX9_kindOf 5 = .ok (.invokevirtual 174, 3) := by decide +kernel
theorem dX9_kindOf_8 : decode cX9_kindOf 8 = .ok (.ifCond .ne 5, 3) := by decide +kernel
theorem dX9_kindOf_11 : decode cX9_kindOf 11 = .ok (.iconst 4, 1) := by decide +kernel
theorem dX9_kindOf_12 : decode cX9_kindOf 12 = .ok (.ireturn, 1) := by decide +kernel
theorem dX9_kindOf_13 : decode cX9_kindOf 13 = .ok (.aload_n 0, 1) := by decide +kernel
theorem dX9_kindOf_14 : decode cX9_kindOf 14 = .ok (.getfield 35, 3) := by decide +kernel
theorem dX9_kindOf_17 : decode cX9_kindOf 17 = .ok (.getfield 165, 3) := by decide +kernel
theorem dX9_kindOf_20 : decode cX9_kindOf 20 = .ok (.iload_n 1, 1) := by decide +kernel
theorem dX9_kindOf_21 : decode cX9_kindOf 21 = .ok (.invokevirtual 143, 3) := by decide +kernel
theorem dX9_kindOf_24 : decode cX9_kindOf 24 = .ok (.iload_n 1, 1) := by decide +kernel
theorem dX9_kindOf_25 : decode cX9_kindOf 25 = .ok (.if_icmp .eq 5, 3) := by decide +kernel
theorem dX9_kindOf_28 : decode cX9_kindOf 28 = .ok (.iconst 3, 1) := by decide +kernel
theorem dX9_kindOf_29 : decode cX9_kindOf 29 = .ok (.ireturn, 1) := by decide +kernel
theorem dX9_kindOf_30 : decode cX9_kindOf 30 = .ok (.iconst 2, 1) := by decide +kernel
theorem dX9_kindOf_31 : decode cX9_kindOf 31 = .ok (.aload_n 0, 1) := by decide +kernel
theorem dX9_kindOf_32 : decode cX9_kindOf 32 = .ok (.getfield 35, 3) := by decide +kernel
theorem dX9_kindOf_35 : decode cX9_kindOf 35 = .ok (.aload_n 0, 1) := by decide +kernel
theorem dX9_kindOf_36 : decode cX9_kindOf 36 = .ok (.getfield 28, 3) := by decide +kernel
theorem dX9_kindOf_39 : decode cX9_kindOf 39 = .ok (.iload_n 1, 1) := by decide +kernel
theorem dX9_kindOf_40 : decode cX9_kindOf 40 = .ok (.invokevirtual 178, 3) := by decide +kernel
theorem dX9_kindOf_43 : decode cX9_kindOf 43 = .ok (.invokestatic 182, 3) := by decide +kernel
theorem dX9_kindOf_46 : decode cX9_kindOf 46 = .ok (.ireturn, 1) := by decide +kernel
theorem dX9_looker_0 : decode cX9_looker 0 = .ok (.aload_n 0, 1) := by decide +kernel
theorem dX9_looker_1 : decode cX9_looker 1 = .ok (.iload_n 1, 1) := by decide +kernel
theorem dX9_looker_2 : decode cX9_looker 2 = .ok (.invokevirtual 187, 3) := by decide +kernel
theorem dX9_looker_5 : decode cX9_looker 5 = .ok (.aload_n 0, 1) := by decide +kernel
theorem dX9_looker_6 : decode cX9_looker 6 = .ok (.iload_n 2, 1) := by decide +kernel
theorem dX9_looker_7 : decode cX9_looker 7 = .ok (.ifCond .lt 13, 3) := by decide +kernel
theorem dX9_looker_10 : decode cX9_looker 10 = .ok (.iload_n 2, 1) := by decide +kernel
theorem dX9_looker_11 : decode cX9_looker 11 = .ok (.bipush 6, 2) := by decide +kernel
theorem dX9_looker_13 : decode cX9_looker 13 = .ok (.if_icmp .ge 7, 3) := by decide +kernel
theorem dX9_looker_16 : decode cX9_looker 16 = .ok (.iconst 1, 1) := by decide +kernel
theorem dX9_looker_17 : decode cX9_looker 17 = .ok (.goto 4, 3) := by decide +kernel
theorem dX9_looker_20 : decode cX9_looker 20 = .ok (.iconst 0, 1) := by decide +kernel
theorem dX9_looker_21 : decode cX9_looker 21 = .ok (.invokevirtual 111, 3) := by decide +kernel
theorem dX9_looker_24 : decode cX9_looker 24 = .ok (.aload_n 0, 1) := by decide +kernel
theorem dX9_looker_25 : decode cX9_looker 25 = .ok (.getfield 28, 3) := by decide +kernel
theorem dX9_looker_28 : decode cX9_looker 28 = .ok (.iload_n 1, 1) := by decide +kernel
theorem dX9_looker_29 : decode cX9_looker 29 = .ok (.iload_n 2, 1) := by decide +kernel
theorem dX9_looker_30 : decode cX9_looker 30 = .ok (.invokevirtual 190, 3) := by decide +kernel
theorem dX9_looker_33 : decode cX9_looker 33 = .ok (.ireturn, 1) := by decide +kernel
theorem dX9_missed_0 : decode cX9_missed 0 = .ok (.aload_n 0, 1) := by decide +kernel
theorem dX9_missed_1 : decode cX9_missed 1 = .ok (.iload_n 1, 1) := by decide +kernel
theorem dX9_missed_2 : decode cX9_missed 2 = .ok (.invokestatic 193, 3) := by decide +kernel
theorem dX9_missed_5 : decode cX9_missed 5 = .ok (.invokevirtual 111, 3) := by decide +kernel
theorem dX9_missed_8 : decode cX9_missed 8 = .ok (.aload_n 0, 1) := by decide +kernel
theorem dX9_missed_9 : decode cX9_missed 9 = .ok (.getfield 28, 3) := by decide +kernel
theorem dX9_missed_12 : decode cX9_missed 12 = .ok (.getfield 196, 3) := by decide +kernel
theorem dX9_missed_15 : decode cX9_missed 15 = .ok (.iload_n 1, 1) := by decide +kernel
theorem dX9_missed_16 : decode cX9_missed 16 = .ok (.invokevirtual 143, 3) := by decide +kernel
theorem dX9_missed_19 : decode cX9_missed 19 = .ok (.ireturn, 1) := by decide +kernel
theorem dX9_lay_0 : decode cX9_lay 0 = .ok (.aload_n 0, 1) := by decide +kernel
theorem dX9_lay_1 : decode cX9_lay 1 = .ok (.iload_n 2, 1) := by decide +kernel
theorem dX9_lay_2 : decode cX9_lay 2 = .ok (.invokevirtual 146, 3) := by decide +kernel
theorem dX9_lay_5 : decode cX9_lay 5 = .ok (.aload_n 0, 1) := by decide +kernel
theorem dX9_lay_6 : decode cX9_lay 6 = .ok (.iload_n 1, 1) := by decide +kernel
theorem dX9_lay_7 : decode cX9_lay 7 = .ok (.invokevirtual 159, 3) := by decide +kernel
theorem dX9_lay_10 : decode cX9_lay 10 = .ok (.aload_n 0, 1) := by decide +kernel
theorem dX9_lay_11 : decode cX9_lay 11 = .ok (.iload_n 1, 1) := by decide +kernel
theorem dX9_lay_12 : decode cX9_lay 12 = .ok (.invokevirtual 199, 3) := by decide +kernel
theorem dX9_lay_15 : decode cX9_lay 15 = .ok (.aload_n 0, 1) := by decide +kernel
theorem dX9_lay_16 : decode cX9_lay 16 = .ok (.getfield 35, 3) := by decide +kernel
theorem dX9_lay_19 : decode cX9_lay 19 = .ok (.getfield 162, 3) := by decide +kernel
theorem dX9_lay_22 : decode cX9_lay 22 = .ok (.iload_n 1, 1) := by decide +kernel
theorem dX9_lay_23 : decode cX9_lay 23 = .ok (.invokevirtual 143, 3) := by decide +kernel
theorem dX9_lay_26 : decode cX9_lay 26 = .ok (.istore_n 3, 1) := by decide +kernel
theorem dX9_lay_27 : decode cX9_lay 27 = .ok (.aload_n 0, 1) := by decide +kernel
theorem dX9_lay_28 : decode cX9_lay 28 = .ok (.getfield 35, 3) := by decide +kernel
theorem dX9_lay_31 : decode cX9_lay 31 = .ok (.iload_n 1, 1) := by decide +kernel
theorem dX9_lay_32 : decode cX9_lay 32 = .ok (.iload_n 2, 1) := by decide +kernel
theorem dX9_lay_33 : decode cX9_lay 33 = .ok (.invokevirtual 202, 3) := by decide +kernel
theorem dX9_lay_36 : decode cX9_lay 36 = .ok (.iload_n 3, 1) := by decide +kernel
theorem dX9_lay_37 : decode cX9_lay 37 = .ok (.ireturn, 1) := by decide +kernel
theorem dX9_change_0 : decode cX9_change 0 = .ok (.aload_n 0, 1) := by decide +kernel
theorem dX9_change_1 : decode cX9_change 1 = .ok (.iload_n 1, 1) := by decide +kernel
theorem dX9_change_2 : decode cX9_change 2 = .ok (.invokevirtual 159, 3) := by decide +kernel
theorem dX9_change_5 : decode cX9_change 5 = .ok (.aload_n 0, 1) := by decide +kernel
theorem dX9_change_6 : decode cX9_change 6 = .ok (.iload_n 2, 1) := by decide +kernel
theorem dX9_change_7 : decode cX9_change 7 = .ok (.invokevirtual 159, 3) := by decide +kernel
theorem dX9_change_10 : decode cX9_change 10 = .ok (.aload_n 0, 1) := by decide +kernel
theorem dX9_change_11 : decode cX9_change 11 = .ok (.iload_n 1, 1) := by decide +kernel
theorem dX9_change_12 : decode cX9_change 12 = .ok (.iload_n 2, 1) := by decide +kernel
theorem dX9_change_13 : decode cX9_change 13 = .ok (.if_icmp .eq 7, 3) := by decide +kernel
theorem dX9_change_16 : decode cX9_change 16 = .ok (.iconst 1, 1) := by decide +kernel
theorem dX9_change_17 : decode cX9_change 17 = .ok (.goto 4, 3) := by decide +kernel
theorem dX9_change_20 : decode cX9_change 20 = .ok (.iconst 0, 1) := by decide +kernel
theorem dX9_change_21 : decode cX9_change 21 = .ok (.invokevirtual 111, 3) := by decide +kernel
theorem dX9_change_24 : decode cX9_change 24 = .ok (.aload_n 0, 1) := by decide +kernel
theorem dX9_change_25 : decode cX9_change 25 = .ok (.getfield 35, 3) := by decide +kernel
theorem dX9_change_28 : decode cX9_change 28 = .ok (.getfield 165, 3) := by decide +kernel
theorem dX9_change_31 : decode cX9_change 31 = .ok (.iload_n 1, 1) := by decide +kernel
theorem dX9_change_32 : decode cX9_change 32 = .ok (.iload_n 2, 1) := by decide +kernel
theorem dX9_change_33 : decode cX9_change 33 = .ok (.invokevirtual 205, 3) := by decide +kernel
theorem dX9_change_36 : decode cX9_change 36 = .ok (.aload_n 0, 1) := by decide +kernel
theorem dX9_change_37 : decode cX9_change 37 = .ok (.getfield 35, 3) := by decide +kernel
theorem dX9_change_40 : decode cX9_change 40 = .ok (.getfield 165, 3) := by decide +kernel
theorem dX9_change_43 : decode cX9_change 43 = .ok (.iload_n 1, 1) := by decide +kernel
theorem dX9_change_44 : decode cX9_change 44 = .ok (.invokevirtual 143, 3) := by decide +kernel
theorem dX9_change_47 : decode cX9_change 47 = .ok (.ireturn, 1) := by decide +kernel
theorem dX9_wander_0 : decode cX9_wander 0 = .ok (.aload_n 0, 1) := by decide +kernel
theorem dX9_wander_1 : decode cX9_wander 1 = .ok (.iload_n 1, 1) := by decide +kernel
theorem dX9_wander_2 : decode cX9_wander 2 = .ok (.invokevirtual 146, 3) := by decide +kernel
theorem dX9_wander_5 : decode cX9_wander 5 = .ok (.aload_n 0, 1) := by decide +kernel
theorem dX9_wander_6 : decode cX9_wander 6 = .ok (.iload_n 2, 1) := by decide +kernel
theorem dX9_wander_7 : decode cX9_wander 7 = .ok (.ifCond .lt 18, 3) := by decide +kernel
theorem dX9_wander_10 : decode cX9_wander 10 = .ok (.iload_n 2, 1) := by decide +kernel
theorem dX9_wander_11 : decode cX9_wander 11 = .ok (.aload_n 0, 1) := by decide +kernel
theorem dX9_wander_12 : decode cX9_wander 12 = .ok (.getfield 28, 3) := by decide +kernel
theorem dX9_wander_15 : decode cX9_wander 15 = .ok (.getfield 131, 3) := by decide +kernel
theorem dX9_wander_18 : decode cX9_wander 18 = .ok (.if_icmp .ge 7, 3) := by decide +kernel
theorem dX9_wander_21 : decode cX9_wander 21 = .ok (.iconst 1, 1) := by decide +kernel
theorem dX9_wander_22 : decode cX9_wander 22 = .ok (.goto 4, 3) := by decide +kernel
theorem dX9_wander_25 : decode cX9_wander 25 = .ok (.iconst 0, 1) := by decide +kernel
theorem dX9_wander_26 : decode cX9_wander 26 = .ok (.invokevirtual 111, 3) := by decide +kernel
theorem dX9_wander_29 : decode cX9_wander 29 = .ok (.aload_n 0, 1) := by decide +kernel
theorem dX9_wander_30 : decode cX9_wander 30 = .ok (.getfield 35, 3) := by decide +kernel
theorem dX9_wander_33 : decode cX9_wander 33 = .ok (.getfield 208, 3) := by decide +kernel
theorem dX9_wander_36 : decode cX9_wander 36 = .ok (.iload_n 1, 1) := by decide +kernel
theorem dX9_wander_37 : decode cX9_wander 37 = .ok (.invokevirtual 211, 3) := by decide +kernel
theorem dX9_wander_40 : decode cX9_wander 40 = .ok (.istore_n 3, 1) := by decide +kernel
theorem dX9_wander_41 : decode cX9_wander 41 = .ok (.aload_n 0, 1) := by decide +kernel
theorem dX9_wander_42 : decode cX9_wander 42 = .ok (.getfield 35, 3) := by decide +kernel
theorem dX9_wander_45 : decode cX9_wander 45 = .ok (.getfield 208, 3) := by decide +kernel
theorem dX9_wander_48 : decode cX9_wander 48 = .ok (.iload_n 3, 1) := by decide +kernel
theorem dX9_wander_49 : decode cX9_wander 49 = .ok (.iload_n 2, 1) := by decide +kernel
theorem dX9_wander_50 : decode cX9_wander 50 = .ok (.invokevirtual 214, 3) := by decide +kernel
theorem dX9_wander_53 : decode cX9_wander 53 = .ok (.iload_n 3, 1) := by decide +kernel
theorem dX9_wander_54 : decode cX9_wander 54 = .ok (.ireturn, 1) := by decide +kernel
theorem dX9_day_0 : decode cX9_day 0 = .ok (.aload_n 0, 1) := by decide +kernel
theorem dX9_day_1 : decode cX9_day 1 = .ok (.getfield 63, 3) := by decide +kernel
theorem dX9_day_4 : decode cX9_day 4 = .ok (.iload_n 1, 1) := by decide +kernel
theorem dX9_day_5 : decode cX9_day 5 = .ok (.aload_n 0, 1) := by decide +kernel
theorem dX9_day_6 : decode cX9_day 6 = .ok (.getfield 28, 3) := by decide +kernel
theorem dX9_day_9 : decode cX9_day 9 = .ok (.invokevirtual 217, 3) := by decide +kernel
theorem dX9_day_12 : decode cX9_day 12 = .ok (.iconst 0, 1) := by decide +kernel
theorem dX9_day_13 : decode cX9_day 13 = .ok (.invokevirtual 221, 3) := by decide +kernel
theorem dX9_day_16 : decode cX9_day 16 = .ok (.aload_n 0, 1) := by decide +kernel
theorem dX9_day_17 : decode cX9_day 17 = .ok (.getfield 35, 3) := by decide +kernel
theorem dX9_day_20 : decode cX9_day 20 = .ok (.aload_n 0, 1) := by decide +kernel
theorem dX9_day_21 : decode cX9_day 21 = .ok (.getfield 63, 3) := by decide +kernel
theorem dX9_day_24 : decode cX9_day 24 = .ok (.getfield 225, 3) := by decide +kernel
theorem dX9_day_27 : decode cX9_day 27 = .ok (.invokevirtual 226, 3) := by decide +kernel
theorem dX9_day_30 : decode cX9_day 30 = .ok (.aload_n 0, 1) := by decide +kernel
theorem dX9_day_31 : decode cX9_day 31 = .ok (.getfield 63, 3) := by decide +kernel
theorem dX9_day_34 : decode cX9_day 34 = .ok (.getfield 228, 3) := by decide +kernel
theorem dX9_day_37 : decode cX9_day 37 = .ok (.invokevirtual 231, 3) := by decide +kernel
theorem dX9_day_40 : decode cX9_day 40 = .ok (.ireturn, 1) := by decide +kernel
theorem dX9_would_0 : decode cX9_would 0 = .ok (.aload_n 0, 1) := by decide +kernel
theorem dX9_would_1 : decode cX9_would 1 = .ok (.iload_n 2, 1) := by decide +kernel
theorem dX9_would_2 : decode cX9_would 2 = .ok (.ifCond .lt 12, 3) := by decide +kernel
theorem dX9_would_5 : decode cX9_would 5 = .ok (.iload_n 2, 1) := by decide +kernel
theorem dX9_would_6 : decode cX9_would 6 = .ok (.iconst 5, 1) := by decide +kernel
theorem dX9_would_7 : decode cX9_would 7 = .ok (.if_icmp .gt 7, 3) := by decide +kernel
theorem dX9_would_10 : decode cX9_would 10 = .ok (.iconst 1, 1) := by decide +kernel
theorem dX9_would_11 : decode cX9_would 11 = .ok (.goto 4, 3) := by decide +kernel
theorem dX9_would_14 : decode cX9_would 14 = .ok (.iconst 0, 1) := by decide +kernel
theorem dX9_would_15 : decode cX9_would 15 = .ok (.invokevirtual 111, 3) := by decide +kernel
theorem dX9_would_18 : decode cX9_would 18 = .ok (.aload_n 0, 1) := by decide +kernel
theorem dX9_would_19 : decode cX9_would 19 = .ok (.getfield 63, 3) := by decide +kernel
theorem dX9_would_22 : decode cX9_would 22 = .ok (.iload_n 1, 1) := by decide +kernel
theorem dX9_would_23 : decode cX9_would 23 = .ok (.aload_n 0, 1) := by decide +kernel
theorem dX9_would_24 : decode cX9_would 24 = .ok (.getfield 28, 3) := by decide +kernel
theorem dX9_would_27 : decode cX9_would 27 = .ok (.invokevirtual 217, 3) := by decide +kernel
theorem dX9_would_30 : decode cX9_would 30 = .ok (.iconst 0, 1) := by decide +kernel
theorem dX9_would_31 : decode cX9_would 31 = .ok (.invokevirtual 221, 3) := by decide +kernel
theorem dX9_would_34 : decode cX9_would 34 = .ok (.iload_n 2, 1) := by decide +kernel
theorem dX9_would_35 : decode cX9_would 35 = .ok (.tableswitch 89 0 4 #[33, 44, 55, 66, 74], 33) := by decide +kernel
theorem dX9_would_68 : decode cX9_would 68 = .ok (.aload_n 0, 1) := by decide +kernel
theorem dX9_would_69 : decode cX9_would 69 = .ok (.getfield 63, 3) := by decide +kernel
theorem dX9_would_72 : decode cX9_would 72 = .ok (.getfield 228, 3) := by decide +kernel
theorem dX9_would_75 : decode cX9_would 75 = .ok (.invokevirtual 231, 3) := by decide +kernel
theorem dX9_would_78 : decode cX9_would 78 = .ok (.ireturn, 1) := by decide +kernel
theorem dX9_would_79 : decode cX9_would 79 = .ok (.aload_n 0, 1) := by decide +kernel
theorem dX9_would_80 : decode cX9_would 80 = .ok (.getfield 63, 3) := by decide +kernel
theorem dX9_would_83 : decode cX9_would 83 = .ok (.getfield 234, 3) := by decide +kernel
theorem dX9_would_86 : decode cX9_would 86 = .ok (.invokevirtual 231, 3) := by decide +kernel
theorem dX9_would_89 : decode cX9_would 89 = .ok (.ireturn, 1) := by decide +kernel
theorem dX9_would_90 : decode cX9_would 90 = .ok (.aload_n 0, 1) := by decide +kernel
theorem dX9_would_91 : decode cX9_would 91 = .ok (.getfield 63, 3) := by decide +kernel
theorem dX9_would_94 : decode cX9_would 94 = .ok (.getfield 237, 3) := by decide +kernel
theorem dX9_would_97 : decode cX9_would 97 = .ok (.invokevirtual 231, 3) := by decide +kernel
theorem dX9_would_100 : decode cX9_would 100 = .ok (.ireturn, 1) := by decide +kernel
theorem dX9_would_101 : decode cX9_would 101 = .ok (.aload_n 0, 1) := by decide +kernel
theorem dX9_would_102 : decode cX9_would 102 = .ok (.getfield 63, 3) := by decide +kernel
theorem dX9_would_105 : decode cX9_would 105 = .ok (.getfield 240, 3) := by decide +kernel
theorem dX9_would_108 : decode cX9_would 108 = .ok (.ireturn, 1) := by decide +kernel
theorem dX9_would_109 : decode cX9_would 109 = .ok (.aload_n 0, 1) := by decide +kernel
theorem dX9_would_110 : decode cX9_would 110 = .ok (.getfield 63, 3) := by decide +kernel
theorem dX9_would_113 : decode cX9_would 113 = .ok (.getfield 225, 3) := by decide +kernel
theorem dX9_would_116 : decode cX9_would 116 = .ok (.aload_n 0, 1) := by decide +kernel
theorem dX9_would_117 : decode cX9_would 117 = .ok (.getfield 28, 3) := by decide +kernel
theorem dX9_would_120 : decode cX9_would 120 = .ok (.invokevirtual 243, 3) := by decide +kernel
theorem dX9_would_123 : decode cX9_would 123 = .ok (.ireturn, 1) := by decide +kernel
theorem dX9_would_124 : decode cX9_would 124 = .ok (.aload_n 0, 1) := by decide +kernel
theorem dX9_would_125 : decode cX9_would 125 = .ok (.getfield 63, 3) := by decide +kernel
theorem dX9_would_128 : decode cX9_would 128 = .ok (.invokevirtual 247, 3) := by decide +kernel
theorem dX9_would_131 : decode cX9_would 131 = .ok (.ireturn, 1) := by decide +kernel
theorem dX9_buys_0 : decode cX9_buys 0 = .ok (.aload_n 0, 1) := by decide +kernel
theorem dX9_buys_1 : decode cX9_buys 1 = .ok (.iload_n 1, 1) := by decide +kernel
theorem dX9_buys_2 : decode cX9_buys 2 = .ok (.invokevirtual 187, 3) := by decide +kernel
theorem dX9_buys_5 : decode cX9_buys 5 = .ok (.aload_n 0, 1) := by decide +kernel
theorem dX9_buys_6 : decode cX9_buys 6 = .ok (.iload_n 3, 1) := by decide +kernel
theorem dX9_buys_7 : decode cX9_buys 7 = .ok (.ifCond .lt 12, 3) := by decide +kernel
theorem dX9_buys_10 : decode cX9_buys 10 = .ok (.iload_n 3, 1) := by decide +kernel
theorem dX9_buys_11 : decode cX9_buys 11 = .ok (.iconst 3, 1) := by decide +kernel
theorem dX9_buys_12 : decode cX9_buys 12 = .ok (.if_icmp .gt 7, 3) := by decide +kernel
theorem dX9_buys_15 : decode cX9_buys 15 = .ok (.iconst 1, 1) := by decide +kernel
theorem dX9_buys_16 : decode cX9_buys 16 = .ok (.goto 4, 3) := by decide +kernel
theorem dX9_buys_19 : decode cX9_buys 19 = .ok (.iconst 0, 1) := by decide +kernel
theorem dX9_buys_20 : decode cX9_buys 20 = .ok (.invokevirtual 111, 3) := by decide +kernel
theorem dX9_buys_23 : decode cX9_buys 23 = .ok (.aload_n 0, 1) := by decide +kernel
theorem dX9_buys_24 : decode cX9_buys 24 = .ok (.getfield 63, 3) := by decide +kernel
theorem dX9_buys_27 : decode cX9_buys 27 = .ok (.iload_n 2, 1) := by decide +kernel
theorem dX9_buys_28 : decode cX9_buys 28 = .ok (.aload_n 0, 1) := by decide +kernel
theorem dX9_buys_29 : decode cX9_buys 29 = .ok (.getfield 28, 3) := by decide +kernel
theorem dX9_buys_32 : decode cX9_buys 32 = .ok (.invokevirtual 217, 3) := by decide +kernel
theorem dX9_buys_35 : decode cX9_buys 35 = .ok (.iconst 0, 1) := by decide +kernel
theorem dX9_buys_36 : decode cX9_buys 36 = .ok (.invokevirtual 221, 3) := by decide +kernel
theorem dX9_buys_39 : decode cX9_buys 39 = .ok (.iload_n 3, 1) := by decide +kernel
theorem dX9_buys_40 : decode cX9_buys 40 = .ok (.tableswitch 64 0 2 #[28, 40, 52], 28) := by decide +kernel
theorem dX9_buys_68 : decode cX9_buys 68 = .ok (.aload_n 0, 1) := by decide +kernel
theorem dX9_buys_69 : decode cX9_buys 69 = .ok (.getfield 63, 3) := by decide +kernel
theorem dX9_buys_72 : decode cX9_buys 72 = .ok (.getfield 228, 3) := by decide +kernel
theorem dX9_buys_75 : decode cX9_buys 75 = .ok (.iload_n 1, 1) := by decide +kernel
theorem dX9_buys_76 : decode cX9_buys 76 = .ok (.invokevirtual 143, 3) := by decide +kernel
theorem dX9_buys_79 : decode cX9_buys 79 = .ok (.ireturn, 1) := by decide +kernel
theorem dX9_buys_80 : decode cX9_buys 80 = .ok (.aload_n 0, 1) := by decide +kernel
theorem dX9_buys_81 : decode cX9_buys 81 = .ok (.getfield 63, 3) := by decide +kernel
theorem dX9_buys_84 : decode cX9_buys 84 = .ok (.getfield 234, 3) := by decide +kernel
theorem dX9_buys_87 : decode cX9_buys 87 = .ok (.iload_n 1, 1) := by decide +kernel
theorem dX9_buys_88 : decode cX9_buys 88 = .ok (.invokevirtual 143, 3) := by decide +kernel
theorem dX9_buys_91 : decode cX9_buys 91 = .ok (.ireturn, 1) := by decide +kernel
theorem dX9_buys_92 : decode cX9_buys 92 = .ok (.aload_n 0, 1) := by decide +kernel
theorem dX9_buys_93 : decode cX9_buys 93 = .ok (.getfield 63, 3) := by decide +kernel
theorem dX9_buys_96 : decode cX9_buys 96 = .ok (.getfield 237, 3) := by decide +kernel
theorem dX9_buys_99 : decode cX9_buys 99 = .ok (.iload_n 1, 1) := by decide +kernel
theorem dX9_buys_100 : decode cX9_buys 100 = .ok (.invokevirtual 143, 3) := by decide +kernel
theorem dX9_buys_103 : decode cX9_buys 103 = .ok (.ireturn, 1) := by decide +kernel
theorem dX9_buys_104 : decode cX9_buys 104 = .ok (.aload_n 0, 1) := by decide +kernel
theorem dX9_buys_105 : decode cX9_buys 105 = .ok (.getfield 63, 3) := by decide +kernel
theorem dX9_buys_108 : decode cX9_buys 108 = .ok (.getfield 250, 3) := by decide +kernel
theorem dX9_buys_111 : decode cX9_buys 111 = .ok (.iload_n 1, 1) := by decide +kernel
theorem dX9_buys_112 : decode cX9_buys 112 = .ok (.invokevirtual 143, 3) := by decide +kernel
theorem dX9_buys_115 : decode cX9_buys 115 = .ok (.ireturn, 1) := by decide +kernel
theorem dX9_then_0 : decode cX9_then 0 = .ok (.aload_n 0, 1) := by decide +kernel
theorem dX9_then_1 : decode cX9_then 1 = .ok (.iload_n 1, 1) := by decide +kernel
theorem dX9_then_2 : decode cX9_then 2 = .ok (.invokevirtual 159, 3) := by decide +kernel
theorem dX9_then_5 : decode cX9_then 5 = .ok (.aload_n 0, 1) := by decide +kernel
theorem dX9_then_6 : decode cX9_then 6 = .ok (.getfield 63, 3) := by decide +kernel
theorem dX9_then_9 : decode cX9_then 9 = .ok (.iload_n 2, 1) := by decide +kernel
theorem dX9_then_10 : decode cX9_then 10 = .ok (.aload_n 0, 1) := by decide +kernel
theorem dX9_then_11 : decode cX9_then 11 = .ok (.getfield 28, 3) := by decide +kernel
theorem dX9_then_14 : decode cX9_then 14 = .ok (.invokevirtual 217, 3) := by decide +kernel
theorem dX9_then_17 : decode cX9_then 17 = .ok (.iconst 0, 1) := by decide +kernel
theorem dX9_then_18 : decode cX9_then 18 = .ok (.invokevirtual 221, 3) := by decide +kernel
theorem dX9_then_21 : decode cX9_then 21 = .ok (.aload_n 0, 1) := by decide +kernel
theorem dX9_then_22 : decode cX9_then 22 = .ok (.getfield 63, 3) := by decide +kernel
theorem dX9_then_25 : decode cX9_then 25 = .ok (.getfield 225, 3) := by decide +kernel
theorem dX9_then_28 : decode cX9_then 28 = .ok (.getfield 162, 3) := by decide +kernel
theorem dX9_then_31 : decode cX9_then 31 = .ok (.iload_n 1, 1) := by decide +kernel
theorem dX9_then_32 : decode cX9_then 32 = .ok (.invokevirtual 143, 3) := by decide +kernel
theorem dX9_then_35 : decode cX9_then 35 = .ok (.ireturn, 1) := by decide +kernel
theorem dX9_odds_0 : decode cX9_odds 0 = .ok (.aload_n 0, 1) := by decide +kernel
theorem dX9_odds_1 : decode cX9_odds 1 = .ok (.iload_n 1, 1) := by decide +kernel
theorem dX9_odds_2 : decode cX9_odds 2 = .ok (.invokevirtual 146, 3) := by decide +kernel
theorem dX9_odds_5 : decode cX9_odds 5 = .ok (.aload_n 0, 1) := by decide +kernel
theorem dX9_odds_6 : decode cX9_odds 6 = .ok (.iload_n 2, 1) := by decide +kernel
theorem dX9_odds_7 : decode cX9_odds 7 = .ok (.invokevirtual 159, 3) := by decide +kernel
theorem dX9_odds_10 : decode cX9_odds 10 = .ok (.aload_n 0, 1) := by decide +kernel
theorem dX9_odds_11 : decode cX9_odds 11 = .ok (.iload_n 3, 1) := by decide +kernel
theorem dX9_odds_12 : decode cX9_odds 12 = .ok (.ifCond .lt 12, 3) := by decide +kernel
theorem dX9_odds_15 : decode cX9_odds 15 = .ok (.iload_n 3, 1) := by decide +kernel
theorem dX9_odds_16 : decode cX9_odds 16 = .ok (.iconst 4, 1) := by decide +kernel
theorem dX9_odds_17 : decode cX9_odds 17 = .ok (.if_icmp .gt 7, 3) := by decide +kernel
theorem dX9_odds_20 : decode cX9_odds 20 = .ok (.iconst 1, 1) := by decide +kernel
theorem dX9_odds_21 : decode cX9_odds 21 = .ok (.goto 4, 3) := by decide +kernel
theorem dX9_odds_24 : decode cX9_odds 24 = .ok (.iconst 0, 1) := by decide +kernel
theorem dX9_odds_25 : decode cX9_odds 25 = .ok (.invokevirtual 111, 3) := by decide +kernel
theorem dX9_odds_28 : decode cX9_odds 28 = .ok (.aload_n 0, 1) := by decide +kernel
theorem dX9_odds_29 : decode cX9_odds 29 = .ok (.iload 4, 2) := by decide +kernel
theorem dX9_odds_31 : decode cX9_odds 31 = .ok (.ifCond .eq 9, 3) := by decide +kernel
theorem dX9_odds_34 : decode cX9_odds 34 = .ok (.iload 4, 2) := by decide +kernel
theorem dX9_odds_36 : decode cX9_odds 36 = .ok (.iconst 1, 1) := by decide +kernel
theorem dX9_odds_37 : decode cX9_odds 37 = .ok (.if_icmp .ne 7, 3) := by decide +kernel
theorem dX9_odds_40 : decode cX9_odds 40 = .ok (.iconst 1, 1) := by decide +kernel
theorem dX9_odds_41 : decode cX9_odds 41 = .ok (.goto 4, 3) := by decide +kernel
theorem dX9_odds_44 : decode cX9_odds 44 = .ok (.iconst 0, 1) := by decide +kernel
theorem dX9_odds_45 : decode cX9_odds 45 = .ok (.invokevirtual 111, 3) := by decide +kernel
theorem dX9_odds_48 : decode cX9_odds 48 = .ok (.aload_n 0, 1) := by decide +kernel
theorem dX9_odds_49 : decode cX9_odds 49 = .ok (.iload_n 2, 1) := by decide +kernel
theorem dX9_odds_50 : decode cX9_odds 50 = .ok (.invokevirtual 199, 3) := by decide +kernel
theorem dX9_odds_53 : decode cX9_odds 53 = .ok (.aload_n 0, 1) := by decide +kernel
theorem dX9_odds_54 : decode cX9_odds 54 = .ok (.getfield 70, 3) := by decide +kernel
theorem dX9_odds_57 : decode cX9_odds 57 = .ok (.iload_n 2, 1) := by decide +kernel
theorem dX9_odds_58 : decode cX9_odds 58 = .ok (.iload_n 3, 1) := by decide +kernel
theorem dX9_odds_59 : decode cX9_odds 59 = .ok (.invokevirtual 253, 3) := by decide +kernel
theorem dX9_odds_62 : decode cX9_odds 62 = .ok (.aload_n 0, 1) := by decide +kernel
theorem dX9_odds_63 : decode cX9_odds 63 = .ok (.getfield 70, 3) := by decide +kernel
theorem dX9_odds_66 : decode cX9_odds 66 = .ok (.iload_n 1, 1) := by decide +kernel
theorem dX9_odds_67 : decode cX9_odds 67 = .ok (.invokevirtual 256, 3) := by decide +kernel
theorem dX9_odds_70 : decode cX9_odds 70 = .ok (.aload_n 0, 1) := by decide +kernel
theorem dX9_odds_71 : decode cX9_odds 71 = .ok (.getfield 70, 3) := by decide +kernel
theorem dX9_odds_74 : decode cX9_odds 74 = .ok (.getfield 260, 3) := by decide +kernel
theorem dX9_odds_77 : decode cX9_odds 77 = .ok (.iload 4, 2) := by decide +kernel
theorem dX9_odds_79 : decode cX9_odds 79 = .ok (.invokestatic 264, 3) := by decide +kernel
theorem dX9_odds_82 : decode cX9_odds 82 = .ok (.lreturn, 1) := by decide +kernel
theorem dX9_hidden_0 : decode cX9_hidden 0 = .ok (.aload_n 0, 1) := by decide +kernel
theorem dX9_hidden_1 : decode cX9_hidden 1 = .ok (.iload_n 1, 1) := by decide +kernel
theorem dX9_hidden_2 : decode cX9_hidden 2 = .ok (.ifCond .lt 13, 3) := by decide +kernel
theorem dX9_hidden_5 : decode cX9_hidden 5 = .ok (.iload_n 1, 1) := by decide +kernel
theorem dX9_hidden_6 : decode cX9_hidden 6 = .ok (.bipush 8, 2) := by decide +kernel
theorem dX9_hidden_8 : decode cX9_hidden 8 = .ok (.if_icmp .gt 7, 3) := by decide +kernel
theorem dX9_hidden_11 : decode cX9_hidden 11 = .ok (.iconst 1, 1) := by decide +kernel
theorem dX9_hidden_12 : decode cX9_hidden 12 = .ok (.goto 4, 3) := by decide +kernel
theorem dX9_hidden_15 : decode cX9_hidden 15 = .ok (.iconst 0, 1) := by decide +kernel
theorem dX9_hidden_16 : decode cX9_hidden 16 = .ok (.invokevirtual 111, 3) := by decide +kernel
theorem dX9_hidden_19 : decode cX9_hidden 19 = .ok (.iconst 0, 1) := by decide +kernel
theorem dX9_hidden_20 : decode cX9_hidden 20 = .ok (.istore_n 2, 1) := by decide +kernel
theorem dX9_hidden_21 : decode cX9_hidden 21 = .ok (.iconst 0, 1) := by decide +kernel
theorem dX9_hidden_22 : decode cX9_hidden 22 = .ok (.istore_n 3, 1) := by decide +kernel
theorem dX9_hidden_23 : decode cX9_hidden 23 = .ok (.iload_n 3, 1) := by decide +kernel
theorem dX9_hidden_24 : decode cX9_hidden 24 = .ok (.aload_n 0, 1) := by decide +kernel
theorem dX9_hidden_25 : decode cX9_hidden 25 = .ok (.getfield 28, 3) := by decide +kernel
theorem dX9_hidden_28 : decode cX9_hidden 28 = .ok (.getfield 128, 3) := by decide +kernel
theorem dX9_hidden_31 : decode cX9_hidden 31 = .ok (.if_icmp .ge 38, 3) := by decide +kernel
theorem dX9_hidden_34 : decode cX9_hidden 34 = .ok (.aload_n 0, 1) := by decide +kernel
theorem dX9_hidden_35 : decode cX9_hidden 35 = .ok (.getfield 35, 3) := by decide +kernel
theorem dX9_hidden_38 : decode cX9_hidden 38 = .ok (.iload_n 3, 1) := by decide +kernel
theorem dX9_hidden_39 : decode cX9_hidden 39 = .ok (.invokevirtual 174, 3) := by decide +kernel
theorem dX9_hidden_42 : decode cX9_hidden 42 = .ok (.ifCond .eq 21, 3) := by decide +kernel
theorem dX9_hidden_45 : decode cX9_hidden 45 = .ok (.aload_n 0, 1) := by decide +kernel
theorem dX9_hidden_46 : decode cX9_hidden 46 = .ok (.getfield 70, 3) := by decide +kernel
theorem dX9_hidden_49 : decode cX9_hidden 49 = .ok (.iload_n 3, 1) := by decide +kernel
theorem dX9_hidden_50 : decode cX9_hidden 50 = .ok (.iload_n 1, 1) := by decide +kernel
theorem dX9_hidden_51 : decode cX9_hidden 51 = .ok (.invokevirtual 268, 3) := by decide +kernel
theorem dX9_hidden_54 : decode cX9_hidden 54 = .ok (.ifCond .ne 9, 3) := by decide +kernel
theorem dX9_hidden_57 : decode cX9_hidden 57 = .ok (.iload_n 2, 1) := by decide +kernel
theorem dX9_hidden_58 : decode cX9_hidden 58 = .ok (.iconst 1, 1) := by decide +kernel
theorem dX9_hidden_59 : decode cX9_hidden 59 = .ok (.iload_n 3, 1) := by decide +kernel
theorem dX9_hidden_60 : decode cX9_hidden 60 = .ok (.ishl, 1) := by decide +kernel
theorem dX9_hidden_61 : decode cX9_hidden 61 = .ok (.ior, 1) := by decide +kernel
theorem dX9_hidden_62 : decode cX9_hidden 62 = .ok (.istore_n 2, 1) := by decide +kernel
theorem dX9_hidden_63 : decode cX9_hidden 63 = .ok (.iinc 3 1, 3) := by decide +kernel
theorem dX9_hidden_66 : decode cX9_hidden 66 = .ok (.goto (-43), 3) := by decide +kernel
theorem dX9_hidden_69 : decode cX9_hidden 69 = .ok (.iload_n 2, 1) := by decide +kernel
theorem dX9_hidden_70 : decode cX9_hidden 70 = .ok (.ireturn, 1) := by decide +kernel
theorem dX9_order_0 : decode cX9_order 0 = .ok (.aload_n 0, 1) := by decide +kernel
theorem dX9_order_1 : decode cX9_order 1 = .ok (.iload_n 1, 1) := by decide +kernel
theorem dX9_order_2 : decode cX9_order 2 = .ok (.iload_n 2, 1) := by decide +kernel
theorem dX9_order_3 : decode cX9_order 3 = .ok (.iload_n 3, 1) := by decide +kernel
theorem dX9_order_4 : decode cX9_order 4 = .ok (.iconst 0, 1) := by decide +kernel
theorem dX9_order_5 : decode cX9_order 5 = .ok (.invokevirtual 272, 3) := by decide +kernel
theorem dX9_order_8 : decode cX9_order 8 = .ok (.aload_n 0, 1) := by decide +kernel
theorem dX9_order_9 : decode cX9_order 9 = .ok (.getfield 28, 3) := by decide +kernel
theorem dX9_order_12 : decode cX9_order 12 = .ok (.iload 4, 2) := by decide +kernel
theorem dX9_order_14 : decode cX9_order 14 = .ok (.invokevirtual 276, 3) := by decide +kernel
theorem dX9_order_17 : decode cX9_order 17 = .ok (.ifCond .ne 5, 3) := by decide +kernel
theorem dX9_order_20 : decode cX9_order 20 = .ok (.iconst (-1), 1) := by decide +kernel
theorem dX9_order_21 : decode cX9_order 21 = .ok (.ireturn, 1) := by decide +kernel
theorem dX9_order_22 : decode cX9_order 22 = .ok (.aload_n 0, 1) := by decide +kernel
theorem dX9_order_23 : decode cX9_order 23 = .ok (.getfield 70, 3) := by decide +kernel
theorem dX9_order_26 : decode cX9_order 26 = .ok (.iload_n 1, 1) := by decide +kernel
theorem dX9_order_27 : decode cX9_order 27 = .ok (.iload_n 2, 1) := by decide +kernel
theorem dX9_order_28 : decode cX9_order 28 = .ok (.iload_n 3, 1) := by decide +kernel
theorem dX9_order_29 : decode cX9_order 29 = .ok (.invokevirtual 279, 3) := by decide +kernel
theorem dX9_order_32 : decode cX9_order 32 = .ok (.aload_n 0, 1) := by decide +kernel
theorem dX9_order_33 : decode cX9_order 33 = .ok (.getfield 70, 3) := by decide +kernel
theorem dX9_order_36 : decode cX9_order 36 = .ok (.getfield 283, 3) := by decide +kernel
theorem dX9_order_39 : decode cX9_order 39 = .ok (.iload 4, 2) := by decide +kernel
theorem dX9_order_41 : decode cX9_order 41 = .ok (.invokevirtual 143, 3) := by decide +kernel
theorem dX9_order_44 : decode cX9_order 44 = .ok (.ireturn, 1) := by decide +kernel
theorem dX9_mean_0 : decode cX9_mean 0 = .ok (.aload_n 0, 1) := by decide +kernel
theorem dX9_mean_1 : decode cX9_mean 1 = .ok (.iload_n 1, 1) := by decide +kernel
theorem dX9_mean_2 : decode cX9_mean 2 = .ok (.iload_n 2, 1) := by decide +kernel
theorem dX9_mean_3 : decode cX9_mean 3 = .ok (.iload_n 3, 1) := by decide +kernel
theorem dX9_mean_4 : decode cX9_mean 4 = .ok (.iload 4, 2) := by decide +kernel
theorem dX9_mean_6 : decode cX9_mean 6 = .ok (.invokevirtual 272, 3) := by decide +kernel
theorem dX9_mean_9 : decode cX9_mean 9 = .ok (.aload_n 0, 1) := by decide +kernel
theorem dX9_mean_10 : decode cX9_mean 10 = .ok (.getfield 70, 3) := by decide +kernel
theorem dX9_mean_13 : decode cX9_mean 13 = .ok (.iload_n 1, 1) := by decide +kernel
theorem dX9_mean_14 : decode cX9_mean 14 = .ok (.iload_n 2, 1) := by decide +kernel
theorem dX9_mean_15 : decode cX9_mean 15 = .ok (.iload_n 3, 1) := by decide +kernel
theorem dX9_mean_16 : decode cX9_mean 16 = .ok (.invokevirtual 279, 3) := by decide +kernel
theorem dX9_mean_19 : decode cX9_mean 19 = .ok (.aload_n 0, 1) := by decide +kernel
theorem dX9_mean_20 : decode cX9_mean 20 = .ok (.getfield 70, 3) := by decide +kernel
theorem dX9_mean_23 : decode cX9_mean 23 = .ok (.iload_n 3, 1) := by decide +kernel
theorem dX9_mean_24 : decode cX9_mean 24 = .ok (.invokevirtual 286, 3) := by decide +kernel
theorem dX9_mean_27 : decode cX9_mean 27 = .ok (.aload_n 0, 1) := by decide +kernel
theorem dX9_mean_28 : decode cX9_mean 28 = .ok (.getfield 70, 3) := by decide +kernel
theorem dX9_mean_31 : decode cX9_mean 31 = .ok (.getfield 260, 3) := by decide +kernel
theorem dX9_mean_34 : decode cX9_mean 34 = .ok (.iload 4, 2) := by decide +kernel
theorem dX9_mean_36 : decode cX9_mean 36 = .ok (.invokestatic 264, 3) := by decide +kernel
theorem dX9_mean_39 : decode cX9_mean 39 = .ok (.lreturn, 1) := by decide +kernel
theorem dX9_needSearch_0 : decode cX9_needSearch 0 = .ok (.aload_n 0, 1) := by decide +kernel
theorem dX9_needSearch_1 : decode cX9_needSearch 1 = .ok (.iload_n 1, 1) := by decide +kernel
theorem dX9_needSearch_2 : decode cX9_needSearch 2 = .ok (.invokevirtual 159, 3) := by decide +kernel
theorem dX9_needSearch_5 : decode cX9_needSearch 5 = .ok (.aload_n 0, 1) := by decide +kernel
theorem dX9_needSearch_6 : decode cX9_needSearch 6 = .ok (.iload_n 2, 1) := by decide +kernel
theorem dX9_needSearch_7 : decode cX9_needSearch 7 = .ok (.ifCond .lt 12, 3) := by decide +kernel
theorem dX9_needSearch_10 : decode cX9_needSearch 10 = .ok (.iload_n 2, 1) := by decide +kernel
theorem dX9_needSearch_11 : decode cX9_needSearch 11 = .ok (.iconst 4, 1) := by decide +kernel
theorem dX9_needSearch_12 : decode cX9_needSearch 12 = .ok (.if_icmp .gt 7, 3) := by decide +kernel
theorem dX9_needSearch_15 : decode cX9_needSearch 15 = .ok (.iconst 1, 1) := by decide +kernel
theorem dX9_needSearch_16 : decode cX9_needSearch 16 = .ok (.goto 4, 3) := by decide +kernel
theorem dX9_needSearch_19 : decode cX9_needSearch 19 = .ok (.iconst 0, 1) := by decide +kernel
theorem dX9_needSearch_20 : decode cX9_needSearch 20 = .ok (.invokevirtual 111, 3) := by decide +kernel
theorem dX9_needSearch_23 : decode cX9_needSearch 23 = .ok (.aload_n 0, 1) := by decide +kernel
theorem dX9_needSearch_24 : decode cX9_needSearch 24 = .ok (.iload_n 3, 1) := by decide +kernel
theorem dX9_needSearch_25 : decode cX9_needSearch 25 = .ok (.invokestatic 193, 3) := by decide +kernel
theorem dX9_needSearch_28 : decode cX9_needSearch 28 = .ok (.invokevirtual 111, 3) := by decide +kernel
theorem dX9_needSearch_31 : decode cX9_needSearch 31 = .ok (.aload_n 0, 1) := by decide +kernel
theorem dX9_needSearch_32 : decode cX9_needSearch 32 = .ok (.iload 4, 2) := by decide +kernel
theorem dX9_needSearch_34 : decode cX9_needSearch 34 = .ok (.ifCond .eq 9, 3) := by decide +kernel
theorem dX9_needSearch_37 : decode cX9_needSearch 37 = .ok (.iload 4, 2) := by decide +kernel
theorem dX9_needSearch_39 : decode cX9_needSearch 39 = .ok (.iconst 1, 1) := by decide +kernel
theorem dX9_needSearch_40 : decode cX9_needSearch 40 = .ok (.if_icmp .ne 7, 3) := by decide +kernel
theorem dX9_needSearch_43 : decode cX9_needSearch 43 = .ok (.iconst 1, 1) := by decide +kernel
theorem dX9_needSearch_44 : decode cX9_needSearch 44 = .ok (.goto 4, 3) := by decide +kernel
theorem dX9_needSearch_47 : decode cX9_needSearch 47 = .ok (.iconst 0, 1) := by decide +kernel
theorem dX9_needSearch_48 : decode cX9_needSearch 48 = .ok (.invokevirtual 111, 3) := by decide +kernel
theorem dX9_needSearch_51 : decode cX9_needSearch 51 = .ok (.aload_n 0, 1) := by decide +kernel
theorem dX9_needSearch_52 : decode cX9_needSearch 52 = .ok (.iload_n 1, 1) := by decide +kernel
theorem dX9_needSearch_53 : decode cX9_needSearch 53 = .ok (.invokevirtual 199, 3) := by decide +kernel
theorem dX9_needSearch_56 : decode cX9_needSearch 56 = .ok (.return_, 1) := by decide +kernel
theorem dX9_pace_0 : decode cX9_pace 0 = .ok (.iconst 1, 1) := by decide +kernel
theorem dX9_pace_1 : decode cX9_pace 1 = .ok (.istore_n 1, 1) := by decide +kernel
theorem dX9_pace_2 : decode cX9_pace 2 = .ok (.iconst 2, 1) := by decide +kernel
theorem dX9_pace_3 : decode cX9_pace 3 = .ok (.istore_n 2, 1) := by decide +kernel
theorem dX9_pace_4 : decode cX9_pace 4 = .ok (.iload_n 2, 1) := by decide +kernel
theorem dX9_pace_5 : decode cX9_pace 5 = .ok (.bipush 8, 2) := by decide +kernel
theorem dX9_pace_7 : decode cX9_pace 7 = .ok (.if_icmp .gt 46, 3) := by decide +kernel
theorem dX9_pace_10 : decode cX9_pace 10 = .ok (.iload_n 2, 1) := by decide +kernel
theorem dX9_pace_11 : decode cX9_pace 11 = .ok (.bipush 8, 2) := by decide +kernel
theorem dX9_pace_13 : decode cX9_pace 13 = .ok (.aload_n 0, 1) := by decide +kernel
theorem dX9_pace_14 : decode cX9_pace 14 = .ok (.getfield 28, 3) := by decide +kernel
theorem dX9_pace_17 : decode cX9_pace 17 = .ok (.getfield 196, 3) := by decide +kernel
theorem dX9_pace_20 : decode cX9_pace 20 = .ok (.iload_n 2, 1) := by decide +kernel
theorem dX9_pace_21 : decode cX9_pace 21 = .ok (.invokevirtual 143, 3) := by decide +kernel
theorem dX9_pace_24 : decode cX9_pace 24 = .ok (.isub, 1) := by decide +kernel
theorem dX9_pace_25 : decode cX9_pace 25 = .ok (.imul, 1) := by decide +kernel
theorem dX9_pace_26 : decode cX9_pace 26 = .ok (.iload_n 1, 1) := by decide +kernel
theorem dX9_pace_27 : decode cX9_pace 27 = .ok (.bipush 8, 2) := by decide +kernel
theorem dX9_pace_29 : decode cX9_pace 29 = .ok (.aload_n 0, 1) := by decide +kernel
theorem dX9_pace_30 : decode cX9_pace 30 = .ok (.getfield 28, 3) := by decide +kernel
theorem dX9_pace_33 : decode cX9_pace 33 = .ok (.getfield 196, 3) := by decide +kernel
theorem dX9_pace_36 : decode cX9_pace 36 = .ok (.iload_n 1, 1) := by decide +kernel
theorem dX9_pace_37 : decode cX9_pace 37 = .ok (.invokevirtual 143, 3) := by decide +kernel
theorem dX9_pace_40 : decode cX9_pace 40 = .ok (.isub, 1) := by decide +kernel
theorem dX9_pace_41 : decode cX9_pace 41 = .ok (.imul, 1) := by decide +kernel
theorem dX9_pace_42 : decode cX9_pace 42 = .ok (.if_icmp .le 5, 3) := by decide +kernel
theorem dX9_pace_45 : decode cX9_pace 45 = .ok (.iload_n 2, 1) := by decide +kernel
theorem dX9_pace_46 : decode cX9_pace 46 = .ok (.istore_n 1, 1) := by decide +kernel
theorem dX9_pace_47 : decode cX9_pace 47 = .ok (.iinc 2 1, 3) := by decide +kernel
theorem dX9_pace_50 : decode cX9_pace 50 = .ok (.goto (-46), 3) := by decide +kernel
theorem dX9_pace_53 : decode cX9_pace 53 = .ok (.iload_n 1, 1) := by decide +kernel
theorem dX9_pace_54 : decode cX9_pace 54 = .ok (.ireturn, 1) := by decide +kernel
theorem dX9_round_0 : decode cX9_round 0 = .ok (.aload_n 0, 1) := by decide +kernel
theorem dX9_round_1 : decode cX9_round 1 = .ok (.iload_n 1, 1) := by decide +kernel
theorem dX9_round_2 : decode cX9_round 2 = .ok (.ifCond .eq 8, 3) := by decide +kernel
theorem dX9_round_5 : decode cX9_round 5 = .ok (.iload_n 1, 1) := by decide +kernel
theorem dX9_round_6 : decode cX9_round 6 = .ok (.iconst 1, 1) := by decide +kernel
theorem dX9_round_7 : decode cX9_round 7 = .ok (.if_icmp .ne 7, 3) := by decide +kernel
theorem dX9_round_10 : decode cX9_round 10 = .ok (.iconst 1, 1) := by decide +kernel
theorem dX9_round_11 : decode cX9_round 11 = .ok (.goto 4, 3) := by decide +kernel
theorem dX9_round_14 : decode cX9_round 14 = .ok (.iconst 0, 1) := by decide +kernel
theorem dX9_round_15 : decode cX9_round 15 = .ok (.invokevirtual 111, 3) := by decide +kernel
theorem dX9_round_18 : decode cX9_round 18 = .ok (.iconst 0, 1) := by decide +kernel
theorem dX9_round_19 : decode cX9_round 19 = .ok (.istore_n 2, 1) := by decide +kernel
theorem dX9_round_20 : decode cX9_round 20 = .ok (.iconst (-1), 1) := by decide +kernel
theorem dX9_round_21 : decode cX9_round 21 = .ok (.istore_n 3, 1) := by decide +kernel
theorem dX9_round_22 : decode cX9_round 22 = .ok (.iconst 0, 1) := by decide +kernel
theorem dX9_round_23 : decode cX9_round 23 = .ok (.istore 4, 2) := by decide +kernel
theorem dX9_round_25 : decode cX9_round 25 = .ok (.iload 4, 2) := by decide +kernel
theorem dX9_round_27 : decode cX9_round 27 = .ok (.iconst 1, 1) := by decide +kernel
theorem dX9_round_28 : decode cX9_round 28 = .ok (.aload_n 0, 1) := by decide +kernel
theorem dX9_round_29 : decode cX9_round 29 = .ok (.getfield 28, 3) := by decide +kernel
theorem dX9_round_32 : decode cX9_round 32 = .ok (.getfield 134, 3) := by decide +kernel
theorem dX9_round_35 : decode cX9_round 35 = .ok (.ishl, 1) := by decide +kernel
theorem dX9_round_36 : decode cX9_round 36 = .ok (.if_icmp .ge 49, 3) := by decide +kernel
theorem dX9_round_39 : decode cX9_round 39 = .ok (.aload_n 0, 1) := by decide +kernel
theorem dX9_round_40 : decode cX9_round 40 = .ok (.getfield 63, 3) := by decide +kernel
theorem dX9_round_43 : decode cX9_round 43 = .ok (.iconst 0, 1) := by decide +kernel
theorem dX9_round_44 : decode cX9_round 44 = .ok (.iload 4, 2) := by decide +kernel
theorem dX9_round_46 : decode cX9_round 46 = .ok (.iconst 1, 1) := by decide +kernel
theorem dX9_round_47 : decode cX9_round 47 = .ok (.invokevirtual 221, 3) := by decide +kernel
theorem dX9_round_50 : decode cX9_round 50 = .ok (.aload_n 0, 1) := by decide +kernel
theorem dX9_round_51 : decode cX9_round 51 = .ok (.getfield 63, 3) := by decide +kernel
theorem dX9_round_54 : decode cX9_round 54 = .ok (.getfield 237, 3) := by decide +kernel
theorem dX9_round_57 : decode cX9_round 57 = .ok (.invokevirtual 231, 3) := by decide +kernel
theorem dX9_round_60 : decode cX9_round 60 = .ok (.istore 5, 2) := by decide +kernel
theorem dX9_round_62 : decode cX9_round 62 = .ok (.iload_n 3, 1) := by decide +kernel
theorem dX9_round_63 : decode cX9_round 63 = .ok (.iconst (-1), 1) := by decide +kernel
theorem dX9_round_64 : decode cX9_round 64 = .ok (.if_icmp .eq 9, 3) := by decide +kernel
theorem dX9_round_67 : decode cX9_round 67 = .ok (.iload 5, 2) := by decide +kernel
theorem dX9_round_69 : decode cX9_round 69 = .ok (.iload_n 3, 1) := by decide +kernel
theorem dX9_round_70 : decode cX9_round 70 = .ok (.if_icmp .ge 9, 3) := by decide +kernel
theorem dX9_round_73 : decode cX9_round 73 = .ok (.iload 4, 2) := by decide +kernel
theorem dX9_round_75 : decode cX9_round 75 = .ok (.istore_n 2, 1) := by decide +kernel
theorem dX9_round_76 : decode cX9_round 76 = .ok (.iload 5, 2) := by decide +kernel
theorem dX9_round_78 : decode cX9_round 78 = .ok (.istore_n 3, 1) := by decide +kernel
theorem dX9_round_79 : decode cX9_round 79 = .ok (.iinc 4 1, 3) := by decide +kernel
theorem dX9_round_82 : decode cX9_round 82 = .ok (.goto (-57), 3) := by decide +kernel
theorem dX9_round_85 : decode cX9_round 85 = .ok (.iload_n 1, 1) := by decide +kernel
theorem dX9_round_86 : decode cX9_round 86 = .ok (.ifCond .ne 7, 3) := by decide +kernel
theorem dX9_round_89 : decode cX9_round 89 = .ok (.iload_n 2, 1) := by decide +kernel
theorem dX9_round_90 : decode cX9_round 90 = .ok (.goto 4, 3) := by decide +kernel
theorem dX9_round_93 : decode cX9_round 93 = .ok (.iload_n 3, 1) := by decide +kernel
theorem dX9_round_94 : decode cX9_round 94 = .ok (.ireturn, 1) := by decide +kernel
theorem dX9_basket_0 : decode cX9_basket 0 = .ok (.aload_n 0, 1) := by decide +kernel
theorem dX9_basket_1 : decode cX9_basket 1 = .ok (.iload_n 1, 1) := by decide +kernel
theorem dX9_basket_2 : decode cX9_basket 2 = .ok (.ifCond .lt 14, 3) := by decide +kernel
theorem dX9_basket_5 : decode cX9_basket 5 = .ok (.iload_n 1, 1) := by decide +kernel
theorem dX9_basket_6 : decode cX9_basket 6 = .ok (.sipush 999, 3) := by decide +kernel
theorem dX9_basket_9 : decode cX9_basket 9 = .ok (.if_icmp .gt 7, 3) := by decide +kernel
theorem dX9_basket_12 : decode cX9_basket 12 = .ok (.iconst 1, 1) := by decide +kernel
theorem dX9_basket_13 : decode cX9_basket 13 = .ok (.goto 4, 3) := by decide +kernel
theorem dX9_basket_16 : decode cX9_basket 16 = .ok (.iconst 0, 1) := by decide +kernel
theorem dX9_basket_17 : decode cX9_basket 17 = .ok (.invokevirtual 111, 3) := by decide +kernel
theorem dX9_basket_20 : decode cX9_basket 20 = .ok (.aload_n 0, 1) := by decide +kernel
theorem dX9_basket_21 : decode cX9_basket 21 = .ok (.iload_n 2, 1) := by decide +kernel
theorem dX9_basket_22 : decode cX9_basket 22 = .ok (.ifCond .lt 12, 3) := by decide +kernel
theorem dX9_basket_25 : decode cX9_basket 25 = .ok (.iload_n 2, 1) := by decide +kernel
theorem dX9_basket_26 : decode cX9_basket 26 = .ok (.iconst 2, 1) := by decide +kernel
theorem dX9_basket_27 : decode cX9_basket 27 = .ok (.if_icmp .gt 7, 3) := by decide +kernel
theorem dX9_basket_30 : decode cX9_basket 30 = .ok (.iconst 1, 1) := by decide +kernel
theorem dX9_basket_31 : decode cX9_basket 31 = .ok (.goto 4, 3) := by decide +kernel
theorem dX9_basket_34 : decode cX9_basket 34 = .ok (.iconst 0, 1) := by decide +kernel
theorem dX9_basket_35 : decode cX9_basket 35 = .ok (.invokevirtual 111, 3) := by decide +kernel
theorem dX9_basket_38 : decode cX9_basket 38 = .ok (.aload_n 0, 1) := by decide +kernel
theorem dX9_basket_39 : decode cX9_basket 39 = .ok (.getfield 77, 3) := by decide +kernel
theorem dX9_basket_42 : decode cX9_basket 42 = .ok (.iload_n 1, 1) := by decide +kernel
theorem dX9_basket_43 : decode cX9_basket 43 = .ok (.invokevirtual 289, 3) := by decide +kernel
theorem dX9_basket_46 : decode cX9_basket 46 = .ok (.istore_n 3, 1) := by decide +kernel
theorem dX9_basket_47 : decode cX9_basket 47 = .ok (.iload_n 2, 1) := by decide +kernel
theorem dX9_basket_48 : decode cX9_basket 48 = .ok (.lookupswitch 42 #[(0, 28), (1, 40)], 28) := by decide +kernel
theorem dX9_basket_76 : decode cX9_basket 76 = .ok (.aload_n 0, 1) := by decide +kernel
theorem dX9_basket_77 : decode cX9_basket 77 = .ok (.getfield 77, 3) := by decide +kernel
theorem dX9_basket_80 : decode cX9_basket 80 = .ok (.getfield 292, 3) := by decide +kernel
theorem dX9_basket_83 : decode cX9_basket 83 = .ok (.iload_n 3, 1) := by decide +kernel
theorem dX9_basket_84 : decode cX9_basket 84 = .ok (.invokevirtual 143, 3) := by decide +kernel
theorem dX9_basket_87 : decode cX9_basket 87 = .ok (.ireturn, 1) := by decide +kernel
theorem dX9_basket_88 : decode cX9_basket 88 = .ok (.iload_n 3, 1) := by decide +kernel
theorem dX9_basket_89 : decode cX9_basket 89 = .ok (.ireturn, 1) := by decide +kernel
theorem dX9_basket_90 : decode cX9_basket 90 = .ok (.aload_n 0, 1) := by decide +kernel
theorem dX9_basket_91 : decode cX9_basket 91 = .ok (.getfield 77, 3) := by decide +kernel
theorem dX9_basket_94 : decode cX9_basket 94 = .ok (.getfield 295, 3) := by decide +kernel
theorem dX9_basket_97 : decode cX9_basket 97 = .ok (.iload_n 3, 1) := by decide +kernel
theorem dX9_basket_98 : decode cX9_basket 98 = .ok (.invokevirtual 143, 3) := by decide +kernel
theorem dX9_basket_101 : decode cX9_basket 101 = .ok (.ireturn, 1) := by decide +kernel
theorem dX9_sort_0 : decode cX9_sort 0 = .ok (.iconst 0, 1) := by decide +kernel
theorem dX9_sort_1 : decode cX9_sort 1 = .ok (.istore_n 1, 1) := by decide +kernel
theorem dX9_sort_2 : decode cX9_sort 2 = .ok (.iconst 0, 1) := by decide +kernel
theorem dX9_sort_3 : decode cX9_sort 3 = .ok (.istore_n 2, 1) := by decide +kernel
theorem dX9_sort_4 : decode cX9_sort 4 = .ok (.iload_n 2, 1) := by decide +kernel
theorem dX9_sort_5 : decode cX9_sort 5 = .ok (.aload_n 0, 1) := by decide +kernel
theorem dX9_sort_6 : decode cX9_sort 6 = .ok (.getfield 28, 3) := by decide +kernel
theorem dX9_sort_9 : decode cX9_sort 9 = .ok (.getfield 128, 3) := by decide +kernel
theorem dX9_sort_12 : decode cX9_sort 12 = .ok (.if_icmp .ge 44, 3) := by decide +kernel
theorem dX9_sort_15 : decode cX9_sort 15 = .ok (.aload_n 0, 1) := by decide +kernel
theorem dX9_sort_16 : decode cX9_sort 16 = .ok (.getfield 35, 3) := by decide +kernel
theorem dX9_sort_19 : decode cX9_sort 19 = .ok (.aload_n 0, 1) := by decide +kernel
theorem dX9_sort_20 : decode cX9_sort 20 = .ok (.getfield 28, 3) := by decide +kernel
theorem dX9_sort_23 : decode cX9_sort 23 = .ok (.iload_n 2, 1) := by decide +kernel
theorem dX9_sort_24 : decode cX9_sort 24 = .ok (.invokevirtual 178, 3) := by decide +kernel
theorem dX9_sort_27 : decode cX9_sort 27 = .ok (.ifCond .le 23, 3) := by decide +kernel
theorem dX9_sort_30 : decode cX9_sort 30 = .ok (.aload_n 0, 1) := by decide +kernel
theorem dX9_sort_31 : decode cX9_sort 31 = .ok (.getfield 35, 3) := by decide +kernel
theorem dX9_sort_34 : decode cX9_sort 34 = .ok (.iload_n 2, 1) := by decide +kernel
theorem dX9_sort_35 : decode cX9_sort 35 = .ok (.aload_n 0, 1) := by decide +kernel
theorem dX9_sort_36 : decode cX9_sort 36 = .ok (.getfield 28, 3) := by decide +kernel
theorem dX9_sort_39 : decode cX9_sort 39 = .ok (.iload_n 2, 1) := by decide +kernel
theorem dX9_sort_40 : decode cX9_sort 40 = .ok (.iconst 3, 1) := by decide +kernel
theorem dX9_sort_41 : decode cX9_sort 41 = .ok (.invokevirtual 171, 3) := by decide +kernel
theorem dX9_sort_44 : decode cX9_sort 44 = .ok (.invokevirtual 202, 3) := by decide +kernel
theorem dX9_sort_47 : decode cX9_sort 47 = .ok (.iinc 1 1, 3) := by decide +kernel
theorem dX9_sort_50 : decode cX9_sort 50 = .ok (.iinc 2 1, 3) := by decide +kernel
theorem dX9_sort_53 : decode cX9_sort 53 = .ok (.goto (-49), 3) := by decide +kernel
theorem dX9_sort_56 : decode cX9_sort 56 = .ok (.iload_n 1, 1) := by decide +kernel
theorem dX9_sort_57 : decode cX9_sort 57 = .ok (.ireturn, 1) := by decide +kernel
theorem dX9_off_0 : decode cX9_off 0 = .ok (.aload_n 0, 1) := by decide +kernel
theorem dX9_off_1 : decode cX9_off 1 = .ok (.getfield 35, 3) := by decide +kernel
theorem dX9_off_4 : decode cX9_off 4 = .ok (.aload_n 0, 1) := by decide +kernel
theorem dX9_off_5 : decode cX9_off 5 = .ok (.getfield 28, 3) := by decide +kernel
theorem dX9_off_8 : decode cX9_off 8 = .ok (.invokevirtual 243, 3) := by decide +kernel
theorem dX9_off_11 : decode cX9_off 11 = .ok (.ireturn, 1) := by decide +kernel
theorem dX9_often_0 : decode cX9_often 0 = .ok (.aload_n 0, 1) := by decide +kernel
theorem dX9_often_1 : decode cX9_often 1 = .ok (.iload_n 1, 1) := by decide +kernel
theorem dX9_often_2 : decode cX9_often 2 = .ok (.ifCond .lt 14, 3) := by decide +kernel
theorem dX9_often_5 : decode cX9_often 5 = .ok (.iload_n 1, 1) := by decide +kernel
theorem dX9_often_6 : decode cX9_often 6 = .ok (.sipush 9999, 3) := by decide +kernel
theorem dX9_often_9 : decode cX9_often 9 = .ok (.if_icmp .gt 7, 3) := by decide +kernel
theorem dX9_often_12 : decode cX9_often 12 = .ok (.iconst 1, 1) := by decide +kernel
theorem dX9_often_13 : decode cX9_often 13 = .ok (.goto 4, 3) := by decide +kernel
theorem dX9_often_16 : decode cX9_often 16 = .ok (.iconst 0, 1) := by decide +kernel
theorem dX9_often_17 : decode cX9_often 17 = .ok (.invokevirtual 111, 3) := by decide +kernel
theorem dX9_often_20 : decode cX9_often 20 = .ok (.aload_n 0, 1) := by decide +kernel
theorem dX9_often_21 : decode cX9_often 21 = .ok (.iload_n 2, 1) := by decide +kernel
theorem dX9_often_22 : decode cX9_often 22 = .ok (.ifCond .lt 13, 3) := by decide +kernel
theorem dX9_often_25 : decode cX9_often 25 = .ok (.iload_n 2, 1) := by decide +kernel
theorem dX9_often_26 : decode cX9_often 26 = .ok (.bipush 99, 2) := by decide +kernel
theorem dX9_often_28 : decode cX9_often 28 = .ok (.if_icmp .gt 7, 3) := by decide +kernel
theorem dX9_often_31 : decode cX9_often 31 = .ok (.iconst 1, 1) := by decide +kernel
theorem dX9_often_32 : decode cX9_often 32 = .ok (.goto 4, 3) := by decide +kernel
theorem dX9_often_35 : decode cX9_often 35 = .ok (.iconst 0, 1) := by decide +kernel
theorem dX9_often_36 : decode cX9_often 36 = .ok (.invokevirtual 111, 3) := by decide +kernel
theorem dX9_often_39 : decode cX9_often 39 = .ok (.aload_n 0, 1) := by decide +kernel
theorem dX9_often_40 : decode cX9_often 40 = .ok (.iload_n 3, 1) := by decide +kernel
theorem dX9_often_41 : decode cX9_often 41 = .ok (.ifCond .lt 13, 3) := by decide +kernel
theorem dX9_often_44 : decode cX9_often 44 = .ok (.iload_n 3, 1) := by decide +kernel
theorem dX9_often_45 : decode cX9_often 45 = .ok (.bipush 99, 2) := by decide +kernel
theorem dX9_often_47 : decode cX9_often 47 = .ok (.if_icmp .gt 7, 3) := by decide +kernel
theorem dX9_often_50 : decode cX9_often 50 = .ok (.iconst 1, 1) := by decide +kernel
theorem dX9_often_51 : decode cX9_often 51 = .ok (.goto 4, 3) := by decide +kernel
theorem dX9_often_54 : decode cX9_often 54 = .ok (.iconst 0, 1) := by decide +kernel
theorem dX9_often_55 : decode cX9_often 55 = .ok (.invokevirtual 111, 3) := by decide +kernel
theorem dX9_often_58 : decode cX9_often 58 = .ok (.aload_n 0, 1) := by decide +kernel
theorem dX9_often_59 : decode cX9_often 59 = .ok (.iload 4, 2) := by decide +kernel
theorem dX9_often_61 : decode cX9_often 61 = .ok (.ifCond .lt 13, 3) := by decide +kernel
theorem dX9_often_64 : decode cX9_often 64 = .ok (.iload 4, 2) := by decide +kernel
theorem dX9_often_66 : decode cX9_often 66 = .ok (.iconst 2, 1) := by decide +kernel
theorem dX9_often_67 : decode cX9_often 67 = .ok (.if_icmp .gt 7, 3) := by decide +kernel
theorem dX9_often_70 : decode cX9_often 70 = .ok (.iconst 1, 1) := by decide +kernel
theorem dX9_often_71 : decode cX9_often 71 = .ok (.goto 4, 3) := by decide +kernel
theorem dX9_often_74 : decode cX9_often 74 = .ok (.iconst 0, 1) := by decide +kernel
theorem dX9_often_75 : decode cX9_often 75 = .ok (.invokevirtual 111, 3) := by decide +kernel
theorem dX9_often_78 : decode cX9_often 78 = .ok (.iconst 1, 1) := by decide +kernel
theorem dX9_often_79 : decode cX9_often 79 = .ok (.istore 5, 2) := by decide +kernel
theorem dX9_often_81 : decode cX9_often 81 = .ok (.iconst 2, 1) := by decide +kernel
theorem dX9_often_82 : decode cX9_often 82 = .ok (.istore 6, 2) := by decide +kernel
theorem dX9_often_84 : decode cX9_often 84 = .ok (.iload 6, 2) := by decide +kernel
theorem dX9_often_86 : decode cX9_often 86 = .ok (.bipush 60, 2) := by decide +kernel
theorem dX9_often_88 : decode cX9_often 88 = .ok (.if_icmp .gt 41, 3) := by decide +kernel
theorem dX9_often_91 : decode cX9_often 91 = .ok (.iload_n 1, 1) := by decide +kernel
theorem dX9_often_92 : decode cX9_often 92 = .ok (.iload_n 2, 1) := by decide +kernel
theorem dX9_often_93 : decode cX9_often 93 = .ok (.iload_n 3, 1) := by decide +kernel
theorem dX9_often_94 : decode cX9_often 94 = .ok (.iload 6, 2) := by decide +kernel
theorem dX9_often_96 : decode cX9_often 96 = .ok (.invokestatic 298, 3) := by decide +kernel
theorem dX9_often_99 : decode cX9_often 99 = .ok (.iload 5, 2) := by decide +kernel
theorem dX9_often_101 : decode cX9_often 101 = .ok (.i2l, 1) := by decide +kernel
theorem dX9_often_102 : decode cX9_often 102 = .ok (.lmul, 1) := by decide +kernel
theorem dX9_often_103 : decode cX9_often 103 = .ok (.iload_n 1, 1) := by decide +kernel
theorem dX9_often_104 : decode cX9_often 104 = .ok (.iload_n 2, 1) := by decide +kernel
theorem dX9_often_105 : decode cX9_often 105 = .ok (.iload_n 3, 1) := by decide +kernel
theorem dX9_often_106 : decode cX9_often 106 = .ok (.iload 5, 2) := by decide +kernel
theorem dX9_often_108 : decode cX9_often 108 = .ok (.invokestatic 298, 3) := by decide +kernel
theorem dX9_often_111 : decode cX9_often 111 = .ok (.iload 6, 2) := by decide +kernel
theorem dX9_often_113 : decode cX9_often 113 = .ok (.i2l, 1) := by decide +kernel
theorem dX9_often_114 : decode cX9_often 114 = .ok (.lmul, 1) := by decide +kernel
theorem dX9_often_115 : decode cX9_often 115 = .ok (.lcmp, 1) := by decide +kernel
theorem dX9_often_116 : decode cX9_often 116 = .ok (.ifCond .ge 7, 3) := by decide +kernel
theorem dX9_often_119 : decode cX9_often 119 = .ok (.iload 6, 2) := by decide +kernel
theorem dX9_often_121 : decode cX9_often 121 = .ok (.istore 5, 2) := by decide +kernel
theorem dX9_often_123 : decode cX9_often 123 = .ok (.iinc 6 1, 3) := by decide +kernel
theorem dX9_often_126 : decode cX9_often 126 = .ok (.goto (-42), 3) := by decide +kernel
theorem dX9_often_129 : decode cX9_often 129 = .ok (.iload 4, 2) := by decide +kernel
theorem dX9_often_131 : decode cX9_often 131 = .ok (.ifCond .ne 8, 3) := by decide +kernel
theorem dX9_often_134 : decode cX9_often 134 = .ok (.iload 5, 2) := by decide +kernel
theorem dX9_often_136 : decode cX9_often 136 = .ok (.goto 22, 3) := by decide +kernel
theorem dX9_often_139 : decode cX9_often 139 = .ok (.iload_n 1, 1) := by decide +kernel
theorem dX9_often_140 : decode cX9_often 140 = .ok (.iload_n 2, 1) := by decide +kernel
theorem dX9_often_141 : decode cX9_often 141 = .ok (.iload_n 3, 1) := by decide +kernel
theorem dX9_often_142 : decode cX9_often 142 = .ok (.iload 5, 2) := by decide +kernel
theorem dX9_often_144 : decode cX9_often 144 = .ok (.invokestatic 298, 3) := by decide +kernel
theorem dX9_often_147 : decode cX9_often 147 = .ok (.iload 5, 2) := by decide +kernel
theorem dX9_often_149 : decode cX9_often 149 = .ok (.i2l, 1) := by decide +kernel
theorem dX9_often_150 : decode cX9_often 150 = .ok (.iload 4, 2) := by decide +kernel
theorem dX9_often_152 : decode cX9_often 152 = .ok (.iconst 1, 1) := by decide +kernel
theorem dX9_often_153 : decode cX9_often 153 = .ok (.isub, 1) := by decide +kernel
theorem dX9_often_154 : decode cX9_often 154 = .ok (.invokestatic 264, 3) := by decide +kernel
theorem dX9_often_157 : decode cX9_often 157 = .ok (.l2i, 1) := by decide +kernel
theorem dX9_often_158 : decode cX9_often 158 = .ok (.ireturn, 1) := by decide +kernel
theorem dX9_sortingCost_0 : decode cX9_sortingCost 0 = .ok (.iload_n 0, 1) := by decide +kernel
theorem dX9_sortingCost_1 : decode cX9_sortingCost 1 = .ok (.i2l, 1) := by decide +kernel
theorem dX9_sortingCost_2 : decode cX9_sortingCost 2 = .ok (.iload_n 1, 1) := by decide +kernel
theorem dX9_sortingCost_3 : decode cX9_sortingCost 3 = .ok (.i2l, 1) := by decide +kernel
theorem dX9_sortingCost_4 : decode cX9_sortingCost 4 = .ok (.iload_n 3, 1) := by decide +kernel
theorem dX9_sortingCost_5 : decode cX9_sortingCost 5 = .ok (.i2l, 1) := by decide +kernel
theorem dX9_sortingCost_6 : decode cX9_sortingCost 6 = .ok (.lmul, 1) := by decide +kernel
theorem dX9_sortingCost_7 : decode cX9_sortingCost 7 = .ok (.ladd, 1) := by decide +kernel
theorem dX9_sortingCost_8 : decode cX9_sortingCost 8 = .ok (.iload_n 2, 1) := by decide +kernel
theorem dX9_sortingCost_9 : decode cX9_sortingCost 9 = .ok (.i2l, 1) := by decide +kernel
theorem dX9_sortingCost_10 : decode cX9_sortingCost 10 = .ok (.iload_n 1, 1) := by decide +kernel
theorem dX9_sortingCost_11 : decode cX9_sortingCost 11 = .ok (.i2l, 1) := by decide +kernel
theorem dX9_sortingCost_12 : decode cX9_sortingCost 12 = .ok (.lmul, 1) := by decide +kernel
theorem dX9_sortingCost_13 : decode cX9_sortingCost 13 = .ok (.iload_n 3, 1) := by decide +kernel
theorem dX9_sortingCost_14 : decode cX9_sortingCost 14 = .ok (.i2l, 1) := by decide +kernel
theorem dX9_sortingCost_15 : decode cX9_sortingCost 15 = .ok (.lmul, 1) := by decide +kernel
theorem dX9_sortingCost_16 : decode cX9_sortingCost 16 = .ok (.iload_n 3, 1) := by decide +kernel
theorem dX9_sortingCost_17 : decode cX9_sortingCost 17 = .ok (.iconst 1, 1) := by decide +kernel
theorem dX9_sortingCost_18 : decode cX9_sortingCost 18 = .ok (.isub, 1) := by decide +kernel
theorem dX9_sortingCost_19 : decode cX9_sortingCost 19 = .ok (.i2l, 1) := by decide +kernel
theorem dX9_sortingCost_20 : decode cX9_sortingCost 20 = .ok (.lmul, 1) := by decide +kernel
theorem dX9_sortingCost_21 : decode cX9_sortingCost 21 = .ok (.ldc2_w 302, 3) := by decide +kernel
theorem dX9_sortingCost_24 : decode cX9_sortingCost 24 = .ok (.ldiv, 1) := by decide +kernel
theorem dX9_sortingCost_25 : decode cX9_sortingCost 25 = .ok (.ladd, 1) := by decide +kernel
theorem dX9_sortingCost_26 : decode cX9_sortingCost 26 = .ok (.lreturn, 1) := by decide +kernel
theorem dX9_changes_0 : decode cX9_changes 0 = .ok (.aload_n 0, 1) := by decide +kernel
theorem dX9_changes_1 : decode cX9_changes 1 = .ok (.getfield 86, 3) := by decide +kernel
theorem dX9_changes_4 : decode cX9_changes 4 = .ok (.invokevirtual 304, 3) := by decide +kernel
theorem dX9_changes_7 : decode cX9_changes 7 = .ok (.ireturn, 1) := by decide +kernel
theorem dX9_changed_0 : decode cX9_changed 0 = .ok (.aload_n 0, 1) := by decide +kernel
theorem dX9_changed_1 : decode cX9_changed 1 = .ok (.getfield 86, 3) := by decide +kernel
theorem dX9_changed_4 : decode cX9_changed 4 = .ok (.invokevirtual 304, 3) := by decide +kernel
theorem dX9_changed_7 : decode cX9_changed 7 = .ok (.istore_n 2, 1) := by decide +kernel
theorem dX9_changed_8 : decode cX9_changed 8 = .ok (.iload_n 1, 1) := by decide +kernel
theorem dX9_changed_9 : decode cX9_changed 9 = .ok (.ifCond .lt 22, 3) := by decide +kernel
theorem dX9_changed_12 : decode cX9_changed 12 = .ok (.iload_n 1, 1) := by decide +kernel
theorem dX9_changed_13 : decode cX9_changed 13 = .ok (.iload_n 2, 1) := by decide +kernel
theorem dX9_changed_14 : decode cX9_changed 14 = .ok (.if_icmp .ge 17, 3) := by decide +kernel
theorem dX9_changed_17 : decode cX9_changed 17 = .ok (.aload_n 0, 1) := by decide +kernel
theorem dX9_changed_18 : decode cX9_changed 18 = .ok (.getfield 86, 3) := by decide +kernel
theorem dX9_changed_21 : decode cX9_changed 21 = .ok (.getfield 307, 3) := by decide +kernel
theorem dX9_changed_24 : decode cX9_changed 24 = .ok (.iload_n 1, 1) := by decide +kernel
theorem dX9_changed_25 : decode cX9_changed 25 = .ok (.invokevirtual 143, 3) := by decide +kernel
theorem dX9_changed_28 : decode cX9_changed 28 = .ok (.goto 4, 3) := by decide +kernel
theorem dX9_changed_31 : decode cX9_changed 31 = .ok (.iconst (-1), 1) := by decide +kernel
theorem dX9_changed_32 : decode cX9_changed 32 = .ok (.ireturn, 1) := by decide +kernel
theorem dX9_divider_0 : decode cX9_divider 0 = .ok (.aload_n 0, 1) := by decide +kernel
theorem dX9_divider_1 : decode cX9_divider 1 = .ok (.getfield 28, 3) := by decide +kernel
theorem dX9_divider_4 : decode cX9_divider 4 = .ok (.iload_n 1, 1) := by decide +kernel
theorem dX9_divider_5 : decode cX9_divider 5 = .ok (.invokevirtual 276, 3) := by decide +kernel
theorem dX9_divider_8 : decode cX9_divider 8 = .ok (.ifCond .eq 17, 3) := by decide +kernel
theorem dX9_divider_11 : decode cX9_divider 11 = .ok (.aload_n 0, 1) := by decide +kernel
theorem dX9_divider_12 : decode cX9_divider 12 = .ok (.getfield 35, 3) := by decide +kernel
theorem dX9_divider_15 : decode cX9_divider 15 = .ok (.getfield 208, 3) := by decide +kernel
theorem dX9_divider_18 : decode cX9_divider 18 = .ok (.iload_n 1, 1) := by decide +kernel
theorem dX9_divider_19 : decode cX9_divider 19 = .ok (.invokevirtual 143, 3) := by decide +kernel
theorem dX9_divider_22 : decode cX9_divider 22 = .ok (.goto 4, 3) := by decide +kernel
theorem dX9_divider_25 : decode cX9_divider 25 = .ok (.iconst (-1), 1) := by decide +kernel
theorem dX9_divider_26 : decode cX9_divider 26 = .ok (.ireturn, 1) := by decide +kernel
theorem dX9_moves_0 : decode cX9_moves 0 = .ok (.aload_n 0, 1) := by decide +kernel
theorem dX9_moves_1 : decode cX9_moves 1 = .ok (.iload_n 1, 1) := by decide +kernel
theorem dX9_moves_2 : decode cX9_moves 2 = .ok (.ifCond .eq 8, 3) := by decide +kernel
theorem dX9_moves_5 : decode cX9_moves 5 = .ok (.iload_n 1, 1) := by decide +kernel
theorem dX9_moves_6 : decode cX9_moves 6 = .ok (.iconst 1, 1) := by decide +kernel
theorem dX9_moves_7 : decode cX9_moves 7 = .ok (.if_icmp .ne 7, 3) := by decide +kernel
theorem dX9_moves_10 : decode cX9_moves 10 = .ok (.iconst 1, 1) := by decide +kernel
theorem dX9_moves_11 : decode cX9_moves 11 = .ok (.goto 4, 3) := by decide +kernel
theorem dX9_moves_14 : decode cX9_moves 14 = .ok (.iconst 0, 1) := by decide +kernel
theorem dX9_moves_15 : decode cX9_moves 15 = .ok (.invokevirtual 111, 3) := by decide +kernel
theorem dX9_moves_18 : decode cX9_moves 18 = .ok (.iconst 0, 1) := by decide +kernel
theorem dX9_moves_19 : decode cX9_moves 19 = .ok (.istore_n 2, 1) := by decide +kernel
theorem dX9_moves_20 : decode cX9_moves 20 = .ok (.iconst 1, 1) := by decide +kernel
theorem dX9_moves_21 : decode cX9_moves 21 = .ok (.istore_n 3, 1) := by decide +kernel
theorem dX9_moves_22 : decode cX9_moves 22 = .ok (.iload_n 3, 1) := by decide +kernel
theorem dX9_moves_23 : decode cX9_moves 23 = .ok (.iconst 1, 1) := by decide +kernel
theorem dX9_moves_24 : decode cX9_moves 24 = .ok (.aload_n 0, 1) := by decide +kernel
theorem dX9_moves_25 : decode cX9_moves 25 = .ok (.getfield 28, 3) := by decide +kernel
theorem dX9_moves_28 : decode cX9_moves 28 = .ok (.getfield 131, 3) := by decide +kernel
theorem dX9_moves_31 : decode cX9_moves 31 = .ok (.ishl, 1) := by decide +kernel
theorem dX9_moves_32 : decode cX9_moves 32 = .ok (.if_icmp .ge 30, 3) := by decide +kernel
theorem dX9_moves_35 : decode cX9_moves 35 = .ok (.iload_n 3, 1) := by decide +kernel
theorem dX9_moves_36 : decode cX9_moves 36 = .ok (.invokestatic 310, 3) := by decide +kernel
theorem dX9_moves_39 : decode cX9_moves 39 = .ok (.iload_n 2, 1) := by decide +kernel
theorem dX9_moves_40 : decode cX9_moves 40 = .ok (.invokestatic 310, 3) := by decide +kernel
theorem dX9_moves_43 : decode cX9_moves 43 = .ok (.if_icmp .le 13, 3) := by decide +kernel
theorem dX9_moves_46 : decode cX9_moves 46 = .ok (.aload_n 0, 1) := by decide +kernel
theorem dX9_moves_47 : decode cX9_moves 47 = .ok (.iload_n 3, 1) := by decide +kernel
theorem dX9_moves_48 : decode cX9_moves 48 = .ok (.invokevirtual 315, 3) := by decide +kernel
theorem dX9_moves_51 : decode cX9_moves 51 = .ok (.ifCond .eq 5, 3) := by decide +kernel
theorem dX9_moves_54 : decode cX9_moves 54 = .ok (.iload_n 3, 1) := by decide +kernel
theorem dX9_moves_55 : decode cX9_moves 55 = .ok (.istore_n 2, 1) := by decide +kernel
theorem dX9_moves_56 : decode cX9_moves 56 = .ok (.iinc 3 1, 3) := by decide +kernel
theorem dX9_moves_59 : decode cX9_moves 59 = .ok (.goto (-37), 3) := by decide +kernel
theorem dX9_moves_62 : decode cX9_moves 62 = .ok (.iload_n 1, 1) := by decide +kernel
theorem dX9_moves_63 : decode cX9_moves 63 = .ok (.ifCond .ne 18, 3) := by decide +kernel
theorem dX9_moves_66 : decode cX9_moves 66 = .ok (.aload_n 0, 1) := by decide +kernel
theorem dX9_moves_67 : decode cX9_moves 67 = .ok (.getfield 28, 3) := by decide +kernel
theorem dX9_moves_70 : decode cX9_moves 70 = .ok (.getfield 131, 3) := by decide +kernel
theorem dX9_moves_73 : decode cX9_moves 73 = .ok (.iload_n 2, 1) := by decide +kernel
theorem dX9_moves_74 : decode cX9_moves 74 = .ok (.invokestatic 310, 3) := by decide +kernel
theorem dX9_moves_77 : decode cX9_moves 77 = .ok (.isub, 1) := by decide +kernel
theorem dX9_moves_78 : decode cX9_moves 78 = .ok (.goto 4, 3) := by decide +kernel
theorem dX9_moves_81 : decode cX9_moves 81 = .ok (.iload_n 2, 1) := by decide +kernel
theorem dX9_moves_82 : decode cX9_moves 82 = .ok (.ireturn, 1) := by decide +kernel
theorem dX9_standByNumber_0 : decode cX9_standByNumber 0 = .ok (.iconst (-1), 1) := by decide +kernel
theorem dX9_standByNumber_1 : decode cX9_standByNumber 1 = .ok (.istore_n 2, 1) := by decide +kernel
theorem dX9_standByNumber_2 : decode cX9_standByNumber 2 = .ok (.iconst 0, 1) := by decide +kernel
theorem dX9_standByNumber_3 : decode cX9_standByNumber 3 = .ok (.istore_n 3, 1) := by decide +kernel
theorem dX9_standByNumber_4 : decode cX9_standByNumber 4 = .ok (.iload_n 3, 1) := by decide +kernel
theorem dX9_standByNumber_5 : decode cX9_standByNumber 5 = .ok (.aload_n 0, 1) := by decide +kernel
theorem dX9_standByNumber_6 : decode cX9_standByNumber 6 = .ok (.getfield 28, 3) := by decide +kernel
theorem dX9_standByNumber_9 : decode cX9_standByNumber 9 = .ok (.getfield 131, 3) := by decide +kernel
theorem dX9_standByNumber_12 : decode cX9_standByNumber 12 = .ok (.if_icmp .ge 42, 3) := by decide +kernel
theorem dX9_standByNumber_15 : decode cX9_standByNumber 15 = .ok (.aload_n 0, 1) := by decide +kernel
theorem dX9_standByNumber_16 : decode cX9_standByNumber 16 = .ok (.getfield 35, 3) := by decide +kernel
theorem dX9_standByNumber_19 : decode cX9_standByNumber 19 = .ok (.getfield 208, 3) := by decide +kernel
theorem dX9_standByNumber_22 : decode cX9_standByNumber 22 = .ok (.iload_n 3, 1) := by decide +kernel
theorem dX9_standByNumber_23 : decode cX9_standByNumber 23 = .ok (.invokevirtual 143, 3) := by decide +kernel
theorem dX9_standByNumber_26 : decode cX9_standByNumber 26 = .ok (.istore 4, 2) := by decide +kernel
theorem dX9_standByNumber_28 : decode cX9_standByNumber 28 = .ok (.iload_n 1, 1) := by decide +kernel
theorem dX9_standByNumber_29 : decode cX9_standByNumber 29 = .ok (.iload 4, 2) := by decide +kernel
theorem dX9_standByNumber_31 : decode cX9_standByNumber 31 = .ok (.invokestatic 318, 3) := by decide +kernel
theorem dX9_standByNumber_34 : decode cX9_standByNumber 34 = .ok (.ifCond .eq 14, 3) := by decide +kernel
theorem dX9_standByNumber_37 : decode cX9_standByNumber 37 = .ok (.iload 4, 2) := by decide +kernel
theorem dX9_standByNumber_39 : decode cX9_standByNumber 39 = .ok (.iload_n 2, 1) := by decide +kernel
theorem dX9_standByNumber_40 : decode cX9_standByNumber 40 = .ok (.if_icmp .ge 5, 3) := by decide +kernel
theorem dX9_standByNumber_43 : decode cX9_standByNumber 43 = .ok (.iconst 0, 1) := by decide +kernel
theorem dX9_standByNumber_44 : decode cX9_standByNumber 44 = .ok (.ireturn, 1) := by decide +kernel
theorem dX9_standByNumber_45 : decode cX9_standByNumber 45 = .ok (.iload 4, 2) := by decide +kernel
theorem dX9_standByNumber_47 : decode cX9_standByNumber 47 = .ok (.istore_n 2, 1) := by decide +kernel
theorem dX9_standByNumber_48 : decode cX9_standByNumber 48 = .ok (.iinc 3 1, 3) := by decide +kernel
theorem dX9_standByNumber_51 : decode cX9_standByNumber 51 = .ok (.goto (-47), 3) := by decide +kernel
theorem dX9_standByNumber_54 : decode cX9_standByNumber 54 = .ok (.iconst 1, 1) := by decide +kernel
theorem dX9_standByNumber_55 : decode cX9_standByNumber 55 = .ok (.ireturn, 1) := by decide +kernel
theorem dX9_rests_0 : decode cX9_rests 0 = .ok (.aload_n 0, 1) := by decide +kernel
theorem dX9_rests_1 : decode cX9_rests 1 = .ok (.iload_n 1, 1) := by decide +kernel
theorem dX9_rests_2 : decode cX9_rests 2 = .ok (.iconst 2, 1) := by decide +kernel
theorem dX9_rests_3 : decode cX9_rests 3 = .ok (.if_icmp .lt 12, 3) := by decide +kernel
theorem dX9_rests_6 : decode cX9_rests 6 = .ok (.iload_n 1, 1) := by decide +kernel
theorem dX9_rests_7 : decode cX9_rests 7 = .ok (.iconst 4, 1) := by decide +kernel
theorem dX9_rests_8 : decode cX9_rests 8 = .ok (.if_icmp .gt 7, 3) := by decide +kernel
theorem dX9_rests_11 : decode cX9_rests 11 = .ok (.iconst 1, 1) := by decide +kernel
theorem dX9_rests_12 : decode cX9_rests 12 = .ok (.goto 4, 3) := by decide +kernel
theorem dX9_rests_15 : decode cX9_rests 15 = .ok (.iconst 0, 1) := by decide +kernel
theorem dX9_rests_16 : decode cX9_rests 16 = .ok (.invokevirtual 111, 3) := by decide +kernel
theorem dX9_rests_19 : decode cX9_rests 19 = .ok (.aload_n 0, 1) := by decide +kernel
theorem dX9_rests_20 : decode cX9_rests 20 = .ok (.iload_n 2, 1) := by decide +kernel
theorem dX9_rests_21 : decode cX9_rests 21 = .ok (.iconst 2, 1) := by decide +kernel
theorem dX9_rests_22 : decode cX9_rests 22 = .ok (.if_icmp .lt 12, 3) := by decide +kernel
theorem dX9_rests_25 : decode cX9_rests 25 = .ok (.iload_n 2, 1) := by decide +kernel
theorem dX9_rests_26 : decode cX9_rests 26 = .ok (.iconst 4, 1) := by decide +kernel
theorem dX9_rests_27 : decode cX9_rests 27 = .ok (.if_icmp .gt 7, 3) := by decide +kernel
theorem dX9_rests_30 : decode cX9_rests 30 = .ok (.iconst 1, 1) := by decide +kernel
theorem dX9_rests_31 : decode cX9_rests 31 = .ok (.goto 4, 3) := by decide +kernel
theorem dX9_rests_34 : decode cX9_rests 34 = .ok (.iconst 0, 1) := by decide +kernel
theorem dX9_rests_35 : decode cX9_rests 35 = .ok (.invokevirtual 111, 3) := by decide +kernel
theorem dX9_rests_38 : decode cX9_rests 38 = .ok (.aload_n 0, 1) := by decide +kernel
theorem dX9_rests_39 : decode cX9_rests 39 = .ok (.iload_n 3, 1) := by decide +kernel
theorem dX9_rests_40 : decode cX9_rests 40 = .ok (.ifCond .lt 13, 3) := by decide +kernel
theorem dX9_rests_43 : decode cX9_rests 43 = .ok (.iload_n 3, 1) := by decide +kernel
theorem dX9_rests_44 : decode cX9_rests 44 = .ok (.bipush 99, 2) := by decide +kernel
theorem dX9_rests_46 : decode cX9_rests 46 = .ok (.if_icmp .gt 7, 3) := by decide +kernel
theorem dX9_rests_49 : decode cX9_rests 49 = .ok (.iconst 1, 1) := by decide +kernel
theorem dX9_rests_50 : decode cX9_rests 50 = .ok (.goto 4, 3) := by decide +kernel
theorem dX9_rests_53 : decode cX9_rests 53 = .ok (.iconst 0, 1) := by decide +kernel
theorem dX9_rests_54 : decode cX9_rests 54 = .ok (.invokevirtual 111, 3) := by decide +kernel
theorem dX9_rests_57 : decode cX9_rests 57 = .ok (.aload_n 0, 1) := by decide +kernel
theorem dX9_rests_58 : decode cX9_rests 58 = .ok (.iload 4, 2) := by decide +kernel
theorem dX9_rests_60 : decode cX9_rests 60 = .ok (.iconst 1, 1) := by decide +kernel
theorem dX9_rests_61 : decode cX9_rests 61 = .ok (.if_icmp .lt 15, 3) := by decide +kernel
theorem dX9_rests_64 : decode cX9_rests 64 = .ok (.iload 4, 2) := by decide +kernel
theorem dX9_rests_66 : decode cX9_rests 66 = .ok (.sipush 999, 3) := by decide +kernel
theorem dX9_rests_69 : decode cX9_rests 69 = .ok (.if_icmp .gt 7, 3) := by decide +kernel
theorem dX9_rests_72 : decode cX9_rests 72 = .ok (.iconst 1, 1) := by decide +kernel
theorem dX9_rests_73 : decode cX9_rests 73 = .ok (.goto 4, 3) := by decide +kernel
theorem dX9_rests_76 : decode cX9_rests 76 = .ok (.iconst 0, 1) := by decide +kernel
theorem dX9_rests_77 : decode cX9_rests 77 = .ok (.invokevirtual 111, 3) := by decide +kernel
theorem dX9_rests_80 : decode cX9_rests 80 = .ok (.aload_n 0, 1) := by decide +kernel
theorem dX9_rests_81 : decode cX9_rests 81 = .ok (.iload 5, 2) := by decide +kernel
theorem dX9_rests_83 : decode cX9_rests 83 = .ok (.ifCond .eq 9, 3) := by decide +kernel
theorem dX9_rests_86 : decode cX9_rests 86 = .ok (.iload 5, 2) := by decide +kernel
theorem dX9_rests_88 : decode cX9_rests 88 = .ok (.iconst 1, 1) := by decide +kernel
theorem dX9_rests_89 : decode cX9_rests 89 = .ok (.if_icmp .ne 7, 3) := by decide +kernel
theorem dX9_rests_92 : decode cX9_rests 92 = .ok (.iconst 1, 1) := by decide +kernel
theorem dX9_rests_93 : decode cX9_rests 93 = .ok (.goto 4, 3) := by decide +kernel
theorem dX9_rests_96 : decode cX9_rests 96 = .ok (.iconst 0, 1) := by decide +kernel
theorem dX9_rests_97 : decode cX9_rests 97 = .ok (.invokevirtual 111, 3) := by decide +kernel
theorem dX9_rests_100 : decode cX9_rests 100 = .ok (.aload_n 0, 1) := by decide +kernel
theorem dX9_rests_101 : decode cX9_rests 101 = .ok (.getfield 93, 3) := by decide +kernel
theorem dX9_rests_104 : decode cX9_rests 104 = .ok (.iload_n 1, 1) := by decide +kernel
theorem dX9_rests_105 : decode cX9_rests 105 = .ok (.iload_n 2, 1) := by decide +kernel
theorem dX9_rests_106 : decode cX9_rests 106 = .ok (.iload_n 3, 1) := by decide +kernel
theorem dX9_rests_107 : decode cX9_rests 107 = .ok (.iload 4, 2) := by decide +kernel
theorem dX9_rests_109 : decode cX9_rests 109 = .ok (.invokevirtual 321, 3) := by decide +kernel
theorem dX9_rests_112 : decode cX9_rests 112 = .ok (.aload_n 0, 1) := by decide +kernel
theorem dX9_rests_113 : decode cX9_rests 113 = .ok (.getfield 93, 3) := by decide +kernel
theorem dX9_rests_116 : decode cX9_rests 116 = .ok (.invokevirtual 323, 3) := by decide +kernel
theorem dX9_rests_119 : decode cX9_rests 119 = .ok (.iload 5, 2) := by decide +kernel
theorem dX9_rests_121 : decode cX9_rests 121 = .ok (.ifCond .ne 13, 3) := by decide +kernel
theorem dX9_rests_124 : decode cX9_rests 124 = .ok (.aload_n 0, 1) := by decide +kernel
theorem dX9_rests_125 : decode cX9_rests 125 = .ok (.getfield 93, 3) := by decide +kernel
theorem dX9_rests_128 : decode cX9_rests 128 = .ok (.getfield 326, 3) := by decide +kernel
theorem dX9_rests_131 : decode cX9_rests 131 = .ok (.goto 10, 3) := by decide +kernel
theorem dX9_rests_134 : decode cX9_rests 134 = .ok (.aload_n 0, 1) := by decide +kernel
theorem dX9_rests_135 : decode cX9_rests 135 = .ok (.getfield 93, 3) := by decide +kernel
theorem dX9_rests_138 : decode cX9_rests 138 = .ok (.getfield 329, 3) := by decide +kernel
theorem dX9_rests_141 : decode cX9_rests 141 = .ok (.ireturn, 1) := by decide +kernel
theorem dX9_image_0 : decode cX9_image 0 = .ok (.aload_n 0, 1) := by decide +kernel
theorem dX9_image_1 : decode cX9_image 1 = .ok (.aload_n 0, 1) := by decide +kernel
theorem dX9_image_2 : decode cX9_image 2 = .ok (.getfield 43, 3) := by decide +kernel
theorem dX9_image_5 : decode cX9_image 5 = .ok (.invokevirtual 332, 3) := by decide +kernel
theorem dX9_image_8 : decode cX9_image 8 = .ok (.astore_n 1, 1) := by decide +kernel
theorem dX9_image_9 : decode cX9_image 9 = .ok (.aload_n 1, 1) := by decide +kernel
theorem dX9_image_10 : decode cX9_image 10 = .ok (.ifnonnull 5, 3) := by decide +kernel
theorem dX9_image_13 : decode cX9_image 13 = .ok (.iconst (-1), 1) := by decide +kernel
theorem dX9_image_14 : decode cX9_image 14 = .ok (.ireturn, 1) := by decide +kernel
theorem dX9_image_15 : decode cX9_image 15 = .ok (.aload_n 1, 1) := by decide +kernel
theorem dX9_image_16 : decode cX9_image 16 = .ok (.aload_n 0, 1) := by decide +kernel
theorem dX9_image_17 : decode cX9_image 17 = .ok (.getfield 35, 3) := by decide +kernel
theorem dX9_image_20 : decode cX9_image 20 = .ok (.invokevirtual 226, 3) := by decide +kernel
theorem dX9_image_23 : decode cX9_image 23 = .ok (.aload_n 0, 1) := by decide +kernel
theorem dX9_image_24 : decode cX9_image 24 = .ok (.dup, 1) := by decide +kernel
theorem dX9_image_25 : decode cX9_image 25 = .ok (.getfield 43, 3) := by decide +kernel
theorem dX9_image_28 : decode cX9_image 28 = .ok (.iconst 1, 1) := by decide +kernel
theorem dX9_image_29 : decode cX9_image 29 = .ok (.iadd, 1) := by decide +kernel
theorem dX9_image_30 : decode cX9_image 30 = .ok (.putfield 43, 3) := by decide +kernel
theorem dX9_image_33 : decode cX9_image 33 = .ok (.aload_n 0, 1) := by decide +kernel
theorem dX9_image_34 : decode cX9_image 34 = .ok (.getfield 43, 3) := by decide +kernel
theorem dX9_image_37 : decode cX9_image 37 = .ok (.ireturn, 1) := by decide +kernel
theorem dX9_restore_0 : decode cX9_restore 0 = .ok (.aload_n 0, 1) := by decide +kernel
theorem dX9_restore_1 : decode cX9_restore 1 = .ok (.aload_n 0, 1) := by decide +kernel
theorem dX9_restore_2 : decode cX9_restore 2 = .ok (.getfield 43, 3) := by decide +kernel
theorem dX9_restore_5 : decode cX9_restore 5 = .ok (.iconst 1, 1) := by decide +kernel
theorem dX9_restore_6 : decode cX9_restore 6 = .ok (.isub, 1) := by decide +kernel
theorem dX9_restore_7 : decode cX9_restore 7 = .ok (.invokevirtual 332, 3) := by decide +kernel
theorem dX9_restore_10 : decode cX9_restore 10 = .ok (.astore_n 1, 1) := by decide +kernel
theorem dX9_restore_11 : decode cX9_restore 11 = .ok (.aload_n 1, 1) := by decide +kernel
theorem dX9_restore_12 : decode cX9_restore 12 = .ok (.ifnonnull 5, 3) := by decide +kernel
theorem dX9_restore_15 : decode cX9_restore 15 = .ok (.iconst (-1), 1) := by decide +kernel
theorem dX9_restore_16 : decode cX9_restore 16 = .ok (.ireturn, 1) := by decide +kernel
theorem dX9_restore_17 : decode cX9_restore 17 = .ok (.aload_n 0, 1) := by decide +kernel
theorem dX9_restore_18 : decode cX9_restore 18 = .ok (.getfield 35, 3) := by decide +kernel
theorem dX9_restore_21 : decode cX9_restore 21 = .ok (.aload_n 1, 1) := by decide +kernel
theorem dX9_restore_22 : decode cX9_restore 22 = .ok (.invokevirtual 226, 3) := by decide +kernel
theorem dX9_restore_25 : decode cX9_restore 25 = .ok (.aload_n 0, 1) := by decide +kernel
theorem dX9_restore_26 : decode cX9_restore 26 = .ok (.dup, 1) := by decide +kernel
theorem dX9_restore_27 : decode cX9_restore 27 = .ok (.getfield 43, 3) := by decide +kernel
theorem dX9_restore_30 : decode cX9_restore 30 = .ok (.iconst 1, 1) := by decide +kernel
theorem dX9_restore_31 : decode cX9_restore 31 = .ok (.isub, 1) := by decide +kernel
theorem dX9_restore_32 : decode cX9_restore 32 = .ok (.putfield 43, 3) := by decide +kernel
theorem dX9_restore_35 : decode cX9_restore 35 = .ok (.aload_n 0, 1) := by decide +kernel
theorem dX9_restore_36 : decode cX9_restore 36 = .ok (.getfield 43, 3) := by decide +kernel
theorem dX9_restore_39 : decode cX9_restore 39 = .ok (.ireturn, 1) := by decide +kernel
theorem dX9_imageAt_0 : decode cX9_imageAt 0 = .ok (.iload_n 1, 1) := by decide +kernel
theorem dX9_imageAt_1 : decode cX9_imageAt 1 = .ok (.ifCond .lt 26, 3) := by decide +kernel
theorem dX9_imageAt_4 : decode cX9_imageAt 4 = .ok (.iload_n 1, 1) := by decide +kernel
theorem dX9_imageAt_5 : decode cX9_imageAt 5 = .ok (.iconst 3, 1) := by decide +kernel
theorem dX9_imageAt_6 : decode cX9_imageAt 6 = .ok (.if_icmp .ge 21, 3) := by decide +kernel
theorem dX9_imageAt_9 : decode cX9_imageAt 9 = .ok (.iload_n 1, 1) := by decide +kernel
theorem dX9_imageAt_10 : decode cX9_imageAt 10 = .ok (.aload_n 0, 1) := by decide +kernel
theorem dX9_imageAt_11 : decode cX9_imageAt 11 = .ok (.getfield 39, 3) := by decide +kernel
theorem dX9_imageAt_14 : decode cX9_imageAt 14 = .ok (.arraylength, 1) := by decide +kernel
theorem dX9_imageAt_15 : decode cX9_imageAt 15 = .ok (.if_icmp .ge 12, 3) := by decide +kernel
theorem dX9_imageAt_18 : decode cX9_imageAt 18 = .ok (.aload_n 0, 1) := by decide +kernel
theorem dX9_imageAt_19 : decode cX9_imageAt 19 = .ok (.getfield 39, 3) := by decide +kernel
theorem dX9_imageAt_22 : decode cX9_imageAt 22 = .ok (.iload_n 1, 1) := by decide +kernel
theorem dX9_imageAt_23 : decode cX9_imageAt 23 = .ok (.aaload, 1) := by decide +kernel
theorem dX9_imageAt_24 : decode cX9_imageAt 24 = .ok (.goto 4, 3) := by decide +kernel
theorem dX9_imageAt_27 : decode cX9_imageAt 27 = .ok (.aconst_null, 1) := by decide +kernel
theorem dX9_imageAt_28 : decode cX9_imageAt 28 = .ok (.areturn, 1) := by decide +kernel
theorem dX9_status_0 : decode cX9_status 0 = .ok (.iload_n 1, 1) := by decide +kernel
theorem dX9_status_1 : decode cX9_status 1 = .ok (.ifCond .lt 19, 3) := by decide +kernel
theorem dX9_status_4 : decode cX9_status 4 = .ok (.iload_n 1, 1) := by decide +kernel
theorem dX9_status_5 : decode cX9_status 5 = .ok (.iconst 4, 1) := by decide +kernel
theorem dX9_status_6 : decode cX9_status 6 = .ok (.if_icmp .ge 14, 3) := by decide +kernel
theorem dX9_status_9 : decode cX9_status 9 = .ok (.aload_n 0, 1) := by decide +kernel
theorem dX9_status_10 : decode cX9_status 10 = .ok (.getfield 46, 3) := by decide +kernel
theorem dX9_status_13 : decode cX9_status 13 = .ok (.iload_n 1, 1) := by decide +kernel
theorem dX9_status_14 : decode cX9_status 14 = .ok (.invokevirtual 143, 3) := by decide +kernel
theorem dX9_status_17 : decode cX9_status 17 = .ok (.goto 4, 3) := by decide +kernel
theorem dX9_status_20 : decode cX9_status 20 = .ok (.iconst (-1), 1) := by decide +kernel
theorem dX9_status_21 : decode cX9_status 21 = .ok (.ireturn, 1) := by decide +kernel
theorem dX9_count_0 : decode cX9_count 0 = .ok (.iload_n 1, 1) := by decide +kernel
theorem dX9_count_1 : decode cX9_count 1 = .ok (.tableswitch 52 0 2 #[27, 32, 37], 27) := by decide +kernel
theorem dX9_count_28 : decode cX9_count 28 = .ok (.aload_n 0, 1) := by decide +kernel
theorem dX9_count_29 : decode cX9_count 29 = .ok (.getfield 43, 3) := by decide +kernel
theorem dX9_count_32 : decode cX9_count 32 = .ok (.ireturn, 1) := by decide +kernel
theorem dX9_count_33 : decode cX9_count 33 = .ok (.aload_n 0, 1) := by decide +kernel
theorem dX9_count_34 : decode cX9_count 34 = .ok (.getfield 18, 3) := by decide +kernel
theorem dX9_count_37 : decode cX9_count 37 = .ok (.ireturn, 1) := by decide +kernel
theorem dX9_count_38 : decode cX9_count 38 = .ok (.aload_n 0, 1) := by decide +kernel
theorem dX9_count_39 : decode cX9_count 39 = .ok (.getfield 35, 3) := by decide +kernel
theorem dX9_count_42 : decode cX9_count 42 = .ok (.aload_n 0, 1) := by decide +kernel
theorem dX9_count_43 : decode cX9_count 43 = .ok (.getfield 28, 3) := by decide +kernel
theorem dX9_count_46 : decode cX9_count 46 = .ok (.getfield 128, 3) := by decide +kernel
theorem dX9_count_49 : decode cX9_count 49 = .ok (.invokevirtual 336, 3) := by decide +kernel
theorem dX9_count_52 : decode cX9_count 52 = .ok (.ireturn, 1) := by decide +kernel
theorem dX9_count_53 : decode cX9_count 53 = .ok (.iconst (-1), 1) := by decide +kernel
theorem dX9_count_54 : decode cX9_count 54 = .ok (.ireturn, 1) := by decide +kernel
theorem dX9_needCrate_0 : decode cX9_needCrate 0 = .ok (.aload_n 0, 1) := by decide +kernel
theorem dX9_needCrate_1 : decode cX9_needCrate 1 = .ok (.getfield 28, 3) := by decide +kernel
theorem dX9_needCrate_4 : decode cX9_needCrate 4 = .ok (.iload_n 1, 1) := by decide +kernel
theorem dX9_needCrate_5 : decode cX9_needCrate 5 = .ok (.invokevirtual 276, 3) := by decide +kernel
theorem dX9_needCrate_8 : decode cX9_needCrate 8 = .ok (.ifCond .ne 23, 3) := by decide +kernel
theorem dX9_needCrate_11 : decode cX9_needCrate 11 = .ok (.aload_n 0, 1) := by decide +kernel
theorem dX9_needCrate_12 : decode cX9_needCrate 12 = .ok (.getfield 46, 3) := by decide +kernel
theorem dX9_needCrate_15 : decode cX9_needCrate 15 = .ok (.iconst 0, 1) := by decide +kernel
theorem dX9_needCrate_16 : decode cX9_needCrate 16 = .ok (.iconst 1, 1) := by decide +kernel
theorem dX9_needCrate_17 : decode cX9_needCrate 17 = .ok (.invokevirtual 339, 3) := by decide +kernel
theorem dX9_needCrate_20 : decode cX9_needCrate 20 = .ok (.new 342, 3) := by decide +kernel
theorem dX9_needCrate_23 : decode cX9_needCrate 23 = .ok (.dup, 1) := by decide +kernel
theorem dX9_needCrate_24 : decode cX9_needCrate 24 = .ok (.ldc_w 344, 3) := by decide +kernel
theorem dX9_needCrate_27 : decode cX9_needCrate 27 = .ok (.invokespecial 346, 3) := by decide +kernel
theorem dX9_needCrate_30 : decode cX9_needCrate 30 = .ok (.athrow, 1) := by decide +kernel
theorem dX9_needCrate_31 : decode cX9_needCrate 31 = .ok (.return_, 1) := by decide +kernel
theorem dX9_needSleeve_0 : decode cX9_needSleeve 0 = .ok (.iload_n 1, 1) := by decide +kernel
theorem dX9_needSleeve_1 : decode cX9_needSleeve 1 = .ok (.ifCond .lt 14, 3) := by decide +kernel
theorem dX9_needSleeve_4 : decode cX9_needSleeve 4 = .ok (.iload_n 1, 1) := by decide +kernel
theorem dX9_needSleeve_5 : decode cX9_needSleeve 5 = .ok (.aload_n 0, 1) := by decide +kernel
theorem dX9_needSleeve_6 : decode cX9_needSleeve 6 = .ok (.getfield 28, 3) := by decide +kernel
theorem dX9_needSleeve_9 : decode cX9_needSleeve 9 = .ok (.getfield 128, 3) := by decide +kernel
theorem dX9_needSleeve_12 : decode cX9_needSleeve 12 = .ok (.if_icmp .lt 23, 3) := by decide +kernel
theorem dX9_needSleeve_15 : decode cX9_needSleeve 15 = .ok (.aload_n 0, 1) := by decide +kernel
theorem dX9_needSleeve_16 : decode cX9_needSleeve 16 = .ok (.getfield 46, 3) := by decide +kernel
theorem dX9_needSleeve_19 : decode cX9_needSleeve 19 = .ok (.iconst 1, 1) := by decide +kernel
theorem dX9_needSleeve_20 : decode cX9_needSleeve 20 = .ok (.iconst 1, 1) := by decide +kernel
theorem dX9_needSleeve_21 : decode cX9_needSleeve 21 = .ok (.invokevirtual 339, 3) := by decide +kernel
theorem dX9_needSleeve_24 : decode cX9_needSleeve 24 = .ok (.new 349, 3) := by decide +kernel
theorem dX9_needSleeve_27 : decode cX9_needSleeve 27 = .ok (.dup, 1) := by decide +kernel
theorem dX9_needSleeve_28 : decode cX9_needSleeve 28 = .ok (.ldc_w 351, 3) := by decide +kernel
theorem dX9_needSleeve_31 : decode cX9_needSleeve 31 = .ok (.invokespecial 353, 3) := by decide +kernel
theorem dX9_needSleeve_34 : decode cX9_needSleeve 34 = .ok (.athrow, 1) := by decide +kernel
theorem dX9_needSleeve_35 : decode cX9_needSleeve 35 = .ok (.return_, 1) := by decide +kernel
theorem dX9_needLooker_0 : decode cX9_needLooker 0 = .ok (.iload_n 1, 1) := by decide +kernel
theorem dX9_needLooker_1 : decode cX9_needLooker 1 = .ok (.ifCond .lt 14, 3) := by decide +kernel
theorem dX9_needLooker_4 : decode cX9_needLooker 4 = .ok (.iload_n 1, 1) := by decide +kernel
theorem dX9_needLooker_5 : decode cX9_needLooker 5 = .ok (.aload_n 0, 1) := by decide +kernel
theorem dX9_needLooker_6 : decode cX9_needLooker 6 = .ok (.getfield 28, 3) := by decide +kernel
theorem dX9_needLooker_9 : decode cX9_needLooker 9 = .ok (.getfield 134, 3) := by decide +kernel
theorem dX9_needLooker_12 : decode cX9_needLooker 12 = .ok (.if_icmp .lt 23, 3) := by decide +kernel
theorem dX9_needLooker_15 : decode cX9_needLooker 15 = .ok (.aload_n 0, 1) := by decide +kernel
theorem dX9_needLooker_16 : decode cX9_needLooker 16 = .ok (.getfield 46, 3) := by decide +kernel
theorem dX9_needLooker_19 : decode cX9_needLooker 19 = .ok (.iconst 1, 1) := by decide +kernel
theorem dX9_needLooker_20 : decode cX9_needLooker 20 = .ok (.iconst 1, 1) := by decide +kernel
theorem dX9_needLooker_21 : decode cX9_needLooker 21 = .ok (.invokevirtual 339, 3) := by decide +kernel
theorem dX9_needLooker_24 : decode cX9_needLooker 24 = .ok (.new 349, 3) := by decide +kernel
theorem dX9_needLooker_27 : decode cX9_needLooker 27 = .ok (.dup, 1) := by decide +kernel
theorem dX9_needLooker_28 : decode cX9_needLooker 28 = .ok (.ldc_w 354, 3) := by decide +kernel
theorem dX9_needLooker_31 : decode cX9_needLooker 31 = .ok (.invokespecial 353, 3) := by decide +kernel
theorem dX9_needLooker_34 : decode cX9_needLooker 34 = .ok (.athrow, 1) := by decide +kernel
theorem dX9_needLooker_35 : decode cX9_needLooker 35 = .ok (.return_, 1) := by decide +kernel
theorem dX9_need_0 : decode cX9_need 0 = .ok (.iload_n 1, 1) := by decide +kernel
theorem dX9_need_1 : decode cX9_need 1 = .ok (.ifCond .ne 23, 3) := by decide +kernel
theorem dX9_need_4 : decode cX9_need 4 = .ok (.aload_n 0, 1) := by decide +kernel
theorem dX9_need_5 : decode cX9_need 5 = .ok (.getfield 46, 3) := by decide +kernel
theorem dX9_need_8 : decode cX9_need 8 = .ok (.iconst 2, 1) := by decide +kernel
theorem dX9_need_9 : decode cX9_need 9 = .ok (.iconst 1, 1) := by decide +kernel
theorem dX9_need_10 : decode cX9_need 10 = .ok (.invokevirtual 339, 3) := by decide +kernel
theorem dX9_need_13 : decode cX9_need 13 = .ok (.new 356, 3) := by decide +kernel
theorem dX9_need_16 : decode cX9_need 16 = .ok (.dup, 1) := by decide +kernel
theorem dX9_need_17 : decode cX9_need 17 = .ok (.ldc_w 358, 3) := by decide +kernel
theorem dX9_need_20 : decode cX9_need 20 = .ok (.invokespecial 360, 3) := by decide +kernel
theorem dX9_need_23 : decode cX9_need 23 = .ok (.athrow, 1) := by decide +kernel
theorem dX9_need_24 : decode cX9_need 24 = .ok (.return_, 1) := by decide +kernel
theorem dX9_needLying_0 : decode cX9_needLying 0 = .ok (.aload_n 0, 1) := by decide +kernel
theorem dX9_needLying_1 : decode cX9_needLying 1 = .ok (.getfield 35, 3) := by decide +kernel
theorem dX9_needLying_4 : decode cX9_needLying 4 = .ok (.iload_n 1, 1) := by decide +kernel
theorem dX9_needLying_5 : decode cX9_needLying 5 = .ok (.invokevirtual 174, 3) := by decide +kernel
theorem dX9_needLying_8 : decode cX9_needLying 8 = .ok (.ifCond .ne 23, 3) := by decide +kernel
theorem dX9_needLying_11 : decode cX9_needLying 11 = .ok (.aload_n 0, 1) := by decide +kernel
theorem dX9_needLying_12 : decode cX9_needLying 12 = .ok (.getfield 46, 3) := by decide +kernel
theorem dX9_needLying_15 : decode cX9_needLying 15 = .ok (.iconst 3, 1) := by decide +kernel
theorem dX9_needLying_16 : decode cX9_needLying 16 = .ok (.iconst 1, 1) := by decide +kernel
theorem dX9_needLying_17 : decode cX9_needLying 17 = .ok (.invokevirtual 339, 3) := by decide +kernel
theorem dX9_needLying_20 : decode cX9_needLying 20 = .ok (.new 361, 3) := by decide +kernel
theorem dX9_needLying_23 : decode cX9_needLying 23 = .ok (.dup, 1) := by decide +kernel
theorem dX9_needLying_24 : decode cX9_needLying 24 = .ok (.ldc_w 363, 3) := by decide +kernel
theorem dX9_needLying_27 : decode cX9_needLying 27 = .ok (.invokespecial 365, 3) := by decide +kernel
theorem dX9_needLying_30 : decode cX9_needLying 30 = .ok (.athrow, 1) := by decide +kernel
theorem dX9_needLying_31 : decode cX9_needLying 31 = .ok (.return_, 1) := by decide +kernel
theorem dX9_isPace_0 : decode cX9_isPace 0 = .ok (.iload_n 0, 1) := by decide +kernel
theorem dX9_isPace_1 : decode cX9_isPace 1 = .ok (.iconst 1, 1) := by decide +kernel
theorem dX9_isPace_2 : decode cX9_isPace 2 = .ok (.if_icmp .lt 13, 3) := by decide +kernel
theorem dX9_isPace_5 : decode cX9_isPace 5 = .ok (.iload_n 0, 1) := by decide +kernel
theorem dX9_isPace_6 : decode cX9_isPace 6 = .ok (.bipush 8, 2) := by decide +kernel
theorem dX9_isPace_8 : decode cX9_isPace 8 = .ok (.if_icmp .gt 7, 3) := by decide +kernel
theorem dX9_isPace_11 : decode cX9_isPace 11 = .ok (.iconst 1, 1) := by decide +kernel
theorem dX9_isPace_12 : decode cX9_isPace 12 = .ok (.goto 4, 3) := by decide +kernel
theorem dX9_isPace_15 : decode cX9_isPace 15 = .ok (.iconst 0, 1) := by decide +kernel
theorem dX9_isPace_16 : decode cX9_isPace 16 = .ok (.ireturn, 1) := by decide +kernel
theorem dX9_hasBit_0 : decode cX9_hasBit 0 = .ok (.iload_n 0, 1) := by decide +kernel
theorem dX9_hasBit_1 : decode cX9_hasBit 1 = .ok (.iload_n 1, 1) := by decide +kernel
theorem dX9_hasBit_2 : decode cX9_hasBit 2 = .ok (.ishr, 1) := by decide +kernel
theorem dX9_hasBit_3 : decode cX9_hasBit 3 = .ok (.iconst 1, 1) := by decide +kernel
theorem dX9_hasBit_4 : decode cX9_hasBit 4 = .ok (.iand, 1) := by decide +kernel
theorem dX9_hasBit_5 : decode cX9_hasBit 5 = .ok (.ifCond .eq 7, 3) := by decide +kernel
theorem dX9_hasBit_8 : decode cX9_hasBit 8 = .ok (.iconst 1, 1) := by decide +kernel
theorem dX9_hasBit_9 : decode cX9_hasBit 9 = .ok (.goto 4, 3) := by decide +kernel
theorem dX9_hasBit_12 : decode cX9_hasBit 12 = .ok (.iconst 0, 1) := by decide +kernel
theorem dX9_hasBit_13 : decode cX9_hasBit 13 = .ok (.ireturn, 1) := by decide +kernel
theorem dX9_roundedUp_0 : decode cX9_roundedUp 0 = .ok (.iload_n 1, 1) := by decide +kernel
theorem dX9_roundedUp_1 : decode cX9_roundedUp 1 = .ok (.ifCond .le 13, 3) := by decide +kernel
theorem dX9_roundedUp_4 : decode cX9_roundedUp 4 = .ok (.iload_n 0, 1) := by decide +kernel
theorem dX9_roundedUp_5 : decode cX9_roundedUp 5 = .ok (.iload_n 1, 1) := by decide +kernel
theorem dX9_roundedUp_6 : decode cX9_roundedUp 6 = .ok (.iadd, 1) := by decide +kernel
theorem dX9_roundedUp_7 : decode cX9_roundedUp 7 = .ok (.iconst 1, 1) := by decide +kernel
theorem dX9_roundedUp_8 : decode cX9_roundedUp 8 = .ok (.isub, 1) := by decide +kernel
theorem dX9_roundedUp_9 : decode cX9_roundedUp 9 = .ok (.iload_n 1, 1) := by decide +kernel
theorem dX9_roundedUp_10 : decode cX9_roundedUp 10 = .ok (.idiv, 1) := by decide +kernel
theorem dX9_roundedUp_11 : decode cX9_roundedUp 11 = .ok (.goto 4, 3) := by decide +kernel
theorem dX9_roundedUp_14 : decode cX9_roundedUp 14 = .ok (.iload_n 0, 1) := by decide +kernel
theorem dX9_roundedUp_15 : decode cX9_roundedUp 15 = .ok (.ireturn, 1) := by decide +kernel
theorem dX9_leastTerms_0 : decode cX9_leastTerms 0 = .ok (.iload 4, 2) := by decide +kernel
theorem dX9_leastTerms_2 : decode cX9_leastTerms 2 = .ok (.ifCond .ne 7, 3) := by decide +kernel
theorem dX9_leastTerms_5 : decode cX9_leastTerms 5 = .ok (.lload_n 0, 1) := by decide +kernel
theorem dX9_leastTerms_6 : decode cX9_leastTerms 6 = .ok (.goto 4, 3) := by decide +kernel
theorem dX9_leastTerms_9 : decode cX9_leastTerms 9 = .ok (.lload_n 2, 1) := by decide +kernel
theorem dX9_leastTerms_10 : decode cX9_leastTerms 10 = .ok (.lstore 5, 2) := by decide +kernel
theorem dX9_leastTerms_12 : decode cX9_leastTerms 12 = .ok (.lload_n 0, 1) := by decide +kernel
theorem dX9_leastTerms_13 : decode cX9_leastTerms 13 = .ok (.lload_n 2, 1) := by decide +kernel
theorem dX9_leastTerms_14 : decode cX9_leastTerms 14 = .ok (.invokestatic 366, 3) := by decide +kernel
theorem dX9_leastTerms_17 : decode cX9_leastTerms 17 = .ok (.lstore 7, 2) := by decide +kernel
theorem dX9_leastTerms_19 : decode cX9_leastTerms 19 = .ok (.lload 7, 2) := by decide +kernel
theorem dX9_leastTerms_21 : decode cX9_leastTerms 21 = .ok (.lconst 0, 1) := by decide +kernel
theorem dX9_leastTerms_22 : decode cX9_leastTerms 22 = .ok (.lcmp, 1) := by decide +kernel
theorem dX9_leastTerms_23 : decode cX9_leastTerms 23 = .ok (.ifCond .le 11, 3) := by decide +kernel
theorem dX9_leastTerms_26 : decode cX9_leastTerms 26 = .ok (.lload 5, 2) := by decide +kernel
theorem dX9_leastTerms_28 : decode cX9_leastTerms 28 = .ok (.lload 7, 2) := by decide +kernel
theorem dX9_leastTerms_30 : decode cX9_leastTerms 30 = .ok (.ldiv, 1) := by decide +kernel
theorem dX9_leastTerms_31 : decode cX9_leastTerms 31 = .ok (.goto 5, 3) := by decide +kernel
theorem dX9_leastTerms_34 : decode cX9_leastTerms 34 = .ok (.lload 5, 2) := by decide +kernel
theorem dX9_leastTerms_36 : decode cX9_leastTerms 36 = .ok (.lreturn, 1) := by decide +kernel
theorem dX9_commonDivisor_0 : decode cX9_commonDivisor 0 = .ok (.iconst 0, 1) := by decide +kernel
theorem dX9_commonDivisor_1 : decode cX9_commonDivisor 1 = .ok (.istore 4, 2) := by decide +kernel
theorem dX9_commonDivisor_3 : decode cX9_commonDivisor 3 = .ok (.iload 4, 2) := by decide +kernel
theorem dX9_commonDivisor_5 : decode cX9_commonDivisor 5 = .ok (.bipush 100, 2) := by decide +kernel
theorem dX9_commonDivisor_7 : decode cX9_commonDivisor 7 = .ok (.if_icmp .ge 25, 3) := by decide +kernel
theorem dX9_commonDivisor_10 : decode cX9_commonDivisor 10 = .ok (.lload_n 2, 1) := by decide +kernel
theorem dX9_commonDivisor_11 : decode cX9_commonDivisor 11 = .ok (.lconst 0, 1) := by decide +kernel
theorem dX9_commonDivisor_12 : decode cX9_commonDivisor 12 = .ok (.lcmp, 1) := by decide +kernel
theorem dX9_commonDivisor_13 : decode cX9_commonDivisor 13 = .ok (.ifCond .eq 19, 3) := by decide +kernel
theorem dX9_commonDivisor_16 : decode cX9_commonDivisor 16 = .ok (.lload_n 0, 1) := by decide +kernel
theorem dX9_commonDivisor_17 : decode cX9_commonDivisor 17 = .ok (.lload_n 2, 1) := by decide +kernel
theorem dX9_commonDivisor_18 : decode cX9_commonDivisor 18 = .ok (.lrem, 1) := by decide +kernel
theorem dX9_commonDivisor_19 : decode cX9_commonDivisor 19 = .ok (.lstore 5, 2) := by decide +kernel
theorem dX9_commonDivisor_21 : decode cX9_commonDivisor 21 = .ok (.lload_n 2, 1) := by decide +kernel
theorem dX9_commonDivisor_22 : decode cX9_commonDivisor 22 = .ok (.lstore_n 0, 1) := by decide +kernel
theorem dX9_commonDivisor_23 : decode cX9_commonDivisor 23 = .ok (.lload 5, 2) := by decide +kernel
theorem dX9_commonDivisor_25 : decode cX9_commonDivisor 25 = .ok (.lstore_n 2, 1) := by decide +kernel
theorem dX9_commonDivisor_26 : decode cX9_commonDivisor 26 = .ok (.iinc 4 1, 3) := by decide +kernel
theorem dX9_commonDivisor_29 : decode cX9_commonDivisor 29 = .ok (.goto (-26), 3) := by decide +kernel
theorem dX9_commonDivisor_32 : decode cX9_commonDivisor 32 = .ok (.lload_n 0, 1) := by decide +kernel
theorem dX9_commonDivisor_33 : decode cX9_commonDivisor 33 = .ok (.lreturn, 1) := by decide +kernel
theorem dJ6_bitCount_0f7a4_0 : decode cJ6_bitCount_0f7a4 0 = .ok (.iload_n 0, 1) := by decide +kernel
theorem dJ6_bitCount_0f7a4_1 : decode cJ6_bitCount_0f7a4 1 = .ok (.iload_n 0, 1) := by decide +kernel
theorem dJ6_bitCount_0f7a4_2 : decode cJ6_bitCount_0f7a4 2 = .ok (.iconst 1, 1) := by decide +kernel
theorem dJ6_bitCount_0f7a4_3 : decode cJ6_bitCount_0f7a4 3 = .ok (.iushr, 1) := by decide +kernel
theorem dJ6_bitCount_0f7a4_4 : decode cJ6_bitCount_0f7a4 4 = .ok (.ldc_w 265, 3) := by decide +kernel
theorem dJ6_bitCount_0f7a4_7 : decode cJ6_bitCount_0f7a4 7 = .ok (.iand, 1) := by decide +kernel
theorem dJ6_bitCount_0f7a4_8 : decode cJ6_bitCount_0f7a4 8 = .ok (.isub, 1) := by decide +kernel
theorem dJ6_bitCount_0f7a4_9 : decode cJ6_bitCount_0f7a4 9 = .ok (.istore_n 0, 1) := by decide +kernel
theorem dJ6_bitCount_0f7a4_10 : decode cJ6_bitCount_0f7a4 10 = .ok (.iload_n 0, 1) := by decide +kernel
theorem dJ6_bitCount_0f7a4_11 : decode cJ6_bitCount_0f7a4 11 = .ok (.ldc_w 266, 3) := by decide +kernel
theorem dJ6_bitCount_0f7a4_14 : decode cJ6_bitCount_0f7a4 14 = .ok (.iand, 1) := by decide +kernel
theorem dJ6_bitCount_0f7a4_15 : decode cJ6_bitCount_0f7a4 15 = .ok (.iload_n 0, 1) := by decide +kernel
theorem dJ6_bitCount_0f7a4_16 : decode cJ6_bitCount_0f7a4 16 = .ok (.iconst 2, 1) := by decide +kernel
theorem dJ6_bitCount_0f7a4_17 : decode cJ6_bitCount_0f7a4 17 = .ok (.iushr, 1) := by decide +kernel
theorem dJ6_bitCount_0f7a4_18 : decode cJ6_bitCount_0f7a4 18 = .ok (.ldc_w 266, 3) := by decide +kernel
theorem dJ6_bitCount_0f7a4_21 : decode cJ6_bitCount_0f7a4 21 = .ok (.iand, 1) := by decide +kernel
theorem dJ6_bitCount_0f7a4_22 : decode cJ6_bitCount_0f7a4 22 = .ok (.iadd, 1) := by decide +kernel
theorem dJ6_bitCount_0f7a4_23 : decode cJ6_bitCount_0f7a4 23 = .ok (.istore_n 0, 1) := by decide +kernel
theorem dJ6_bitCount_0f7a4_24 : decode cJ6_bitCount_0f7a4 24 = .ok (.iload_n 0, 1) := by decide +kernel
theorem dJ6_bitCount_0f7a4_25 : decode cJ6_bitCount_0f7a4 25 = .ok (.iload_n 0, 1) := by decide +kernel
theorem dJ6_bitCount_0f7a4_26 : decode cJ6_bitCount_0f7a4 26 = .ok (.iconst 4, 1) := by decide +kernel
theorem dJ6_bitCount_0f7a4_27 : decode cJ6_bitCount_0f7a4 27 = .ok (.iushr, 1) := by decide +kernel
theorem dJ6_bitCount_0f7a4_28 : decode cJ6_bitCount_0f7a4 28 = .ok (.iadd, 1) := by decide +kernel
theorem dJ6_bitCount_0f7a4_29 : decode cJ6_bitCount_0f7a4 29 = .ok (.ldc_w 267, 3) := by decide +kernel
theorem dJ6_bitCount_0f7a4_32 : decode cJ6_bitCount_0f7a4 32 = .ok (.iand, 1) := by decide +kernel
theorem dJ6_bitCount_0f7a4_33 : decode cJ6_bitCount_0f7a4 33 = .ok (.istore_n 0, 1) := by decide +kernel
theorem dJ6_bitCount_0f7a4_34 : decode cJ6_bitCount_0f7a4 34 = .ok (.iload_n 0, 1) := by decide +kernel
theorem dJ6_bitCount_0f7a4_35 : decode cJ6_bitCount_0f7a4 35 = .ok (.iload_n 0, 1) := by decide +kernel
theorem dJ6_bitCount_0f7a4_36 : decode cJ6_bitCount_0f7a4 36 = .ok (.bipush 8, 2) := by decide +kernel
theorem dJ6_bitCount_0f7a4_38 : decode cJ6_bitCount_0f7a4 38 = .ok (.iushr, 1) := by decide +kernel
theorem dJ6_bitCount_0f7a4_39 : decode cJ6_bitCount_0f7a4 39 = .ok (.iadd, 1) := by decide +kernel
theorem dJ6_bitCount_0f7a4_40 : decode cJ6_bitCount_0f7a4 40 = .ok (.istore_n 0, 1) := by decide +kernel
theorem dJ6_bitCount_0f7a4_41 : decode cJ6_bitCount_0f7a4 41 = .ok (.iload_n 0, 1) := by decide +kernel
theorem dJ6_bitCount_0f7a4_42 : decode cJ6_bitCount_0f7a4 42 = .ok (.iload_n 0, 1) := by decide +kernel
theorem dJ6_bitCount_0f7a4_43 : decode cJ6_bitCount_0f7a4 43 = .ok (.bipush 16, 2) := by decide +kernel
theorem dJ6_bitCount_0f7a4_45 : decode cJ6_bitCount_0f7a4 45 = .ok (.iushr, 1) := by decide +kernel
theorem dJ6_bitCount_0f7a4_46 : decode cJ6_bitCount_0f7a4 46 = .ok (.iadd, 1) := by decide +kernel
theorem dJ6_bitCount_0f7a4_47 : decode cJ6_bitCount_0f7a4 47 = .ok (.istore_n 0, 1) := by decide +kernel
theorem dJ6_bitCount_0f7a4_48 : decode cJ6_bitCount_0f7a4 48 = .ok (.iload_n 0, 1) := by decide +kernel
theorem dJ6_bitCount_0f7a4_49 : decode cJ6_bitCount_0f7a4 49 = .ok (.bipush 63, 2) := by decide +kernel
theorem dJ6_bitCount_0f7a4_51 : decode cJ6_bitCount_0f7a4 51 = .ok (.iand, 1) := by decide +kernel
theorem dJ6_bitCount_0f7a4_52 : decode cJ6_bitCount_0f7a4 52 = .ok (.ireturn, 1) := by decide +kernel

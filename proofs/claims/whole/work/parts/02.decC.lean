theorem dX0_init_0 : decode cX0_init 0 = .ok (.aload_n 0, 1) := by decide +kernel
theorem dX0_init_1 : decode cX0_init 1 = .ok (.invokespecial 3, 3) := by decide +kernel
theorem dX0_init_4 : decode cX0_init 4 = .ok (.aload_n 0, 1) := by decide +kernel
theorem dX0_init_5 : decode cX0_init 5 = .ok (.bipush 9, 2) := by decide +kernel
theorem dX0_init_7 : decode cX0_init 7 = .ok (.newarray .int, 2) := by decide +kernel
theorem dX0_init_9 : decode cX0_init 9 = .ok (.putfield 11, 3) := by decide +kernel
theorem dX0_init_12 : decode cX0_init 12 = .ok (.aload_n 0, 1) := by decide +kernel
theorem dX0_init_13 : decode cX0_init 13 = .ok (.bipush 9, 2) := by decide +kernel
theorem dX0_init_15 : decode cX0_init 15 = .ok (.newarray .int, 2) := by decide +kernel
theorem dX0_init_17 : decode cX0_init 17 = .ok (.putfield 15, 3) := by decide +kernel
theorem dX0_init_20 : decode cX0_init 20 = .ok (.aload_n 0, 1) := by decide +kernel
theorem dX0_init_21 : decode cX0_init 21 = .ok (.bipush 9, 2) := by decide +kernel
theorem dX0_init_23 : decode cX0_init 23 = .ok (.newarray .int, 2) := by decide +kernel
theorem dX0_init_25 : decode cX0_init 25 = .ok (.putfield 18, 3) := by decide +kernel
theorem dX0_init_28 : decode cX0_init 28 = .ok (.aload_n 0, 1) := by decide +kernel
theorem dX0_init_29 : decode cX0_init 29 = .ok (.bipush 60, 2) := by decide +kernel
theorem dX0_init_31 : decode cX0_init 31 = .ok (.newarray .int, 2) := by decide +kernel
theorem dX0_init_33 : decode cX0_init 33 = .ok (.putfield 21, 3) := by decide +kernel
theorem dX0_init_36 : decode cX0_init 36 = .ok (.aload_n 0, 1) := by decide +kernel
theorem dX0_init_37 : decode cX0_init 37 = .ok (.bipush 10, 2) := by decide +kernel
theorem dX0_init_39 : decode cX0_init 39 = .ok (.newarray .int, 2) := by decide +kernel
theorem dX0_init_41 : decode cX0_init 41 = .ok (.putfield 24, 3) := by decide +kernel
theorem dX0_init_44 : decode cX0_init 44 = .ok (.return_, 1) := by decide +kernel
theorem dX0_whenSet_0 : decode cX0_whenSet 0 = .ok (.iconst 1, 1) := by decide +kernel
theorem dX0_whenSet_1 : decode cX0_whenSet 1 = .ok (.iconst 2, 1) := by decide +kernel
theorem dX0_whenSet_2 : decode cX0_whenSet 2 = .ok (.iload_n 0, 1) := by decide +kernel
theorem dX0_whenSet_3 : decode cX0_whenSet 3 = .ok (.imul, 1) := by decide +kernel
theorem dX0_whenSet_4 : decode cX0_whenSet 4 = .ok (.iconst 3, 1) := by decide +kernel
theorem dX0_whenSet_5 : decode cX0_whenSet 5 = .ok (.isub, 1) := by decide +kernel
theorem dX0_whenSet_6 : decode cX0_whenSet 6 = .ok (.invokestatic 27, 3) := by decide +kernel
theorem dX0_whenSet_9 : decode cX0_whenSet 9 = .ok (.ireturn, 1) := by decide +kernel
theorem dX0_hang_0 : decode cX0_hang 0 = .ok (.iconst 0, 1) := by decide +kernel
theorem dX0_hang_1 : decode cX0_hang 1 = .ok (.istore 4, 2) := by decide +kernel
theorem dX0_hang_3 : decode cX0_hang 3 = .ok (.iload 4, 2) := by decide +kernel
theorem dX0_hang_5 : decode cX0_hang 5 = .ok (.bipush 6, 2) := by decide +kernel
theorem dX0_hang_7 : decode cX0_hang 7 = .ok (.if_icmp .ge 31, 3) := by decide +kernel
theorem dX0_hang_10 : decode cX0_hang 10 = .ok (.iload_n 2, 1) := by decide +kernel
theorem dX0_hang_11 : decode cX0_hang 11 = .ok (.iload 4, 2) := by decide +kernel
theorem dX0_hang_13 : decode cX0_hang 13 = .ok (.ishr, 1) := by decide +kernel
theorem dX0_hang_14 : decode cX0_hang 14 = .ok (.iconst 1, 1) := by decide +kernel
theorem dX0_hang_15 : decode cX0_hang 15 = .ok (.iand, 1) := by decide +kernel
theorem dX0_hang_16 : decode cX0_hang 16 = .ok (.ifCond .eq 16, 3) := by decide +kernel
theorem dX0_hang_19 : decode cX0_hang 19 = .ok (.aload_n 0, 1) := by decide +kernel
theorem dX0_hang_20 : decode cX0_hang 20 = .ok (.getfield 21, 3) := by decide +kernel
theorem dX0_hang_23 : decode cX0_hang 23 = .ok (.iload_n 1, 1) := by decide +kernel
theorem dX0_hang_24 : decode cX0_hang 24 = .ok (.bipush 6, 2) := by decide +kernel
theorem dX0_hang_26 : decode cX0_hang 26 = .ok (.imul, 1) := by decide +kernel
theorem dX0_hang_27 : decode cX0_hang 27 = .ok (.iload 4, 2) := by decide +kernel
theorem dX0_hang_29 : decode cX0_hang 29 = .ok (.iadd, 1) := by decide +kernel
theorem dX0_hang_30 : decode cX0_hang 30 = .ok (.iload_n 3, 1) := by decide +kernel
theorem dX0_hang_31 : decode cX0_hang 31 = .ok (.iastore, 1) := by decide +kernel
theorem dX0_hang_32 : decode cX0_hang 32 = .ok (.iinc 4 1, 3) := by decide +kernel
theorem dX0_hang_35 : decode cX0_hang 35 = .ok (.goto (-32), 3) := by decide +kernel
theorem dX0_hang_38 : decode cX0_hang 38 = .ok (.return_, 1) := by decide +kernel
theorem dX0_grow_0 : decode cX0_grow 0 = .ok (.aload_n 0, 1) := by decide +kernel
theorem dX0_grow_1 : decode cX0_grow 1 = .ok (.iconst 0, 1) := by decide +kernel
theorem dX0_grow_2 : decode cX0_grow 2 = .ok (.putfield 33, 3) := by decide +kernel
theorem dX0_grow_5 : decode cX0_grow 5 = .ok (.iconst 0, 1) := by decide +kernel
theorem dX0_grow_6 : decode cX0_grow 6 = .ok (.istore_n 3, 1) := by decide +kernel
theorem dX0_grow_7 : decode cX0_grow 7 = .ok (.iconst 0, 1) := by decide +kernel
theorem dX0_grow_8 : decode cX0_grow 8 = .ok (.istore 4, 2) := by decide +kernel
theorem dX0_grow_10 : decode cX0_grow 10 = .ok (.iload 4, 2) := by decide +kernel
theorem dX0_grow_12 : decode cX0_grow 12 = .ok (.bipush 6, 2) := by decide +kernel
theorem dX0_grow_14 : decode cX0_grow 14 = .ok (.if_icmp .ge 55, 3) := by decide +kernel
theorem dX0_grow_17 : decode cX0_grow 17 = .ok (.iload_n 1, 1) := by decide +kernel
theorem dX0_grow_18 : decode cX0_grow 18 = .ok (.iload 4, 2) := by decide +kernel
theorem dX0_grow_20 : decode cX0_grow 20 = .ok (.ishr, 1) := by decide +kernel
theorem dX0_grow_21 : decode cX0_grow 21 = .ok (.iconst 1, 1) := by decide +kernel
theorem dX0_grow_22 : decode cX0_grow 22 = .ok (.iand, 1) := by decide +kernel
theorem dX0_grow_23 : decode cX0_grow 23 = .ok (.ifCond .eq 40, 3) := by decide +kernel
theorem dX0_grow_26 : decode cX0_grow 26 = .ok (.iload_n 3, 1) := by decide +kernel
theorem dX0_grow_27 : decode cX0_grow 27 = .ok (.iconst 3, 1) := by decide +kernel
theorem dX0_grow_28 : decode cX0_grow 28 = .ok (.if_icmp .ge 14, 3) := by decide +kernel
theorem dX0_grow_31 : decode cX0_grow 31 = .ok (.aload_n 0, 1) := by decide +kernel
theorem dX0_grow_32 : decode cX0_grow 32 = .ok (.bipush 6, 2) := by decide +kernel
theorem dX0_grow_34 : decode cX0_grow 34 = .ok (.iload 4, 2) := by decide +kernel
theorem dX0_grow_36 : decode cX0_grow 36 = .ok (.invokevirtual 37, 3) := by decide +kernel
theorem dX0_grow_39 : decode cX0_grow 39 = .ok (.goto 21, 3) := by decide +kernel
theorem dX0_grow_42 : decode cX0_grow 42 = .ok (.aload_n 0, 1) := by decide +kernel
theorem dX0_grow_43 : decode cX0_grow 43 = .ok (.iload_n 1, 1) := by decide +kernel
theorem dX0_grow_44 : decode cX0_grow 44 = .ok (.iload_n 2, 1) := by decide +kernel
theorem dX0_grow_45 : decode cX0_grow 45 = .ok (.iload_n 3, 1) := by decide +kernel
theorem dX0_grow_46 : decode cX0_grow 46 = .ok (.invokestatic 41, 3) := by decide +kernel
theorem dX0_grow_49 : decode cX0_grow 49 = .ok (.iload 4, 2) := by decide +kernel
theorem dX0_grow_51 : decode cX0_grow 51 = .ok (.bipush 6, 2) := by decide +kernel
theorem dX0_grow_53 : decode cX0_grow 53 = .ok (.iload_n 3, 1) := by decide +kernel
theorem dX0_grow_54 : decode cX0_grow 54 = .ok (.iadd, 1) := by decide +kernel
theorem dX0_grow_55 : decode cX0_grow 55 = .ok (.iconst 2, 1) := by decide +kernel
theorem dX0_grow_56 : decode cX0_grow 56 = .ok (.isub, 1) := by decide +kernel
theorem dX0_grow_57 : decode cX0_grow 57 = .ok (.invokevirtual 45, 3) := by decide +kernel
theorem dX0_grow_60 : decode cX0_grow 60 = .ok (.iinc 3 1, 3) := by decide +kernel
theorem dX0_grow_63 : decode cX0_grow 63 = .ok (.iinc 4 1, 3) := by decide +kernel
theorem dX0_grow_66 : decode cX0_grow 66 = .ok (.goto (-56), 3) := by decide +kernel
theorem dX0_grow_69 : decode cX0_grow 69 = .ok (.aload_n 0, 1) := by decide +kernel
theorem dX0_grow_70 : decode cX0_grow 70 = .ok (.invokevirtual 49, 3) := by decide +kernel
theorem dX0_grow_73 : decode cX0_grow 73 = .ok (.return_, 1) := by decide +kernel
theorem dX0_digit_0 : decode cX0_digit 0 = .ok (.iload_n 1, 1) := by decide +kernel
theorem dX0_digit_1 : decode cX0_digit 1 = .ok (.istore_n 3, 1) := by decide +kernel
theorem dX0_digit_2 : decode cX0_digit 2 = .ok (.iload_n 0, 1) := by decide +kernel
theorem dX0_digit_3 : decode cX0_digit 3 = .ok (.invokestatic 52, 3) := by decide +kernel
theorem dX0_digit_6 : decode cX0_digit 6 = .ok (.iconst 1, 1) := by decide +kernel
theorem dX0_digit_7 : decode cX0_digit 7 = .ok (.isub, 1) := by decide +kernel
theorem dX0_digit_8 : decode cX0_digit 8 = .ok (.istore 4, 2) := by decide +kernel
theorem dX0_digit_10 : decode cX0_digit 10 = .ok (.iload 4, 2) := by decide +kernel
theorem dX0_digit_12 : decode cX0_digit 12 = .ok (.iload_n 2, 1) := by decide +kernel
theorem dX0_digit_13 : decode cX0_digit 13 = .ok (.if_icmp .le 17, 3) := by decide +kernel
theorem dX0_digit_16 : decode cX0_digit 16 = .ok (.iload_n 3, 1) := by decide +kernel
theorem dX0_digit_17 : decode cX0_digit 17 = .ok (.iload 4, 2) := by decide +kernel
theorem dX0_digit_19 : decode cX0_digit 19 = .ok (.invokestatic 58, 3) := by decide +kernel
theorem dX0_digit_22 : decode cX0_digit 22 = .ok (.idiv, 1) := by decide +kernel
theorem dX0_digit_23 : decode cX0_digit 23 = .ok (.istore_n 3, 1) := by decide +kernel
theorem dX0_digit_24 : decode cX0_digit 24 = .ok (.iinc 4 (-1), 3) := by decide +kernel
theorem dX0_digit_27 : decode cX0_digit 27 = .ok (.goto (-17), 3) := by decide +kernel
theorem dX0_digit_30 : decode cX0_digit 30 = .ok (.iload_n 3, 1) := by decide +kernel
theorem dX0_digit_31 : decode cX0_digit 31 = .ok (.iload_n 2, 1) := by decide +kernel
theorem dX0_digit_32 : decode cX0_digit 32 = .ok (.invokestatic 58, 3) := by decide +kernel
theorem dX0_digit_35 : decode cX0_digit 35 = .ok (.irem, 1) := by decide +kernel
theorem dX0_digit_36 : decode cX0_digit 36 = .ok (.ireturn, 1) := by decide +kernel
theorem dX0_add_0 : decode cX0_add 0 = .ok (.aload_n 0, 1) := by decide +kernel
theorem dX0_add_1 : decode cX0_add 1 = .ok (.getfield 33, 3) := by decide +kernel
theorem dX0_add_4 : decode cX0_add 4 = .ok (.bipush 9, 2) := by decide +kernel
theorem dX0_add_6 : decode cX0_add 6 = .ok (.if_icmp .ge 33, 3) := by decide +kernel
theorem dX0_add_9 : decode cX0_add 9 = .ok (.aload_n 0, 1) := by decide +kernel
theorem dX0_add_10 : decode cX0_add 10 = .ok (.getfield 11, 3) := by decide +kernel
theorem dX0_add_13 : decode cX0_add 13 = .ok (.aload_n 0, 1) := by decide +kernel
theorem dX0_add_14 : decode cX0_add 14 = .ok (.getfield 33, 3) := by decide +kernel
theorem dX0_add_17 : decode cX0_add 17 = .ok (.iload_n 1, 1) := by decide +kernel
theorem dX0_add_18 : decode cX0_add 18 = .ok (.iastore, 1) := by decide +kernel
theorem dX0_add_19 : decode cX0_add 19 = .ok (.aload_n 0, 1) := by decide +kernel
theorem dX0_add_20 : decode cX0_add 20 = .ok (.getfield 15, 3) := by decide +kernel
theorem dX0_add_23 : decode cX0_add 23 = .ok (.aload_n 0, 1) := by decide +kernel
theorem dX0_add_24 : decode cX0_add 24 = .ok (.getfield 33, 3) := by decide +kernel
theorem dX0_add_27 : decode cX0_add 27 = .ok (.iload_n 2, 1) := by decide +kernel
theorem dX0_add_28 : decode cX0_add 28 = .ok (.iastore, 1) := by decide +kernel
theorem dX0_add_29 : decode cX0_add 29 = .ok (.aload_n 0, 1) := by decide +kernel
theorem dX0_add_30 : decode cX0_add 30 = .ok (.dup, 1) := by decide +kernel
theorem dX0_add_31 : decode cX0_add 31 = .ok (.getfield 33, 3) := by decide +kernel
theorem dX0_add_34 : decode cX0_add 34 = .ok (.iconst 1, 1) := by decide +kernel
theorem dX0_add_35 : decode cX0_add 35 = .ok (.iadd, 1) := by decide +kernel
theorem dX0_add_36 : decode cX0_add 36 = .ok (.putfield 33, 3) := by decide +kernel
theorem dX0_add_39 : decode cX0_add 39 = .ok (.return_, 1) := by decide +kernel
theorem dX0_setOn_0 : decode cX0_setOn 0 = .ok (.iload_n 1, 1) := by decide +kernel
theorem dX0_setOn_1 : decode cX0_setOn 1 = .ok (.ifCond .lt 39, 3) := by decide +kernel
theorem dX0_setOn_4 : decode cX0_setOn 4 = .ok (.iload_n 1, 1) := by decide +kernel
theorem dX0_setOn_5 : decode cX0_setOn 5 = .ok (.aload_n 0, 1) := by decide +kernel
theorem dX0_setOn_6 : decode cX0_setOn 6 = .ok (.getfield 33, 3) := by decide +kernel
theorem dX0_setOn_9 : decode cX0_setOn 9 = .ok (.if_icmp .ge 31, 3) := by decide +kernel
theorem dX0_setOn_12 : decode cX0_setOn 12 = .ok (.aload_n 0, 1) := by decide +kernel
theorem dX0_setOn_13 : decode cX0_setOn 13 = .ok (.getfield 15, 3) := by decide +kernel
theorem dX0_setOn_16 : decode cX0_setOn 16 = .ok (.iload_n 1, 1) := by decide +kernel
theorem dX0_setOn_17 : decode cX0_setOn 17 = .ok (.iaload, 1) := by decide +kernel
theorem dX0_setOn_18 : decode cX0_setOn 18 = .ok (.istore 4, 2) := by decide +kernel
theorem dX0_setOn_20 : decode cX0_setOn 20 = .ok (.aload_n 0, 1) := by decide +kernel
theorem dX0_setOn_21 : decode cX0_setOn 21 = .ok (.getfield 15, 3) := by decide +kernel
theorem dX0_setOn_24 : decode cX0_setOn 24 = .ok (.iload_n 1, 1) := by decide +kernel
theorem dX0_setOn_25 : decode cX0_setOn 25 = .ok (.iload_n 3, 1) := by decide +kernel
theorem dX0_setOn_26 : decode cX0_setOn 26 = .ok (.iastore, 1) := by decide +kernel
theorem dX0_setOn_27 : decode cX0_setOn 27 = .ok (.aload_n 0, 1) := by decide +kernel
theorem dX0_setOn_28 : decode cX0_setOn 28 = .ok (.iload_n 3, 1) := by decide +kernel
theorem dX0_setOn_29 : decode cX0_setOn 29 = .ok (.iload 4, 2) := by decide +kernel
theorem dX0_setOn_31 : decode cX0_setOn 31 = .ok (.invokevirtual 37, 3) := by decide +kernel
theorem dX0_setOn_34 : decode cX0_setOn 34 = .ok (.aload_n 0, 1) := by decide +kernel
theorem dX0_setOn_35 : decode cX0_setOn 35 = .ok (.iload_n 3, 1) := by decide +kernel
theorem dX0_setOn_36 : decode cX0_setOn 36 = .ok (.iload_n 2, 1) := by decide +kernel
theorem dX0_setOn_37 : decode cX0_setOn 37 = .ok (.invokevirtual 37, 3) := by decide +kernel
theorem dX0_setOn_40 : decode cX0_setOn 40 = .ok (.return_, 1) := by decide +kernel
theorem dX0_orderOutward_0 : decode cX0_orderOutward 0 = .ok (.iconst 0, 1) := by decide +kernel
theorem dX0_orderOutward_1 : decode cX0_orderOutward 1 = .ok (.istore_n 1, 1) := by decide +kernel
theorem dX0_orderOutward_2 : decode cX0_orderOutward 2 = .ok (.iconst (-1), 1) := by decide +kernel
theorem dX0_orderOutward_3 : decode cX0_orderOutward 3 = .ok (.istore_n 2, 1) := by decide +kernel
theorem dX0_orderOutward_4 : decode cX0_orderOutward 4 = .ok (.iload_n 2, 1) := by decide +kernel
theorem dX0_orderOutward_5 : decode cX0_orderOutward 5 = .ok (.iload_n 1, 1) := by decide +kernel
theorem dX0_orderOutward_6 : decode cX0_orderOutward 6 = .ok (.if_icmp .ge 82, 3) := by decide +kernel
theorem dX0_orderOutward_9 : decode cX0_orderOutward 9 = .ok (.iload_n 2, 1) := by decide +kernel
theorem dX0_orderOutward_10 : decode cX0_orderOutward 10 = .ok (.bipush 9, 2) := by decide +kernel
theorem dX0_orderOutward_12 : decode cX0_orderOutward 12 = .ok (.if_icmp .ge 76, 3) := by decide +kernel
theorem dX0_orderOutward_15 : decode cX0_orderOutward 15 = .ok (.iload_n 2, 1) := by decide +kernel
theorem dX0_orderOutward_16 : decode cX0_orderOutward 16 = .ok (.ifCond .ge 8, 3) := by decide +kernel
theorem dX0_orderOutward_19 : decode cX0_orderOutward 19 = .ok (.bipush 6, 2) := by decide +kernel
theorem dX0_orderOutward_21 : decode cX0_orderOutward 21 = .ok (.goto 14, 3) := by decide +kernel
theorem dX0_orderOutward_24 : decode cX0_orderOutward 24 = .ok (.aload_n 0, 1) := by decide +kernel
theorem dX0_orderOutward_25 : decode cX0_orderOutward 25 = .ok (.getfield 15, 3) := by decide +kernel
theorem dX0_orderOutward_28 : decode cX0_orderOutward 28 = .ok (.aload_n 0, 1) := by decide +kernel
theorem dX0_orderOutward_29 : decode cX0_orderOutward 29 = .ok (.getfield 18, 3) := by decide +kernel
theorem dX0_orderOutward_32 : decode cX0_orderOutward 32 = .ok (.iload_n 2, 1) := by decide +kernel
theorem dX0_orderOutward_33 : decode cX0_orderOutward 33 = .ok (.iaload, 1) := by decide +kernel
theorem dX0_orderOutward_34 : decode cX0_orderOutward 34 = .ok (.iaload, 1) := by decide +kernel
theorem dX0_orderOutward_35 : decode cX0_orderOutward 35 = .ok (.istore_n 3, 1) := by decide +kernel
theorem dX0_orderOutward_36 : decode cX0_orderOutward 36 = .ok (.iconst 0, 1) := by decide +kernel
theorem dX0_orderOutward_37 : decode cX0_orderOutward 37 = .ok (.istore 4, 2) := by decide +kernel
theorem dX0_orderOutward_39 : decode cX0_orderOutward 39 = .ok (.iload 4, 2) := by decide +kernel
theorem dX0_orderOutward_41 : decode cX0_orderOutward 41 = .ok (.aload_n 0, 1) := by decide +kernel
theorem dX0_orderOutward_42 : decode cX0_orderOutward 42 = .ok (.getfield 33, 3) := by decide +kernel
theorem dX0_orderOutward_45 : decode cX0_orderOutward 45 = .ok (.if_icmp .ge 37, 3) := by decide +kernel
theorem dX0_orderOutward_48 : decode cX0_orderOutward 48 = .ok (.aload_n 0, 1) := by decide +kernel
theorem dX0_orderOutward_49 : decode cX0_orderOutward 49 = .ok (.getfield 11, 3) := by decide +kernel
theorem dX0_orderOutward_52 : decode cX0_orderOutward 52 = .ok (.iload 4, 2) := by decide +kernel
theorem dX0_orderOutward_54 : decode cX0_orderOutward 54 = .ok (.iaload, 1) := by decide +kernel
theorem dX0_orderOutward_55 : decode cX0_orderOutward 55 = .ok (.iload_n 3, 1) := by decide +kernel
theorem dX0_orderOutward_56 : decode cX0_orderOutward 56 = .ok (.if_icmp .ne 20, 3) := by decide +kernel
theorem dX0_orderOutward_59 : decode cX0_orderOutward 59 = .ok (.iload_n 1, 1) := by decide +kernel
theorem dX0_orderOutward_60 : decode cX0_orderOutward 60 = .ok (.bipush 9, 2) := by decide +kernel
theorem dX0_orderOutward_62 : decode cX0_orderOutward 62 = .ok (.if_icmp .ge 14, 3) := by decide +kernel
theorem dX0_orderOutward_65 : decode cX0_orderOutward 65 = .ok (.aload_n 0, 1) := by decide +kernel
theorem dX0_orderOutward_66 : decode cX0_orderOutward 66 = .ok (.getfield 18, 3) := by decide +kernel
theorem dX0_orderOutward_69 : decode cX0_orderOutward 69 = .ok (.iload_n 1, 1) := by decide +kernel
theorem dX0_orderOutward_70 : decode cX0_orderOutward 70 = .ok (.iload 4, 2) := by decide +kernel
theorem dX0_orderOutward_72 : decode cX0_orderOutward 72 = .ok (.iastore, 1) := by decide +kernel
theorem dX0_orderOutward_73 : decode cX0_orderOutward 73 = .ok (.iinc 1 1, 3) := by decide +kernel
theorem dX0_orderOutward_76 : decode cX0_orderOutward 76 = .ok (.iinc 4 1, 3) := by decide +kernel
theorem dX0_orderOutward_79 : decode cX0_orderOutward 79 = .ok (.goto (-40), 3) := by decide +kernel
theorem dX0_orderOutward_82 : decode cX0_orderOutward 82 = .ok (.iinc 2 1, 3) := by decide +kernel
theorem dX0_orderOutward_85 : decode cX0_orderOutward 85 = .ok (.goto (-81), 3) := by decide +kernel
theorem dX0_orderOutward_88 : decode cX0_orderOutward 88 = .ok (.return_, 1) := by decide +kernel
theorem dX0_fewestChanges_0 : decode cX0_fewestChanges 0 = .ok (.iconst 0, 1) := by decide +kernel
theorem dX0_fewestChanges_1 : decode cX0_fewestChanges 1 = .ok (.istore_n 2, 1) := by decide +kernel
theorem dX0_fewestChanges_2 : decode cX0_fewestChanges 2 = .ok (.iload_n 2, 1) := by decide +kernel
theorem dX0_fewestChanges_3 : decode cX0_fewestChanges 3 = .ok (.bipush 10, 2) := by decide +kernel
theorem dX0_fewestChanges_5 : decode cX0_fewestChanges 5 = .ok (.if_icmp .ge 37, 3) := by decide +kernel
theorem dX0_fewestChanges_8 : decode cX0_fewestChanges 8 = .ok (.aload_n 0, 1) := by decide +kernel
theorem dX0_fewestChanges_9 : decode cX0_fewestChanges 9 = .ok (.getfield 24, 3) := by decide +kernel
theorem dX0_fewestChanges_12 : decode cX0_fewestChanges 12 = .ok (.iload_n 2, 1) := by decide +kernel
theorem dX0_fewestChanges_13 : decode cX0_fewestChanges 13 = .ok (.iload_n 2, 1) := by decide +kernel
theorem dX0_fewestChanges_14 : decode cX0_fewestChanges 14 = .ok (.bipush 6, 2) := by decide +kernel
theorem dX0_fewestChanges_16 : decode cX0_fewestChanges 16 = .ok (.if_icmp .ge 17, 3) := by decide +kernel
theorem dX0_fewestChanges_19 : decode cX0_fewestChanges 19 = .ok (.aload_n 0, 1) := by decide +kernel
theorem dX0_fewestChanges_20 : decode cX0_fewestChanges 20 = .ok (.getfield 21, 3) := by decide +kernel
theorem dX0_fewestChanges_23 : decode cX0_fewestChanges 23 = .ok (.iload_n 1, 1) := by decide +kernel
theorem dX0_fewestChanges_24 : decode cX0_fewestChanges 24 = .ok (.bipush 6, 2) := by decide +kernel
theorem dX0_fewestChanges_26 : decode cX0_fewestChanges 26 = .ok (.imul, 1) := by decide +kernel
theorem dX0_fewestChanges_27 : decode cX0_fewestChanges 27 = .ok (.iload_n 2, 1) := by decide +kernel
theorem dX0_fewestChanges_28 : decode cX0_fewestChanges 28 = .ok (.iadd, 1) := by decide +kernel
theorem dX0_fewestChanges_29 : decode cX0_fewestChanges 29 = .ok (.iaload, 1) := by decide +kernel
theorem dX0_fewestChanges_30 : decode cX0_fewestChanges 30 = .ok (.goto 5, 3) := by decide +kernel
theorem dX0_fewestChanges_33 : decode cX0_fewestChanges 33 = .ok (.bipush 63, 2) := by decide +kernel
theorem dX0_fewestChanges_35 : decode cX0_fewestChanges 35 = .ok (.iastore, 1) := by decide +kernel
theorem dX0_fewestChanges_36 : decode cX0_fewestChanges 36 = .ok (.iinc 2 1, 3) := by decide +kernel
theorem dX0_fewestChanges_39 : decode cX0_fewestChanges 39 = .ok (.goto (-37), 3) := by decide +kernel
theorem dX0_fewestChanges_42 : decode cX0_fewestChanges 42 = .ok (.iconst 0, 1) := by decide +kernel
theorem dX0_fewestChanges_43 : decode cX0_fewestChanges 43 = .ok (.istore_n 2, 1) := by decide +kernel
theorem dX0_fewestChanges_44 : decode cX0_fewestChanges 44 = .ok (.aload_n 0, 1) := by decide +kernel
theorem dX0_fewestChanges_45 : decode cX0_fewestChanges 45 = .ok (.getfield 33, 3) := by decide +kernel
theorem dX0_fewestChanges_48 : decode cX0_fewestChanges 48 = .ok (.iconst 1, 1) := by decide +kernel
theorem dX0_fewestChanges_49 : decode cX0_fewestChanges 49 = .ok (.isub, 1) := by decide +kernel
theorem dX0_fewestChanges_50 : decode cX0_fewestChanges 50 = .ok (.istore_n 3, 1) := by decide +kernel
theorem dX0_fewestChanges_51 : decode cX0_fewestChanges 51 = .ok (.iload_n 3, 1) := by decide +kernel
theorem dX0_fewestChanges_52 : decode cX0_fewestChanges 52 = .ok (.ifCond .lt 89, 3) := by decide +kernel
theorem dX0_fewestChanges_55 : decode cX0_fewestChanges 55 = .ok (.aload_n 0, 1) := by decide +kernel
theorem dX0_fewestChanges_56 : decode cX0_fewestChanges 56 = .ok (.getfield 11, 3) := by decide +kernel
theorem dX0_fewestChanges_59 : decode cX0_fewestChanges 59 = .ok (.aload_n 0, 1) := by decide +kernel
theorem dX0_fewestChanges_60 : decode cX0_fewestChanges 60 = .ok (.getfield 18, 3) := by decide +kernel
theorem dX0_fewestChanges_63 : decode cX0_fewestChanges 63 = .ok (.iload_n 3, 1) := by decide +kernel
theorem dX0_fewestChanges_64 : decode cX0_fewestChanges 64 = .ok (.iaload, 1) := by decide +kernel
theorem dX0_fewestChanges_65 : decode cX0_fewestChanges 65 = .ok (.iaload, 1) := by decide +kernel
theorem dX0_fewestChanges_66 : decode cX0_fewestChanges 66 = .ok (.istore 4, 2) := by decide +kernel
theorem dX0_fewestChanges_68 : decode cX0_fewestChanges 68 = .ok (.aload_n 0, 1) := by decide +kernel
theorem dX0_fewestChanges_69 : decode cX0_fewestChanges 69 = .ok (.getfield 15, 3) := by decide +kernel
theorem dX0_fewestChanges_72 : decode cX0_fewestChanges 72 = .ok (.aload_n 0, 1) := by decide +kernel
theorem dX0_fewestChanges_73 : decode cX0_fewestChanges 73 = .ok (.getfield 18, 3) := by decide +kernel
theorem dX0_fewestChanges_76 : decode cX0_fewestChanges 76 = .ok (.iload_n 3, 1) := by decide +kernel
theorem dX0_fewestChanges_77 : decode cX0_fewestChanges 77 = .ok (.iaload, 1) := by decide +kernel
theorem dX0_fewestChanges_78 : decode cX0_fewestChanges 78 = .ok (.iaload, 1) := by decide +kernel
theorem dX0_fewestChanges_79 : decode cX0_fewestChanges 79 = .ok (.istore 5, 2) := by decide +kernel
theorem dX0_fewestChanges_81 : decode cX0_fewestChanges 81 = .ok (.aload_n 0, 1) := by decide +kernel
theorem dX0_fewestChanges_82 : decode cX0_fewestChanges 82 = .ok (.getfield 24, 3) := by decide +kernel
theorem dX0_fewestChanges_85 : decode cX0_fewestChanges 85 = .ok (.iload 4, 2) := by decide +kernel
theorem dX0_fewestChanges_87 : decode cX0_fewestChanges 87 = .ok (.iaload, 1) := by decide +kernel
theorem dX0_fewestChanges_88 : decode cX0_fewestChanges 88 = .ok (.aload_n 0, 1) := by decide +kernel
theorem dX0_fewestChanges_89 : decode cX0_fewestChanges 89 = .ok (.getfield 24, 3) := by decide +kernel
theorem dX0_fewestChanges_92 : decode cX0_fewestChanges 92 = .ok (.iload 5, 2) := by decide +kernel
theorem dX0_fewestChanges_94 : decode cX0_fewestChanges 94 = .ok (.iaload, 1) := by decide +kernel
theorem dX0_fewestChanges_95 : decode cX0_fewestChanges 95 = .ok (.iand, 1) := by decide +kernel
theorem dX0_fewestChanges_96 : decode cX0_fewestChanges 96 = .ok (.istore 6, 2) := by decide +kernel
theorem dX0_fewestChanges_98 : decode cX0_fewestChanges 98 = .ok (.iload 6, 2) := by decide +kernel
theorem dX0_fewestChanges_100 : decode cX0_fewestChanges 100 = .ok (.ifCond .ne 26, 3) := by decide +kernel
theorem dX0_fewestChanges_103 : decode cX0_fewestChanges 103 = .ok (.iinc 2 1, 3) := by decide +kernel
theorem dX0_fewestChanges_106 : decode cX0_fewestChanges 106 = .ok (.aload_n 0, 1) := by decide +kernel
theorem dX0_fewestChanges_107 : decode cX0_fewestChanges 107 = .ok (.getfield 24, 3) := by decide +kernel
theorem dX0_fewestChanges_110 : decode cX0_fewestChanges 110 = .ok (.iload 4, 2) := by decide +kernel
theorem dX0_fewestChanges_112 : decode cX0_fewestChanges 112 = .ok (.dup2, 1) := by decide +kernel
theorem dX0_fewestChanges_113 : decode cX0_fewestChanges 113 = .ok (.iaload, 1) := by decide +kernel
theorem dX0_fewestChanges_114 : decode cX0_fewestChanges 114 = .ok (.aload_n 0, 1) := by decide +kernel
theorem dX0_fewestChanges_115 : decode cX0_fewestChanges 115 = .ok (.getfield 24, 3) := by decide +kernel
theorem dX0_fewestChanges_118 : decode cX0_fewestChanges 118 = .ok (.iload 5, 2) := by decide +kernel
theorem dX0_fewestChanges_120 : decode cX0_fewestChanges 120 = .ok (.iaload, 1) := by decide +kernel
theorem dX0_fewestChanges_121 : decode cX0_fewestChanges 121 = .ok (.ior, 1) := by decide +kernel
theorem dX0_fewestChanges_122 : decode cX0_fewestChanges 122 = .ok (.iastore, 1) := by decide +kernel
theorem dX0_fewestChanges_123 : decode cX0_fewestChanges 123 = .ok (.goto 12, 3) := by decide +kernel
theorem dX0_fewestChanges_126 : decode cX0_fewestChanges 126 = .ok (.aload_n 0, 1) := by decide +kernel
theorem dX0_fewestChanges_127 : decode cX0_fewestChanges 127 = .ok (.getfield 24, 3) := by decide +kernel
theorem dX0_fewestChanges_130 : decode cX0_fewestChanges 130 = .ok (.iload 4, 2) := by decide +kernel
theorem dX0_fewestChanges_132 : decode cX0_fewestChanges 132 = .ok (.iload 6, 2) := by decide +kernel
theorem dX0_fewestChanges_134 : decode cX0_fewestChanges 134 = .ok (.iastore, 1) := by decide +kernel
theorem dX0_fewestChanges_135 : decode cX0_fewestChanges 135 = .ok (.iinc 3 (-1), 3) := by decide +kernel
theorem dX0_fewestChanges_138 : decode cX0_fewestChanges 138 = .ok (.goto (-87), 3) := by decide +kernel
theorem dX0_fewestChanges_141 : decode cX0_fewestChanges 141 = .ok (.iload_n 2, 1) := by decide +kernel
theorem dX0_fewestChanges_142 : decode cX0_fewestChanges 142 = .ok (.ireturn, 1) := by decide +kernel
theorem dX1_init_0 : decode cX1_init 0 = .ok (.aload_n 0, 1) := by decide +kernel
theorem dX1_init_1 : decode cX1_init 1 = .ok (.iload_n 1, 1) := by decide +kernel
theorem dX1_init_2 : decode cX1_init 2 = .ok (.iload_n 2, 1) := by decide +kernel
theorem dX1_init_3 : decode cX1_init 3 = .ok (.iload_n 3, 1) := by decide +kernel
theorem dX1_init_4 : decode cX1_init 4 = .ok (.iload 4, 2) := by decide +kernel
theorem dX1_init_6 : decode cX1_init 6 = .ok (.iload 5, 2) := by decide +kernel
theorem dX1_init_8 : decode cX1_init 8 = .ok (.invokespecial 1, 3) := by decide +kernel
theorem dX1_init_11 : decode cX1_init 11 = .ok (.return_, 1) := by decide +kernel
theorem dX1_kindNumber_0 : decode cX1_kindNumber 0 = .ok (.bipush 6, 2) := by decide +kernel
theorem dX1_kindNumber_2 : decode cX1_kindNumber 2 = .ok (.ireturn, 1) := by decide +kernel
theorem dX1_marks_0 : decode cX1_marks 0 = .ok (.aload_n 0, 1) := by decide +kernel
theorem dX1_marks_1 : decode cX1_marks 1 = .ok (.bipush 61, 2) := by decide +kernel
theorem dX1_marks_3 : decode cX1_marks 3 = .ok (.invokevirtual 7, 3) := by decide +kernel
theorem dX1_marks_6 : decode cX1_marks 6 = .ok (.aload_n 0, 1) := by decide +kernel
theorem dX1_marks_7 : decode cX1_marks 7 = .ok (.iload_n 1, 1) := by decide +kernel
theorem dX1_marks_8 : decode cX1_marks 8 = .ok (.iconst 1, 1) := by decide +kernel
theorem dX1_marks_9 : decode cX1_marks 9 = .ok (.iadd, 1) := by decide +kernel
theorem dX1_marks_10 : decode cX1_marks 10 = .ok (.invokespecial 13, 3) := by decide +kernel
theorem dX1_marks_13 : decode cX1_marks 13 = .ok (.iconst 3, 1) := by decide +kernel
theorem dX1_marks_14 : decode cX1_marks 14 = .ok (.ixor, 1) := by decide +kernel
theorem dX1_marks_15 : decode cX1_marks 15 = .ok (.ireturn, 1) := by decide +kernel
theorem dX2_init_0 : decode cX2_init 0 = .ok (.aload_n 0, 1) := by decide +kernel
theorem dX2_init_1 : decode cX2_init 1 = .ok (.invokespecial 3, 3) := by decide +kernel
theorem dX2_init_4 : decode cX2_init 4 = .ok (.aload_n 0, 1) := by decide +kernel
theorem dX2_init_5 : decode cX2_init 5 = .ok (.bipush 20, 2) := by decide +kernel
theorem dX2_init_7 : decode cX2_init 7 = .ok (.newarray .int, 2) := by decide +kernel
theorem dX2_init_9 : decode cX2_init 9 = .ok (.putfield 9, 3) := by decide +kernel
theorem dX2_init_12 : decode cX2_init 12 = .ok (.aload_n 0, 1) := by decide +kernel
theorem dX2_init_13 : decode cX2_init 13 = .ok (.iload_n 1, 1) := by decide +kernel
theorem dX2_init_14 : decode cX2_init 14 = .ok (.putfield 15, 3) := by decide +kernel
theorem dX2_init_17 : decode cX2_init 17 = .ok (.aload_n 0, 1) := by decide +kernel
theorem dX2_init_18 : decode cX2_init 18 = .ok (.iload_n 2, 1) := by decide +kernel
theorem dX2_init_19 : decode cX2_init 19 = .ok (.putfield 19, 3) := by decide +kernel
theorem dX2_init_22 : decode cX2_init 22 = .ok (.aload_n 0, 1) := by decide +kernel
theorem dX2_init_23 : decode cX2_init 23 = .ok (.iload_n 3, 1) := by decide +kernel
theorem dX2_init_24 : decode cX2_init 24 = .ok (.putfield 22, 3) := by decide +kernel
theorem dX2_init_27 : decode cX2_init 27 = .ok (.aload_n 0, 1) := by decide +kernel
theorem dX2_init_28 : decode cX2_init 28 = .ok (.iload 4, 2) := by decide +kernel
theorem dX2_init_30 : decode cX2_init 30 = .ok (.putfield 25, 3) := by decide +kernel
theorem dX2_init_33 : decode cX2_init 33 = .ok (.aload_n 0, 1) := by decide +kernel
theorem dX2_init_34 : decode cX2_init 34 = .ok (.iload 5, 2) := by decide +kernel
theorem dX2_init_36 : decode cX2_init 36 = .ok (.putfield 28, 3) := by decide +kernel
theorem dX2_init_39 : decode cX2_init 39 = .ok (.return_, 1) := by decide +kernel
theorem dX2_tells_0 : decode cX2_tells 0 = .ok (.aload_n 0, 1) := by decide +kernel
theorem dX2_tells_1 : decode cX2_tells 1 = .ok (.iconst 1, 1) := by decide +kernel
theorem dX2_tells_2 : decode cX2_tells 2 = .ok (.invokevirtual 31, 3) := by decide +kernel
theorem dX2_tells_5 : decode cX2_tells 5 = .ok (.iload_n 1, 1) := by decide +kernel
theorem dX2_tells_6 : decode cX2_tells 6 = .ok (.aload_n 0, 1) := by decide +kernel
theorem dX2_tells_7 : decode cX2_tells 7 = .ok (.getfield 15, 3) := by decide +kernel
theorem dX2_tells_10 : decode cX2_tells 10 = .ok (.iadd, 1) := by decide +kernel
theorem dX2_tells_11 : decode cX2_tells 11 = .ok (.ireturn, 1) := by decide +kernel
theorem dX2_leads_0 : decode cX2_leads 0 = .ok (.aload_n 0, 1) := by decide +kernel
theorem dX2_leads_1 : decode cX2_leads 1 = .ok (.iconst 2, 1) := by decide +kernel
theorem dX2_leads_2 : decode cX2_leads 2 = .ok (.invokevirtual 31, 3) := by decide +kernel
theorem dX2_leads_5 : decode cX2_leads 5 = .ok (.aload_n 0, 1) := by decide +kernel
theorem dX2_leads_6 : decode cX2_leads 6 = .ok (.iload_n 1, 1) := by decide +kernel
theorem dX2_leads_7 : decode cX2_leads 7 = .ok (.invokevirtual 35, 3) := by decide +kernel
theorem dX2_leads_10 : decode cX2_leads 10 = .ok (.aload_n 0, 1) := by decide +kernel
theorem dX2_leads_11 : decode cX2_leads 11 = .ok (.getfield 19, 3) := by decide +kernel
theorem dX2_leads_14 : decode cX2_leads 14 = .ok (.isub, 1) := by decide +kernel
theorem dX2_leads_15 : decode cX2_leads 15 = .ok (.ireturn, 1) := by decide +kernel
theorem dX2_marks_0 : decode cX2_marks 0 = .ok (.aload_n 0, 1) := by decide +kernel
theorem dX2_marks_1 : decode cX2_marks 1 = .ok (.iconst 3, 1) := by decide +kernel
theorem dX2_marks_2 : decode cX2_marks 2 = .ok (.invokevirtual 31, 3) := by decide +kernel
theorem dX2_marks_5 : decode cX2_marks 5 = .ok (.aload_n 0, 1) := by decide +kernel
theorem dX2_marks_6 : decode cX2_marks 6 = .ok (.iload_n 1, 1) := by decide +kernel
theorem dX2_marks_7 : decode cX2_marks 7 = .ok (.invokevirtual 39, 3) := by decide +kernel
theorem dX2_marks_10 : decode cX2_marks 10 = .ok (.iconst 2, 1) := by decide +kernel
theorem dX2_marks_11 : decode cX2_marks 11 = .ok (.imul, 1) := by decide +kernel
theorem dX2_marks_12 : decode cX2_marks 12 = .ok (.ireturn, 1) := by decide +kernel
theorem dX2_begin_0 : decode cX2_begin 0 = .ok (.aload_n 0, 1) := by decide +kernel
theorem dX2_begin_1 : decode cX2_begin 1 = .ok (.getfield 42, 3) := by decide +kernel
theorem dX2_begin_4 : decode cX2_begin 4 = .ok (.ifCond .lt 22, 3) := by decide +kernel
theorem dX2_begin_7 : decode cX2_begin 7 = .ok (.aload_n 0, 1) := by decide +kernel
theorem dX2_begin_8 : decode cX2_begin 8 = .ok (.getfield 42, 3) := by decide +kernel
theorem dX2_begin_11 : decode cX2_begin 11 = .ok (.bipush 20, 2) := by decide +kernel
theorem dX2_begin_13 : decode cX2_begin 13 = .ok (.if_icmp .ge 13, 3) := by decide +kernel
theorem dX2_begin_16 : decode cX2_begin 16 = .ok (.aload_n 0, 1) := by decide +kernel
theorem dX2_begin_17 : decode cX2_begin 17 = .ok (.getfield 9, 3) := by decide +kernel
theorem dX2_begin_20 : decode cX2_begin 20 = .ok (.aload_n 0, 1) := by decide +kernel
theorem dX2_begin_21 : decode cX2_begin 21 = .ok (.getfield 42, 3) := by decide +kernel
theorem dX2_begin_24 : decode cX2_begin 24 = .ok (.iload_n 1, 1) := by decide +kernel
theorem dX2_begin_25 : decode cX2_begin 25 = .ok (.iastore, 1) := by decide +kernel
theorem dX2_begin_26 : decode cX2_begin 26 = .ok (.aload_n 0, 1) := by decide +kernel
theorem dX2_begin_27 : decode cX2_begin 27 = .ok (.dup, 1) := by decide +kernel
theorem dX2_begin_28 : decode cX2_begin 28 = .ok (.getfield 42, 3) := by decide +kernel
theorem dX2_begin_31 : decode cX2_begin 31 = .ok (.iconst 1, 1) := by decide +kernel
theorem dX2_begin_32 : decode cX2_begin 32 = .ok (.iadd, 1) := by decide +kernel
theorem dX2_begin_33 : decode cX2_begin 33 = .ok (.putfield 42, 3) := by decide +kernel
theorem dX2_begin_36 : decode cX2_begin 36 = .ok (.return_, 1) := by decide +kernel
theorem dX3_init_0 : decode cX3_init 0 = .ok (.aload_n 0, 1) := by decide +kernel
theorem dX3_init_1 : decode cX3_init 1 = .ok (.iload_n 1, 1) := by decide +kernel
theorem dX3_init_2 : decode cX3_init 2 = .ok (.iload_n 2, 1) := by decide +kernel
theorem dX3_init_3 : decode cX3_init 3 = .ok (.iload_n 3, 1) := by decide +kernel
theorem dX3_init_4 : decode cX3_init 4 = .ok (.iload 4, 2) := by decide +kernel
theorem dX3_init_6 : decode cX3_init 6 = .ok (.iload 5, 2) := by decide +kernel
theorem dX3_init_8 : decode cX3_init 8 = .ok (.invokespecial 1, 3) := by decide +kernel
theorem dX3_init_11 : decode cX3_init 11 = .ok (.return_, 1) := by decide +kernel
theorem dX3_kindNumber_0 : decode cX3_kindNumber 0 = .ok (.iconst 5, 1) := by decide +kernel
theorem dX3_kindNumber_1 : decode cX3_kindNumber 1 = .ok (.ireturn, 1) := by decide +kernel
theorem dX3_tells_0 : decode cX3_tells 0 = .ok (.aload_n 0, 1) := by decide +kernel
theorem dX3_tells_1 : decode cX3_tells 1 = .ok (.bipush 51, 2) := by decide +kernel
theorem dX3_tells_3 : decode cX3_tells 3 = .ok (.invokevirtual 7, 3) := by decide +kernel
theorem dX3_tells_6 : decode cX3_tells 6 = .ok (.aload_n 0, 1) := by decide +kernel
theorem dX3_tells_7 : decode cX3_tells 7 = .ok (.iload_n 1, 1) := by decide +kernel
theorem dX3_tells_8 : decode cX3_tells 8 = .ok (.invokespecial 13, 3) := by decide +kernel
theorem dX3_tells_11 : decode cX3_tells 11 = .ok (.aload_n 0, 1) := by decide +kernel
theorem dX3_tells_12 : decode cX3_tells 12 = .ok (.getfield 17, 3) := by decide +kernel
theorem dX3_tells_15 : decode cX3_tells 15 = .ok (.iadd, 1) := by decide +kernel
theorem dX3_tells_16 : decode cX3_tells 16 = .ok (.ireturn, 1) := by decide +kernel
theorem dX4_init_0 : decode cX4_init 0 = .ok (.aload_n 0, 1) := by decide +kernel
theorem dX4_init_1 : decode cX4_init 1 = .ok (.invokespecial 3, 3) := by decide +kernel
theorem dX4_init_4 : decode cX4_init 4 = .ok (.aload_n 0, 1) := by decide +kernel
theorem dX4_init_5 : decode cX4_init 5 = .ok (.bipush 6, 2) := by decide +kernel
theorem dX4_init_7 : decode cX4_init 7 = .ok (.newarray .int, 2) := by decide +kernel
theorem dX4_init_9 : decode cX4_init 9 = .ok (.putfield 9, 3) := by decide +kernel
theorem dX4_init_12 : decode cX4_init 12 = .ok (.aload_n 0, 1) := by decide +kernel
theorem dX4_init_13 : decode cX4_init 13 = .ok (.bipush 6, 2) := by decide +kernel
theorem dX4_init_15 : decode cX4_init 15 = .ok (.newarray .int, 2) := by decide +kernel
theorem dX4_init_17 : decode cX4_init 17 = .ok (.putfield 15, 3) := by decide +kernel
theorem dX4_init_20 : decode cX4_init 20 = .ok (.aload_n 0, 1) := by decide +kernel
theorem dX4_init_21 : decode cX4_init 21 = .ok (.bipush 6, 2) := by decide +kernel
theorem dX4_init_23 : decode cX4_init 23 = .ok (.newarray .int, 2) := by decide +kernel
theorem dX4_init_25 : decode cX4_init 25 = .ok (.putfield 18, 3) := by decide +kernel
theorem dX4_init_28 : decode cX4_init 28 = .ok (.aload_n 0, 1) := by decide +kernel
theorem dX4_init_29 : decode cX4_init 29 = .ok (.bipush 6, 2) := by decide +kernel
theorem dX4_init_31 : decode cX4_init 31 = .ok (.newarray .int, 2) := by decide +kernel
theorem dX4_init_33 : decode cX4_init 33 = .ok (.putfield 21, 3) := by decide +kernel
theorem dX4_init_36 : decode cX4_init 36 = .ok (.aload_n 0, 1) := by decide +kernel
theorem dX4_init_37 : decode cX4_init 37 = .ok (.bipush 8, 2) := by decide +kernel
theorem dX4_init_39 : decode cX4_init 39 = .ok (.newarray .int, 2) := by decide +kernel
theorem dX4_init_41 : decode cX4_init 41 = .ok (.putfield 24, 3) := by decide +kernel
theorem dX4_init_44 : decode cX4_init 44 = .ok (.return_, 1) := by decide +kernel
theorem dX4_read_0 : decode cX4_read 0 = .ok (.iconst 0, 1) := by decide +kernel
theorem dX4_read_1 : decode cX4_read 1 = .ok (.istore_n 3, 1) := by decide +kernel
theorem dX4_read_2 : decode cX4_read 2 = .ok (.iconst 0, 1) := by decide +kernel
theorem dX4_read_3 : decode cX4_read 3 = .ok (.istore 4, 2) := by decide +kernel
theorem dX4_read_5 : decode cX4_read 5 = .ok (.iload 4, 2) := by decide +kernel
theorem dX4_read_7 : decode cX4_read 7 = .ok (.bipush 6, 2) := by decide +kernel
theorem dX4_read_9 : decode cX4_read 9 = .ok (.if_icmp .ge 66, 3) := by decide +kernel
theorem dX4_read_12 : decode cX4_read 12 = .ok (.aload_n 0, 1) := by decide +kernel
theorem dX4_read_13 : decode cX4_read 13 = .ok (.iload 4, 2) := by decide +kernel
theorem dX4_read_15 : decode cX4_read 15 = .ok (.iconst 1, 1) := by decide +kernel
theorem dX4_read_16 : decode cX4_read 16 = .ok (.iadd, 1) := by decide +kernel
theorem dX4_read_17 : decode cX4_read 17 = .ok (.putfield 27, 3) := by decide +kernel
theorem dX4_read_20 : decode cX4_read 20 = .ok (.aload_n 0, 1) := by decide +kernel
theorem dX4_read_21 : decode cX4_read 21 = .ok (.aload_n 1, 1) := by decide +kernel
theorem dX4_read_22 : decode cX4_read 22 = .ok (.iload_n 2, 1) := by decide +kernel
theorem dX4_read_23 : decode cX4_read 23 = .ok (.iload_n 3, 1) := by decide +kernel
theorem dX4_read_24 : decode cX4_read 24 = .ok (.iload 4, 2) := by decide +kernel
theorem dX4_read_26 : decode cX4_read 26 = .ok (.invokevirtual 31, 3) := by decide +kernel
theorem dX4_read_29 : decode cX4_read 29 = .ok (.istore 5, 2) := by decide +kernel
theorem dX4_read_31 : decode cX4_read 31 = .ok (.iload 5, 2) := by decide +kernel
theorem dX4_read_33 : decode cX4_read 33 = .ok (.ifCond .ge 8, 3) := by decide +kernel
theorem dX4_read_36 : decode cX4_read 36 = .ok (.iconst (-1), 1) := by decide +kernel
theorem dX4_read_37 : decode cX4_read 37 = .ok (.iload 5, 2) := by decide +kernel
theorem dX4_read_39 : decode cX4_read 39 = .ok (.isub, 1) := by decide +kernel
theorem dX4_read_40 : decode cX4_read 40 = .ok (.ireturn, 1) := by decide +kernel
theorem dX4_read_41 : decode cX4_read 41 = .ok (.iload 5, 2) := by decide +kernel
theorem dX4_read_43 : decode cX4_read 43 = .ok (.iload_n 2, 1) := by decide +kernel
theorem dX4_read_44 : decode cX4_read 44 = .ok (.if_icmp .ne 5, 3) := by decide +kernel
theorem dX4_read_47 : decode cX4_read 47 = .ok (.iconst (-1), 1) := by decide +kernel
theorem dX4_read_48 : decode cX4_read 48 = .ok (.ireturn, 1) := by decide +kernel
theorem dX4_read_49 : decode cX4_read 49 = .ok (.aload_n 1, 1) := by decide +kernel
theorem dX4_read_50 : decode cX4_read 50 = .ok (.iload_n 2, 1) := by decide +kernel
theorem dX4_read_51 : decode cX4_read 51 = .ok (.iload 5, 2) := by decide +kernel
theorem dX4_read_53 : decode cX4_read 53 = .ok (.invokestatic 35, 3) := by decide +kernel
theorem dX4_read_56 : decode cX4_read 56 = .ok (.bipush 44, 2) := by decide +kernel
theorem dX4_read_58 : decode cX4_read 58 = .ok (.if_icmp .eq 6, 3) := by decide +kernel
theorem dX4_read_61 : decode cX4_read 61 = .ok (.iload 5, 2) := by decide +kernel
theorem dX4_read_63 : decode cX4_read 63 = .ok (.ireturn, 1) := by decide +kernel
theorem dX4_read_64 : decode cX4_read 64 = .ok (.iload 5, 2) := by decide +kernel
theorem dX4_read_66 : decode cX4_read 66 = .ok (.iconst 1, 1) := by decide +kernel
theorem dX4_read_67 : decode cX4_read 67 = .ok (.iadd, 1) := by decide +kernel
theorem dX4_read_68 : decode cX4_read 68 = .ok (.istore_n 3, 1) := by decide +kernel
theorem dX4_read_69 : decode cX4_read 69 = .ok (.iinc 4 1, 3) := by decide +kernel
theorem dX4_read_72 : decode cX4_read 72 = .ok (.goto (-67), 3) := by decide +kernel
theorem dX4_read_75 : decode cX4_read 75 = .ok (.iload_n 3, 1) := by decide +kernel
theorem dX4_read_76 : decode cX4_read 76 = .ok (.iconst 1, 1) := by decide +kernel
theorem dX4_read_77 : decode cX4_read 77 = .ok (.isub, 1) := by decide +kernel
theorem dX4_read_78 : decode cX4_read 78 = .ok (.ireturn, 1) := by decide +kernel
theorem dX4_readChange_0 : decode cX4_readChange 0 = .ok (.aload_n 0, 1) := by decide +kernel
theorem dX4_readChange_1 : decode cX4_readChange 1 = .ok (.getfield 9, 3) := by decide +kernel
theorem dX4_readChange_4 : decode cX4_readChange 4 = .ok (.iload 4, 2) := by decide +kernel
theorem dX4_readChange_6 : decode cX4_readChange 6 = .ok (.aload_n 1, 1) := by decide +kernel
theorem dX4_readChange_7 : decode cX4_readChange 7 = .ok (.iload_n 2, 1) := by decide +kernel
theorem dX4_readChange_8 : decode cX4_readChange 8 = .ok (.iload_n 3, 1) := by decide +kernel
theorem dX4_readChange_9 : decode cX4_readChange 9 = .ok (.invokestatic 35, 3) := by decide +kernel
theorem dX4_readChange_12 : decode cX4_readChange 12 = .ok (.iastore, 1) := by decide +kernel
theorem dX4_readChange_13 : decode cX4_readChange 13 = .ok (.aload_n 0, 1) := by decide +kernel
theorem dX4_readChange_14 : decode cX4_readChange 14 = .ok (.getfield 9, 3) := by decide +kernel
theorem dX4_readChange_17 : decode cX4_readChange 17 = .ok (.iload 4, 2) := by decide +kernel
theorem dX4_readChange_19 : decode cX4_readChange 19 = .ok (.iaload, 1) := by decide +kernel
theorem dX4_readChange_20 : decode cX4_readChange 20 = .ok (.invokestatic 39, 3) := by decide +kernel
theorem dX4_readChange_23 : decode cX4_readChange 23 = .ok (.ifCond .ne 7, 3) := by decide +kernel
theorem dX4_readChange_26 : decode cX4_readChange 26 = .ok (.iconst (-1), 1) := by decide +kernel
theorem dX4_readChange_27 : decode cX4_readChange 27 = .ok (.iload_n 3, 1) := by decide +kernel
theorem dX4_readChange_28 : decode cX4_readChange 28 = .ok (.isub, 1) := by decide +kernel
theorem dX4_readChange_29 : decode cX4_readChange 29 = .ok (.ireturn, 1) := by decide +kernel
theorem dX4_readChange_30 : decode cX4_readChange 30 = .ok (.aload_n 1, 1) := by decide +kernel
theorem dX4_readChange_31 : decode cX4_readChange 31 = .ok (.iload_n 2, 1) := by decide +kernel
theorem dX4_readChange_32 : decode cX4_readChange 32 = .ok (.iload_n 3, 1) := by decide +kernel
theorem dX4_readChange_33 : decode cX4_readChange 33 = .ok (.iconst 1, 1) := by decide +kernel
theorem dX4_readChange_34 : decode cX4_readChange 34 = .ok (.iadd, 1) := by decide +kernel
theorem dX4_readChange_35 : decode cX4_readChange 35 = .ok (.invokestatic 35, 3) := by decide +kernel
theorem dX4_readChange_38 : decode cX4_readChange 38 = .ok (.bipush 62, 2) := by decide +kernel
theorem dX4_readChange_40 : decode cX4_readChange 40 = .ok (.if_icmp .eq 9, 3) := by decide +kernel
theorem dX4_readChange_43 : decode cX4_readChange 43 = .ok (.iconst (-1), 1) := by decide +kernel
theorem dX4_readChange_44 : decode cX4_readChange 44 = .ok (.iload_n 3, 1) := by decide +kernel
theorem dX4_readChange_45 : decode cX4_readChange 45 = .ok (.iconst 1, 1) := by decide +kernel
theorem dX4_readChange_46 : decode cX4_readChange 46 = .ok (.iadd, 1) := by decide +kernel
theorem dX4_readChange_47 : decode cX4_readChange 47 = .ok (.isub, 1) := by decide +kernel
theorem dX4_readChange_48 : decode cX4_readChange 48 = .ok (.ireturn, 1) := by decide +kernel
theorem dX4_readChange_49 : decode cX4_readChange 49 = .ok (.aload_n 0, 1) := by decide +kernel
theorem dX4_readChange_50 : decode cX4_readChange 50 = .ok (.getfield 15, 3) := by decide +kernel
theorem dX4_readChange_53 : decode cX4_readChange 53 = .ok (.iload 4, 2) := by decide +kernel
theorem dX4_readChange_55 : decode cX4_readChange 55 = .ok (.aload_n 1, 1) := by decide +kernel
theorem dX4_readChange_56 : decode cX4_readChange 56 = .ok (.iload_n 2, 1) := by decide +kernel
theorem dX4_readChange_57 : decode cX4_readChange 57 = .ok (.iload_n 3, 1) := by decide +kernel
theorem dX4_readChange_58 : decode cX4_readChange 58 = .ok (.iconst 2, 1) := by decide +kernel
theorem dX4_readChange_59 : decode cX4_readChange 59 = .ok (.iadd, 1) := by decide +kernel
theorem dX4_readChange_60 : decode cX4_readChange 60 = .ok (.invokestatic 35, 3) := by decide +kernel
theorem dX4_readChange_63 : decode cX4_readChange 63 = .ok (.iastore, 1) := by decide +kernel
theorem dX4_readChange_64 : decode cX4_readChange 64 = .ok (.aload_n 0, 1) := by decide +kernel
theorem dX4_readChange_65 : decode cX4_readChange 65 = .ok (.getfield 15, 3) := by decide +kernel
theorem dX4_readChange_68 : decode cX4_readChange 68 = .ok (.iload 4, 2) := by decide +kernel
theorem dX4_readChange_70 : decode cX4_readChange 70 = .ok (.iaload, 1) := by decide +kernel
theorem dX4_readChange_71 : decode cX4_readChange 71 = .ok (.invokestatic 43, 3) := by decide +kernel
theorem dX4_readChange_74 : decode cX4_readChange 74 = .ok (.ifCond .ne 21, 3) := by decide +kernel
theorem dX4_readChange_77 : decode cX4_readChange 77 = .ok (.aload_n 0, 1) := by decide +kernel
theorem dX4_readChange_78 : decode cX4_readChange 78 = .ok (.getfield 15, 3) := by decide +kernel
theorem dX4_readChange_81 : decode cX4_readChange 81 = .ok (.iload 4, 2) := by decide +kernel
theorem dX4_readChange_83 : decode cX4_readChange 83 = .ok (.iaload, 1) := by decide +kernel
theorem dX4_readChange_84 : decode cX4_readChange 84 = .ok (.bipush 48, 2) := by decide +kernel
theorem dX4_readChange_86 : decode cX4_readChange 86 = .ok (.if_icmp .eq 9, 3) := by decide +kernel
theorem dX4_readChange_89 : decode cX4_readChange 89 = .ok (.iconst (-1), 1) := by decide +kernel
theorem dX4_readChange_90 : decode cX4_readChange 90 = .ok (.iload_n 3, 1) := by decide +kernel
theorem dX4_readChange_91 : decode cX4_readChange 91 = .ok (.iconst 2, 1) := by decide +kernel
theorem dX4_readChange_92 : decode cX4_readChange 92 = .ok (.iadd, 1) := by decide +kernel
theorem dX4_readChange_93 : decode cX4_readChange 93 = .ok (.isub, 1) := by decide +kernel
theorem dX4_readChange_94 : decode cX4_readChange 94 = .ok (.ireturn, 1) := by decide +kernel
theorem dX4_readChange_95 : decode cX4_readChange 95 = .ok (.aload_n 0, 1) := by decide +kernel
theorem dX4_readChange_96 : decode cX4_readChange 96 = .ok (.getfield 18, 3) := by decide +kernel
theorem dX4_readChange_99 : decode cX4_readChange 99 = .ok (.iload 4, 2) := by decide +kernel
theorem dX4_readChange_101 : decode cX4_readChange 101 = .ok (.iconst 0, 1) := by decide +kernel
theorem dX4_readChange_102 : decode cX4_readChange 102 = .ok (.iastore, 1) := by decide +kernel
theorem dX4_readChange_103 : decode cX4_readChange 103 = .ok (.aload_n 0, 1) := by decide +kernel
theorem dX4_readChange_104 : decode cX4_readChange 104 = .ok (.getfield 21, 3) := by decide +kernel
theorem dX4_readChange_107 : decode cX4_readChange 107 = .ok (.iload 4, 2) := by decide +kernel
theorem dX4_readChange_109 : decode cX4_readChange 109 = .ok (.iconst 0, 1) := by decide +kernel
theorem dX4_readChange_110 : decode cX4_readChange 110 = .ok (.iastore, 1) := by decide +kernel
theorem dX4_readChange_111 : decode cX4_readChange 111 = .ok (.aload_n 1, 1) := by decide +kernel
theorem dX4_readChange_112 : decode cX4_readChange 112 = .ok (.iload_n 2, 1) := by decide +kernel
theorem dX4_readChange_113 : decode cX4_readChange 113 = .ok (.iload_n 3, 1) := by decide +kernel
theorem dX4_readChange_114 : decode cX4_readChange 114 = .ok (.iconst 3, 1) := by decide +kernel
theorem dX4_readChange_115 : decode cX4_readChange 115 = .ok (.iadd, 1) := by decide +kernel
theorem dX4_readChange_116 : decode cX4_readChange 116 = .ok (.invokestatic 35, 3) := by decide +kernel
theorem dX4_readChange_119 : decode cX4_readChange 119 = .ok (.bipush 47, 2) := by decide +kernel
theorem dX4_readChange_121 : decode cX4_readChange 121 = .ok (.if_icmp .eq 7, 3) := by decide +kernel
theorem dX4_readChange_124 : decode cX4_readChange 124 = .ok (.iload_n 3, 1) := by decide +kernel
theorem dX4_readChange_125 : decode cX4_readChange 125 = .ok (.iconst 3, 1) := by decide +kernel
theorem dX4_readChange_126 : decode cX4_readChange 126 = .ok (.iadd, 1) := by decide +kernel
theorem dX4_readChange_127 : decode cX4_readChange 127 = .ok (.ireturn, 1) := by decide +kernel
theorem dX4_readChange_128 : decode cX4_readChange 128 = .ok (.aload_n 0, 1) := by decide +kernel
theorem dX4_readChange_129 : decode cX4_readChange 129 = .ok (.aload_n 1, 1) := by decide +kernel
theorem dX4_readChange_130 : decode cX4_readChange 130 = .ok (.iload_n 2, 1) := by decide +kernel
theorem dX4_readChange_131 : decode cX4_readChange 131 = .ok (.iload_n 3, 1) := by decide +kernel
theorem dX4_readChange_132 : decode cX4_readChange 132 = .ok (.iconst 4, 1) := by decide +kernel
theorem dX4_readChange_133 : decode cX4_readChange 133 = .ok (.iadd, 1) := by decide +kernel
theorem dX4_readChange_134 : decode cX4_readChange 134 = .ok (.iload 4, 2) := by decide +kernel
theorem dX4_readChange_136 : decode cX4_readChange 136 = .ok (.invokevirtual 46, 3) := by decide +kernel
theorem dX4_readChange_139 : decode cX4_readChange 139 = .ok (.ireturn, 1) := by decide +kernel
theorem dX4_readSides_0 : decode cX4_readSides 0 = .ok (.iload_n 3, 1) := by decide +kernel
theorem dX4_readSides_1 : decode cX4_readSides 1 = .ok (.istore 5, 2) := by decide +kernel
theorem dX4_readSides_3 : decode cX4_readSides 3 = .ok (.aload_n 1, 1) := by decide +kernel
theorem dX4_readSides_4 : decode cX4_readSides 4 = .ok (.iload_n 2, 1) := by decide +kernel
theorem dX4_readSides_5 : decode cX4_readSides 5 = .ok (.iload 5, 2) := by decide +kernel
theorem dX4_readSides_7 : decode cX4_readSides 7 = .ok (.invokestatic 35, 3) := by decide +kernel
theorem dX4_readSides_10 : decode cX4_readSides 10 = .ok (.invokestatic 49, 3) := by decide +kernel
theorem dX4_readSides_13 : decode cX4_readSides 13 = .ok (.ifCond .eq 20, 3) := by decide +kernel
theorem dX4_readSides_16 : decode cX4_readSides 16 = .ok (.aload_n 0, 1) := by decide +kernel
theorem dX4_readSides_17 : decode cX4_readSides 17 = .ok (.getfield 18, 3) := by decide +kernel
theorem dX4_readSides_20 : decode cX4_readSides 20 = .ok (.iload 4, 2) := by decide +kernel
theorem dX4_readSides_22 : decode cX4_readSides 22 = .ok (.aload_n 1, 1) := by decide +kernel
theorem dX4_readSides_23 : decode cX4_readSides 23 = .ok (.iload_n 2, 1) := by decide +kernel
theorem dX4_readSides_24 : decode cX4_readSides 24 = .ok (.iload 5, 2) := by decide +kernel
theorem dX4_readSides_26 : decode cX4_readSides 26 = .ok (.invokestatic 35, 3) := by decide +kernel
theorem dX4_readSides_29 : decode cX4_readSides 29 = .ok (.iastore, 1) := by decide +kernel
theorem dX4_readSides_30 : decode cX4_readSides 30 = .ok (.iinc 5 1, 3) := by decide +kernel
theorem dX4_readSides_33 : decode cX4_readSides 33 = .ok (.aload_n 1, 1) := by decide +kernel
theorem dX4_readSides_34 : decode cX4_readSides 34 = .ok (.iload_n 2, 1) := by decide +kernel
theorem dX4_readSides_35 : decode cX4_readSides 35 = .ok (.iload 5, 2) := by decide +kernel
theorem dX4_readSides_37 : decode cX4_readSides 37 = .ok (.invokestatic 35, 3) := by decide +kernel
theorem dX4_readSides_40 : decode cX4_readSides 40 = .ok (.bipush 95, 2) := by decide +kernel
theorem dX4_readSides_42 : decode cX4_readSides 42 = .ok (.if_icmp .eq 8, 3) := by decide +kernel
theorem dX4_readSides_45 : decode cX4_readSides 45 = .ok (.iconst (-1), 1) := by decide +kernel
theorem dX4_readSides_46 : decode cX4_readSides 46 = .ok (.iload 5, 2) := by decide +kernel
theorem dX4_readSides_48 : decode cX4_readSides 48 = .ok (.isub, 1) := by decide +kernel
theorem dX4_readSides_49 : decode cX4_readSides 49 = .ok (.ireturn, 1) := by decide +kernel
theorem dX4_readSides_50 : decode cX4_readSides 50 = .ok (.iinc 5 1, 3) := by decide +kernel
theorem dX4_readSides_53 : decode cX4_readSides 53 = .ok (.aload_n 1, 1) := by decide +kernel
theorem dX4_readSides_54 : decode cX4_readSides 54 = .ok (.iload_n 2, 1) := by decide +kernel
theorem dX4_readSides_55 : decode cX4_readSides 55 = .ok (.iload 5, 2) := by decide +kernel
theorem dX4_readSides_57 : decode cX4_readSides 57 = .ok (.invokestatic 35, 3) := by decide +kernel
theorem dX4_readSides_60 : decode cX4_readSides 60 = .ok (.invokestatic 49, 3) := by decide +kernel
theorem dX4_readSides_63 : decode cX4_readSides 63 = .ok (.ifCond .eq 20, 3) := by decide +kernel
theorem dX4_readSides_66 : decode cX4_readSides 66 = .ok (.aload_n 0, 1) := by decide +kernel
theorem dX4_readSides_67 : decode cX4_readSides 67 = .ok (.getfield 21, 3) := by decide +kernel
theorem dX4_readSides_70 : decode cX4_readSides 70 = .ok (.iload 4, 2) := by decide +kernel
theorem dX4_readSides_72 : decode cX4_readSides 72 = .ok (.aload_n 1, 1) := by decide +kernel
theorem dX4_readSides_73 : decode cX4_readSides 73 = .ok (.iload_n 2, 1) := by decide +kernel
theorem dX4_readSides_74 : decode cX4_readSides 74 = .ok (.iload 5, 2) := by decide +kernel
theorem dX4_readSides_76 : decode cX4_readSides 76 = .ok (.invokestatic 35, 3) := by decide +kernel
theorem dX4_readSides_79 : decode cX4_readSides 79 = .ok (.iastore, 1) := by decide +kernel
theorem dX4_readSides_80 : decode cX4_readSides 80 = .ok (.iinc 5 1, 3) := by decide +kernel
theorem dX4_readSides_83 : decode cX4_readSides 83 = .ok (.iload 5, 2) := by decide +kernel
theorem dX4_readSides_85 : decode cX4_readSides 85 = .ok (.ireturn, 1) := by decide +kernel
theorem dX4_byteAt_0 : decode cX4_byteAt 0 = .ok (.iload_n 2, 1) := by decide +kernel
theorem dX4_byteAt_1 : decode cX4_byteAt 1 = .ok (.ifCond .lt 20, 3) := by decide +kernel
theorem dX4_byteAt_4 : decode cX4_byteAt 4 = .ok (.iload_n 2, 1) := by decide +kernel
theorem dX4_byteAt_5 : decode cX4_byteAt 5 = .ok (.iload_n 1, 1) := by decide +kernel
theorem dX4_byteAt_6 : decode cX4_byteAt 6 = .ok (.if_icmp .ge 15, 3) := by decide +kernel
theorem dX4_byteAt_9 : decode cX4_byteAt 9 = .ok (.iload_n 2, 1) := by decide +kernel
theorem dX4_byteAt_10 : decode cX4_byteAt 10 = .ok (.aload_n 0, 1) := by decide +kernel
theorem dX4_byteAt_11 : decode cX4_byteAt 11 = .ok (.arraylength, 1) := by decide +kernel
theorem dX4_byteAt_12 : decode cX4_byteAt 12 = .ok (.if_icmp .ge 9, 3) := by decide +kernel
theorem dX4_byteAt_15 : decode cX4_byteAt 15 = .ok (.aload_n 0, 1) := by decide +kernel
theorem dX4_byteAt_16 : decode cX4_byteAt 16 = .ok (.iload_n 2, 1) := by decide +kernel
theorem dX4_byteAt_17 : decode cX4_byteAt 17 = .ok (.iaload, 1) := by decide +kernel
theorem dX4_byteAt_18 : decode cX4_byteAt 18 = .ok (.goto 4, 3) := by decide +kernel
theorem dX4_byteAt_21 : decode cX4_byteAt 21 = .ok (.iconst (-1), 1) := by decide +kernel
theorem dX4_byteAt_22 : decode cX4_byteAt 22 = .ok (.ireturn, 1) := by decide +kernel
theorem dX4_isSign_0 : decode cX4_isSign 0 = .ok (.iload_n 0, 1) := by decide +kernel
theorem dX4_isSign_1 : decode cX4_isSign 1 = .ok (.invokestatic 43, 3) := by decide +kernel
theorem dX4_isSign_4 : decode cX4_isSign 4 = .ok (.ifCond .ne 15, 3) := by decide +kernel
theorem dX4_isSign_7 : decode cX4_isSign 7 = .ok (.iload_n 0, 1) := by decide +kernel
theorem dX4_isSign_8 : decode cX4_isSign 8 = .ok (.bipush 86, 2) := by decide +kernel
theorem dX4_isSign_10 : decode cX4_isSign 10 = .ok (.if_icmp .eq 9, 3) := by decide +kernel
theorem dX4_isSign_13 : decode cX4_isSign 13 = .ok (.iload_n 0, 1) := by decide +kernel
theorem dX4_isSign_14 : decode cX4_isSign 14 = .ok (.bipush 67, 2) := by decide +kernel
theorem dX4_isSign_16 : decode cX4_isSign 16 = .ok (.if_icmp .ne 7, 3) := by decide +kernel
theorem dX4_isSign_19 : decode cX4_isSign 19 = .ok (.iconst 1, 1) := by decide +kernel
theorem dX4_isSign_20 : decode cX4_isSign 20 = .ok (.goto 4, 3) := by decide +kernel
theorem dX4_isSign_23 : decode cX4_isSign 23 = .ok (.iconst 0, 1) := by decide +kernel
theorem dX4_isSign_24 : decode cX4_isSign 24 = .ok (.ireturn, 1) := by decide +kernel
theorem dX4_isSide_0 : decode cX4_isSide 0 = .ok (.iload_n 0, 1) := by decide +kernel
theorem dX4_isSide_1 : decode cX4_isSide 1 = .ok (.invokestatic 39, 3) := by decide +kernel
theorem dX4_isSide_4 : decode cX4_isSide 4 = .ok (.ifCond .ne 9, 3) := by decide +kernel
theorem dX4_isSide_7 : decode cX4_isSide 7 = .ok (.iload_n 0, 1) := by decide +kernel
theorem dX4_isSide_8 : decode cX4_isSide 8 = .ok (.bipush 35, 2) := by decide +kernel
theorem dX4_isSide_10 : decode cX4_isSide 10 = .ok (.if_icmp .ne 7, 3) := by decide +kernel
theorem dX4_isSide_13 : decode cX4_isSide 13 = .ok (.iconst 1, 1) := by decide +kernel
theorem dX4_isSide_14 : decode cX4_isSide 14 = .ok (.goto 4, 3) := by decide +kernel
theorem dX4_isSide_17 : decode cX4_isSide 17 = .ok (.iconst 0, 1) := by decide +kernel
theorem dX4_isSide_18 : decode cX4_isSide 18 = .ok (.ireturn, 1) := by decide +kernel
theorem dX4_comeOver_0 : decode cX4_comeOver 0 = .ok (.aload_n 1, 1) := by decide +kernel
theorem dX4_comeOver_1 : decode cX4_comeOver 1 = .ok (.getfield 52, 3) := by decide +kernel
theorem dX4_comeOver_4 : decode cX4_comeOver 4 = .ok (.istore_n 2, 1) := by decide +kernel
theorem dX4_comeOver_5 : decode cX4_comeOver 5 = .ok (.aload_n 1, 1) := by decide +kernel
theorem dX4_comeOver_6 : decode cX4_comeOver 6 = .ok (.getfield 57, 3) := by decide +kernel
theorem dX4_comeOver_9 : decode cX4_comeOver 9 = .ok (.iconst 0, 1) := by decide +kernel
theorem dX4_comeOver_10 : decode cX4_comeOver 10 = .ok (.aload_n 0, 1) := by decide +kernel
theorem dX4_comeOver_11 : decode cX4_comeOver 11 = .ok (.getfield 24, 3) := by decide +kernel
theorem dX4_comeOver_14 : decode cX4_comeOver 14 = .ok (.iconst 0, 1) := by decide +kernel
theorem dX4_comeOver_15 : decode cX4_comeOver 15 = .ok (.bipush 8, 2) := by decide +kernel
theorem dX4_comeOver_17 : decode cX4_comeOver 17 = .ok (.invokestatic 60, 3) := by decide +kernel
theorem dX4_comeOver_20 : decode cX4_comeOver 20 = .ok (.iconst 0, 1) := by decide +kernel
theorem dX4_comeOver_21 : decode cX4_comeOver 21 = .ok (.istore_n 3, 1) := by decide +kernel
theorem dX4_comeOver_22 : decode cX4_comeOver 22 = .ok (.iconst 0, 1) := by decide +kernel
theorem dX4_comeOver_23 : decode cX4_comeOver 23 = .ok (.istore 4, 2) := by decide +kernel
theorem dX4_comeOver_25 : decode cX4_comeOver 25 = .ok (.iconst 0, 1) := by decide +kernel
theorem dX4_comeOver_26 : decode cX4_comeOver 26 = .ok (.istore 5, 2) := by decide +kernel
theorem dX4_comeOver_28 : decode cX4_comeOver 28 = .ok (.iload 5, 2) := by decide +kernel
theorem dX4_comeOver_30 : decode cX4_comeOver 30 = .ok (.iload_n 2, 1) := by decide +kernel
theorem dX4_comeOver_31 : decode cX4_comeOver 31 = .ok (.if_icmp .ge 66, 3) := by decide +kernel
theorem dX4_comeOver_34 : decode cX4_comeOver 34 = .ok (.iload 5, 2) := by decide +kernel
theorem dX4_comeOver_36 : decode cX4_comeOver 36 = .ok (.bipush 8, 2) := by decide +kernel
theorem dX4_comeOver_38 : decode cX4_comeOver 38 = .ok (.if_icmp .ge 59, 3) := by decide +kernel
theorem dX4_comeOver_41 : decode cX4_comeOver 41 = .ok (.aload_n 0, 1) := by decide +kernel
theorem dX4_comeOver_42 : decode cX4_comeOver 42 = .ok (.iload 5, 2) := by decide +kernel
theorem dX4_comeOver_44 : decode cX4_comeOver 44 = .ok (.iload_n 2, 1) := by decide +kernel
theorem dX4_comeOver_45 : decode cX4_comeOver 45 = .ok (.invokevirtual 66, 3) := by decide +kernel
theorem dX4_comeOver_48 : decode cX4_comeOver 48 = .ok (.istore 6, 2) := by decide +kernel
theorem dX4_comeOver_50 : decode cX4_comeOver 50 = .ok (.iload 4, 2) := by decide +kernel
theorem dX4_comeOver_52 : decode cX4_comeOver 52 = .ok (.ifCond .ne 15, 3) := by decide +kernel
theorem dX4_comeOver_55 : decode cX4_comeOver 55 = .ok (.iload 6, 2) := by decide +kernel
theorem dX4_comeOver_57 : decode cX4_comeOver 57 = .ok (.aload_n 0, 1) := by decide +kernel
theorem dX4_comeOver_58 : decode cX4_comeOver 58 = .ok (.getfield 24, 3) := by decide +kernel
theorem dX4_comeOver_61 : decode cX4_comeOver 61 = .ok (.iload 5, 2) := by decide +kernel
theorem dX4_comeOver_63 : decode cX4_comeOver 63 = .ok (.iaload, 1) := by decide +kernel
theorem dX4_comeOver_64 : decode cX4_comeOver 64 = .ok (.if_icmp .eq 7, 3) := by decide +kernel
theorem dX4_comeOver_67 : decode cX4_comeOver 67 = .ok (.iconst 1, 1) := by decide +kernel
theorem dX4_comeOver_68 : decode cX4_comeOver 68 = .ok (.goto 4, 3) := by decide +kernel
theorem dX4_comeOver_71 : decode cX4_comeOver 71 = .ok (.iconst 0, 1) := by decide +kernel
theorem dX4_comeOver_72 : decode cX4_comeOver 72 = .ok (.istore 4, 2) := by decide +kernel
theorem dX4_comeOver_74 : decode cX4_comeOver 74 = .ok (.iload 6, 2) := by decide +kernel
theorem dX4_comeOver_76 : decode cX4_comeOver 76 = .ok (.iconst (-1), 1) := by decide +kernel
theorem dX4_comeOver_77 : decode cX4_comeOver 77 = .ok (.if_icmp .eq 14, 3) := by decide +kernel
theorem dX4_comeOver_80 : decode cX4_comeOver 80 = .ok (.aload_n 1, 1) := by decide +kernel
theorem dX4_comeOver_81 : decode cX4_comeOver 81 = .ok (.getfield 57, 3) := by decide +kernel
theorem dX4_comeOver_84 : decode cX4_comeOver 84 = .ok (.iload_n 3, 1) := by decide +kernel
theorem dX4_comeOver_85 : decode cX4_comeOver 85 = .ok (.iload 6, 2) := by decide +kernel
theorem dX4_comeOver_87 : decode cX4_comeOver 87 = .ok (.iastore, 1) := by decide +kernel
theorem dX4_comeOver_88 : decode cX4_comeOver 88 = .ok (.iinc 3 1, 3) := by decide +kernel
theorem dX4_comeOver_91 : decode cX4_comeOver 91 = .ok (.iinc 5 1, 3) := by decide +kernel
theorem dX4_comeOver_94 : decode cX4_comeOver 94 = .ok (.goto (-66), 3) := by decide +kernel
theorem dX4_comeOver_97 : decode cX4_comeOver 97 = .ok (.iload_n 3, 1) := by decide +kernel
theorem dX4_comeOver_98 : decode cX4_comeOver 98 = .ok (.ifCond .ne 5, 3) := by decide +kernel
theorem dX4_comeOver_101 : decode cX4_comeOver 101 = .ok (.iconst 0, 1) := by decide +kernel
theorem dX4_comeOver_102 : decode cX4_comeOver 102 = .ok (.ireturn, 1) := by decide +kernel
theorem dX4_comeOver_103 : decode cX4_comeOver 103 = .ok (.aload_n 1, 1) := by decide +kernel
theorem dX4_comeOver_104 : decode cX4_comeOver 104 = .ok (.iload_n 3, 1) := by decide +kernel
theorem dX4_comeOver_105 : decode cX4_comeOver 105 = .ok (.putfield 52, 3) := by decide +kernel
theorem dX4_comeOver_108 : decode cX4_comeOver 108 = .ok (.iload 4, 2) := by decide +kernel
theorem dX4_comeOver_110 : decode cX4_comeOver 110 = .ok (.ireturn, 1) := by decide +kernel
theorem dX4_letterFor_0 : decode cX4_letterFor 0 = .ok (.iconst 0, 1) := by decide +kernel
theorem dX4_letterFor_1 : decode cX4_letterFor 1 = .ok (.istore_n 3, 1) := by decide +kernel
theorem dX4_letterFor_2 : decode cX4_letterFor 2 = .ok (.iload_n 3, 1) := by decide +kernel
theorem dX4_letterFor_3 : decode cX4_letterFor 3 = .ok (.aload_n 0, 1) := by decide +kernel
theorem dX4_letterFor_4 : decode cX4_letterFor 4 = .ok (.getfield 27, 3) := by decide +kernel
theorem dX4_letterFor_7 : decode cX4_letterFor 7 = .ok (.if_icmp .ge 86, 3) := by decide +kernel
theorem dX4_letterFor_10 : decode cX4_letterFor 10 = .ok (.aload_n 0, 1) := by decide +kernel
theorem dX4_letterFor_11 : decode cX4_letterFor 11 = .ok (.getfield 9, 3) := by decide +kernel
theorem dX4_letterFor_14 : decode cX4_letterFor 14 = .ok (.iload_n 3, 1) := by decide +kernel
theorem dX4_letterFor_15 : decode cX4_letterFor 15 = .ok (.iaload, 1) := by decide +kernel
theorem dX4_letterFor_16 : decode cX4_letterFor 16 = .ok (.aload_n 0, 1) := by decide +kernel
theorem dX4_letterFor_17 : decode cX4_letterFor 17 = .ok (.getfield 24, 3) := by decide +kernel
theorem dX4_letterFor_20 : decode cX4_letterFor 20 = .ok (.iload_n 1, 1) := by decide +kernel
theorem dX4_letterFor_21 : decode cX4_letterFor 21 = .ok (.iaload, 1) := by decide +kernel
theorem dX4_letterFor_22 : decode cX4_letterFor 22 = .ok (.invokestatic 70, 3) := by decide +kernel
theorem dX4_letterFor_25 : decode cX4_letterFor 25 = .ok (.ifCond .eq 62, 3) := by decide +kernel
theorem dX4_letterFor_28 : decode cX4_letterFor 28 = .ok (.aload_n 0, 1) := by decide +kernel
theorem dX4_letterFor_29 : decode cX4_letterFor 29 = .ok (.aload_n 0, 1) := by decide +kernel
theorem dX4_letterFor_30 : decode cX4_letterFor 30 = .ok (.getfield 18, 3) := by decide +kernel
theorem dX4_letterFor_33 : decode cX4_letterFor 33 = .ok (.iload_n 3, 1) := by decide +kernel
theorem dX4_letterFor_34 : decode cX4_letterFor 34 = .ok (.iaload, 1) := by decide +kernel
theorem dX4_letterFor_35 : decode cX4_letterFor 35 = .ok (.iload_n 1, 1) := by decide +kernel
theorem dX4_letterFor_36 : decode cX4_letterFor 36 = .ok (.iconst 1, 1) := by decide +kernel
theorem dX4_letterFor_37 : decode cX4_letterFor 37 = .ok (.isub, 1) := by decide +kernel
theorem dX4_letterFor_38 : decode cX4_letterFor 38 = .ok (.iload_n 2, 1) := by decide +kernel
theorem dX4_letterFor_39 : decode cX4_letterFor 39 = .ok (.invokevirtual 74, 3) := by decide +kernel
theorem dX4_letterFor_42 : decode cX4_letterFor 42 = .ok (.ifCond .eq 45, 3) := by decide +kernel
theorem dX4_letterFor_45 : decode cX4_letterFor 45 = .ok (.aload_n 0, 1) := by decide +kernel
theorem dX4_letterFor_46 : decode cX4_letterFor 46 = .ok (.aload_n 0, 1) := by decide +kernel
theorem dX4_letterFor_47 : decode cX4_letterFor 47 = .ok (.getfield 21, 3) := by decide +kernel
theorem dX4_letterFor_50 : decode cX4_letterFor 50 = .ok (.iload_n 3, 1) := by decide +kernel
theorem dX4_letterFor_51 : decode cX4_letterFor 51 = .ok (.iaload, 1) := by decide +kernel
theorem dX4_letterFor_52 : decode cX4_letterFor 52 = .ok (.iload_n 1, 1) := by decide +kernel
theorem dX4_letterFor_53 : decode cX4_letterFor 53 = .ok (.iconst 1, 1) := by decide +kernel
theorem dX4_letterFor_54 : decode cX4_letterFor 54 = .ok (.iadd, 1) := by decide +kernel
theorem dX4_letterFor_55 : decode cX4_letterFor 55 = .ok (.iload_n 2, 1) := by decide +kernel
theorem dX4_letterFor_56 : decode cX4_letterFor 56 = .ok (.invokevirtual 74, 3) := by decide +kernel
theorem dX4_letterFor_59 : decode cX4_letterFor 59 = .ok (.ifCond .eq 28, 3) := by decide +kernel
theorem dX4_letterFor_62 : decode cX4_letterFor 62 = .ok (.aload_n 0, 1) := by decide +kernel
theorem dX4_letterFor_63 : decode cX4_letterFor 63 = .ok (.getfield 15, 3) := by decide +kernel
theorem dX4_letterFor_66 : decode cX4_letterFor 66 = .ok (.iload_n 3, 1) := by decide +kernel
theorem dX4_letterFor_67 : decode cX4_letterFor 67 = .ok (.iaload, 1) := by decide +kernel
theorem dX4_letterFor_68 : decode cX4_letterFor 68 = .ok (.bipush 48, 2) := by decide +kernel
theorem dX4_letterFor_70 : decode cX4_letterFor 70 = .ok (.if_icmp .ne 7, 3) := by decide +kernel
theorem dX4_letterFor_73 : decode cX4_letterFor 73 = .ok (.iconst (-1), 1) := by decide +kernel
theorem dX4_letterFor_74 : decode cX4_letterFor 74 = .ok (.goto 12, 3) := by decide +kernel
theorem dX4_letterFor_77 : decode cX4_letterFor 77 = .ok (.aload_n 0, 1) := by decide +kernel
theorem dX4_letterFor_78 : decode cX4_letterFor 78 = .ok (.getfield 15, 3) := by decide +kernel
theorem dX4_letterFor_81 : decode cX4_letterFor 81 = .ok (.iload_n 3, 1) := by decide +kernel
theorem dX4_letterFor_82 : decode cX4_letterFor 82 = .ok (.iaload, 1) := by decide +kernel
theorem dX4_letterFor_83 : decode cX4_letterFor 83 = .ok (.bipush 97, 2) := by decide +kernel
theorem dX4_letterFor_85 : decode cX4_letterFor 85 = .ok (.isub, 1) := by decide +kernel
theorem dX4_letterFor_86 : decode cX4_letterFor 86 = .ok (.ireturn, 1) := by decide +kernel
theorem dX4_letterFor_87 : decode cX4_letterFor 87 = .ok (.iinc 3 1, 3) := by decide +kernel
theorem dX4_letterFor_90 : decode cX4_letterFor 90 = .ok (.goto (-88), 3) := by decide +kernel
theorem dX4_letterFor_93 : decode cX4_letterFor 93 = .ok (.aload_n 0, 1) := by decide +kernel
theorem dX4_letterFor_94 : decode cX4_letterFor 94 = .ok (.getfield 24, 3) := by decide +kernel
theorem dX4_letterFor_97 : decode cX4_letterFor 97 = .ok (.iload_n 1, 1) := by decide +kernel
theorem dX4_letterFor_98 : decode cX4_letterFor 98 = .ok (.iaload, 1) := by decide +kernel
theorem dX4_letterFor_99 : decode cX4_letterFor 99 = .ok (.ireturn, 1) := by decide +kernel
theorem dX4_isBeside_0 : decode cX4_isBeside 0 = .ok (.iload_n 1, 1) := by decide +kernel
theorem dX4_isBeside_1 : decode cX4_isBeside 1 = .ok (.ifCond .ne 5, 3) := by decide +kernel
theorem dX4_isBeside_4 : decode cX4_isBeside 4 = .ok (.iconst 1, 1) := by decide +kernel
theorem dX4_isBeside_5 : decode cX4_isBeside 5 = .ok (.ireturn, 1) := by decide +kernel
theorem dX4_isBeside_6 : decode cX4_isBeside 6 = .ok (.iload_n 2, 1) := by decide +kernel
theorem dX4_isBeside_7 : decode cX4_isBeside 7 = .ok (.ifCond .lt 8, 3) := by decide +kernel
theorem dX4_isBeside_10 : decode cX4_isBeside 10 = .ok (.iload_n 2, 1) := by decide +kernel
theorem dX4_isBeside_11 : decode cX4_isBeside 11 = .ok (.iload_n 3, 1) := by decide +kernel
theorem dX4_isBeside_12 : decode cX4_isBeside 12 = .ok (.if_icmp .lt 15, 3) := by decide +kernel
theorem dX4_isBeside_15 : decode cX4_isBeside 15 = .ok (.iload_n 1, 1) := by decide +kernel
theorem dX4_isBeside_16 : decode cX4_isBeside 16 = .ok (.bipush 35, 2) := by decide +kernel
theorem dX4_isBeside_18 : decode cX4_isBeside 18 = .ok (.if_icmp .ne 7, 3) := by decide +kernel
theorem dX4_isBeside_21 : decode cX4_isBeside 21 = .ok (.iconst 1, 1) := by decide +kernel
theorem dX4_isBeside_22 : decode cX4_isBeside 22 = .ok (.goto 4, 3) := by decide +kernel
theorem dX4_isBeside_25 : decode cX4_isBeside 25 = .ok (.iconst 0, 1) := by decide +kernel
theorem dX4_isBeside_26 : decode cX4_isBeside 26 = .ok (.ireturn, 1) := by decide +kernel
theorem dX4_isBeside_27 : decode cX4_isBeside 27 = .ok (.iload_n 1, 1) := by decide +kernel
theorem dX4_isBeside_28 : decode cX4_isBeside 28 = .ok (.aload_n 0, 1) := by decide +kernel
theorem dX4_isBeside_29 : decode cX4_isBeside 29 = .ok (.getfield 24, 3) := by decide +kernel
theorem dX4_isBeside_32 : decode cX4_isBeside 32 = .ok (.iload_n 2, 1) := by decide +kernel
theorem dX4_isBeside_33 : decode cX4_isBeside 33 = .ok (.iaload, 1) := by decide +kernel
theorem dX4_isBeside_34 : decode cX4_isBeside 34 = .ok (.invokestatic 70, 3) := by decide +kernel
theorem dX4_isBeside_37 : decode cX4_isBeside 37 = .ok (.ireturn, 1) := by decide +kernel
theorem dX4_isSignOf_0 : decode cX4_isSignOf 0 = .ok (.iload_n 0, 1) := by decide +kernel
theorem dX4_isSignOf_1 : decode cX4_isSignOf 1 = .ok (.bipush 86, 2) := by decide +kernel
theorem dX4_isSignOf_3 : decode cX4_isSignOf 3 = .ok (.if_icmp .ne 8, 3) := by decide +kernel
theorem dX4_isSignOf_6 : decode cX4_isSignOf 6 = .ok (.iload_n 1, 1) := by decide +kernel
theorem dX4_isSignOf_7 : decode cX4_isSignOf 7 = .ok (.invokestatic 78, 3) := by decide +kernel
theorem dX4_isSignOf_10 : decode cX4_isSignOf 10 = .ok (.ireturn, 1) := by decide +kernel
theorem dX4_isSignOf_11 : decode cX4_isSignOf 11 = .ok (.iload_n 0, 1) := by decide +kernel
theorem dX4_isSignOf_12 : decode cX4_isSignOf 12 = .ok (.bipush 67, 2) := by decide +kernel
theorem dX4_isSignOf_14 : decode cX4_isSignOf 14 = .ok (.if_icmp .ne 16, 3) := by decide +kernel
theorem dX4_isSignOf_17 : decode cX4_isSignOf 17 = .ok (.iload_n 1, 1) := by decide +kernel
theorem dX4_isSignOf_18 : decode cX4_isSignOf 18 = .ok (.invokestatic 78, 3) := by decide +kernel
theorem dX4_isSignOf_21 : decode cX4_isSignOf 21 = .ok (.ifCond .ne 7, 3) := by decide +kernel
theorem dX4_isSignOf_24 : decode cX4_isSignOf 24 = .ok (.iconst 1, 1) := by decide +kernel
theorem dX4_isSignOf_25 : decode cX4_isSignOf 25 = .ok (.goto 4, 3) := by decide +kernel
theorem dX4_isSignOf_28 : decode cX4_isSignOf 28 = .ok (.iconst 0, 1) := by decide +kernel
theorem dX4_isSignOf_29 : decode cX4_isSignOf 29 = .ok (.ireturn, 1) := by decide +kernel
theorem dX4_isSignOf_30 : decode cX4_isSignOf 30 = .ok (.iload_n 0, 1) := by decide +kernel
theorem dX4_isSignOf_31 : decode cX4_isSignOf 31 = .ok (.bipush 97, 2) := by decide +kernel
theorem dX4_isSignOf_33 : decode cX4_isSignOf 33 = .ok (.isub, 1) := by decide +kernel
theorem dX4_isSignOf_34 : decode cX4_isSignOf 34 = .ok (.iload_n 1, 1) := by decide +kernel
theorem dX4_isSignOf_35 : decode cX4_isSignOf 35 = .ok (.if_icmp .ne 7, 3) := by decide +kernel
theorem dX4_isSignOf_38 : decode cX4_isSignOf 38 = .ok (.iconst 1, 1) := by decide +kernel
theorem dX4_isSignOf_39 : decode cX4_isSignOf 39 = .ok (.goto 4, 3) := by decide +kernel
theorem dX4_isSignOf_42 : decode cX4_isSignOf 42 = .ok (.iconst 0, 1) := by decide +kernel
theorem dX4_isSignOf_43 : decode cX4_isSignOf 43 = .ok (.ireturn, 1) := by decide +kernel
theorem dX5_init_0 : decode cX5_init 0 = .ok (.aload_n 0, 1) := by decide +kernel
theorem dX5_init_1 : decode cX5_init 1 = .ok (.iload_n 1, 1) := by decide +kernel
theorem dX5_init_2 : decode cX5_init 2 = .ok (.iload_n 2, 1) := by decide +kernel
theorem dX5_init_3 : decode cX5_init 3 = .ok (.iload_n 3, 1) := by decide +kernel
theorem dX5_init_4 : decode cX5_init 4 = .ok (.iload 4, 2) := by decide +kernel
theorem dX5_init_6 : decode cX5_init 6 = .ok (.iload 5, 2) := by decide +kernel
theorem dX5_init_8 : decode cX5_init 8 = .ok (.invokespecial 1, 3) := by decide +kernel
theorem dX5_init_11 : decode cX5_init 11 = .ok (.return_, 1) := by decide +kernel
theorem dX5_kindNumber_0 : decode cX5_kindNumber 0 = .ok (.iconst 2, 1) := by decide +kernel
theorem dX5_kindNumber_1 : decode cX5_kindNumber 1 = .ok (.ireturn, 1) := by decide +kernel
theorem dX5_leads_0 : decode cX5_leads 0 = .ok (.aload_n 0, 1) := by decide +kernel
theorem dX5_leads_1 : decode cX5_leads 1 = .ok (.bipush 21, 2) := by decide +kernel
theorem dX5_leads_3 : decode cX5_leads 3 = .ok (.invokevirtual 7, 3) := by decide +kernel
theorem dX5_leads_6 : decode cX5_leads 6 = .ok (.aload_n 0, 1) := by decide +kernel
theorem dX5_leads_7 : decode cX5_leads 7 = .ok (.iload_n 1, 1) := by decide +kernel
theorem dX5_leads_8 : decode cX5_leads 8 = .ok (.invokespecial 13, 3) := by decide +kernel
theorem dX5_leads_11 : decode cX5_leads 11 = .ok (.bipush 7, 2) := by decide +kernel
theorem dX5_leads_13 : decode cX5_leads 13 = .ok (.ixor, 1) := by decide +kernel
theorem dX5_leads_14 : decode cX5_leads 14 = .ok (.ireturn, 1) := by decide +kernel
theorem dX6_init_0 : decode cX6_init 0 = .ok (.aload_n 0, 1) := by decide +kernel
theorem dX6_init_1 : decode cX6_init 1 = .ok (.iload_n 1, 1) := by decide +kernel
theorem dX6_init_2 : decode cX6_init 2 = .ok (.iload_n 2, 1) := by decide +kernel
theorem dX6_init_3 : decode cX6_init 3 = .ok (.iload_n 3, 1) := by decide +kernel
theorem dX6_init_4 : decode cX6_init 4 = .ok (.iload 4, 2) := by decide +kernel
theorem dX6_init_6 : decode cX6_init 6 = .ok (.iload 5, 2) := by decide +kernel
theorem dX6_init_8 : decode cX6_init 8 = .ok (.invokespecial 1, 3) := by decide +kernel
theorem dX6_init_11 : decode cX6_init 11 = .ok (.return_, 1) := by decide +kernel
theorem dX6_kindNumber_0 : decode cX6_kindNumber 0 = .ok (.iconst 4, 1) := by decide +kernel
theorem dX6_kindNumber_1 : decode cX6_kindNumber 1 = .ok (.ireturn, 1) := by decide +kernel
theorem dX6_leads_0 : decode cX6_leads 0 = .ok (.aload_n 0, 1) := by decide +kernel
theorem dX6_leads_1 : decode cX6_leads 1 = .ok (.bipush 41, 2) := by decide +kernel
theorem dX6_leads_3 : decode cX6_leads 3 = .ok (.invokevirtual 7, 3) := by decide +kernel
theorem dX6_leads_6 : decode cX6_leads 6 = .ok (.aload_n 0, 1) := by decide +kernel
theorem dX6_leads_7 : decode cX6_leads 7 = .ok (.iload_n 1, 1) := by decide +kernel
theorem dX6_leads_8 : decode cX6_leads 8 = .ok (.iconst 1, 1) := by decide +kernel
theorem dX6_leads_9 : decode cX6_leads 9 = .ok (.isub, 1) := by decide +kernel
theorem dX6_leads_10 : decode cX6_leads 10 = .ok (.invokespecial 13, 3) := by decide +kernel
theorem dX6_leads_13 : decode cX6_leads 13 = .ok (.aload_n 0, 1) := by decide +kernel
theorem dX6_leads_14 : decode cX6_leads 14 = .ok (.iconst 2, 1) := by decide +kernel
theorem dX6_leads_15 : decode cX6_leads 15 = .ok (.invokevirtual 17, 3) := by decide +kernel
theorem dX6_leads_18 : decode cX6_leads 18 = .ok (.iadd, 1) := by decide +kernel
theorem dX6_leads_19 : decode cX6_leads 19 = .ok (.ireturn, 1) := by decide +kernel
theorem dX7_init_0 : decode cX7_init 0 = .ok (.aload_n 0, 1) := by decide +kernel
theorem dX7_init_1 : decode cX7_init 1 = .ok (.invokespecial 3, 3) := by decide +kernel
theorem dX7_init_4 : decode cX7_init 4 = .ok (.aload_n 0, 1) := by decide +kernel
theorem dX7_init_5 : decode cX7_init 5 = .ok (.bipush 81, 2) := by decide +kernel
theorem dX7_init_7 : decode cX7_init 7 = .ok (.newarray .int, 2) := by decide +kernel
theorem dX7_init_9 : decode cX7_init 9 = .ok (.putfield 11, 3) := by decide +kernel
theorem dX7_init_12 : decode cX7_init 12 = .ok (.aload_n 0, 1) := by decide +kernel
theorem dX7_init_13 : decode cX7_init 13 = .ok (.bipush 16, 2) := by decide +kernel
theorem dX7_init_15 : decode cX7_init 15 = .ok (.newarray .int, 2) := by decide +kernel
theorem dX7_init_17 : decode cX7_init 17 = .ok (.putfield 15, 3) := by decide +kernel
theorem dX7_init_20 : decode cX7_init 20 = .ok (.return_, 1) := by decide +kernel
theorem dX7_leastCost_0 : decode cX7_leastCost 0 = .ok (.aload_n 1, 1) := by decide +kernel
theorem dX7_leastCost_1 : decode cX7_leastCost 1 = .ok (.getfield 18, 3) := by decide +kernel
theorem dX7_leastCost_4 : decode cX7_leastCost 4 = .ok (.istore_n 3, 1) := by decide +kernel
theorem dX7_leastCost_5 : decode cX7_leastCost 5 = .ok (.iload_n 3, 1) := by decide +kernel
theorem dX7_leastCost_6 : decode cX7_leastCost 6 = .ok (.ifCond .lt 126, 3) := by decide +kernel
theorem dX7_leastCost_9 : decode cX7_leastCost 9 = .ok (.aload_n 2, 1) := by decide +kernel
theorem dX7_leastCost_10 : decode cX7_leastCost 10 = .ok (.getfield 18, 3) := by decide +kernel
theorem dX7_leastCost_13 : decode cX7_leastCost 13 = .ok (.istore 4, 2) := by decide +kernel
theorem dX7_leastCost_15 : decode cX7_leastCost 15 = .ok (.iload 4, 2) := by decide +kernel
theorem dX7_leastCost_17 : decode cX7_leastCost 17 = .ok (.ifCond .lt 109, 3) := by decide +kernel
theorem dX7_leastCost_20 : decode cX7_leastCost 20 = .ok (.iconst 2, 1) := by decide +kernel
theorem dX7_leastCost_21 : decode cX7_leastCost 21 = .ok (.aload_n 1, 1) := by decide +kernel
theorem dX7_leastCost_22 : decode cX7_leastCost 22 = .ok (.getfield 18, 3) := by decide +kernel
theorem dX7_leastCost_25 : decode cX7_leastCost 25 = .ok (.iload_n 3, 1) := by decide +kernel
theorem dX7_leastCost_26 : decode cX7_leastCost 26 = .ok (.isub, 1) := by decide +kernel
theorem dX7_leastCost_27 : decode cX7_leastCost 27 = .ok (.aload_n 2, 1) := by decide +kernel
theorem dX7_leastCost_28 : decode cX7_leastCost 28 = .ok (.getfield 18, 3) := by decide +kernel
theorem dX7_leastCost_31 : decode cX7_leastCost 31 = .ok (.iadd, 1) := by decide +kernel
theorem dX7_leastCost_32 : decode cX7_leastCost 32 = .ok (.iload 4, 2) := by decide +kernel
theorem dX7_leastCost_34 : decode cX7_leastCost 34 = .ok (.isub, 1) := by decide +kernel
theorem dX7_leastCost_35 : decode cX7_leastCost 35 = .ok (.imul, 1) := by decide +kernel
theorem dX7_leastCost_36 : decode cX7_leastCost 36 = .ok (.istore 5, 2) := by decide +kernel
theorem dX7_leastCost_38 : decode cX7_leastCost 38 = .ok (.iload_n 3, 1) := by decide +kernel
theorem dX7_leastCost_39 : decode cX7_leastCost 39 = .ok (.aload_n 1, 1) := by decide +kernel
theorem dX7_leastCost_40 : decode cX7_leastCost 40 = .ok (.getfield 18, 3) := by decide +kernel
theorem dX7_leastCost_43 : decode cX7_leastCost 43 = .ok (.if_icmp .ge 63, 3) := by decide +kernel
theorem dX7_leastCost_46 : decode cX7_leastCost 46 = .ok (.iload 4, 2) := by decide +kernel
theorem dX7_leastCost_48 : decode cX7_leastCost 48 = .ok (.aload_n 2, 1) := by decide +kernel
theorem dX7_leastCost_49 : decode cX7_leastCost 49 = .ok (.getfield 18, 3) := by decide +kernel
theorem dX7_leastCost_52 : decode cX7_leastCost 52 = .ok (.if_icmp .ge 54, 3) := by decide +kernel
theorem dX7_leastCost_55 : decode cX7_leastCost 55 = .ok (.iconst 2, 1) := by decide +kernel
theorem dX7_leastCost_56 : decode cX7_leastCost 56 = .ok (.aload_n 0, 1) := by decide +kernel
theorem dX7_leastCost_57 : decode cX7_leastCost 57 = .ok (.getfield 11, 3) := by decide +kernel
theorem dX7_leastCost_60 : decode cX7_leastCost 60 = .ok (.iload_n 3, 1) := by decide +kernel
theorem dX7_leastCost_61 : decode cX7_leastCost 61 = .ok (.iconst 1, 1) := by decide +kernel
theorem dX7_leastCost_62 : decode cX7_leastCost 62 = .ok (.iadd, 1) := by decide +kernel
theorem dX7_leastCost_63 : decode cX7_leastCost 63 = .ok (.bipush 9, 2) := by decide +kernel
theorem dX7_leastCost_65 : decode cX7_leastCost 65 = .ok (.imul, 1) := by decide +kernel
theorem dX7_leastCost_66 : decode cX7_leastCost 66 = .ok (.iload 4, 2) := by decide +kernel
theorem dX7_leastCost_68 : decode cX7_leastCost 68 = .ok (.iadd, 1) := by decide +kernel
theorem dX7_leastCost_69 : decode cX7_leastCost 69 = .ok (.iaload, 1) := by decide +kernel
theorem dX7_leastCost_70 : decode cX7_leastCost 70 = .ok (.aload_n 0, 1) := by decide +kernel
theorem dX7_leastCost_71 : decode cX7_leastCost 71 = .ok (.getfield 11, 3) := by decide +kernel
theorem dX7_leastCost_74 : decode cX7_leastCost 74 = .ok (.iload_n 3, 1) := by decide +kernel
theorem dX7_leastCost_75 : decode cX7_leastCost 75 = .ok (.bipush 9, 2) := by decide +kernel
theorem dX7_leastCost_77 : decode cX7_leastCost 77 = .ok (.imul, 1) := by decide +kernel
theorem dX7_leastCost_78 : decode cX7_leastCost 78 = .ok (.iload 4, 2) := by decide +kernel
theorem dX7_leastCost_80 : decode cX7_leastCost 80 = .ok (.iadd, 1) := by decide +kernel
theorem dX7_leastCost_81 : decode cX7_leastCost 81 = .ok (.iconst 1, 1) := by decide +kernel
theorem dX7_leastCost_82 : decode cX7_leastCost 82 = .ok (.iadd, 1) := by decide +kernel
theorem dX7_leastCost_83 : decode cX7_leastCost 83 = .ok (.iaload, 1) := by decide +kernel
theorem dX7_leastCost_84 : decode cX7_leastCost 84 = .ok (.invokestatic 24, 3) := by decide +kernel
theorem dX7_leastCost_87 : decode cX7_leastCost 87 = .ok (.iadd, 1) := by decide +kernel
theorem dX7_leastCost_88 : decode cX7_leastCost 88 = .ok (.istore 6, 2) := by decide +kernel
theorem dX7_leastCost_90 : decode cX7_leastCost 90 = .ok (.aload_n 0, 1) := by decide +kernel
theorem dX7_leastCost_91 : decode cX7_leastCost 91 = .ok (.aload_n 1, 1) := by decide +kernel
theorem dX7_leastCost_92 : decode cX7_leastCost 92 = .ok (.aload_n 2, 1) := by decide +kernel
theorem dX7_leastCost_93 : decode cX7_leastCost 93 = .ok (.iload_n 3, 1) := by decide +kernel
theorem dX7_leastCost_94 : decode cX7_leastCost 94 = .ok (.iload 4, 2) := by decide +kernel
theorem dX7_leastCost_96 : decode cX7_leastCost 96 = .ok (.invokevirtual 30, 3) := by decide +kernel
theorem dX7_leastCost_99 : decode cX7_leastCost 99 = .ok (.iload 6, 2) := by decide +kernel
theorem dX7_leastCost_101 : decode cX7_leastCost 101 = .ok (.invokestatic 24, 3) := by decide +kernel
theorem dX7_leastCost_104 : decode cX7_leastCost 104 = .ok (.istore 5, 2) := by decide +kernel
theorem dX7_leastCost_106 : decode cX7_leastCost 106 = .ok (.aload_n 0, 1) := by decide +kernel
theorem dX7_leastCost_107 : decode cX7_leastCost 107 = .ok (.getfield 11, 3) := by decide +kernel
theorem dX7_leastCost_110 : decode cX7_leastCost 110 = .ok (.iload_n 3, 1) := by decide +kernel
theorem dX7_leastCost_111 : decode cX7_leastCost 111 = .ok (.bipush 9, 2) := by decide +kernel
theorem dX7_leastCost_113 : decode cX7_leastCost 113 = .ok (.imul, 1) := by decide +kernel
theorem dX7_leastCost_114 : decode cX7_leastCost 114 = .ok (.iload 4, 2) := by decide +kernel
theorem dX7_leastCost_116 : decode cX7_leastCost 116 = .ok (.iadd, 1) := by decide +kernel
theorem dX7_leastCost_117 : decode cX7_leastCost 117 = .ok (.iload 5, 2) := by decide +kernel
theorem dX7_leastCost_119 : decode cX7_leastCost 119 = .ok (.iastore, 1) := by decide +kernel
theorem dX7_leastCost_120 : decode cX7_leastCost 120 = .ok (.iinc 4 (-1), 3) := by decide +kernel
theorem dX7_leastCost_123 : decode cX7_leastCost 123 = .ok (.goto (-108), 3) := by decide +kernel
theorem dX7_leastCost_126 : decode cX7_leastCost 126 = .ok (.iinc 3 (-1), 3) := by decide +kernel
theorem dX7_leastCost_129 : decode cX7_leastCost 129 = .ok (.goto (-124), 3) := by decide +kernel
theorem dX7_leastCost_132 : decode cX7_leastCost 132 = .ok (.aload_n 0, 1) := by decide +kernel
theorem dX7_leastCost_133 : decode cX7_leastCost 133 = .ok (.getfield 11, 3) := by decide +kernel
theorem dX7_leastCost_136 : decode cX7_leastCost 136 = .ok (.iconst 0, 1) := by decide +kernel
theorem dX7_leastCost_137 : decode cX7_leastCost 137 = .ok (.iaload, 1) := by decide +kernel
theorem dX7_leastCost_138 : decode cX7_leastCost 138 = .ok (.ireturn, 1) := by decide +kernel
theorem dX7_costOfBoth_0 : decode cX7_costOfBoth 0 = .ok (.aload_n 1, 1) := by decide +kernel
theorem dX7_costOfBoth_1 : decode cX7_costOfBoth 1 = .ok (.getfield 34, 3) := by decide +kernel
theorem dX7_costOfBoth_4 : decode cX7_costOfBoth 4 = .ok (.iload_n 3, 1) := by decide +kernel
theorem dX7_costOfBoth_5 : decode cX7_costOfBoth 5 = .ok (.iaload, 1) := by decide +kernel
theorem dX7_costOfBoth_6 : decode cX7_costOfBoth 6 = .ok (.istore 5, 2) := by decide +kernel
theorem dX7_costOfBoth_8 : decode cX7_costOfBoth 8 = .ok (.aload_n 2, 1) := by decide +kernel
theorem dX7_costOfBoth_9 : decode cX7_costOfBoth 9 = .ok (.getfield 34, 3) := by decide +kernel
theorem dX7_costOfBoth_12 : decode cX7_costOfBoth 12 = .ok (.iload 4, 2) := by decide +kernel
theorem dX7_costOfBoth_14 : decode cX7_costOfBoth 14 = .ok (.iaload, 1) := by decide +kernel
theorem dX7_costOfBoth_15 : decode cX7_costOfBoth 15 = .ok (.istore 6, 2) := by decide +kernel
theorem dX7_costOfBoth_17 : decode cX7_costOfBoth 17 = .ok (.aload_n 0, 1) := by decide +kernel
theorem dX7_costOfBoth_18 : decode cX7_costOfBoth 18 = .ok (.getfield 11, 3) := by decide +kernel
theorem dX7_costOfBoth_21 : decode cX7_costOfBoth 21 = .ok (.iload_n 3, 1) := by decide +kernel
theorem dX7_costOfBoth_22 : decode cX7_costOfBoth 22 = .ok (.iconst 1, 1) := by decide +kernel
theorem dX7_costOfBoth_23 : decode cX7_costOfBoth 23 = .ok (.iadd, 1) := by decide +kernel
theorem dX7_costOfBoth_24 : decode cX7_costOfBoth 24 = .ok (.bipush 9, 2) := by decide +kernel
theorem dX7_costOfBoth_26 : decode cX7_costOfBoth 26 = .ok (.imul, 1) := by decide +kernel
theorem dX7_costOfBoth_27 : decode cX7_costOfBoth 27 = .ok (.iload 4, 2) := by decide +kernel
theorem dX7_costOfBoth_29 : decode cX7_costOfBoth 29 = .ok (.iadd, 1) := by decide +kernel
theorem dX7_costOfBoth_30 : decode cX7_costOfBoth 30 = .ok (.iconst 1, 1) := by decide +kernel
theorem dX7_costOfBoth_31 : decode cX7_costOfBoth 31 = .ok (.iadd, 1) := by decide +kernel
theorem dX7_costOfBoth_32 : decode cX7_costOfBoth 32 = .ok (.iaload, 1) := by decide +kernel
theorem dX7_costOfBoth_33 : decode cX7_costOfBoth 33 = .ok (.istore 7, 2) := by decide +kernel
theorem dX7_costOfBoth_35 : decode cX7_costOfBoth 35 = .ok (.iload 5, 2) := by decide +kernel
theorem dX7_costOfBoth_37 : decode cX7_costOfBoth 37 = .ok (.iload 6, 2) := by decide +kernel
theorem dX7_costOfBoth_39 : decode cX7_costOfBoth 39 = .ok (.if_icmp .ne 6, 3) := by decide +kernel
theorem dX7_costOfBoth_42 : decode cX7_costOfBoth 42 = .ok (.iload 7, 2) := by decide +kernel
theorem dX7_costOfBoth_44 : decode cX7_costOfBoth 44 = .ok (.ireturn, 1) := by decide +kernel
theorem dX7_costOfBoth_45 : decode cX7_costOfBoth 45 = .ok (.iload 7, 2) := by decide +kernel
theorem dX7_costOfBoth_47 : decode cX7_costOfBoth 47 = .ok (.iload 5, 2) := by decide +kernel
theorem dX7_costOfBoth_49 : decode cX7_costOfBoth 49 = .ok (.invokestatic 37, 3) := by decide +kernel
theorem dX7_costOfBoth_52 : decode cX7_costOfBoth 52 = .ok (.iload 6, 2) := by decide +kernel
theorem dX7_costOfBoth_54 : decode cX7_costOfBoth 54 = .ok (.invokestatic 37, 3) := by decide +kernel
theorem dX7_costOfBoth_57 : decode cX7_costOfBoth 57 = .ok (.if_icmp .ne 7, 3) := by decide +kernel
theorem dX7_costOfBoth_60 : decode cX7_costOfBoth 60 = .ok (.iconst 1, 1) := by decide +kernel
theorem dX7_costOfBoth_61 : decode cX7_costOfBoth 61 = .ok (.goto 4, 3) := by decide +kernel
theorem dX7_costOfBoth_64 : decode cX7_costOfBoth 64 = .ok (.iconst 3, 1) := by decide +kernel
theorem dX7_costOfBoth_65 : decode cX7_costOfBoth 65 = .ok (.iadd, 1) := by decide +kernel
theorem dX7_costOfBoth_66 : decode cX7_costOfBoth 66 = .ok (.ireturn, 1) := by decide +kernel
theorem dX7_lay_0 : decode cX7_lay 0 = .ok (.aload_n 0, 1) := by decide +kernel
theorem dX7_lay_1 : decode cX7_lay 1 = .ok (.aload_n 1, 1) := by decide +kernel
theorem dX7_lay_2 : decode cX7_lay 2 = .ok (.aload_n 2, 1) := by decide +kernel
theorem dX7_lay_3 : decode cX7_lay 3 = .ok (.invokevirtual 41, 3) := by decide +kernel
theorem dX7_lay_6 : decode cX7_lay 6 = .ok (.pop, 1) := by decide +kernel
theorem dX7_lay_7 : decode cX7_lay 7 = .ok (.iconst 0, 1) := by decide +kernel
theorem dX7_lay_8 : decode cX7_lay 8 = .ok (.istore_n 3, 1) := by decide +kernel
theorem dX7_lay_9 : decode cX7_lay 9 = .ok (.iconst 0, 1) := by decide +kernel
theorem dX7_lay_10 : decode cX7_lay 10 = .ok (.istore 4, 2) := by decide +kernel
theorem dX7_lay_12 : decode cX7_lay 12 = .ok (.aload_n 0, 1) := by decide +kernel
theorem dX7_lay_13 : decode cX7_lay 13 = .ok (.iconst 0, 1) := by decide +kernel
theorem dX7_lay_14 : decode cX7_lay 14 = .ok (.putfield 45, 3) := by decide +kernel
theorem dX7_lay_17 : decode cX7_lay 17 = .ok (.aload_n 0, 1) := by decide +kernel
theorem dX7_lay_18 : decode cX7_lay 18 = .ok (.getfield 45, 3) := by decide +kernel
theorem dX7_lay_21 : decode cX7_lay 21 = .ok (.bipush 16, 2) := by decide +kernel
theorem dX7_lay_23 : decode cX7_lay 23 = .ok (.if_icmp .ge 202, 3) := by decide +kernel
theorem dX7_lay_26 : decode cX7_lay 26 = .ok (.iload_n 3, 1) := by decide +kernel
theorem dX7_lay_27 : decode cX7_lay 27 = .ok (.aload_n 1, 1) := by decide +kernel
theorem dX7_lay_28 : decode cX7_lay 28 = .ok (.getfield 18, 3) := by decide +kernel
theorem dX7_lay_31 : decode cX7_lay 31 = .ok (.if_icmp .lt 12, 3) := by decide +kernel
theorem dX7_lay_34 : decode cX7_lay 34 = .ok (.iload 4, 2) := by decide +kernel
theorem dX7_lay_36 : decode cX7_lay 36 = .ok (.aload_n 2, 1) := by decide +kernel
theorem dX7_lay_37 : decode cX7_lay 37 = .ok (.getfield 18, 3) := by decide +kernel
theorem dX7_lay_40 : decode cX7_lay 40 = .ok (.if_icmp .ge 185, 3) := by decide +kernel
theorem dX7_lay_43 : decode cX7_lay 43 = .ok (.aload_n 0, 1) := by decide +kernel
theorem dX7_lay_44 : decode cX7_lay 44 = .ok (.getfield 11, 3) := by decide +kernel
theorem dX7_lay_47 : decode cX7_lay 47 = .ok (.iload_n 3, 1) := by decide +kernel
theorem dX7_lay_48 : decode cX7_lay 48 = .ok (.bipush 9, 2) := by decide +kernel
theorem dX7_lay_50 : decode cX7_lay 50 = .ok (.imul, 1) := by decide +kernel
theorem dX7_lay_51 : decode cX7_lay 51 = .ok (.iload 4, 2) := by decide +kernel
theorem dX7_lay_53 : decode cX7_lay 53 = .ok (.iadd, 1) := by decide +kernel
theorem dX7_lay_54 : decode cX7_lay 54 = .ok (.iaload, 1) := by decide +kernel
theorem dX7_lay_55 : decode cX7_lay 55 = .ok (.istore 5, 2) := by decide +kernel
theorem dX7_lay_57 : decode cX7_lay 57 = .ok (.iload_n 3, 1) := by decide +kernel
theorem dX7_lay_58 : decode cX7_lay 58 = .ok (.aload_n 1, 1) := by decide +kernel
theorem dX7_lay_59 : decode cX7_lay 59 = .ok (.getfield 18, 3) := by decide +kernel
theorem dX7_lay_62 : decode cX7_lay 62 = .ok (.if_icmp .ge 65, 3) := by decide +kernel
theorem dX7_lay_65 : decode cX7_lay 65 = .ok (.iload 4, 2) := by decide +kernel
theorem dX7_lay_67 : decode cX7_lay 67 = .ok (.aload_n 2, 1) := by decide +kernel
theorem dX7_lay_68 : decode cX7_lay 68 = .ok (.getfield 18, 3) := by decide +kernel
theorem dX7_lay_71 : decode cX7_lay 71 = .ok (.if_icmp .ge 56, 3) := by decide +kernel
theorem dX7_lay_74 : decode cX7_lay 74 = .ok (.aload_n 0, 1) := by decide +kernel
theorem dX7_lay_75 : decode cX7_lay 75 = .ok (.aload_n 1, 1) := by decide +kernel
theorem dX7_lay_76 : decode cX7_lay 76 = .ok (.aload_n 2, 1) := by decide +kernel
theorem dX7_lay_77 : decode cX7_lay 77 = .ok (.iload_n 3, 1) := by decide +kernel
theorem dX7_lay_78 : decode cX7_lay 78 = .ok (.iload 4, 2) := by decide +kernel
theorem dX7_lay_80 : decode cX7_lay 80 = .ok (.invokevirtual 30, 3) := by decide +kernel
theorem dX7_lay_83 : decode cX7_lay 83 = .ok (.iload 5, 2) := by decide +kernel
theorem dX7_lay_85 : decode cX7_lay 85 = .ok (.if_icmp .ne 42, 3) := by decide +kernel
theorem dX7_lay_88 : decode cX7_lay 88 = .ok (.aload_n 0, 1) := by decide +kernel
theorem dX7_lay_89 : decode cX7_lay 89 = .ok (.getfield 15, 3) := by decide +kernel
theorem dX7_lay_92 : decode cX7_lay 92 = .ok (.aload_n 0, 1) := by decide +kernel
theorem dX7_lay_93 : decode cX7_lay 93 = .ok (.getfield 45, 3) := by decide +kernel
theorem dX7_lay_96 : decode cX7_lay 96 = .ok (.bipush 100, 2) := by decide +kernel
theorem dX7_lay_98 : decode cX7_lay 98 = .ok (.aload_n 1, 1) := by decide +kernel
theorem dX7_lay_99 : decode cX7_lay 99 = .ok (.getfield 34, 3) := by decide +kernel
theorem dX7_lay_102 : decode cX7_lay 102 = .ok (.iload_n 3, 1) := by decide +kernel
theorem dX7_lay_103 : decode cX7_lay 103 = .ok (.iaload, 1) := by decide +kernel
theorem dX7_lay_104 : decode cX7_lay 104 = .ok (.iconst 1, 1) := by decide +kernel
theorem dX7_lay_105 : decode cX7_lay 105 = .ok (.iadd, 1) := by decide +kernel
theorem dX7_lay_106 : decode cX7_lay 106 = .ok (.imul, 1) := by decide +kernel
theorem dX7_lay_107 : decode cX7_lay 107 = .ok (.aload_n 2, 1) := by decide +kernel
theorem dX7_lay_108 : decode cX7_lay 108 = .ok (.getfield 34, 3) := by decide +kernel
theorem dX7_lay_111 : decode cX7_lay 111 = .ok (.iload 4, 2) := by decide +kernel
theorem dX7_lay_113 : decode cX7_lay 113 = .ok (.iaload, 1) := by decide +kernel
theorem dX7_lay_114 : decode cX7_lay 114 = .ok (.iadd, 1) := by decide +kernel
theorem dX7_lay_115 : decode cX7_lay 115 = .ok (.iconst 1, 1) := by decide +kernel
theorem dX7_lay_116 : decode cX7_lay 116 = .ok (.iadd, 1) := by decide +kernel
theorem dX7_lay_117 : decode cX7_lay 117 = .ok (.iastore, 1) := by decide +kernel
theorem dX7_lay_118 : decode cX7_lay 118 = .ok (.iinc 3 1, 3) := by decide +kernel
theorem dX7_lay_121 : decode cX7_lay 121 = .ok (.iinc 4 1, 3) := by decide +kernel
theorem dX7_lay_124 : decode cX7_lay 124 = .ok (.goto 88, 3) := by decide +kernel
theorem dX7_lay_127 : decode cX7_lay 127 = .ok (.iload_n 3, 1) := by decide +kernel
theorem dX7_lay_128 : decode cX7_lay 128 = .ok (.aload_n 1, 1) := by decide +kernel
theorem dX7_lay_129 : decode cX7_lay 129 = .ok (.getfield 18, 3) := by decide +kernel
theorem dX7_lay_132 : decode cX7_lay 132 = .ok (.if_icmp .ge 50, 3) := by decide +kernel
theorem dX7_lay_135 : decode cX7_lay 135 = .ok (.iconst 2, 1) := by decide +kernel
theorem dX7_lay_136 : decode cX7_lay 136 = .ok (.aload_n 0, 1) := by decide +kernel
theorem dX7_lay_137 : decode cX7_lay 137 = .ok (.getfield 11, 3) := by decide +kernel
theorem dX7_lay_140 : decode cX7_lay 140 = .ok (.iload_n 3, 1) := by decide +kernel
theorem dX7_lay_141 : decode cX7_lay 141 = .ok (.iconst 1, 1) := by decide +kernel
theorem dX7_lay_142 : decode cX7_lay 142 = .ok (.iadd, 1) := by decide +kernel
theorem dX7_lay_143 : decode cX7_lay 143 = .ok (.bipush 9, 2) := by decide +kernel
theorem dX7_lay_145 : decode cX7_lay 145 = .ok (.imul, 1) := by decide +kernel
theorem dX7_lay_146 : decode cX7_lay 146 = .ok (.iload 4, 2) := by decide +kernel
theorem dX7_lay_148 : decode cX7_lay 148 = .ok (.iadd, 1) := by decide +kernel
theorem dX7_lay_149 : decode cX7_lay 149 = .ok (.iaload, 1) := by decide +kernel
theorem dX7_lay_150 : decode cX7_lay 150 = .ok (.iadd, 1) := by decide +kernel
theorem dX7_lay_151 : decode cX7_lay 151 = .ok (.iload 5, 2) := by decide +kernel
theorem dX7_lay_153 : decode cX7_lay 153 = .ok (.if_icmp .ne 29, 3) := by decide +kernel
theorem dX7_lay_156 : decode cX7_lay 156 = .ok (.aload_n 0, 1) := by decide +kernel
theorem dX7_lay_157 : decode cX7_lay 157 = .ok (.getfield 15, 3) := by decide +kernel
theorem dX7_lay_160 : decode cX7_lay 160 = .ok (.aload_n 0, 1) := by decide +kernel
theorem dX7_lay_161 : decode cX7_lay 161 = .ok (.getfield 45, 3) := by decide +kernel
theorem dX7_lay_164 : decode cX7_lay 164 = .ok (.bipush 100, 2) := by decide +kernel
theorem dX7_lay_166 : decode cX7_lay 166 = .ok (.aload_n 1, 1) := by decide +kernel
theorem dX7_lay_167 : decode cX7_lay 167 = .ok (.getfield 34, 3) := by decide +kernel
theorem dX7_lay_170 : decode cX7_lay 170 = .ok (.iload_n 3, 1) := by decide +kernel
theorem dX7_lay_171 : decode cX7_lay 171 = .ok (.iaload, 1) := by decide +kernel
theorem dX7_lay_172 : decode cX7_lay 172 = .ok (.iconst 1, 1) := by decide +kernel
theorem dX7_lay_173 : decode cX7_lay 173 = .ok (.iadd, 1) := by decide +kernel
theorem dX7_lay_174 : decode cX7_lay 174 = .ok (.imul, 1) := by decide +kernel
theorem dX7_lay_175 : decode cX7_lay 175 = .ok (.iastore, 1) := by decide +kernel
theorem dX7_lay_176 : decode cX7_lay 176 = .ok (.iinc 3 1, 3) := by decide +kernel
theorem dX7_lay_179 : decode cX7_lay 179 = .ok (.goto 33, 3) := by decide +kernel
theorem dX7_lay_182 : decode cX7_lay 182 = .ok (.iload 4, 2) := by decide +kernel
theorem dX7_lay_184 : decode cX7_lay 184 = .ok (.aload_n 2, 1) := by decide +kernel
theorem dX7_lay_185 : decode cX7_lay 185 = .ok (.getfield 18, 3) := by decide +kernel
theorem dX7_lay_188 : decode cX7_lay 188 = .ok (.if_icmp .ge 24, 3) := by decide +kernel
theorem dX7_lay_191 : decode cX7_lay 191 = .ok (.aload_n 0, 1) := by decide +kernel
theorem dX7_lay_192 : decode cX7_lay 192 = .ok (.getfield 15, 3) := by decide +kernel
theorem dX7_lay_195 : decode cX7_lay 195 = .ok (.aload_n 0, 1) := by decide +kernel
theorem dX7_lay_196 : decode cX7_lay 196 = .ok (.getfield 45, 3) := by decide +kernel
theorem dX7_lay_199 : decode cX7_lay 199 = .ok (.aload_n 2, 1) := by decide +kernel
theorem dX7_lay_200 : decode cX7_lay 200 = .ok (.getfield 34, 3) := by decide +kernel
theorem dX7_lay_203 : decode cX7_lay 203 = .ok (.iload 4, 2) := by decide +kernel
theorem dX7_lay_205 : decode cX7_lay 205 = .ok (.iaload, 1) := by decide +kernel
theorem dX7_lay_206 : decode cX7_lay 206 = .ok (.iconst 1, 1) := by decide +kernel
theorem dX7_lay_207 : decode cX7_lay 207 = .ok (.iadd, 1) := by decide +kernel
theorem dX7_lay_208 : decode cX7_lay 208 = .ok (.iastore, 1) := by decide +kernel
theorem dX7_lay_209 : decode cX7_lay 209 = .ok (.iinc 4 1, 3) := by decide +kernel
theorem dX7_lay_212 : decode cX7_lay 212 = .ok (.aload_n 0, 1) := by decide +kernel
theorem dX7_lay_213 : decode cX7_lay 213 = .ok (.dup, 1) := by decide +kernel
theorem dX7_lay_214 : decode cX7_lay 214 = .ok (.getfield 45, 3) := by decide +kernel
theorem dX7_lay_217 : decode cX7_lay 217 = .ok (.iconst 1, 1) := by decide +kernel
theorem dX7_lay_218 : decode cX7_lay 218 = .ok (.iadd, 1) := by decide +kernel
theorem dX7_lay_219 : decode cX7_lay 219 = .ok (.putfield 45, 3) := by decide +kernel
theorem dX7_lay_222 : decode cX7_lay 222 = .ok (.goto (-205), 3) := by decide +kernel
theorem dX7_lay_225 : decode cX7_lay 225 = .ok (.return_, 1) := by decide +kernel
theorem dX7_hasPair_0 : decode cX7_hasPair 0 = .ok (.iconst 0, 1) := by decide +kernel
theorem dX7_hasPair_1 : decode cX7_hasPair 1 = .ok (.istore_n 2, 1) := by decide +kernel
theorem dX7_hasPair_2 : decode cX7_hasPair 2 = .ok (.iload_n 2, 1) := by decide +kernel
theorem dX7_hasPair_3 : decode cX7_hasPair 3 = .ok (.aload_n 0, 1) := by decide +kernel
theorem dX7_hasPair_4 : decode cX7_hasPair 4 = .ok (.getfield 45, 3) := by decide +kernel
theorem dX7_hasPair_7 : decode cX7_hasPair 7 = .ok (.if_icmp .ge 21, 3) := by decide +kernel
theorem dX7_hasPair_10 : decode cX7_hasPair 10 = .ok (.aload_n 0, 1) := by decide +kernel
theorem dX7_hasPair_11 : decode cX7_hasPair 11 = .ok (.getfield 15, 3) := by decide +kernel
theorem dX7_hasPair_14 : decode cX7_hasPair 14 = .ok (.iload_n 2, 1) := by decide +kernel
theorem dX7_hasPair_15 : decode cX7_hasPair 15 = .ok (.iaload, 1) := by decide +kernel
theorem dX7_hasPair_16 : decode cX7_hasPair 16 = .ok (.iload_n 1, 1) := by decide +kernel
theorem dX7_hasPair_17 : decode cX7_hasPair 17 = .ok (.if_icmp .ne 5, 3) := by decide +kernel
theorem dX7_hasPair_20 : decode cX7_hasPair 20 = .ok (.iconst 1, 1) := by decide +kernel
theorem dX7_hasPair_21 : decode cX7_hasPair 21 = .ok (.ireturn, 1) := by decide +kernel
theorem dX7_hasPair_22 : decode cX7_hasPair 22 = .ok (.iinc 2 1, 3) := by decide +kernel
theorem dX7_hasPair_25 : decode cX7_hasPair 25 = .ok (.goto (-23), 3) := by decide +kernel
theorem dX7_hasPair_28 : decode cX7_hasPair 28 = .ok (.iconst 0, 1) := by decide +kernel
theorem dX7_hasPair_29 : decode cX7_hasPair 29 = .ok (.ireturn, 1) := by decide +kernel
theorem dX8_init_0 : decode cX8_init 0 = .ok (.aload_n 0, 1) := by decide +kernel
theorem dX8_init_1 : decode cX8_init 1 = .ok (.iload_n 1, 1) := by decide +kernel
theorem dX8_init_2 : decode cX8_init 2 = .ok (.iload_n 2, 1) := by decide +kernel
theorem dX8_init_3 : decode cX8_init 3 = .ok (.iload_n 3, 1) := by decide +kernel
theorem dX8_init_4 : decode cX8_init 4 = .ok (.iload 4, 2) := by decide +kernel
theorem dX8_init_6 : decode cX8_init 6 = .ok (.iload 5, 2) := by decide +kernel
theorem dX8_init_8 : decode cX8_init 8 = .ok (.invokespecial 1, 3) := by decide +kernel
theorem dX8_init_11 : decode cX8_init 11 = .ok (.return_, 1) := by decide +kernel
theorem dX8_kindNumber_0 : decode cX8_kindNumber 0 = .ok (.iconst 1, 1) := by decide +kernel
theorem dX8_kindNumber_1 : decode cX8_kindNumber 1 = .ok (.ireturn, 1) := by decide +kernel
theorem dX8_tells_0 : decode cX8_tells 0 = .ok (.aload_n 0, 1) := by decide +kernel
theorem dX8_tells_1 : decode cX8_tells 1 = .ok (.bipush 11, 2) := by decide +kernel
theorem dX8_tells_3 : decode cX8_tells 3 = .ok (.invokevirtual 7, 3) := by decide +kernel
theorem dX8_tells_6 : decode cX8_tells 6 = .ok (.aload_n 0, 1) := by decide +kernel
theorem dX8_tells_7 : decode cX8_tells 7 = .ok (.iload_n 1, 1) := by decide +kernel
theorem dX8_tells_8 : decode cX8_tells 8 = .ok (.iconst 3, 1) := by decide +kernel
theorem dX8_tells_9 : decode cX8_tells 9 = .ok (.imul, 1) := by decide +kernel
theorem dX8_tells_10 : decode cX8_tells 10 = .ok (.invokespecial 13, 3) := by decide +kernel
theorem dX8_tells_13 : decode cX8_tells 13 = .ok (.ireturn, 1) := by decide +kernel
theorem dX9_init_0 : decode cX9_init 0 = .ok (.aload_n 0, 1) := by decide +kernel
theorem dX9_init_1 : decode cX9_init 1 = .ok (.iload_n 1, 1) := by decide +kernel
theorem dX9_init_2 : decode cX9_init 2 = .ok (.iload_n 2, 1) := by decide +kernel
theorem dX9_init_3 : decode cX9_init 3 = .ok (.iload_n 3, 1) := by decide +kernel
theorem dX9_init_4 : decode cX9_init 4 = .ok (.iload 4, 2) := by decide +kernel
theorem dX9_init_6 : decode cX9_init 6 = .ok (.iload 5, 2) := by decide +kernel
theorem dX9_init_8 : decode cX9_init 8 = .ok (.invokespecial 1, 3) := by decide +kernel
theorem dX9_init_11 : decode cX9_init 11 = .ok (.return_, 1) := by decide +kernel
theorem dX9_kindNumber_0 : decode cX9_kindNumber 0 = .ok (.iconst 3, 1) := by decide +kernel
theorem dX9_kindNumber_1 : decode cX9_kindNumber 1 = .ok (.ireturn, 1) := by decide +kernel
theorem dX9_marks_0 : decode cX9_marks 0 = .ok (.aload_n 0, 1) := by decide +kernel
theorem dX9_marks_1 : decode cX9_marks 1 = .ok (.bipush 31, 2) := by decide +kernel
theorem dX9_marks_3 : decode cX9_marks 3 = .ok (.invokevirtual 7, 3) := by decide +kernel
theorem dX9_marks_6 : decode cX9_marks 6 = .ok (.aload_n 0, 1) := by decide +kernel
theorem dX9_marks_7 : decode cX9_marks 7 = .ok (.iload_n 1, 1) := by decide +kernel
theorem dX9_marks_8 : decode cX9_marks 8 = .ok (.invokespecial 13, 3) := by decide +kernel
theorem dX9_marks_11 : decode cX9_marks 11 = .ok (.ineg, 1) := by decide +kernel
theorem dX9_marks_12 : decode cX9_marks 12 = .ok (.ireturn, 1) := by decide +kernel
theorem dX10_init_0 : decode cX10_init 0 = .ok (.aload_n 0, 1) := by decide +kernel
theorem dX10_init_1 : decode cX10_init 1 = .ok (.invokespecial 3, 3) := by decide +kernel
theorem dX10_init_4 : decode cX10_init 4 = .ok (.aload_n 0, 1) := by decide +kernel
theorem dX10_init_5 : decode cX10_init 5 = .ok (.bipush 8, 2) := by decide +kernel
theorem dX10_init_7 : decode cX10_init 7 = .ok (.newarray .int, 2) := by decide +kernel
theorem dX10_init_9 : decode cX10_init 9 = .ok (.putfield 9, 3) := by decide +kernel
theorem dX10_init_12 : decode cX10_init 12 = .ok (.return_, 1) := by decide +kernel
theorem dX10_readSounds_0 : decode cX10_readSounds 0 = .ok (.aload_n 0, 1) := by decide +kernel
theorem dX10_readSounds_1 : decode cX10_readSounds 1 = .ok (.iload_n 2, 1) := by decide +kernel
theorem dX10_readSounds_2 : decode cX10_readSounds 2 = .ok (.bipush 8, 2) := by decide +kernel
theorem dX10_readSounds_4 : decode cX10_readSounds 4 = .ok (.invokestatic 15, 3) := by decide +kernel
theorem dX10_readSounds_7 : decode cX10_readSounds 7 = .ok (.putfield 21, 3) := by decide +kernel
theorem dX10_readSounds_10 : decode cX10_readSounds 10 = .ok (.iconst 0, 1) := by decide +kernel
theorem dX10_readSounds_11 : decode cX10_readSounds 11 = .ok (.istore_n 3, 1) := by decide +kernel
theorem dX10_readSounds_12 : decode cX10_readSounds 12 = .ok (.iload_n 3, 1) := by decide +kernel
theorem dX10_readSounds_13 : decode cX10_readSounds 13 = .ok (.aload_n 0, 1) := by decide +kernel
theorem dX10_readSounds_14 : decode cX10_readSounds 14 = .ok (.getfield 21, 3) := by decide +kernel
theorem dX10_readSounds_17 : decode cX10_readSounds 17 = .ok (.if_icmp .ge 21, 3) := by decide +kernel
theorem dX10_readSounds_20 : decode cX10_readSounds 20 = .ok (.aload_n 0, 1) := by decide +kernel
theorem dX10_readSounds_21 : decode cX10_readSounds 21 = .ok (.getfield 9, 3) := by decide +kernel
theorem dX10_readSounds_24 : decode cX10_readSounds 24 = .ok (.iload_n 3, 1) := by decide +kernel
theorem dX10_readSounds_25 : decode cX10_readSounds 25 = .ok (.aload_n 1, 1) := by decide +kernel
theorem dX10_readSounds_26 : decode cX10_readSounds 26 = .ok (.iload_n 3, 1) := by decide +kernel
theorem dX10_readSounds_27 : decode cX10_readSounds 27 = .ok (.iaload, 1) := by decide +kernel
theorem dX10_readSounds_28 : decode cX10_readSounds 28 = .ok (.bipush 97, 2) := by decide +kernel
theorem dX10_readSounds_30 : decode cX10_readSounds 30 = .ok (.isub, 1) := by decide +kernel
theorem dX10_readSounds_31 : decode cX10_readSounds 31 = .ok (.iastore, 1) := by decide +kernel
theorem dX10_readSounds_32 : decode cX10_readSounds 32 = .ok (.iinc 3 1, 3) := by decide +kernel
theorem dX10_readSounds_35 : decode cX10_readSounds 35 = .ok (.goto (-23), 3) := by decide +kernel
theorem dX10_readSounds_38 : decode cX10_readSounds 38 = .ok (.return_, 1) := by decide +kernel
theorem dX10_copySounds_0 : decode cX10_copySounds 0 = .ok (.aload_n 0, 1) := by decide +kernel
theorem dX10_copySounds_1 : decode cX10_copySounds 1 = .ok (.aload_n 1, 1) := by decide +kernel
theorem dX10_copySounds_2 : decode cX10_copySounds 2 = .ok (.getfield 21, 3) := by decide +kernel
theorem dX10_copySounds_5 : decode cX10_copySounds 5 = .ok (.putfield 21, 3) := by decide +kernel
theorem dX10_copySounds_8 : decode cX10_copySounds 8 = .ok (.aload_n 1, 1) := by decide +kernel
theorem dX10_copySounds_9 : decode cX10_copySounds 9 = .ok (.getfield 9, 3) := by decide +kernel
theorem dX10_copySounds_12 : decode cX10_copySounds 12 = .ok (.iconst 0, 1) := by decide +kernel
theorem dX10_copySounds_13 : decode cX10_copySounds 13 = .ok (.aload_n 0, 1) := by decide +kernel
theorem dX10_copySounds_14 : decode cX10_copySounds 14 = .ok (.getfield 9, 3) := by decide +kernel
theorem dX10_copySounds_17 : decode cX10_copySounds 17 = .ok (.iconst 0, 1) := by decide +kernel
theorem dX10_copySounds_18 : decode cX10_copySounds 18 = .ok (.bipush 8, 2) := by decide +kernel
theorem dX10_copySounds_20 : decode cX10_copySounds 20 = .ok (.invokestatic 25, 3) := by decide +kernel
theorem dX10_copySounds_23 : decode cX10_copySounds 23 = .ok (.return_, 1) := by decide +kernel
theorem dX10_hasSoundsOf_0 : decode cX10_hasSoundsOf 0 = .ok (.aload_n 0, 1) := by decide +kernel
theorem dX10_hasSoundsOf_1 : decode cX10_hasSoundsOf 1 = .ok (.getfield 21, 3) := by decide +kernel
theorem dX10_hasSoundsOf_4 : decode cX10_hasSoundsOf 4 = .ok (.aload_n 1, 1) := by decide +kernel
theorem dX10_hasSoundsOf_5 : decode cX10_hasSoundsOf 5 = .ok (.getfield 21, 3) := by decide +kernel
theorem dX10_hasSoundsOf_8 : decode cX10_hasSoundsOf 8 = .ok (.if_icmp .eq 5, 3) := by decide +kernel
theorem dX10_hasSoundsOf_11 : decode cX10_hasSoundsOf 11 = .ok (.iconst 0, 1) := by decide +kernel
theorem dX10_hasSoundsOf_12 : decode cX10_hasSoundsOf 12 = .ok (.ireturn, 1) := by decide +kernel
theorem dX10_hasSoundsOf_13 : decode cX10_hasSoundsOf 13 = .ok (.iconst 0, 1) := by decide +kernel
theorem dX10_hasSoundsOf_14 : decode cX10_hasSoundsOf 14 = .ok (.istore_n 2, 1) := by decide +kernel
theorem dX10_hasSoundsOf_15 : decode cX10_hasSoundsOf 15 = .ok (.iload_n 2, 1) := by decide +kernel
theorem dX10_hasSoundsOf_16 : decode cX10_hasSoundsOf 16 = .ok (.aload_n 0, 1) := by decide +kernel
theorem dX10_hasSoundsOf_17 : decode cX10_hasSoundsOf 17 = .ok (.getfield 21, 3) := by decide +kernel
theorem dX10_hasSoundsOf_20 : decode cX10_hasSoundsOf 20 = .ok (.if_icmp .ge 26, 3) := by decide +kernel
theorem dX10_hasSoundsOf_23 : decode cX10_hasSoundsOf 23 = .ok (.aload_n 0, 1) := by decide +kernel
theorem dX10_hasSoundsOf_24 : decode cX10_hasSoundsOf 24 = .ok (.getfield 9, 3) := by decide +kernel
theorem dX10_hasSoundsOf_27 : decode cX10_hasSoundsOf 27 = .ok (.iload_n 2, 1) := by decide +kernel
theorem dX10_hasSoundsOf_28 : decode cX10_hasSoundsOf 28 = .ok (.iaload, 1) := by decide +kernel
theorem dX10_hasSoundsOf_29 : decode cX10_hasSoundsOf 29 = .ok (.aload_n 1, 1) := by decide +kernel
theorem dX10_hasSoundsOf_30 : decode cX10_hasSoundsOf 30 = .ok (.getfield 9, 3) := by decide +kernel
theorem dX10_hasSoundsOf_33 : decode cX10_hasSoundsOf 33 = .ok (.iload_n 2, 1) := by decide +kernel
theorem dX10_hasSoundsOf_34 : decode cX10_hasSoundsOf 34 = .ok (.iaload, 1) := by decide +kernel
theorem dX10_hasSoundsOf_35 : decode cX10_hasSoundsOf 35 = .ok (.if_icmp .eq 5, 3) := by decide +kernel
theorem dX10_hasSoundsOf_38 : decode cX10_hasSoundsOf 38 = .ok (.iconst 0, 1) := by decide +kernel
theorem dX10_hasSoundsOf_39 : decode cX10_hasSoundsOf 39 = .ok (.ireturn, 1) := by decide +kernel
theorem dX10_hasSoundsOf_40 : decode cX10_hasSoundsOf 40 = .ok (.iinc 2 1, 3) := by decide +kernel
theorem dX10_hasSoundsOf_43 : decode cX10_hasSoundsOf 43 = .ok (.goto (-28), 3) := by decide +kernel
theorem dX10_hasSoundsOf_46 : decode cX10_hasSoundsOf 46 = .ok (.iconst 1, 1) := by decide +kernel
theorem dX10_hasSoundsOf_47 : decode cX10_hasSoundsOf 47 = .ok (.ireturn, 1) := by decide +kernel
theorem dX11_init_0 : decode cX11_init 0 = .ok (.aload_n 0, 1) := by decide +kernel
theorem dX11_init_1 : decode cX11_init 1 = .ok (.invokespecial 3, 3) := by decide +kernel
theorem dX11_init_4 : decode cX11_init 4 = .ok (.aload_n 0, 1) := by decide +kernel
theorem dX11_init_5 : decode cX11_init 5 = .ok (.bipush 80, 2) := by decide +kernel
theorem dX11_init_7 : decode cX11_init 7 = .ok (.newarray .int, 2) := by decide +kernel
theorem dX11_init_9 : decode cX11_init 9 = .ok (.putfield 9, 3) := by decide +kernel
theorem dX11_init_12 : decode cX11_init 12 = .ok (.aload_n 0, 1) := by decide +kernel
theorem dX11_init_13 : decode cX11_init 13 = .ok (.bipush 60, 2) := by decide +kernel
theorem dX11_init_15 : decode cX11_init 15 = .ok (.anewarray 13, 3) := by decide +kernel
theorem dX11_init_18 : decode cX11_init 18 = .ok (.putfield 15, 3) := by decide +kernel
theorem dX11_init_21 : decode cX11_init 21 = .ok (.aload_n 0, 1) := by decide +kernel
theorem dX11_init_22 : decode cX11_init 22 = .ok (.bipush 12, 2) := by decide +kernel
theorem dX11_init_24 : decode cX11_init 24 = .ok (.newarray .int, 2) := by decide +kernel
theorem dX11_init_26 : decode cX11_init 26 = .ok (.putfield 19, 3) := by decide +kernel
theorem dX11_init_29 : decode cX11_init 29 = .ok (.aload_n 0, 1) := by decide +kernel
theorem dX11_init_30 : decode cX11_init 30 = .ok (.bipush 12, 2) := by decide +kernel
theorem dX11_init_32 : decode cX11_init 32 = .ok (.anewarray 22, 3) := by decide +kernel
theorem dX11_init_35 : decode cX11_init 35 = .ok (.putfield 24, 3) := by decide +kernel
theorem dX11_init_38 : decode cX11_init 38 = .ok (.aload_n 0, 1) := by decide +kernel
theorem dX11_init_39 : decode cX11_init 39 = .ok (.bipush 80, 2) := by decide +kernel
theorem dX11_init_41 : decode cX11_init 41 = .ok (.anewarray 28, 3) := by decide +kernel
theorem dX11_init_44 : decode cX11_init 44 = .ok (.putfield 30, 3) := by decide +kernel
theorem dX11_init_47 : decode cX11_init 47 = .ok (.aload_n 0, 1) := by decide +kernel
theorem dX11_init_48 : decode cX11_init 48 = .ok (.bipush 12, 2) := by decide +kernel
theorem dX11_init_50 : decode cX11_init 50 = .ok (.putfield 34, 3) := by decide +kernel
theorem dX11_init_53 : decode cX11_init 53 = .ok (.aload_n 0, 1) := by decide +kernel
theorem dX11_init_54 : decode cX11_init 54 = .ok (.bipush 120, 2) := by decide +kernel
theorem dX11_init_56 : decode cX11_init 56 = .ok (.newarray .int, 2) := by decide +kernel
theorem dX11_init_58 : decode cX11_init 58 = .ok (.putfield 38, 3) := by decide +kernel
theorem dX11_init_61 : decode cX11_init 61 = .ok (.aload_n 0, 1) := by decide +kernel
theorem dX11_init_62 : decode cX11_init 62 = .ok (.new 41, 3) := by decide +kernel
theorem dX11_init_65 : decode cX11_init 65 = .ok (.dup, 1) := by decide +kernel
theorem dX11_init_66 : decode cX11_init 66 = .ok (.invokespecial 43, 3) := by decide +kernel
theorem dX11_init_69 : decode cX11_init 69 = .ok (.putfield 44, 3) := by decide +kernel
theorem dX11_init_72 : decode cX11_init 72 = .ok (.aload_n 0, 1) := by decide +kernel
theorem dX11_init_73 : decode cX11_init 73 = .ok (.new 48, 3) := by decide +kernel
theorem dX11_init_76 : decode cX11_init 76 = .ok (.dup, 1) := by decide +kernel
theorem dX11_init_77 : decode cX11_init 77 = .ok (.invokespecial 50, 3) := by decide +kernel
theorem dX11_init_80 : decode cX11_init 80 = .ok (.putfield 51, 3) := by decide +kernel
theorem dX11_init_83 : decode cX11_init 83 = .ok (.aload_n 0, 1) := by decide +kernel
theorem dX11_init_84 : decode cX11_init 84 = .ok (.new 13, 3) := by decide +kernel
theorem dX11_init_87 : decode cX11_init 87 = .ok (.dup, 1) := by decide +kernel
theorem dX11_init_88 : decode cX11_init 88 = .ok (.invokespecial 55, 3) := by decide +kernel
theorem dX11_init_91 : decode cX11_init 91 = .ok (.putfield 56, 3) := by decide +kernel
theorem dX11_init_94 : decode cX11_init 94 = .ok (.aload_n 0, 1) := by decide +kernel
theorem dX11_init_95 : decode cX11_init 95 = .ok (.new 13, 3) := by decide +kernel
theorem dX11_init_98 : decode cX11_init 98 = .ok (.dup, 1) := by decide +kernel
theorem dX11_init_99 : decode cX11_init 99 = .ok (.invokespecial 55, 3) := by decide +kernel
theorem dX11_init_102 : decode cX11_init 102 = .ok (.putfield 60, 3) := by decide +kernel
theorem dX11_init_105 : decode cX11_init 105 = .ok (.iconst 0, 1) := by decide +kernel
theorem dX11_init_106 : decode cX11_init 106 = .ok (.istore_n 1, 1) := by decide +kernel
theorem dX11_init_107 : decode cX11_init 107 = .ok (.iload_n 1, 1) := by decide +kernel
theorem dX11_init_108 : decode cX11_init 108 = .ok (.bipush 60, 2) := by decide +kernel
theorem dX11_init_110 : decode cX11_init 110 = .ok (.if_icmp .ge 22, 3) := by decide +kernel
theorem dX11_init_113 : decode cX11_init 113 = .ok (.aload_n 0, 1) := by decide +kernel
theorem dX11_init_114 : decode cX11_init 114 = .ok (.getfield 15, 3) := by decide +kernel
theorem dX11_init_117 : decode cX11_init 117 = .ok (.iload_n 1, 1) := by decide +kernel
theorem dX11_init_118 : decode cX11_init 118 = .ok (.new 13, 3) := by decide +kernel
theorem dX11_init_121 : decode cX11_init 121 = .ok (.dup, 1) := by decide +kernel
theorem dX11_init_122 : decode cX11_init 122 = .ok (.invokespecial 55, 3) := by decide +kernel
theorem dX11_init_125 : decode cX11_init 125 = .ok (.aastore, 1) := by decide +kernel
theorem dX11_init_126 : decode cX11_init 126 = .ok (.iinc 1 1, 3) := by decide +kernel
theorem dX11_init_129 : decode cX11_init 129 = .ok (.goto (-22), 3) := by decide +kernel
theorem dX11_init_132 : decode cX11_init 132 = .ok (.iconst 0, 1) := by decide +kernel
theorem dX11_init_133 : decode cX11_init 133 = .ok (.istore_n 1, 1) := by decide +kernel
theorem dX11_init_134 : decode cX11_init 134 = .ok (.iload_n 1, 1) := by decide +kernel
theorem dX11_init_135 : decode cX11_init 135 = .ok (.bipush 12, 2) := by decide +kernel
theorem dX11_init_137 : decode cX11_init 137 = .ok (.if_icmp .ge 22, 3) := by decide +kernel
theorem dX11_init_140 : decode cX11_init 140 = .ok (.aload_n 0, 1) := by decide +kernel
theorem dX11_init_141 : decode cX11_init 141 = .ok (.getfield 24, 3) := by decide +kernel
theorem dX11_init_144 : decode cX11_init 144 = .ok (.iload_n 1, 1) := by decide +kernel
theorem dX11_init_145 : decode cX11_init 145 = .ok (.new 22, 3) := by decide +kernel
theorem dX11_init_148 : decode cX11_init 148 = .ok (.dup, 1) := by decide +kernel
theorem dX11_init_149 : decode cX11_init 149 = .ok (.invokespecial 63, 3) := by decide +kernel
theorem dX11_init_152 : decode cX11_init 152 = .ok (.aastore, 1) := by decide +kernel
theorem dX11_init_153 : decode cX11_init 153 = .ok (.iinc 1 1, 3) := by decide +kernel
theorem dX11_init_156 : decode cX11_init 156 = .ok (.goto (-22), 3) := by decide +kernel
theorem dX11_init_159 : decode cX11_init 159 = .ok (.return_, 1) := by decide +kernel
theorem dX11_tongue_0 : decode cX11_tongue 0 = .ok (.aload_n 0, 1) := by decide +kernel
theorem dX11_tongue_1 : decode cX11_tongue 1 = .ok (.getfield 64, 3) := by decide +kernel
theorem dX11_tongue_4 : decode cX11_tongue 4 = .ok (.bipush 6, 2) := by decide +kernel
theorem dX11_tongue_6 : decode cX11_tongue 6 = .ok (.if_icmp .lt 6, 3) := by decide +kernel
theorem dX11_tongue_9 : decode cX11_tongue 9 = .ok (.bipush (-4), 2) := by decide +kernel
theorem dX11_tongue_11 : decode cX11_tongue 11 = .ok (.ireturn, 1) := by decide +kernel
theorem dX11_tongue_12 : decode cX11_tongue 12 = .ok (.aload_n 0, 1) := by decide +kernel
theorem dX11_tongue_13 : decode cX11_tongue 13 = .ok (.bipush (-5), 2) := by decide +kernel
theorem dX11_tongue_15 : decode cX11_tongue 15 = .ok (.bipush (-5), 2) := by decide +kernel
theorem dX11_tongue_17 : decode cX11_tongue 17 = .ok (.invokevirtual 67, 3) := by decide +kernel
theorem dX11_tongue_20 : decode cX11_tongue 20 = .ok (.ireturn, 1) := by decide +kernel
theorem dX11_years_0 : decode cX11_years 0 = .ok (.iload_n 1, 1) := by decide +kernel
theorem dX11_years_1 : decode cX11_years 1 = .ok (.iconst 1, 1) := by decide +kernel
theorem dX11_years_2 : decode cX11_years 2 = .ok (.if_icmp .lt 22, 3) := by decide +kernel
theorem dX11_years_5 : decode cX11_years 5 = .ok (.iload_n 1, 1) := by decide +kernel
theorem dX11_years_6 : decode cX11_years 6 = .ok (.sipush 500, 3) := by decide +kernel
theorem dX11_years_9 : decode cX11_years 9 = .ok (.if_icmp .gt 15, 3) := by decide +kernel
theorem dX11_years_12 : decode cX11_years 12 = .ok (.aload_n 0, 1) := by decide +kernel
theorem dX11_years_13 : decode cX11_years 13 = .ok (.getfield 71, 3) := by decide +kernel
theorem dX11_years_16 : decode cX11_years 16 = .ok (.iload_n 1, 1) := by decide +kernel
theorem dX11_years_17 : decode cX11_years 17 = .ok (.iadd, 1) := by decide +kernel
theorem dX11_years_18 : decode cX11_years 18 = .ok (.sipush 9999, 3) := by decide +kernel
theorem dX11_years_21 : decode cX11_years 21 = .ok (.if_icmp .le 6, 3) := by decide +kernel
theorem dX11_years_24 : decode cX11_years 24 = .ok (.bipush (-2), 2) := by decide +kernel
theorem dX11_years_26 : decode cX11_years 26 = .ok (.ireturn, 1) := by decide +kernel
theorem dX11_years_27 : decode cX11_years 27 = .ok (.aload_n 0, 1) := by decide +kernel
theorem dX11_years_28 : decode cX11_years 28 = .ok (.dup, 1) := by decide +kernel
theorem dX11_years_29 : decode cX11_years 29 = .ok (.getfield 71, 3) := by decide +kernel
theorem dX11_years_32 : decode cX11_years 32 = .ok (.iload_n 1, 1) := by decide +kernel
theorem dX11_years_33 : decode cX11_years 33 = .ok (.iadd, 1) := by decide +kernel
theorem dX11_years_34 : decode cX11_years 34 = .ok (.putfield 71, 3) := by decide +kernel
theorem dX11_years_37 : decode cX11_years 37 = .ok (.aload_n 0, 1) := by decide +kernel
theorem dX11_years_38 : decode cX11_years 38 = .ok (.getfield 71, 3) := by decide +kernel
theorem dX11_years_41 : decode cX11_years 41 = .ok (.ireturn, 1) := by decide +kernel
theorem dX11_feed_0 : decode cX11_feed 0 = .ok (.iload_n 3, 1) := by decide +kernel
theorem dX11_feed_1 : decode cX11_feed 1 = .ok (.iconst 1, 1) := by decide +kernel
theorem dX11_feed_2 : decode cX11_feed 2 = .ok (.if_icmp .lt 9, 3) := by decide +kernel
theorem dX11_feed_5 : decode cX11_feed 5 = .ok (.iload_n 3, 1) := by decide +kernel
theorem dX11_feed_6 : decode cX11_feed 6 = .ok (.bipush 8, 2) := by decide +kernel
theorem dX11_feed_8 : decode cX11_feed 8 = .ok (.if_icmp .le 6, 3) := by decide +kernel
theorem dX11_feed_11 : decode cX11_feed 11 = .ok (.bipush (-2), 2) := by decide +kernel
theorem dX11_feed_13 : decode cX11_feed 13 = .ok (.ireturn, 1) := by decide +kernel
theorem dX11_feed_14 : decode cX11_feed 14 = .ok (.aload_n 0, 1) := by decide +kernel
theorem dX11_feed_15 : decode cX11_feed 15 = .ok (.getfield 74, 3) := by decide +kernel
theorem dX11_feed_18 : decode cX11_feed 18 = .ok (.iload_n 3, 1) := by decide +kernel
theorem dX11_feed_19 : decode cX11_feed 19 = .ok (.iadd, 1) := by decide +kernel
theorem dX11_feed_20 : decode cX11_feed 20 = .ok (.bipush 80, 2) := by decide +kernel
theorem dX11_feed_22 : decode cX11_feed 22 = .ok (.if_icmp .le 6, 3) := by decide +kernel
theorem dX11_feed_25 : decode cX11_feed 25 = .ok (.bipush (-4), 2) := by decide +kernel
theorem dX11_feed_27 : decode cX11_feed 27 = .ok (.ireturn, 1) := by decide +kernel
theorem dX11_feed_28 : decode cX11_feed 28 = .ok (.iload_n 3, 1) := by decide +kernel
theorem dX11_feed_29 : decode cX11_feed 29 = .ok (.iconst 1, 1) := by decide +kernel
theorem dX11_feed_30 : decode cX11_feed 30 = .ok (.isub, 1) := by decide +kernel
theorem dX11_feed_31 : decode cX11_feed 31 = .ok (.istore 4, 2) := by decide +kernel
theorem dX11_feed_33 : decode cX11_feed 33 = .ok (.iload 4, 2) := by decide +kernel
theorem dX11_feed_35 : decode cX11_feed 35 = .ok (.ifCond .lt 40, 3) := by decide +kernel
theorem dX11_feed_38 : decode cX11_feed 38 = .ok (.aload_n 0, 1) := by decide +kernel
theorem dX11_feed_39 : decode cX11_feed 39 = .ok (.getfield 9, 3) := by decide +kernel
theorem dX11_feed_42 : decode cX11_feed 42 = .ok (.aload_n 0, 1) := by decide +kernel
theorem dX11_feed_43 : decode cX11_feed 43 = .ok (.getfield 74, 3) := by decide +kernel
theorem dX11_feed_46 : decode cX11_feed 46 = .ok (.lload_n 1, 1) := by decide +kernel
theorem dX11_feed_47 : decode cX11_feed 47 = .ok (.bipush 8, 2) := by decide +kernel
theorem dX11_feed_49 : decode cX11_feed 49 = .ok (.iload 4, 2) := by decide +kernel
theorem dX11_feed_51 : decode cX11_feed 51 = .ok (.imul, 1) := by decide +kernel
theorem dX11_feed_52 : decode cX11_feed 52 = .ok (.lushr, 1) := by decide +kernel
theorem dX11_feed_53 : decode cX11_feed 53 = .ok (.l2i, 1) := by decide +kernel
theorem dX11_feed_54 : decode cX11_feed 54 = .ok (.sipush 255, 3) := by decide +kernel
theorem dX11_feed_57 : decode cX11_feed 57 = .ok (.iand, 1) := by decide +kernel
theorem dX11_feed_58 : decode cX11_feed 58 = .ok (.iastore, 1) := by decide +kernel
theorem dX11_feed_59 : decode cX11_feed 59 = .ok (.aload_n 0, 1) := by decide +kernel
theorem dX11_feed_60 : decode cX11_feed 60 = .ok (.dup, 1) := by decide +kernel
theorem dX11_feed_61 : decode cX11_feed 61 = .ok (.getfield 74, 3) := by decide +kernel
theorem dX11_feed_64 : decode cX11_feed 64 = .ok (.iconst 1, 1) := by decide +kernel
theorem dX11_feed_65 : decode cX11_feed 65 = .ok (.iadd, 1) := by decide +kernel
theorem dX11_feed_66 : decode cX11_feed 66 = .ok (.putfield 74, 3) := by decide +kernel
theorem dX11_feed_69 : decode cX11_feed 69 = .ok (.iinc 4 (-1), 3) := by decide +kernel
theorem dX11_feed_72 : decode cX11_feed 72 = .ok (.goto (-39), 3) := by decide +kernel
theorem dX11_feed_75 : decode cX11_feed 75 = .ok (.aload_n 0, 1) := by decide +kernel
theorem dX11_feed_76 : decode cX11_feed 76 = .ok (.getfield 74, 3) := by decide +kernel
theorem dX11_feed_79 : decode cX11_feed 79 = .ok (.ireturn, 1) := by decide +kernel
theorem dX11_law_0 : decode cX11_law 0 = .ok (.aload_n 0, 1) := by decide +kernel
theorem dX11_law_1 : decode cX11_law 1 = .ok (.getfield 77, 3) := by decide +kernel
theorem dX11_law_4 : decode cX11_law 4 = .ok (.bipush 12, 2) := by decide +kernel
theorem dX11_law_6 : decode cX11_law 6 = .ok (.if_icmp .lt 6, 3) := by decide +kernel
theorem dX11_law_9 : decode cX11_law 9 = .ok (.bipush (-4), 2) := by decide +kernel
theorem dX11_law_11 : decode cX11_law 11 = .ok (.ireturn, 1) := by decide +kernel
theorem dX11_law_12 : decode cX11_law 12 = .ok (.aload_n 0, 1) := by decide +kernel
theorem dX11_law_13 : decode cX11_law 13 = .ok (.getfield 74, 3) := by decide +kernel
theorem dX11_law_16 : decode cX11_law 16 = .ok (.istore_n 1, 1) := by decide +kernel
theorem dX11_law_17 : decode cX11_law 17 = .ok (.aload_n 0, 1) := by decide +kernel
theorem dX11_law_18 : decode cX11_law 18 = .ok (.iconst 0, 1) := by decide +kernel
theorem dX11_law_19 : decode cX11_law 19 = .ok (.putfield 74, 3) := by decide +kernel
theorem dX11_law_22 : decode cX11_law 22 = .ok (.aload_n 0, 1) := by decide +kernel
theorem dX11_law_23 : decode cX11_law 23 = .ok (.getfield 24, 3) := by decide +kernel
theorem dX11_law_26 : decode cX11_law 26 = .ok (.aload_n 0, 1) := by decide +kernel
theorem dX11_law_27 : decode cX11_law 27 = .ok (.getfield 77, 3) := by decide +kernel
theorem dX11_law_30 : decode cX11_law 30 = .ok (.aaload, 1) := by decide +kernel
theorem dX11_law_31 : decode cX11_law 31 = .ok (.aload_n 0, 1) := by decide +kernel
theorem dX11_law_32 : decode cX11_law 32 = .ok (.getfield 9, 3) := by decide +kernel
theorem dX11_law_35 : decode cX11_law 35 = .ok (.iload_n 1, 1) := by decide +kernel
theorem dX11_law_36 : decode cX11_law 36 = .ok (.invokevirtual 80, 3) := by decide +kernel
theorem dX11_law_39 : decode cX11_law 39 = .ok (.istore_n 2, 1) := by decide +kernel
theorem dX11_law_40 : decode cX11_law 40 = .ok (.iload_n 2, 1) := by decide +kernel
theorem dX11_law_41 : decode cX11_law 41 = .ok (.ifCond .lt 8, 3) := by decide +kernel
theorem dX11_law_44 : decode cX11_law 44 = .ok (.bipush (-10), 2) := by decide +kernel
theorem dX11_law_46 : decode cX11_law 46 = .ok (.iload_n 2, 1) := by decide +kernel
theorem dX11_law_47 : decode cX11_law 47 = .ok (.isub, 1) := by decide +kernel
theorem dX11_law_48 : decode cX11_law 48 = .ok (.ireturn, 1) := by decide +kernel
theorem dX11_law_49 : decode cX11_law 49 = .ok (.aload_n 0, 1) := by decide +kernel
theorem dX11_law_50 : decode cX11_law 50 = .ok (.dup, 1) := by decide +kernel
theorem dX11_law_51 : decode cX11_law 51 = .ok (.getfield 77, 3) := by decide +kernel
theorem dX11_law_54 : decode cX11_law 54 = .ok (.iconst 1, 1) := by decide +kernel
theorem dX11_law_55 : decode cX11_law 55 = .ok (.iadd, 1) := by decide +kernel
theorem dX11_law_56 : decode cX11_law 56 = .ok (.putfield 77, 3) := by decide +kernel
theorem dX11_law_59 : decode cX11_law 59 = .ok (.aload_n 0, 1) := by decide +kernel
theorem dX11_law_60 : decode cX11_law 60 = .ok (.getfield 77, 3) := by decide +kernel
theorem dX11_law_63 : decode cX11_law 63 = .ok (.iconst 1, 1) := by decide +kernel
theorem dX11_law_64 : decode cX11_law 64 = .ok (.isub, 1) := by decide +kernel
theorem dX11_law_65 : decode cX11_law 65 = .ok (.ireturn, 1) := by decide +kernel
theorem dX11_coin_0 : decode cX11_coin 0 = .ok (.aload_n 0, 1) := by decide +kernel
theorem dX11_coin_1 : decode cX11_coin 1 = .ok (.iload_n 1, 1) := by decide +kernel
theorem dX11_coin_2 : decode cX11_coin 2 = .ok (.invokevirtual 84, 3) := by decide +kernel
theorem dX11_coin_5 : decode cX11_coin 5 = .ok (.ifCond .eq 10, 3) := by decide +kernel
theorem dX11_coin_8 : decode cX11_coin 8 = .ok (.iload_n 2, 1) := by decide +kernel
theorem dX11_coin_9 : decode cX11_coin 9 = .ok (.invokestatic 88, 3) := by decide +kernel
theorem dX11_coin_12 : decode cX11_coin 12 = .ok (.ifCond .ne 5, 3) := by decide +kernel
theorem dX11_coin_15 : decode cX11_coin 15 = .ok (.iconst (-1), 1) := by decide +kernel
theorem dX11_coin_16 : decode cX11_coin 16 = .ok (.ireturn, 1) := by decide +kernel
theorem dX11_coin_17 : decode cX11_coin 17 = .ok (.aload_n 0, 1) := by decide +kernel
theorem dX11_coin_18 : decode cX11_coin 18 = .ok (.getfield 91, 3) := by decide +kernel
theorem dX11_coin_21 : decode cX11_coin 21 = .ok (.bipush 80, 2) := by decide +kernel
theorem dX11_coin_23 : decode cX11_coin 23 = .ok (.if_icmp .lt 6, 3) := by decide +kernel
theorem dX11_coin_26 : decode cX11_coin 26 = .ok (.bipush (-4), 2) := by decide +kernel
theorem dX11_coin_28 : decode cX11_coin 28 = .ok (.ireturn, 1) := by decide +kernel
theorem dX11_coin_29 : decode cX11_coin 29 = .ok (.aload_n 0, 1) := by decide +kernel
theorem dX11_coin_30 : decode cX11_coin 30 = .ok (.getfield 74, 3) := by decide +kernel
theorem dX11_coin_33 : decode cX11_coin 33 = .ok (.istore_n 3, 1) := by decide +kernel
theorem dX11_coin_34 : decode cX11_coin 34 = .ok (.aload_n 0, 1) := by decide +kernel
theorem dX11_coin_35 : decode cX11_coin 35 = .ok (.iconst 0, 1) := by decide +kernel
theorem dX11_coin_36 : decode cX11_coin 36 = .ok (.putfield 74, 3) := by decide +kernel
theorem dX11_coin_39 : decode cX11_coin 39 = .ok (.aload_n 0, 1) := by decide +kernel
theorem dX11_coin_40 : decode cX11_coin 40 = .ok (.iload_n 3, 1) := by decide +kernel
theorem dX11_coin_41 : decode cX11_coin 41 = .ok (.invokevirtual 94, 3) := by decide +kernel
theorem dX11_coin_44 : decode cX11_coin 44 = .ok (.istore 4, 2) := by decide +kernel
theorem dX11_coin_46 : decode cX11_coin 46 = .ok (.iload 4, 2) := by decide +kernel
theorem dX11_coin_48 : decode cX11_coin 48 = .ok (.ifCond .lt 9, 3) := by decide +kernel
theorem dX11_coin_51 : decode cX11_coin 51 = .ok (.bipush (-10), 2) := by decide +kernel
theorem dX11_coin_53 : decode cX11_coin 53 = .ok (.iload 4, 2) := by decide +kernel
theorem dX11_coin_55 : decode cX11_coin 55 = .ok (.isub, 1) := by decide +kernel
theorem dX11_coin_56 : decode cX11_coin 56 = .ok (.ireturn, 1) := by decide +kernel
theorem dX11_coin_57 : decode cX11_coin 57 = .ok (.aload_n 0, 1) := by decide +kernel
theorem dX11_coin_58 : decode cX11_coin 58 = .ok (.getfield 15, 3) := by decide +kernel
theorem dX11_coin_61 : decode cX11_coin 61 = .ok (.iload_n 1, 1) := by decide +kernel
theorem dX11_coin_62 : decode cX11_coin 62 = .ok (.bipush 10, 2) := by decide +kernel
theorem dX11_coin_64 : decode cX11_coin 64 = .ok (.imul, 1) := by decide +kernel
theorem dX11_coin_65 : decode cX11_coin 65 = .ok (.iload_n 2, 1) := by decide +kernel
theorem dX11_coin_66 : decode cX11_coin 66 = .ok (.iadd, 1) := by decide +kernel
theorem dX11_coin_67 : decode cX11_coin 67 = .ok (.aaload, 1) := by decide +kernel
theorem dX11_coin_68 : decode cX11_coin 68 = .ok (.astore 5, 2) := by decide +kernel
theorem dX11_coin_70 : decode cX11_coin 70 = .ok (.aload 5, 2) := by decide +kernel
theorem dX11_coin_72 : decode cX11_coin 72 = .ok (.aload_n 0, 1) := by decide +kernel
theorem dX11_coin_73 : decode cX11_coin 73 = .ok (.getfield 9, 3) := by decide +kernel
theorem dX11_coin_76 : decode cX11_coin 76 = .ok (.iload_n 3, 1) := by decide +kernel
theorem dX11_coin_77 : decode cX11_coin 77 = .ok (.invokevirtual 98, 3) := by decide +kernel
theorem dX11_coin_80 : decode cX11_coin 80 = .ok (.aload 5, 2) := by decide +kernel
theorem dX11_coin_82 : decode cX11_coin 82 = .ok (.aload_n 0, 1) := by decide +kernel
theorem dX11_coin_83 : decode cX11_coin 83 = .ok (.getfield 102, 3) := by decide +kernel
theorem dX11_coin_86 : decode cX11_coin 86 = .ok (.putfield 105, 3) := by decide +kernel
theorem dX11_coin_89 : decode cX11_coin 89 = .ok (.aload 5, 2) := by decide +kernel
theorem dX11_coin_91 : decode cX11_coin 91 = .ok (.iconst 0, 1) := by decide +kernel
theorem dX11_coin_92 : decode cX11_coin 92 = .ok (.putfield 108, 3) := by decide +kernel
theorem dX11_coin_95 : decode cX11_coin 95 = .ok (.aload_n 0, 1) := by decide +kernel
theorem dX11_coin_96 : decode cX11_coin 96 = .ok (.dup, 1) := by decide +kernel
theorem dX11_coin_97 : decode cX11_coin 97 = .ok (.getfield 102, 3) := by decide +kernel
theorem dX11_coin_100 : decode cX11_coin 100 = .ok (.iconst 1, 1) := by decide +kernel
theorem dX11_coin_101 : decode cX11_coin 101 = .ok (.iadd, 1) := by decide +kernel
theorem dX11_coin_102 : decode cX11_coin 102 = .ok (.putfield 102, 3) := by decide +kernel
theorem dX11_coin_105 : decode cX11_coin 105 = .ok (.aload_n 0, 1) := by decide +kernel
theorem dX11_coin_106 : decode cX11_coin 106 = .ok (.new 112, 3) := by decide +kernel
theorem dX11_coin_109 : decode cX11_coin 109 = .ok (.dup, 1) := by decide +kernel
theorem dX11_coin_110 : decode cX11_coin 110 = .ok (.aload_n 0, 1) := by decide +kernel
theorem dX11_coin_111 : decode cX11_coin 111 = .ok (.getfield 91, 3) := by decide +kernel
theorem dX11_coin_114 : decode cX11_coin 114 = .ok (.aload_n 0, 1) := by decide +kernel
theorem dX11_coin_115 : decode cX11_coin 115 = .ok (.getfield 71, 3) := by decide +kernel
theorem dX11_coin_118 : decode cX11_coin 118 = .ok (.iload_n 1, 1) := by decide +kernel
theorem dX11_coin_119 : decode cX11_coin 119 = .ok (.bipush (-5), 2) := by decide +kernel
theorem dX11_coin_121 : decode cX11_coin 121 = .ok (.iload_n 2, 1) := by decide +kernel
theorem dX11_coin_122 : decode cX11_coin 122 = .ok (.invokespecial 114, 3) := by decide +kernel
theorem dX11_coin_125 : decode cX11_coin 125 = .ok (.invokevirtual 117, 3) := by decide +kernel
theorem dX11_coin_128 : decode cX11_coin 128 = .ok (.aload 5, 2) := by decide +kernel
theorem dX11_coin_130 : decode cX11_coin 130 = .ok (.getfield 105, 3) := by decide +kernel
theorem dX11_coin_133 : decode cX11_coin 133 = .ok (.ireturn, 1) := by decide +kernel
theorem dX11_sound_0 : decode cX11_sound 0 = .ok (.aload_n 0, 1) := by decide +kernel
theorem dX11_sound_1 : decode cX11_sound 1 = .ok (.iload_n 1, 1) := by decide +kernel
theorem dX11_sound_2 : decode cX11_sound 2 = .ok (.invokevirtual 84, 3) := by decide +kernel
theorem dX11_sound_5 : decode cX11_sound 5 = .ok (.ifCond .eq 11, 3) := by decide +kernel
theorem dX11_sound_8 : decode cX11_sound 8 = .ok (.aload_n 0, 1) := by decide +kernel
theorem dX11_sound_9 : decode cX11_sound 9 = .ok (.iload_n 2, 1) := by decide +kernel
theorem dX11_sound_10 : decode cX11_sound 10 = .ok (.invokevirtual 121, 3) := by decide +kernel
theorem dX11_sound_13 : decode cX11_sound 13 = .ok (.ifCond .ne 5, 3) := by decide +kernel
theorem dX11_sound_16 : decode cX11_sound 16 = .ok (.iconst (-1), 1) := by decide +kernel
theorem dX11_sound_17 : decode cX11_sound 17 = .ok (.ireturn, 1) := by decide +kernel
theorem dX11_sound_18 : decode cX11_sound 18 = .ok (.aload_n 0, 1) := by decide +kernel
theorem dX11_sound_19 : decode cX11_sound 19 = .ok (.getfield 91, 3) := by decide +kernel
theorem dX11_sound_22 : decode cX11_sound 22 = .ok (.bipush 80, 2) := by decide +kernel
theorem dX11_sound_24 : decode cX11_sound 24 = .ok (.if_icmp .lt 6, 3) := by decide +kernel
theorem dX11_sound_27 : decode cX11_sound 27 = .ok (.bipush (-4), 2) := by decide +kernel
theorem dX11_sound_29 : decode cX11_sound 29 = .ok (.ireturn, 1) := by decide +kernel
theorem dX11_sound_30 : decode cX11_sound 30 = .ok (.iconst 0, 1) := by decide +kernel
theorem dX11_sound_31 : decode cX11_sound 31 = .ok (.istore_n 3, 1) := by decide +kernel
theorem dX11_sound_32 : decode cX11_sound 32 = .ok (.iconst 0, 1) := by decide +kernel
theorem dX11_sound_33 : decode cX11_sound 33 = .ok (.istore 4, 2) := by decide +kernel
theorem dX11_sound_35 : decode cX11_sound 35 = .ok (.iload 4, 2) := by decide +kernel
theorem dX11_sound_37 : decode cX11_sound 37 = .ok (.bipush 10, 2) := by decide +kernel
theorem dX11_sound_39 : decode cX11_sound 39 = .ok (.if_icmp .ge 36, 3) := by decide +kernel
theorem dX11_sound_42 : decode cX11_sound 42 = .ok (.aload_n 0, 1) := by decide +kernel
theorem dX11_sound_43 : decode cX11_sound 43 = .ok (.getfield 24, 3) := by decide +kernel
theorem dX11_sound_46 : decode cX11_sound 46 = .ok (.iload_n 2, 1) := by decide +kernel
theorem dX11_sound_47 : decode cX11_sound 47 = .ok (.aaload, 1) := by decide +kernel
theorem dX11_sound_48 : decode cX11_sound 48 = .ok (.aload_n 0, 1) := by decide +kernel
theorem dX11_sound_49 : decode cX11_sound 49 = .ok (.getfield 15, 3) := by decide +kernel
theorem dX11_sound_52 : decode cX11_sound 52 = .ok (.iload_n 1, 1) := by decide +kernel
theorem dX11_sound_53 : decode cX11_sound 53 = .ok (.bipush 10, 2) := by decide +kernel
theorem dX11_sound_55 : decode cX11_sound 55 = .ok (.imul, 1) := by decide +kernel
theorem dX11_sound_56 : decode cX11_sound 56 = .ok (.iload 4, 2) := by decide +kernel
theorem dX11_sound_58 : decode cX11_sound 58 = .ok (.iadd, 1) := by decide +kernel
theorem dX11_sound_59 : decode cX11_sound 59 = .ok (.aaload, 1) := by decide +kernel
theorem dX11_sound_60 : decode cX11_sound 60 = .ok (.invokevirtual 124, 3) := by decide +kernel
theorem dX11_sound_63 : decode cX11_sound 63 = .ok (.ifCond .eq 6, 3) := by decide +kernel
theorem dX11_sound_66 : decode cX11_sound 66 = .ok (.iinc 3 1, 3) := by decide +kernel
theorem dX11_sound_69 : decode cX11_sound 69 = .ok (.iinc 4 1, 3) := by decide +kernel
theorem dX11_sound_72 : decode cX11_sound 72 = .ok (.goto (-37), 3) := by decide +kernel
theorem dX11_sound_75 : decode cX11_sound 75 = .ok (.aload_n 0, 1) := by decide +kernel
theorem dX11_sound_76 : decode cX11_sound 76 = .ok (.new 128, 3) := by decide +kernel
theorem dX11_sound_79 : decode cX11_sound 79 = .ok (.dup, 1) := by decide +kernel
theorem dX11_sound_80 : decode cX11_sound 80 = .ok (.aload_n 0, 1) := by decide +kernel
theorem dX11_sound_81 : decode cX11_sound 81 = .ok (.getfield 91, 3) := by decide +kernel
theorem dX11_sound_84 : decode cX11_sound 84 = .ok (.aload_n 0, 1) := by decide +kernel
theorem dX11_sound_85 : decode cX11_sound 85 = .ok (.getfield 71, 3) := by decide +kernel
theorem dX11_sound_88 : decode cX11_sound 88 = .ok (.iload_n 1, 1) := by decide +kernel
theorem dX11_sound_89 : decode cX11_sound 89 = .ok (.iload_n 2, 1) := by decide +kernel
theorem dX11_sound_90 : decode cX11_sound 90 = .ok (.bipush (-5), 2) := by decide +kernel
theorem dX11_sound_92 : decode cX11_sound 92 = .ok (.invokespecial 130, 3) := by decide +kernel
theorem dX11_sound_95 : decode cX11_sound 95 = .ok (.invokevirtual 117, 3) := by decide +kernel
theorem dX11_sound_98 : decode cX11_sound 98 = .ok (.iload_n 3, 1) := by decide +kernel
theorem dX11_sound_99 : decode cX11_sound 99 = .ok (.ireturn, 1) := by decide +kernel
theorem dX11_shorten_0 : decode cX11_shorten 0 = .ok (.aload_n 0, 1) := by decide +kernel
theorem dX11_shorten_1 : decode cX11_shorten 1 = .ok (.iload_n 1, 1) := by decide +kernel
theorem dX11_shorten_2 : decode cX11_shorten 2 = .ok (.iload_n 2, 1) := by decide +kernel
theorem dX11_shorten_3 : decode cX11_shorten 3 = .ok (.invokevirtual 131, 3) := by decide +kernel
theorem dX11_shorten_6 : decode cX11_shorten 6 = .ok (.astore_n 3, 1) := by decide +kernel
theorem dX11_shorten_7 : decode cX11_shorten 7 = .ok (.aload_n 3, 1) := by decide +kernel
theorem dX11_shorten_8 : decode cX11_shorten 8 = .ok (.ifnonnull 5, 3) := by decide +kernel
theorem dX11_shorten_11 : decode cX11_shorten 11 = .ok (.iconst (-1), 1) := by decide +kernel
theorem dX11_shorten_12 : decode cX11_shorten 12 = .ok (.ireturn, 1) := by decide +kernel
theorem dX11_shorten_13 : decode cX11_shorten 13 = .ok (.aload_n 3, 1) := by decide +kernel
theorem dX11_shorten_14 : decode cX11_shorten 14 = .ok (.getfield 135, 3) := by decide +kernel
theorem dX11_shorten_17 : decode cX11_shorten 17 = .ok (.iconst 2, 1) := by decide +kernel
theorem dX11_shorten_18 : decode cX11_shorten 18 = .ok (.if_icmp .ge 6, 3) := by decide +kernel
theorem dX11_shorten_21 : decode cX11_shorten 21 = .ok (.bipush (-3), 2) := by decide +kernel
theorem dX11_shorten_23 : decode cX11_shorten 23 = .ok (.ireturn, 1) := by decide +kernel
theorem dX11_shorten_24 : decode cX11_shorten 24 = .ok (.aload_n 0, 1) := by decide +kernel
theorem dX11_shorten_25 : decode cX11_shorten 25 = .ok (.getfield 91, 3) := by decide +kernel
theorem dX11_shorten_28 : decode cX11_shorten 28 = .ok (.bipush 80, 2) := by decide +kernel
theorem dX11_shorten_30 : decode cX11_shorten 30 = .ok (.if_icmp .lt 6, 3) := by decide +kernel
theorem dX11_shorten_33 : decode cX11_shorten 33 = .ok (.bipush (-4), 2) := by decide +kernel
theorem dX11_shorten_35 : decode cX11_shorten 35 = .ok (.ireturn, 1) := by decide +kernel
theorem dX11_shorten_36 : decode cX11_shorten 36 = .ok (.aload_n 3, 1) := by decide +kernel
theorem dX11_shorten_37 : decode cX11_shorten 37 = .ok (.dup, 1) := by decide +kernel
theorem dX11_shorten_38 : decode cX11_shorten 38 = .ok (.getfield 135, 3) := by decide +kernel
theorem dX11_shorten_41 : decode cX11_shorten 41 = .ok (.iconst 1, 1) := by decide +kernel
theorem dX11_shorten_42 : decode cX11_shorten 42 = .ok (.isub, 1) := by decide +kernel
theorem dX11_shorten_43 : decode cX11_shorten 43 = .ok (.putfield 135, 3) := by decide +kernel
theorem dX11_shorten_46 : decode cX11_shorten 46 = .ok (.aload_n 0, 1) := by decide +kernel
theorem dX11_shorten_47 : decode cX11_shorten 47 = .ok (.new 138, 3) := by decide +kernel
theorem dX11_shorten_50 : decode cX11_shorten 50 = .ok (.dup, 1) := by decide +kernel
theorem dX11_shorten_51 : decode cX11_shorten 51 = .ok (.aload_n 0, 1) := by decide +kernel
theorem dX11_shorten_52 : decode cX11_shorten 52 = .ok (.getfield 91, 3) := by decide +kernel
theorem dX11_shorten_55 : decode cX11_shorten 55 = .ok (.aload_n 0, 1) := by decide +kernel
theorem dX11_shorten_56 : decode cX11_shorten 56 = .ok (.getfield 71, 3) := by decide +kernel
theorem dX11_shorten_59 : decode cX11_shorten 59 = .ok (.iload_n 1, 1) := by decide +kernel
theorem dX11_shorten_60 : decode cX11_shorten 60 = .ok (.bipush (-5), 2) := by decide +kernel
theorem dX11_shorten_62 : decode cX11_shorten 62 = .ok (.iload_n 2, 1) := by decide +kernel
theorem dX11_shorten_63 : decode cX11_shorten 63 = .ok (.invokespecial 140, 3) := by decide +kernel
theorem dX11_shorten_66 : decode cX11_shorten 66 = .ok (.invokevirtual 117, 3) := by decide +kernel
theorem dX11_shorten_69 : decode cX11_shorten 69 = .ok (.aload_n 3, 1) := by decide +kernel
theorem dX11_shorten_70 : decode cX11_shorten 70 = .ok (.getfield 135, 3) := by decide +kernel
theorem dX11_shorten_73 : decode cX11_shorten 73 = .ok (.ireturn, 1) := by decide +kernel
theorem dX11_loan_0 : decode cX11_loan 0 = .ok (.aload_n 0, 1) := by decide +kernel
theorem dX11_loan_1 : decode cX11_loan 1 = .ok (.iload_n 2, 1) := by decide +kernel
theorem dX11_loan_2 : decode cX11_loan 2 = .ok (.iload_n 1, 1) := by decide +kernel
theorem dX11_loan_3 : decode cX11_loan 3 = .ok (.invokevirtual 131, 3) := by decide +kernel
theorem dX11_loan_6 : decode cX11_loan 6 = .ok (.astore 4, 2) := by decide +kernel
theorem dX11_loan_8 : decode cX11_loan 8 = .ok (.aload 4, 2) := by decide +kernel
theorem dX11_loan_10 : decode cX11_loan 10 = .ok (.ifnull 11, 3) := by decide +kernel
theorem dX11_loan_13 : decode cX11_loan 13 = .ok (.aload_n 0, 1) := by decide +kernel
theorem dX11_loan_14 : decode cX11_loan 14 = .ok (.iload_n 3, 1) := by decide +kernel
theorem dX11_loan_15 : decode cX11_loan 15 = .ok (.invokevirtual 84, 3) := by decide +kernel
theorem dX11_loan_18 : decode cX11_loan 18 = .ok (.ifCond .ne 5, 3) := by decide +kernel
theorem dX11_loan_21 : decode cX11_loan 21 = .ok (.iconst (-1), 1) := by decide +kernel
theorem dX11_loan_22 : decode cX11_loan 22 = .ok (.ireturn, 1) := by decide +kernel
theorem dX11_loan_23 : decode cX11_loan 23 = .ok (.iload_n 2, 1) := by decide +kernel
theorem dX11_loan_24 : decode cX11_loan 24 = .ok (.iload_n 3, 1) := by decide +kernel
theorem dX11_loan_25 : decode cX11_loan 25 = .ok (.if_icmp .ne 6, 3) := by decide +kernel
theorem dX11_loan_28 : decode cX11_loan 28 = .ok (.bipush (-2), 2) := by decide +kernel
theorem dX11_loan_30 : decode cX11_loan 30 = .ok (.ireturn, 1) := by decide +kernel
theorem dX11_loan_31 : decode cX11_loan 31 = .ok (.aload_n 0, 1) := by decide +kernel
theorem dX11_loan_32 : decode cX11_loan 32 = .ok (.getfield 91, 3) := by decide +kernel
theorem dX11_loan_35 : decode cX11_loan 35 = .ok (.bipush 80, 2) := by decide +kernel
theorem dX11_loan_37 : decode cX11_loan 37 = .ok (.if_icmp .lt 6, 3) := by decide +kernel
theorem dX11_loan_40 : decode cX11_loan 40 = .ok (.bipush (-4), 2) := by decide +kernel
theorem dX11_loan_42 : decode cX11_loan 42 = .ok (.ireturn, 1) := by decide +kernel
theorem dX11_loan_43 : decode cX11_loan 43 = .ok (.aload_n 0, 1) := by decide +kernel
theorem dX11_loan_44 : decode cX11_loan 44 = .ok (.getfield 15, 3) := by decide +kernel
theorem dX11_loan_47 : decode cX11_loan 47 = .ok (.iload_n 3, 1) := by decide +kernel
theorem dX11_loan_48 : decode cX11_loan 48 = .ok (.bipush 10, 2) := by decide +kernel
theorem dX11_loan_50 : decode cX11_loan 50 = .ok (.imul, 1) := by decide +kernel
theorem dX11_loan_51 : decode cX11_loan 51 = .ok (.iload_n 1, 1) := by decide +kernel
theorem dX11_loan_52 : decode cX11_loan 52 = .ok (.iadd, 1) := by decide +kernel
theorem dX11_loan_53 : decode cX11_loan 53 = .ok (.aaload, 1) := by decide +kernel
theorem dX11_loan_54 : decode cX11_loan 54 = .ok (.astore 5, 2) := by decide +kernel
theorem dX11_loan_56 : decode cX11_loan 56 = .ok (.aload 5, 2) := by decide +kernel
theorem dX11_loan_58 : decode cX11_loan 58 = .ok (.aload 4, 2) := by decide +kernel
theorem dX11_loan_60 : decode cX11_loan 60 = .ok (.invokevirtual 141, 3) := by decide +kernel
theorem dX11_loan_63 : decode cX11_loan 63 = .ok (.aload 5, 2) := by decide +kernel
theorem dX11_loan_65 : decode cX11_loan 65 = .ok (.aload 4, 2) := by decide +kernel
theorem dX11_loan_67 : decode cX11_loan 67 = .ok (.getfield 105, 3) := by decide +kernel
theorem dX11_loan_70 : decode cX11_loan 70 = .ok (.putfield 105, 3) := by decide +kernel
theorem dX11_loan_73 : decode cX11_loan 73 = .ok (.aload 5, 2) := by decide +kernel
theorem dX11_loan_75 : decode cX11_loan 75 = .ok (.iconst 1, 1) := by decide +kernel
theorem dX11_loan_76 : decode cX11_loan 76 = .ok (.putfield 108, 3) := by decide +kernel
theorem dX11_loan_79 : decode cX11_loan 79 = .ok (.aload_n 0, 1) := by decide +kernel
theorem dX11_loan_80 : decode cX11_loan 80 = .ok (.new 145, 3) := by decide +kernel
theorem dX11_loan_83 : decode cX11_loan 83 = .ok (.dup, 1) := by decide +kernel
theorem dX11_loan_84 : decode cX11_loan 84 = .ok (.aload_n 0, 1) := by decide +kernel
theorem dX11_loan_85 : decode cX11_loan 85 = .ok (.getfield 91, 3) := by decide +kernel
theorem dX11_loan_88 : decode cX11_loan 88 = .ok (.aload_n 0, 1) := by decide +kernel
theorem dX11_loan_89 : decode cX11_loan 89 = .ok (.getfield 71, 3) := by decide +kernel
theorem dX11_loan_92 : decode cX11_loan 92 = .ok (.iload_n 3, 1) := by decide +kernel
theorem dX11_loan_93 : decode cX11_loan 93 = .ok (.bipush (-5), 2) := by decide +kernel
theorem dX11_loan_95 : decode cX11_loan 95 = .ok (.iload_n 1, 1) := by decide +kernel
theorem dX11_loan_96 : decode cX11_loan 96 = .ok (.invokespecial 147, 3) := by decide +kernel
theorem dX11_loan_99 : decode cX11_loan 99 = .ok (.invokevirtual 117, 3) := by decide +kernel
theorem dX11_loan_102 : decode cX11_loan 102 = .ok (.aload 5, 2) := by decide +kernel
theorem dX11_loan_104 : decode cX11_loan 104 = .ok (.getfield 105, 3) := by decide +kernel
theorem dX11_loan_107 : decode cX11_loan 107 = .ok (.ireturn, 1) := by decide +kernel
theorem dX11_forget_0 : decode cX11_forget 0 = .ok (.aload_n 0, 1) := by decide +kernel
theorem dX11_forget_1 : decode cX11_forget 1 = .ok (.iload_n 1, 1) := by decide +kernel
theorem dX11_forget_2 : decode cX11_forget 2 = .ok (.iload_n 2, 1) := by decide +kernel
theorem dX11_forget_3 : decode cX11_forget 3 = .ok (.invokevirtual 131, 3) := by decide +kernel
theorem dX11_forget_6 : decode cX11_forget 6 = .ok (.astore_n 3, 1) := by decide +kernel
theorem dX11_forget_7 : decode cX11_forget 7 = .ok (.aload_n 3, 1) := by decide +kernel
theorem dX11_forget_8 : decode cX11_forget 8 = .ok (.ifnonnull 5, 3) := by decide +kernel
theorem dX11_forget_11 : decode cX11_forget 11 = .ok (.iconst (-1), 1) := by decide +kernel
theorem dX11_forget_12 : decode cX11_forget 12 = .ok (.ireturn, 1) := by decide +kernel
theorem dX11_forget_13 : decode cX11_forget 13 = .ok (.aload_n 0, 1) := by decide +kernel
theorem dX11_forget_14 : decode cX11_forget 14 = .ok (.getfield 91, 3) := by decide +kernel
theorem dX11_forget_17 : decode cX11_forget 17 = .ok (.bipush 80, 2) := by decide +kernel
theorem dX11_forget_19 : decode cX11_forget 19 = .ok (.if_icmp .lt 6, 3) := by decide +kernel
theorem dX11_forget_22 : decode cX11_forget 22 = .ok (.bipush (-4), 2) := by decide +kernel
theorem dX11_forget_24 : decode cX11_forget 24 = .ok (.ireturn, 1) := by decide +kernel
theorem dX11_forget_25 : decode cX11_forget 25 = .ok (.aload_n 3, 1) := by decide +kernel
theorem dX11_forget_26 : decode cX11_forget 26 = .ok (.iconst 0, 1) := by decide +kernel
theorem dX11_forget_27 : decode cX11_forget 27 = .ok (.putfield 135, 3) := by decide +kernel
theorem dX11_forget_30 : decode cX11_forget 30 = .ok (.aload_n 0, 1) := by decide +kernel
theorem dX11_forget_31 : decode cX11_forget 31 = .ok (.new 148, 3) := by decide +kernel
theorem dX11_forget_34 : decode cX11_forget 34 = .ok (.dup, 1) := by decide +kernel
theorem dX11_forget_35 : decode cX11_forget 35 = .ok (.aload_n 0, 1) := by decide +kernel
theorem dX11_forget_36 : decode cX11_forget 36 = .ok (.getfield 91, 3) := by decide +kernel
theorem dX11_forget_39 : decode cX11_forget 39 = .ok (.aload_n 0, 1) := by decide +kernel
theorem dX11_forget_40 : decode cX11_forget 40 = .ok (.getfield 71, 3) := by decide +kernel
theorem dX11_forget_43 : decode cX11_forget 43 = .ok (.iload_n 1, 1) := by decide +kernel
theorem dX11_forget_44 : decode cX11_forget 44 = .ok (.bipush (-5), 2) := by decide +kernel
theorem dX11_forget_46 : decode cX11_forget 46 = .ok (.iload_n 2, 1) := by decide +kernel
theorem dX11_forget_47 : decode cX11_forget 47 = .ok (.invokespecial 150, 3) := by decide +kernel
theorem dX11_forget_50 : decode cX11_forget 50 = .ok (.invokevirtual 117, 3) := by decide +kernel
theorem dX11_forget_53 : decode cX11_forget 53 = .ok (.aload_n 3, 1) := by decide +kernel
theorem dX11_forget_54 : decode cX11_forget 54 = .ok (.getfield 105, 3) := by decide +kernel
theorem dX11_forget_57 : decode cX11_forget 57 = .ok (.ireturn, 1) := by decide +kernel
theorem dX11_split_0 : decode cX11_split 0 = .ok (.aload_n 0, 1) := by decide +kernel
theorem dX11_split_1 : decode cX11_split 1 = .ok (.iload_n 1, 1) := by decide +kernel
theorem dX11_split_2 : decode cX11_split 2 = .ok (.invokevirtual 84, 3) := by decide +kernel
theorem dX11_split_5 : decode cX11_split 5 = .ok (.ifCond .ne 5, 3) := by decide +kernel
theorem dX11_split_8 : decode cX11_split 8 = .ok (.iconst (-1), 1) := by decide +kernel
theorem dX11_split_9 : decode cX11_split 9 = .ok (.ireturn, 1) := by decide +kernel
theorem dX11_split_10 : decode cX11_split 10 = .ok (.aload_n 0, 1) := by decide +kernel
theorem dX11_split_11 : decode cX11_split 11 = .ok (.getfield 64, 3) := by decide +kernel
theorem dX11_split_14 : decode cX11_split 14 = .ok (.bipush 6, 2) := by decide +kernel
theorem dX11_split_16 : decode cX11_split 16 = .ok (.if_icmp .ge 12, 3) := by decide +kernel
theorem dX11_split_19 : decode cX11_split 19 = .ok (.aload_n 0, 1) := by decide +kernel
theorem dX11_split_20 : decode cX11_split 20 = .ok (.getfield 91, 3) := by decide +kernel
theorem dX11_split_23 : decode cX11_split 23 = .ok (.bipush 80, 2) := by decide +kernel
theorem dX11_split_25 : decode cX11_split 25 = .ok (.if_icmp .lt 6, 3) := by decide +kernel
theorem dX11_split_28 : decode cX11_split 28 = .ok (.bipush (-4), 2) := by decide +kernel
theorem dX11_split_30 : decode cX11_split 30 = .ok (.ireturn, 1) := by decide +kernel
theorem dX11_split_31 : decode cX11_split 31 = .ok (.aload_n 0, 1) := by decide +kernel
theorem dX11_split_32 : decode cX11_split 32 = .ok (.iload_n 1, 1) := by decide +kernel
theorem dX11_split_33 : decode cX11_split 33 = .ok (.aload_n 0, 1) := by decide +kernel
theorem dX11_split_34 : decode cX11_split 34 = .ok (.getfield 71, 3) := by decide +kernel
theorem dX11_split_37 : decode cX11_split 37 = .ok (.invokevirtual 67, 3) := by decide +kernel
theorem dX11_split_40 : decode cX11_split 40 = .ok (.istore_n 2, 1) := by decide +kernel
theorem dX11_split_41 : decode cX11_split 41 = .ok (.iconst 0, 1) := by decide +kernel
theorem dX11_split_42 : decode cX11_split 42 = .ok (.istore_n 3, 1) := by decide +kernel
theorem dX11_split_43 : decode cX11_split 43 = .ok (.iload_n 3, 1) := by decide +kernel
theorem dX11_split_44 : decode cX11_split 44 = .ok (.bipush 10, 2) := by decide +kernel
theorem dX11_split_46 : decode cX11_split 46 = .ok (.if_icmp .ge 62, 3) := by decide +kernel
theorem dX11_split_49 : decode cX11_split 49 = .ok (.aload_n 0, 1) := by decide +kernel
theorem dX11_split_50 : decode cX11_split 50 = .ok (.getfield 15, 3) := by decide +kernel
theorem dX11_split_53 : decode cX11_split 53 = .ok (.iload_n 1, 1) := by decide +kernel
theorem dX11_split_54 : decode cX11_split 54 = .ok (.bipush 10, 2) := by decide +kernel
theorem dX11_split_56 : decode cX11_split 56 = .ok (.imul, 1) := by decide +kernel
theorem dX11_split_57 : decode cX11_split 57 = .ok (.iload_n 3, 1) := by decide +kernel
theorem dX11_split_58 : decode cX11_split 58 = .ok (.iadd, 1) := by decide +kernel
theorem dX11_split_59 : decode cX11_split 59 = .ok (.aaload, 1) := by decide +kernel
theorem dX11_split_60 : decode cX11_split 60 = .ok (.astore 4, 2) := by decide +kernel
theorem dX11_split_62 : decode cX11_split 62 = .ok (.aload_n 0, 1) := by decide +kernel
theorem dX11_split_63 : decode cX11_split 63 = .ok (.getfield 15, 3) := by decide +kernel
theorem dX11_split_66 : decode cX11_split 66 = .ok (.iload_n 2, 1) := by decide +kernel
theorem dX11_split_67 : decode cX11_split 67 = .ok (.bipush 10, 2) := by decide +kernel
theorem dX11_split_69 : decode cX11_split 69 = .ok (.imul, 1) := by decide +kernel
theorem dX11_split_70 : decode cX11_split 70 = .ok (.iload_n 3, 1) := by decide +kernel
theorem dX11_split_71 : decode cX11_split 71 = .ok (.iadd, 1) := by decide +kernel
theorem dX11_split_72 : decode cX11_split 72 = .ok (.aaload, 1) := by decide +kernel
theorem dX11_split_73 : decode cX11_split 73 = .ok (.astore 5, 2) := by decide +kernel
theorem dX11_split_75 : decode cX11_split 75 = .ok (.aload 5, 2) := by decide +kernel
theorem dX11_split_77 : decode cX11_split 77 = .ok (.aload 4, 2) := by decide +kernel
theorem dX11_split_79 : decode cX11_split 79 = .ok (.invokevirtual 141, 3) := by decide +kernel
theorem dX11_split_82 : decode cX11_split 82 = .ok (.aload 5, 2) := by decide +kernel
theorem dX11_split_84 : decode cX11_split 84 = .ok (.aload 4, 2) := by decide +kernel
theorem dX11_split_86 : decode cX11_split 86 = .ok (.getfield 105, 3) := by decide +kernel
theorem dX11_split_89 : decode cX11_split 89 = .ok (.putfield 105, 3) := by decide +kernel
theorem dX11_split_92 : decode cX11_split 92 = .ok (.aload 5, 2) := by decide +kernel
theorem dX11_split_94 : decode cX11_split 94 = .ok (.aload 4, 2) := by decide +kernel
theorem dX11_split_96 : decode cX11_split 96 = .ok (.getfield 108, 3) := by decide +kernel
theorem dX11_split_99 : decode cX11_split 99 = .ok (.putfield 108, 3) := by decide +kernel
theorem dX11_split_102 : decode cX11_split 102 = .ok (.iinc 3 1, 3) := by decide +kernel
theorem dX11_split_105 : decode cX11_split 105 = .ok (.goto (-62), 3) := by decide +kernel
theorem dX11_split_108 : decode cX11_split 108 = .ok (.aload_n 0, 1) := by decide +kernel
theorem dX11_split_109 : decode cX11_split 109 = .ok (.new 151, 3) := by decide +kernel
theorem dX11_split_112 : decode cX11_split 112 = .ok (.dup, 1) := by decide +kernel
theorem dX11_split_113 : decode cX11_split 113 = .ok (.aload_n 0, 1) := by decide +kernel
theorem dX11_split_114 : decode cX11_split 114 = .ok (.getfield 91, 3) := by decide +kernel
theorem dX11_split_117 : decode cX11_split 117 = .ok (.aload_n 0, 1) := by decide +kernel
theorem dX11_split_118 : decode cX11_split 118 = .ok (.getfield 71, 3) := by decide +kernel
theorem dX11_split_121 : decode cX11_split 121 = .ok (.iload_n 2, 1) := by decide +kernel
theorem dX11_split_122 : decode cX11_split 122 = .ok (.bipush (-5), 2) := by decide +kernel
theorem dX11_split_124 : decode cX11_split 124 = .ok (.bipush (-5), 2) := by decide +kernel
theorem dX11_split_126 : decode cX11_split 126 = .ok (.invokespecial 153, 3) := by decide +kernel
theorem dX11_split_129 : decode cX11_split 129 = .ok (.invokevirtual 117, 3) := by decide +kernel
theorem dX11_split_132 : decode cX11_split 132 = .ok (.iload_n 2, 1) := by decide +kernel
theorem dX11_split_133 : decode cX11_split 133 = .ok (.ireturn, 1) := by decide +kernel
theorem dX11_word_0 : decode cX11_word 0 = .ok (.aload_n 0, 1) := by decide +kernel
theorem dX11_word_1 : decode cX11_word 1 = .ok (.iload_n 1, 1) := by decide +kernel
theorem dX11_word_2 : decode cX11_word 2 = .ok (.iload_n 2, 1) := by decide +kernel
theorem dX11_word_3 : decode cX11_word 3 = .ok (.invokevirtual 131, 3) := by decide +kernel
theorem dX11_word_6 : decode cX11_word 6 = .ok (.astore 4, 2) := by decide +kernel
theorem dX11_word_8 : decode cX11_word 8 = .ok (.aload 4, 2) := by decide +kernel
theorem dX11_word_10 : decode cX11_word 10 = .ok (.ifnull 17, 3) := by decide +kernel
theorem dX11_word_13 : decode cX11_word 13 = .ok (.iload_n 3, 1) := by decide +kernel
theorem dX11_word_14 : decode cX11_word 14 = .ok (.iconst (-1), 1) := by decide +kernel
theorem dX11_word_15 : decode cX11_word 15 = .ok (.if_icmp .lt 12, 3) := by decide +kernel
theorem dX11_word_18 : decode cX11_word 18 = .ok (.iload_n 3, 1) := by decide +kernel
theorem dX11_word_19 : decode cX11_word 19 = .ok (.aload 4, 2) := by decide +kernel
theorem dX11_word_21 : decode cX11_word 21 = .ok (.getfield 135, 3) := by decide +kernel
theorem dX11_word_24 : decode cX11_word 24 = .ok (.if_icmp .lt 5, 3) := by decide +kernel
theorem dX11_word_27 : decode cX11_word 27 = .ok (.iconst (-1), 1) := by decide +kernel
theorem dX11_word_28 : decode cX11_word 28 = .ok (.ireturn, 1) := by decide +kernel
theorem dX11_word_29 : decode cX11_word 29 = .ok (.iload_n 3, 1) := by decide +kernel
theorem dX11_word_30 : decode cX11_word 30 = .ok (.ifCond .ge 11, 3) := by decide +kernel
theorem dX11_word_33 : decode cX11_word 33 = .ok (.aload 4, 2) := by decide +kernel
theorem dX11_word_35 : decode cX11_word 35 = .ok (.getfield 135, 3) := by decide +kernel
theorem dX11_word_38 : decode cX11_word 38 = .ok (.goto 10, 3) := by decide +kernel
theorem dX11_word_41 : decode cX11_word 41 = .ok (.aload 4, 2) := by decide +kernel
theorem dX11_word_43 : decode cX11_word 43 = .ok (.getfield 154, 3) := by decide +kernel
theorem dX11_word_46 : decode cX11_word 46 = .ok (.iload_n 3, 1) := by decide +kernel
theorem dX11_word_47 : decode cX11_word 47 = .ok (.iaload, 1) := by decide +kernel
theorem dX11_word_48 : decode cX11_word 48 = .ok (.ireturn, 1) := by decide +kernel
theorem dX11_open_0 : decode cX11_open 0 = .ok (.aload_n 0, 1) := by decide +kernel
theorem dX11_open_1 : decode cX11_open 1 = .ok (.getfield 157, 3) := by decide +kernel
theorem dX11_open_4 : decode cX11_open 4 = .ok (.ifCond .eq 6, 3) := by decide +kernel
theorem dX11_open_7 : decode cX11_open 7 = .ok (.bipush (-3), 2) := by decide +kernel
theorem dX11_open_9 : decode cX11_open 9 = .ok (.ireturn, 1) := by decide +kernel
theorem dX11_open_10 : decode cX11_open 10 = .ok (.aload_n 0, 1) := by decide +kernel
theorem dX11_open_11 : decode cX11_open 11 = .ok (.iconst 1, 1) := by decide +kernel
theorem dX11_open_12 : decode cX11_open 12 = .ok (.putfield 157, 3) := by decide +kernel
theorem dX11_open_15 : decode cX11_open 15 = .ok (.aload_n 0, 1) := by decide +kernel
theorem dX11_open_16 : decode cX11_open 16 = .ok (.getfield 160, 3) := by decide +kernel
theorem dX11_open_19 : decode cX11_open 19 = .ok (.ireturn, 1) := by decide +kernel
theorem dX11_truth_0 : decode cX11_truth 0 = .ok (.aload_n 0, 1) := by decide +kernel
theorem dX11_truth_1 : decode cX11_truth 1 = .ok (.iload_n 1, 1) := by decide +kernel
theorem dX11_truth_2 : decode cX11_truth 2 = .ok (.iload_n 2, 1) := by decide +kernel
theorem dX11_truth_3 : decode cX11_truth 3 = .ok (.invokevirtual 131, 3) := by decide +kernel
theorem dX11_truth_6 : decode cX11_truth 6 = .ok (.astore 4, 2) := by decide +kernel
theorem dX11_truth_8 : decode cX11_truth 8 = .ok (.aload 4, 2) := by decide +kernel
theorem dX11_truth_10 : decode cX11_truth 10 = .ok (.ifnull 12, 3) := by decide +kernel
theorem dX11_truth_13 : decode cX11_truth 13 = .ok (.iload_n 3, 1) := by decide +kernel
theorem dX11_truth_14 : decode cX11_truth 14 = .ok (.ifCond .lt 8, 3) := by decide +kernel
theorem dX11_truth_17 : decode cX11_truth 17 = .ok (.iload_n 3, 1) := by decide +kernel
theorem dX11_truth_18 : decode cX11_truth 18 = .ok (.iconst 1, 1) := by decide +kernel
theorem dX11_truth_19 : decode cX11_truth 19 = .ok (.if_icmp .le 5, 3) := by decide +kernel
theorem dX11_truth_22 : decode cX11_truth 22 = .ok (.iconst (-1), 1) := by decide +kernel
theorem dX11_truth_23 : decode cX11_truth 23 = .ok (.ireturn, 1) := by decide +kernel
theorem dX11_truth_24 : decode cX11_truth 24 = .ok (.aload_n 0, 1) := by decide +kernel
theorem dX11_truth_25 : decode cX11_truth 25 = .ok (.getfield 157, 3) := by decide +kernel
theorem dX11_truth_28 : decode cX11_truth 28 = .ok (.ifCond .ne 6, 3) := by decide +kernel
theorem dX11_truth_31 : decode cX11_truth 31 = .ok (.bipush (-3), 2) := by decide +kernel
theorem dX11_truth_33 : decode cX11_truth 33 = .ok (.ireturn, 1) := by decide +kernel
theorem dX11_truth_34 : decode cX11_truth 34 = .ok (.iload_n 3, 1) := by decide +kernel
theorem dX11_truth_35 : decode cX11_truth 35 = .ok (.ifCond .ne 11, 3) := by decide +kernel
theorem dX11_truth_38 : decode cX11_truth 38 = .ok (.aload 4, 2) := by decide +kernel
theorem dX11_truth_40 : decode cX11_truth 40 = .ok (.getfield 105, 3) := by decide +kernel
theorem dX11_truth_43 : decode cX11_truth 43 = .ok (.goto 11, 3) := by decide +kernel
theorem dX11_truth_46 : decode cX11_truth 46 = .ok (.aload 4, 2) := by decide +kernel
theorem dX11_truth_48 : decode cX11_truth 48 = .ok (.getfield 108, 3) := by decide +kernel
theorem dX11_truth_51 : decode cX11_truth 51 = .ok (.invokestatic 163, 3) := by decide +kernel
theorem dX11_truth_54 : decode cX11_truth 54 = .ok (.ireturn, 1) := by decide +kernel
theorem dX11_from_0 : decode cX11_from 0 = .ok (.aload_n 0, 1) := by decide +kernel
theorem dX11_from_1 : decode cX11_from 1 = .ok (.iload_n 1, 1) := by decide +kernel
theorem dX11_from_2 : decode cX11_from 2 = .ok (.invokevirtual 84, 3) := by decide +kernel
theorem dX11_from_5 : decode cX11_from 5 = .ok (.ifCond .eq 12, 3) := by decide +kernel
theorem dX11_from_8 : decode cX11_from 8 = .ok (.iload_n 2, 1) := by decide +kernel
theorem dX11_from_9 : decode cX11_from 9 = .ok (.ifCond .lt 8, 3) := by decide +kernel
theorem dX11_from_12 : decode cX11_from 12 = .ok (.iload_n 2, 1) := by decide +kernel
theorem dX11_from_13 : decode cX11_from 13 = .ok (.iconst 1, 1) := by decide +kernel
theorem dX11_from_14 : decode cX11_from 14 = .ok (.if_icmp .le 5, 3) := by decide +kernel
theorem dX11_from_17 : decode cX11_from 17 = .ok (.iconst (-1), 1) := by decide +kernel
theorem dX11_from_18 : decode cX11_from 18 = .ok (.ireturn, 1) := by decide +kernel
theorem dX11_from_19 : decode cX11_from 19 = .ok (.aload_n 0, 1) := by decide +kernel
theorem dX11_from_20 : decode cX11_from 20 = .ok (.getfield 157, 3) := by decide +kernel
theorem dX11_from_23 : decode cX11_from 23 = .ok (.ifCond .ne 6, 3) := by decide +kernel
theorem dX11_from_26 : decode cX11_from 26 = .ok (.bipush (-3), 2) := by decide +kernel
theorem dX11_from_28 : decode cX11_from 28 = .ok (.ireturn, 1) := by decide +kernel
theorem dX11_from_29 : decode cX11_from 29 = .ok (.aload_n 0, 1) := by decide +kernel
theorem dX11_from_30 : decode cX11_from 30 = .ok (.getfield 19, 3) := by decide +kernel
theorem dX11_from_33 : decode cX11_from 33 = .ok (.iconst 2, 1) := by decide +kernel
theorem dX11_from_34 : decode cX11_from 34 = .ok (.iload_n 1, 1) := by decide +kernel
theorem dX11_from_35 : decode cX11_from 35 = .ok (.imul, 1) := by decide +kernel
theorem dX11_from_36 : decode cX11_from 36 = .ok (.iload_n 2, 1) := by decide +kernel
theorem dX11_from_37 : decode cX11_from 37 = .ok (.iadd, 1) := by decide +kernel
theorem dX11_from_38 : decode cX11_from 38 = .ok (.iaload, 1) := by decide +kernel
theorem dX11_from_39 : decode cX11_from 39 = .ok (.ireturn, 1) := by decide +kernel
theorem dX11_event_0 : decode cX11_event 0 = .ok (.aload_n 0, 1) := by decide +kernel
theorem dX11_event_1 : decode cX11_event 1 = .ok (.iload_n 1, 1) := by decide +kernel
theorem dX11_event_2 : decode cX11_event 2 = .ok (.invokevirtual 167, 3) := by decide +kernel
theorem dX11_event_5 : decode cX11_event 5 = .ok (.astore_n 3, 1) := by decide +kernel
theorem dX11_event_6 : decode cX11_event 6 = .ok (.aload_n 3, 1) := by decide +kernel
theorem dX11_event_7 : decode cX11_event 7 = .ok (.ifnull 12, 3) := by decide +kernel
theorem dX11_event_10 : decode cX11_event 10 = .ok (.iload_n 2, 1) := by decide +kernel
theorem dX11_event_11 : decode cX11_event 11 = .ok (.ifCond .lt 8, 3) := by decide +kernel
theorem dX11_event_14 : decode cX11_event 14 = .ok (.iload_n 2, 1) := by decide +kernel
theorem dX11_event_15 : decode cX11_event 15 = .ok (.iconst 4, 1) := by decide +kernel
theorem dX11_event_16 : decode cX11_event 16 = .ok (.if_icmp .le 5, 3) := by decide +kernel
theorem dX11_event_19 : decode cX11_event 19 = .ok (.iconst (-1), 1) := by decide +kernel
theorem dX11_event_20 : decode cX11_event 20 = .ok (.ireturn, 1) := by decide +kernel
theorem dX11_event_21 : decode cX11_event 21 = .ok (.aload_n 0, 1) := by decide +kernel
theorem dX11_event_22 : decode cX11_event 22 = .ok (.getfield 157, 3) := by decide +kernel
theorem dX11_event_25 : decode cX11_event 25 = .ok (.ifCond .ne 6, 3) := by decide +kernel
theorem dX11_event_28 : decode cX11_event 28 = .ok (.bipush (-3), 2) := by decide +kernel
theorem dX11_event_30 : decode cX11_event 30 = .ok (.ireturn, 1) := by decide +kernel
theorem dX11_event_31 : decode cX11_event 31 = .ok (.iload_n 2, 1) := by decide +kernel
theorem dX11_event_32 : decode cX11_event 32 = .ok (.tableswitch 52 0 3 #[32, 37, 42, 47], 32) := by decide +kernel
theorem dX11_event_64 : decode cX11_event 64 = .ok (.aload_n 3, 1) := by decide +kernel
theorem dX11_event_65 : decode cX11_event 65 = .ok (.invokevirtual 171, 3) := by decide +kernel
theorem dX11_event_68 : decode cX11_event 68 = .ok (.ireturn, 1) := by decide +kernel
theorem dX11_event_69 : decode cX11_event 69 = .ok (.aload_n 3, 1) := by decide +kernel
theorem dX11_event_70 : decode cX11_event 70 = .ok (.getfield 175, 3) := by decide +kernel
theorem dX11_event_73 : decode cX11_event 73 = .ok (.ireturn, 1) := by decide +kernel
theorem dX11_event_74 : decode cX11_event 74 = .ok (.aload_n 3, 1) := by decide +kernel
theorem dX11_event_75 : decode cX11_event 75 = .ok (.getfield 178, 3) := by decide +kernel
theorem dX11_event_78 : decode cX11_event 78 = .ok (.ireturn, 1) := by decide +kernel
theorem dX11_event_79 : decode cX11_event 79 = .ok (.aload_n 3, 1) := by decide +kernel
theorem dX11_event_80 : decode cX11_event 80 = .ok (.getfield 181, 3) := by decide +kernel
theorem dX11_event_83 : decode cX11_event 83 = .ok (.ireturn, 1) := by decide +kernel
theorem dX11_event_84 : decode cX11_event 84 = .ok (.aload_n 3, 1) := by decide +kernel
theorem dX11_event_85 : decode cX11_event 85 = .ok (.getfield 184, 3) := by decide +kernel
theorem dX11_event_88 : decode cX11_event 88 = .ok (.ireturn, 1) := by decide +kernel
theorem dX11_limit_0 : decode cX11_limit 0 = .ok (.iload_n 1, 1) := by decide +kernel
theorem dX11_limit_1 : decode cX11_limit 1 = .ok (.ifCond .lt 9, 3) := by decide +kernel
theorem dX11_limit_4 : decode cX11_limit 4 = .ok (.iload_n 1, 1) := by decide +kernel
theorem dX11_limit_5 : decode cX11_limit 5 = .ok (.bipush 60, 2) := by decide +kernel
theorem dX11_limit_7 : decode cX11_limit 7 = .ok (.if_icmp .le 6, 3) := by decide +kernel
theorem dX11_limit_10 : decode cX11_limit 10 = .ok (.bipush (-2), 2) := by decide +kernel
theorem dX11_limit_12 : decode cX11_limit 12 = .ok (.ireturn, 1) := by decide +kernel
theorem dX11_limit_13 : decode cX11_limit 13 = .ok (.aload_n 0, 1) := by decide +kernel
theorem dX11_limit_14 : decode cX11_limit 14 = .ok (.getfield 34, 3) := by decide +kernel
theorem dX11_limit_17 : decode cX11_limit 17 = .ok (.istore_n 2, 1) := by decide +kernel
theorem dX11_limit_18 : decode cX11_limit 18 = .ok (.aload_n 0, 1) := by decide +kernel
theorem dX11_limit_19 : decode cX11_limit 19 = .ok (.iload_n 1, 1) := by decide +kernel
theorem dX11_limit_20 : decode cX11_limit 20 = .ok (.putfield 34, 3) := by decide +kernel
theorem dX11_limit_23 : decode cX11_limit 23 = .ok (.iload_n 2, 1) := by decide +kernel
theorem dX11_limit_24 : decode cX11_limit 24 = .ok (.ireturn, 1) := by decide +kernel
theorem dX11_hole_0 : decode cX11_hole 0 = .ok (.aload_n 0, 1) := by decide +kernel
theorem dX11_hole_1 : decode cX11_hole 1 = .ok (.iload_n 1, 1) := by decide +kernel
theorem dX11_hole_2 : decode cX11_hole 2 = .ok (.invokevirtual 84, 3) := by decide +kernel
theorem dX11_hole_5 : decode cX11_hole 5 = .ok (.ifCond .eq 10, 3) := by decide +kernel
theorem dX11_hole_8 : decode cX11_hole 8 = .ok (.iload_n 2, 1) := by decide +kernel
theorem dX11_hole_9 : decode cX11_hole 9 = .ok (.invokestatic 88, 3) := by decide +kernel
theorem dX11_hole_12 : decode cX11_hole 12 = .ok (.ifCond .ne 5, 3) := by decide +kernel
theorem dX11_hole_15 : decode cX11_hole 15 = .ok (.iconst (-1), 1) := by decide +kernel
theorem dX11_hole_16 : decode cX11_hole 16 = .ok (.ireturn, 1) := by decide +kernel
theorem dX11_hole_17 : decode cX11_hole 17 = .ok (.aload_n 0, 1) := by decide +kernel
theorem dX11_hole_18 : decode cX11_hole 18 = .ok (.getfield 15, 3) := by decide +kernel
theorem dX11_hole_21 : decode cX11_hole 21 = .ok (.iload_n 1, 1) := by decide +kernel
theorem dX11_hole_22 : decode cX11_hole 22 = .ok (.bipush 10, 2) := by decide +kernel
theorem dX11_hole_24 : decode cX11_hole 24 = .ok (.imul, 1) := by decide +kernel
theorem dX11_hole_25 : decode cX11_hole 25 = .ok (.iload_n 2, 1) := by decide +kernel
theorem dX11_hole_26 : decode cX11_hole 26 = .ok (.iadd, 1) := by decide +kernel
theorem dX11_hole_27 : decode cX11_hole 27 = .ok (.aaload, 1) := by decide +kernel
theorem dX11_hole_28 : decode cX11_hole 28 = .ok (.astore 4, 2) := by decide +kernel
theorem dX11_hole_30 : decode cX11_hole 30 = .ok (.aload 4, 2) := by decide +kernel
theorem dX11_hole_32 : decode cX11_hole 32 = .ok (.getfield 187, 3) := by decide +kernel
theorem dX11_hole_35 : decode cX11_hole 35 = .ok (.istore 5, 2) := by decide +kernel
theorem dX11_hole_37 : decode cX11_hole 37 = .ok (.aload 4, 2) := by decide +kernel
theorem dX11_hole_39 : decode cX11_hole 39 = .ok (.iload_n 3, 1) := by decide +kernel
theorem dX11_hole_40 : decode cX11_hole 40 = .ok (.putfield 187, 3) := by decide +kernel
theorem dX11_hole_43 : decode cX11_hole 43 = .ok (.iload 5, 2) := by decide +kernel
theorem dX11_hole_45 : decode cX11_hole 45 = .ok (.invokestatic 163, 3) := by decide +kernel
theorem dX11_hole_48 : decode cX11_hole 48 = .ok (.ireturn, 1) := by decide +kernel
theorem dX11_cost_0 : decode cX11_cost 0 = .ok (.aload_n 0, 1) := by decide +kernel
theorem dX11_cost_1 : decode cX11_cost 1 = .ok (.iload_n 2, 1) := by decide +kernel
theorem dX11_cost_2 : decode cX11_cost 2 = .ok (.iload_n 1, 1) := by decide +kernel
theorem dX11_cost_3 : decode cX11_cost 3 = .ok (.invokevirtual 190, 3) := by decide +kernel
theorem dX11_cost_6 : decode cX11_cost 6 = .ok (.astore 4, 2) := by decide +kernel
theorem dX11_cost_8 : decode cX11_cost 8 = .ok (.aload_n 0, 1) := by decide +kernel
theorem dX11_cost_9 : decode cX11_cost 9 = .ok (.iload_n 3, 1) := by decide +kernel
theorem dX11_cost_10 : decode cX11_cost 10 = .ok (.iload_n 1, 1) := by decide +kernel
theorem dX11_cost_11 : decode cX11_cost 11 = .ok (.invokevirtual 190, 3) := by decide +kernel
theorem dX11_cost_14 : decode cX11_cost 14 = .ok (.astore 5, 2) := by decide +kernel
theorem dX11_cost_16 : decode cX11_cost 16 = .ok (.aload 4, 2) := by decide +kernel
theorem dX11_cost_18 : decode cX11_cost 18 = .ok (.ifnull 8, 3) := by decide +kernel
theorem dX11_cost_21 : decode cX11_cost 21 = .ok (.aload 5, 2) := by decide +kernel
theorem dX11_cost_23 : decode cX11_cost 23 = .ok (.ifnonnull 5, 3) := by decide +kernel
theorem dX11_cost_26 : decode cX11_cost 26 = .ok (.iconst (-1), 1) := by decide +kernel
theorem dX11_cost_27 : decode cX11_cost 27 = .ok (.ireturn, 1) := by decide +kernel
theorem dX11_cost_28 : decode cX11_cost 28 = .ok (.aload_n 0, 1) := by decide +kernel
theorem dX11_cost_29 : decode cX11_cost 29 = .ok (.getfield 44, 3) := by decide +kernel
theorem dX11_cost_32 : decode cX11_cost 32 = .ok (.aload 4, 2) := by decide +kernel
theorem dX11_cost_34 : decode cX11_cost 34 = .ok (.aload 5, 2) := by decide +kernel
theorem dX11_cost_36 : decode cX11_cost 36 = .ok (.invokevirtual 193, 3) := by decide +kernel
theorem dX11_cost_39 : decode cX11_cost 39 = .ok (.ireturn, 1) := by decide +kernel
theorem dX11_way_0 : decode cX11_way 0 = .ok (.aload_n 0, 1) := by decide +kernel
theorem dX11_way_1 : decode cX11_way 1 = .ok (.iload_n 2, 1) := by decide +kernel
theorem dX11_way_2 : decode cX11_way 2 = .ok (.iload_n 1, 1) := by decide +kernel
theorem dX11_way_3 : decode cX11_way 3 = .ok (.invokevirtual 190, 3) := by decide +kernel
theorem dX11_way_6 : decode cX11_way 6 = .ok (.astore 5, 2) := by decide +kernel
theorem dX11_way_8 : decode cX11_way 8 = .ok (.aload_n 0, 1) := by decide +kernel
theorem dX11_way_9 : decode cX11_way 9 = .ok (.iload_n 3, 1) := by decide +kernel
theorem dX11_way_10 : decode cX11_way 10 = .ok (.iload_n 1, 1) := by decide +kernel
theorem dX11_way_11 : decode cX11_way 11 = .ok (.invokevirtual 190, 3) := by decide +kernel
theorem dX11_way_14 : decode cX11_way 14 = .ok (.astore 6, 2) := by decide +kernel
theorem dX11_way_16 : decode cX11_way 16 = .ok (.aload 5, 2) := by decide +kernel
theorem dX11_way_18 : decode cX11_way 18 = .ok (.ifnull 14, 3) := by decide +kernel
theorem dX11_way_21 : decode cX11_way 21 = .ok (.aload 6, 2) := by decide +kernel
theorem dX11_way_23 : decode cX11_way 23 = .ok (.ifnull 9, 3) := by decide +kernel
theorem dX11_way_26 : decode cX11_way 26 = .ok (.iload 4, 2) := by decide +kernel
theorem dX11_way_28 : decode cX11_way 28 = .ok (.iconst (-1), 1) := by decide +kernel
theorem dX11_way_29 : decode cX11_way 29 = .ok (.if_icmp .ge 5, 3) := by decide +kernel
theorem dX11_way_32 : decode cX11_way 32 = .ok (.iconst (-1), 1) := by decide +kernel
theorem dX11_way_33 : decode cX11_way 33 = .ok (.ireturn, 1) := by decide +kernel
theorem dX11_way_34 : decode cX11_way 34 = .ok (.aload_n 0, 1) := by decide +kernel
theorem dX11_way_35 : decode cX11_way 35 = .ok (.getfield 44, 3) := by decide +kernel
theorem dX11_way_38 : decode cX11_way 38 = .ok (.aload 5, 2) := by decide +kernel
theorem dX11_way_40 : decode cX11_way 40 = .ok (.aload 6, 2) := by decide +kernel
theorem dX11_way_42 : decode cX11_way 42 = .ok (.invokevirtual 197, 3) := by decide +kernel
theorem dX11_way_45 : decode cX11_way 45 = .ok (.iload 4, 2) := by decide +kernel
theorem dX11_way_47 : decode cX11_way 47 = .ok (.aload_n 0, 1) := by decide +kernel
theorem dX11_way_48 : decode cX11_way 48 = .ok (.getfield 44, 3) := by decide +kernel
theorem dX11_way_51 : decode cX11_way 51 = .ok (.getfield 201, 3) := by decide +kernel
theorem dX11_way_54 : decode cX11_way 54 = .ok (.if_icmp .lt 5, 3) := by decide +kernel
theorem dX11_way_57 : decode cX11_way 57 = .ok (.iconst (-1), 1) := by decide +kernel
theorem dX11_way_58 : decode cX11_way 58 = .ok (.ireturn, 1) := by decide +kernel
theorem dX11_way_59 : decode cX11_way 59 = .ok (.iload 4, 2) := by decide +kernel
theorem dX11_way_61 : decode cX11_way 61 = .ok (.ifCond .ge 13, 3) := by decide +kernel
theorem dX11_way_64 : decode cX11_way 64 = .ok (.aload_n 0, 1) := by decide +kernel
theorem dX11_way_65 : decode cX11_way 65 = .ok (.getfield 44, 3) := by decide +kernel
theorem dX11_way_68 : decode cX11_way 68 = .ok (.getfield 201, 3) := by decide +kernel
theorem dX11_way_71 : decode cX11_way 71 = .ok (.goto 13, 3) := by decide +kernel
theorem dX11_way_74 : decode cX11_way 74 = .ok (.aload_n 0, 1) := by decide +kernel
theorem dX11_way_75 : decode cX11_way 75 = .ok (.getfield 44, 3) := by decide +kernel
theorem dX11_way_78 : decode cX11_way 78 = .ok (.getfield 204, 3) := by decide +kernel
theorem dX11_way_81 : decode cX11_way 81 = .ok (.iload 4, 2) := by decide +kernel
theorem dX11_way_83 : decode cX11_way 83 = .ok (.iaload, 1) := by decide +kernel
theorem dX11_way_84 : decode cX11_way 84 = .ok (.ireturn, 1) := by decide +kernel
theorem dX11_kin_0 : decode cX11_kin 0 = .ok (.aload_n 0, 1) := by decide +kernel
theorem dX11_kin_1 : decode cX11_kin 1 = .ok (.iload_n 2, 1) := by decide +kernel
theorem dX11_kin_2 : decode cX11_kin 2 = .ok (.iload_n 1, 1) := by decide +kernel
theorem dX11_kin_3 : decode cX11_kin 3 = .ok (.invokevirtual 190, 3) := by decide +kernel
theorem dX11_kin_6 : decode cX11_kin 6 = .ok (.astore 4, 2) := by decide +kernel
theorem dX11_kin_8 : decode cX11_kin 8 = .ok (.aload_n 0, 1) := by decide +kernel
theorem dX11_kin_9 : decode cX11_kin 9 = .ok (.iload_n 3, 1) := by decide +kernel
theorem dX11_kin_10 : decode cX11_kin 10 = .ok (.iload_n 1, 1) := by decide +kernel
theorem dX11_kin_11 : decode cX11_kin 11 = .ok (.invokevirtual 190, 3) := by decide +kernel
theorem dX11_kin_14 : decode cX11_kin 14 = .ok (.astore 5, 2) := by decide +kernel
theorem dX11_kin_16 : decode cX11_kin 16 = .ok (.aload 4, 2) := by decide +kernel
theorem dX11_kin_18 : decode cX11_kin 18 = .ok (.ifnull 8, 3) := by decide +kernel
theorem dX11_kin_21 : decode cX11_kin 21 = .ok (.aload 5, 2) := by decide +kernel
theorem dX11_kin_23 : decode cX11_kin 23 = .ok (.ifnonnull 5, 3) := by decide +kernel
theorem dX11_kin_26 : decode cX11_kin 26 = .ok (.iconst (-1), 1) := by decide +kernel
theorem dX11_kin_27 : decode cX11_kin 27 = .ok (.ireturn, 1) := by decide +kernel
theorem dX11_kin_28 : decode cX11_kin 28 = .ok (.iload_n 2, 1) := by decide +kernel
theorem dX11_kin_29 : decode cX11_kin 29 = .ok (.iload_n 3, 1) := by decide +kernel
theorem dX11_kin_30 : decode cX11_kin 30 = .ok (.if_icmp .ne 6, 3) := by decide +kernel
theorem dX11_kin_33 : decode cX11_kin 33 = .ok (.bipush (-2), 2) := by decide +kernel
theorem dX11_kin_35 : decode cX11_kin 35 = .ok (.ireturn, 1) := by decide +kernel
theorem dX11_kin_36 : decode cX11_kin 36 = .ok (.aload_n 0, 1) := by decide +kernel
theorem dX11_kin_37 : decode cX11_kin 37 = .ok (.aload 4, 2) := by decide +kernel
theorem dX11_kin_39 : decode cX11_kin 39 = .ok (.aload 5, 2) := by decide +kernel
theorem dX11_kin_41 : decode cX11_kin 41 = .ok (.invokevirtual 207, 3) := by decide +kernel
theorem dX11_kin_44 : decode cX11_kin 44 = .ok (.invokestatic 163, 3) := by decide +kernel
theorem dX11_kin_47 : decode cX11_kin 47 = .ok (.ireturn, 1) := by decide +kernel
theorem dX11_set_0 : decode cX11_set 0 = .ok (.aload_n 0, 1) := by decide +kernel
theorem dX11_set_1 : decode cX11_set 1 = .ok (.iload_n 2, 1) := by decide +kernel
theorem dX11_set_2 : decode cX11_set 2 = .ok (.iload_n 1, 1) := by decide +kernel
theorem dX11_set_3 : decode cX11_set 3 = .ok (.invokevirtual 190, 3) := by decide +kernel
theorem dX11_set_6 : decode cX11_set 6 = .ok (.ifnonnull 5, 3) := by decide +kernel
theorem dX11_set_9 : decode cX11_set 9 = .ok (.iconst (-1), 1) := by decide +kernel
theorem dX11_set_10 : decode cX11_set 10 = .ok (.ireturn, 1) := by decide +kernel
theorem dX11_set_11 : decode cX11_set 11 = .ok (.aload_n 0, 1) := by decide +kernel
theorem dX11_set_12 : decode cX11_set 12 = .ok (.iload_n 1, 1) := by decide +kernel
theorem dX11_set_13 : decode cX11_set 13 = .ok (.iload_n 2, 1) := by decide +kernel
theorem dX11_set_14 : decode cX11_set 14 = .ok (.invokevirtual 211, 3) := by decide +kernel
theorem dX11_set_17 : decode cX11_set 17 = .ok (.ireturn, 1) := by decide +kernel
theorem dX11_odds_0 : decode cX11_odds 0 = .ok (.aload_n 0, 1) := by decide +kernel
theorem dX11_odds_1 : decode cX11_odds 1 = .ok (.iload_n 2, 1) := by decide +kernel
theorem dX11_odds_2 : decode cX11_odds 2 = .ok (.iload_n 1, 1) := by decide +kernel
theorem dX11_odds_3 : decode cX11_odds 3 = .ok (.invokevirtual 190, 3) := by decide +kernel
theorem dX11_odds_6 : decode cX11_odds 6 = .ok (.astore 5, 2) := by decide +kernel
theorem dX11_odds_8 : decode cX11_odds 8 = .ok (.aload 5, 2) := by decide +kernel
theorem dX11_odds_10 : decode cX11_odds 10 = .ok (.ifnull 22, 3) := by decide +kernel
theorem dX11_odds_13 : decode cX11_odds 13 = .ok (.aload_n 0, 1) := by decide +kernel
theorem dX11_odds_14 : decode cX11_odds 14 = .ok (.iload_n 3, 1) := by decide +kernel
theorem dX11_odds_15 : decode cX11_odds 15 = .ok (.invokevirtual 84, 3) := by decide +kernel
theorem dX11_odds_18 : decode cX11_odds 18 = .ok (.ifCond .eq 14, 3) := by decide +kernel
theorem dX11_odds_21 : decode cX11_odds 21 = .ok (.iload 4, 2) := by decide +kernel
theorem dX11_odds_23 : decode cX11_odds 23 = .ok (.ifCond .lt 9, 3) := by decide +kernel
theorem dX11_odds_26 : decode cX11_odds 26 = .ok (.iload 4, 2) := by decide +kernel
theorem dX11_odds_28 : decode cX11_odds 28 = .ok (.iconst 1, 1) := by decide +kernel
theorem dX11_odds_29 : decode cX11_odds 29 = .ok (.if_icmp .le 5, 3) := by decide +kernel
theorem dX11_odds_32 : decode cX11_odds 32 = .ok (.iconst (-1), 1) := by decide +kernel
theorem dX11_odds_33 : decode cX11_odds 33 = .ok (.ireturn, 1) := by decide +kernel
theorem dX11_odds_34 : decode cX11_odds 34 = .ok (.iconst 0, 1) := by decide +kernel
theorem dX11_odds_35 : decode cX11_odds 35 = .ok (.istore 6, 2) := by decide +kernel
theorem dX11_odds_37 : decode cX11_odds 37 = .ok (.iconst 0, 1) := by decide +kernel
theorem dX11_odds_38 : decode cX11_odds 38 = .ok (.istore 7, 2) := by decide +kernel
theorem dX11_odds_40 : decode cX11_odds 40 = .ok (.iconst 0, 1) := by decide +kernel
theorem dX11_odds_41 : decode cX11_odds 41 = .ok (.istore 8, 2) := by decide +kernel
theorem dX11_odds_43 : decode cX11_odds 43 = .ok (.iload 8, 2) := by decide +kernel
theorem dX11_odds_45 : decode cX11_odds 45 = .ok (.bipush 10, 2) := by decide +kernel
theorem dX11_odds_47 : decode cX11_odds 47 = .ok (.if_icmp .ge 48, 3) := by decide +kernel
theorem dX11_odds_50 : decode cX11_odds 50 = .ok (.aload_n 0, 1) := by decide +kernel
theorem dX11_odds_51 : decode cX11_odds 51 = .ok (.iload_n 3, 1) := by decide +kernel
theorem dX11_odds_52 : decode cX11_odds 52 = .ok (.iload 8, 2) := by decide +kernel
theorem dX11_odds_54 : decode cX11_odds 54 = .ok (.invokevirtual 190, 3) := by decide +kernel
theorem dX11_odds_57 : decode cX11_odds 57 = .ok (.astore 9, 2) := by decide +kernel
theorem dX11_odds_59 : decode cX11_odds 59 = .ok (.iload 8, 2) := by decide +kernel
theorem dX11_odds_61 : decode cX11_odds 61 = .ok (.iload_n 1, 1) := by decide +kernel
theorem dX11_odds_62 : decode cX11_odds 62 = .ok (.if_icmp .eq 27, 3) := by decide +kernel
theorem dX11_odds_65 : decode cX11_odds 65 = .ok (.aload 9, 2) := by decide +kernel
theorem dX11_odds_67 : decode cX11_odds 67 = .ok (.ifnull 22, 3) := by decide +kernel
theorem dX11_odds_70 : decode cX11_odds 70 = .ok (.iinc 7 1, 3) := by decide +kernel
theorem dX11_odds_73 : decode cX11_odds 73 = .ok (.iload 6, 2) := by decide +kernel
theorem dX11_odds_75 : decode cX11_odds 75 = .ok (.aload_n 0, 1) := by decide +kernel
theorem dX11_odds_76 : decode cX11_odds 76 = .ok (.aload 5, 2) := by decide +kernel
theorem dX11_odds_78 : decode cX11_odds 78 = .ok (.aload 9, 2) := by decide +kernel
theorem dX11_odds_80 : decode cX11_odds 80 = .ok (.invokevirtual 207, 3) := by decide +kernel
theorem dX11_odds_83 : decode cX11_odds 83 = .ok (.invokestatic 163, 3) := by decide +kernel
theorem dX11_odds_86 : decode cX11_odds 86 = .ok (.iadd, 1) := by decide +kernel
theorem dX11_odds_87 : decode cX11_odds 87 = .ok (.istore 6, 2) := by decide +kernel
theorem dX11_odds_89 : decode cX11_odds 89 = .ok (.iinc 8 1, 3) := by decide +kernel
theorem dX11_odds_92 : decode cX11_odds 92 = .ok (.goto (-49), 3) := by decide +kernel
theorem dX11_odds_95 : decode cX11_odds 95 = .ok (.iload 4, 2) := by decide +kernel
theorem dX11_odds_97 : decode cX11_odds 97 = .ok (.ifCond .ne 8, 3) := by decide +kernel
theorem dX11_odds_100 : decode cX11_odds 100 = .ok (.iload 6, 2) := by decide +kernel
theorem dX11_odds_102 : decode cX11_odds 102 = .ok (.goto 5, 3) := by decide +kernel
theorem dX11_odds_105 : decode cX11_odds 105 = .ok (.iload 7, 2) := by decide +kernel
theorem dX11_odds_107 : decode cX11_odds 107 = .ok (.ireturn, 1) := by decide +kernel
theorem dX11_matches_0 : decode cX11_matches 0 = .ok (.aload_n 0, 1) := by decide +kernel
theorem dX11_matches_1 : decode cX11_matches 1 = .ok (.iload_n 1, 1) := by decide +kernel
theorem dX11_matches_2 : decode cX11_matches 2 = .ok (.invokevirtual 84, 3) := by decide +kernel
theorem dX11_matches_5 : decode cX11_matches 5 = .ok (.ifCond .eq 11, 3) := by decide +kernel
theorem dX11_matches_8 : decode cX11_matches 8 = .ok (.aload_n 0, 1) := by decide +kernel
theorem dX11_matches_9 : decode cX11_matches 9 = .ok (.iload_n 2, 1) := by decide +kernel
theorem dX11_matches_10 : decode cX11_matches 10 = .ok (.invokevirtual 84, 3) := by decide +kernel
theorem dX11_matches_13 : decode cX11_matches 13 = .ok (.ifCond .ne 5, 3) := by decide +kernel
theorem dX11_matches_16 : decode cX11_matches 16 = .ok (.iconst (-1), 1) := by decide +kernel
theorem dX11_matches_17 : decode cX11_matches 17 = .ok (.ireturn, 1) := by decide +kernel
theorem dX11_matches_18 : decode cX11_matches 18 = .ok (.iload_n 1, 1) := by decide +kernel
theorem dX11_matches_19 : decode cX11_matches 19 = .ok (.iload_n 2, 1) := by decide +kernel
theorem dX11_matches_20 : decode cX11_matches 20 = .ok (.if_icmp .eq 25, 3) := by decide +kernel
theorem dX11_matches_23 : decode cX11_matches 23 = .ok (.iload_n 3, 1) := by decide +kernel
theorem dX11_matches_24 : decode cX11_matches 24 = .ok (.invokestatic 214, 3) := by decide +kernel
theorem dX11_matches_27 : decode cX11_matches 27 = .ok (.ifCond .eq 18, 3) := by decide +kernel
theorem dX11_matches_30 : decode cX11_matches 30 = .ok (.iload 4, 2) := by decide +kernel
theorem dX11_matches_32 : decode cX11_matches 32 = .ok (.invokestatic 214, 3) := by decide +kernel
theorem dX11_matches_35 : decode cX11_matches 35 = .ok (.ifCond .eq 10, 3) := by decide +kernel
theorem dX11_matches_38 : decode cX11_matches 38 = .ok (.iload_n 3, 1) := by decide +kernel
theorem dX11_matches_39 : decode cX11_matches 39 = .ok (.iload 4, 2) := by decide +kernel
theorem dX11_matches_41 : decode cX11_matches 41 = .ok (.iadd, 1) := by decide +kernel
theorem dX11_matches_42 : decode cX11_matches 42 = .ok (.ifCond .ne 6, 3) := by decide +kernel
theorem dX11_matches_45 : decode cX11_matches 45 = .ok (.bipush (-2), 2) := by decide +kernel
theorem dX11_matches_47 : decode cX11_matches 47 = .ok (.ireturn, 1) := by decide +kernel
theorem dX11_matches_48 : decode cX11_matches 48 = .ok (.iconst 0, 1) := by decide +kernel
theorem dX11_matches_49 : decode cX11_matches 49 = .ok (.istore 5, 2) := by decide +kernel
theorem dX11_matches_51 : decode cX11_matches 51 = .ok (.iconst 0, 1) := by decide +kernel
theorem dX11_matches_52 : decode cX11_matches 52 = .ok (.istore 6, 2) := by decide +kernel
theorem dX11_matches_54 : decode cX11_matches 54 = .ok (.iload 6, 2) := by decide +kernel
theorem dX11_matches_56 : decode cX11_matches 56 = .ok (.bipush 10, 2) := by decide +kernel
theorem dX11_matches_58 : decode cX11_matches 58 = .ok (.if_icmp .ge 81, 3) := by decide +kernel
theorem dX11_matches_61 : decode cX11_matches 61 = .ok (.aload_n 0, 1) := by decide +kernel
theorem dX11_matches_62 : decode cX11_matches 62 = .ok (.iload_n 1, 1) := by decide +kernel
theorem dX11_matches_63 : decode cX11_matches 63 = .ok (.iload 6, 2) := by decide +kernel
theorem dX11_matches_65 : decode cX11_matches 65 = .ok (.invokevirtual 190, 3) := by decide +kernel
theorem dX11_matches_68 : decode cX11_matches 68 = .ok (.astore 7, 2) := by decide +kernel
theorem dX11_matches_70 : decode cX11_matches 70 = .ok (.aload_n 0, 1) := by decide +kernel
theorem dX11_matches_71 : decode cX11_matches 71 = .ok (.iload_n 2, 1) := by decide +kernel
theorem dX11_matches_72 : decode cX11_matches 72 = .ok (.iload 6, 2) := by decide +kernel
theorem dX11_matches_74 : decode cX11_matches 74 = .ok (.invokevirtual 190, 3) := by decide +kernel
theorem dX11_matches_77 : decode cX11_matches 77 = .ok (.astore 8, 2) := by decide +kernel
theorem dX11_matches_79 : decode cX11_matches 79 = .ok (.aload 7, 2) := by decide +kernel
theorem dX11_matches_81 : decode cX11_matches 81 = .ok (.ifnull 52, 3) := by decide +kernel
theorem dX11_matches_84 : decode cX11_matches 84 = .ok (.aload 8, 2) := by decide +kernel
theorem dX11_matches_86 : decode cX11_matches 86 = .ok (.ifnull 47, 3) := by decide +kernel
theorem dX11_matches_89 : decode cX11_matches 89 = .ok (.aload_n 0, 1) := by decide +kernel
theorem dX11_matches_90 : decode cX11_matches 90 = .ok (.aload 7, 2) := by decide +kernel
theorem dX11_matches_92 : decode cX11_matches 92 = .ok (.aload 8, 2) := by decide +kernel
theorem dX11_matches_94 : decode cX11_matches 94 = .ok (.invokevirtual 207, 3) := by decide +kernel
theorem dX11_matches_97 : decode cX11_matches 97 = .ok (.ifCond .eq 36, 3) := by decide +kernel
theorem dX11_matches_100 : decode cX11_matches 100 = .ok (.aload_n 0, 1) := by decide +kernel
theorem dX11_matches_101 : decode cX11_matches 101 = .ok (.getfield 44, 3) := by decide +kernel
theorem dX11_matches_104 : decode cX11_matches 104 = .ok (.aload 7, 2) := by decide +kernel
theorem dX11_matches_106 : decode cX11_matches 106 = .ok (.aload 8, 2) := by decide +kernel
theorem dX11_matches_108 : decode cX11_matches 108 = .ok (.invokevirtual 197, 3) := by decide +kernel
theorem dX11_matches_111 : decode cX11_matches 111 = .ok (.iload 5, 2) := by decide +kernel
theorem dX11_matches_113 : decode cX11_matches 113 = .ok (.aload_n 0, 1) := by decide +kernel
theorem dX11_matches_114 : decode cX11_matches 114 = .ok (.getfield 44, 3) := by decide +kernel
theorem dX11_matches_117 : decode cX11_matches 117 = .ok (.bipush 100, 2) := by decide +kernel
theorem dX11_matches_119 : decode cX11_matches 119 = .ok (.iload_n 3, 1) := by decide +kernel
theorem dX11_matches_120 : decode cX11_matches 120 = .ok (.imul, 1) := by decide +kernel
theorem dX11_matches_121 : decode cX11_matches 121 = .ok (.iload 4, 2) := by decide +kernel
theorem dX11_matches_123 : decode cX11_matches 123 = .ok (.iadd, 1) := by decide +kernel
theorem dX11_matches_124 : decode cX11_matches 124 = .ok (.invokevirtual 217, 3) := by decide +kernel
theorem dX11_matches_127 : decode cX11_matches 127 = .ok (.invokestatic 163, 3) := by decide +kernel
theorem dX11_matches_130 : decode cX11_matches 130 = .ok (.iadd, 1) := by decide +kernel
theorem dX11_matches_131 : decode cX11_matches 131 = .ok (.istore 5, 2) := by decide +kernel
theorem dX11_matches_133 : decode cX11_matches 133 = .ok (.iinc 6 1, 3) := by decide +kernel
theorem dX11_matches_136 : decode cX11_matches 136 = .ok (.goto (-82), 3) := by decide +kernel
theorem dX11_matches_139 : decode cX11_matches 139 = .ok (.iload 5, 2) := by decide +kernel
theorem dX11_matches_141 : decode cX11_matches 141 = .ok (.ireturn, 1) := by decide +kernel
theorem dX11_far_0 : decode cX11_far 0 = .ok (.aload_n 0, 1) := by decide +kernel
theorem dX11_far_1 : decode cX11_far 1 = .ok (.iload_n 1, 1) := by decide +kernel
theorem dX11_far_2 : decode cX11_far 2 = .ok (.invokevirtual 84, 3) := by decide +kernel
theorem dX11_far_5 : decode cX11_far 5 = .ok (.ifCond .eq 20, 3) := by decide +kernel
theorem dX11_far_8 : decode cX11_far 8 = .ok (.aload_n 0, 1) := by decide +kernel
theorem dX11_far_9 : decode cX11_far 9 = .ok (.iload_n 2, 1) := by decide +kernel
theorem dX11_far_10 : decode cX11_far 10 = .ok (.invokevirtual 84, 3) := by decide +kernel
theorem dX11_far_13 : decode cX11_far 13 = .ok (.ifCond .eq 12, 3) := by decide +kernel
theorem dX11_far_16 : decode cX11_far 16 = .ok (.iload_n 3, 1) := by decide +kernel
theorem dX11_far_17 : decode cX11_far 17 = .ok (.ifCond .lt 8, 3) := by decide +kernel
theorem dX11_far_20 : decode cX11_far 20 = .ok (.iload_n 3, 1) := by decide +kernel
theorem dX11_far_21 : decode cX11_far 21 = .ok (.iconst 1, 1) := by decide +kernel
theorem dX11_far_22 : decode cX11_far 22 = .ok (.if_icmp .le 5, 3) := by decide +kernel
theorem dX11_far_25 : decode cX11_far 25 = .ok (.iconst (-1), 1) := by decide +kernel
theorem dX11_far_26 : decode cX11_far 26 = .ok (.ireturn, 1) := by decide +kernel
theorem dX11_far_27 : decode cX11_far 27 = .ok (.iload_n 1, 1) := by decide +kernel
theorem dX11_far_28 : decode cX11_far 28 = .ok (.iload_n 2, 1) := by decide +kernel
theorem dX11_far_29 : decode cX11_far 29 = .ok (.if_icmp .ne 6, 3) := by decide +kernel
theorem dX11_far_32 : decode cX11_far 32 = .ok (.bipush (-2), 2) := by decide +kernel
theorem dX11_far_34 : decode cX11_far 34 = .ok (.ireturn, 1) := by decide +kernel
theorem dX11_far_35 : decode cX11_far 35 = .ok (.aload_n 0, 1) := by decide +kernel
theorem dX11_far_36 : decode cX11_far 36 = .ok (.iload_n 1, 1) := by decide +kernel
theorem dX11_far_37 : decode cX11_far 37 = .ok (.iload_n 2, 1) := by decide +kernel
theorem dX11_far_38 : decode cX11_far 38 = .ok (.invokevirtual 220, 3) := by decide +kernel
theorem dX11_far_41 : decode cX11_far 41 = .ok (.istore 4, 2) := by decide +kernel
theorem dX11_far_43 : decode cX11_far 43 = .ok (.iload_n 3, 1) := by decide +kernel
theorem dX11_far_44 : decode cX11_far 44 = .ok (.ifCond .ne 14, 3) := by decide +kernel
theorem dX11_far_47 : decode cX11_far 47 = .ok (.aload_n 0, 1) := by decide +kernel
theorem dX11_far_48 : decode cX11_far 48 = .ok (.iload_n 1, 1) := by decide +kernel
theorem dX11_far_49 : decode cX11_far 49 = .ok (.iload_n 2, 1) := by decide +kernel
theorem dX11_far_50 : decode cX11_far 50 = .ok (.iload 4, 2) := by decide +kernel
theorem dX11_far_52 : decode cX11_far 52 = .ok (.invokevirtual 223, 3) := by decide +kernel
theorem dX11_far_55 : decode cX11_far 55 = .ok (.goto 8, 3) := by decide +kernel
theorem dX11_far_58 : decode cX11_far 58 = .ok (.iload 4, 2) := by decide +kernel
theorem dX11_far_60 : decode cX11_far 60 = .ok (.invokestatic 227, 3) := by decide +kernel
theorem dX11_far_63 : decode cX11_far 63 = .ok (.ireturn, 1) := by decide +kernel
theorem dX11_borrowed_0 : decode cX11_borrowed 0 = .ok (.aload_n 0, 1) := by decide +kernel
theorem dX11_borrowed_1 : decode cX11_borrowed 1 = .ok (.iload_n 2, 1) := by decide +kernel
theorem dX11_borrowed_2 : decode cX11_borrowed 2 = .ok (.iload_n 1, 1) := by decide +kernel
theorem dX11_borrowed_3 : decode cX11_borrowed 3 = .ok (.invokevirtual 190, 3) := by decide +kernel
theorem dX11_borrowed_6 : decode cX11_borrowed 6 = .ok (.astore 4, 2) := by decide +kernel
theorem dX11_borrowed_8 : decode cX11_borrowed 8 = .ok (.aload_n 0, 1) := by decide +kernel
theorem dX11_borrowed_9 : decode cX11_borrowed 9 = .ok (.iload_n 3, 1) := by decide +kernel
theorem dX11_borrowed_10 : decode cX11_borrowed 10 = .ok (.iload_n 1, 1) := by decide +kernel
theorem dX11_borrowed_11 : decode cX11_borrowed 11 = .ok (.invokevirtual 190, 3) := by decide +kernel
theorem dX11_borrowed_14 : decode cX11_borrowed 14 = .ok (.astore 5, 2) := by decide +kernel
theorem dX11_borrowed_16 : decode cX11_borrowed 16 = .ok (.aload 4, 2) := by decide +kernel
theorem dX11_borrowed_18 : decode cX11_borrowed 18 = .ok (.ifnull 8, 3) := by decide +kernel
theorem dX11_borrowed_21 : decode cX11_borrowed 21 = .ok (.aload 5, 2) := by decide +kernel
theorem dX11_borrowed_23 : decode cX11_borrowed 23 = .ok (.ifnonnull 5, 3) := by decide +kernel
theorem dX11_borrowed_26 : decode cX11_borrowed 26 = .ok (.iconst (-1), 1) := by decide +kernel
theorem dX11_borrowed_27 : decode cX11_borrowed 27 = .ok (.ireturn, 1) := by decide +kernel
theorem dX11_borrowed_28 : decode cX11_borrowed 28 = .ok (.iload_n 2, 1) := by decide +kernel
theorem dX11_borrowed_29 : decode cX11_borrowed 29 = .ok (.iload_n 3, 1) := by decide +kernel
theorem dX11_borrowed_30 : decode cX11_borrowed 30 = .ok (.if_icmp .ne 6, 3) := by decide +kernel
theorem dX11_borrowed_33 : decode cX11_borrowed 33 = .ok (.bipush (-2), 2) := by decide +kernel
theorem dX11_borrowed_35 : decode cX11_borrowed 35 = .ok (.ireturn, 1) := by decide +kernel
theorem dX11_borrowed_36 : decode cX11_borrowed 36 = .ok (.aload_n 0, 1) := by decide +kernel
theorem dX11_borrowed_37 : decode cX11_borrowed 37 = .ok (.getfield 44, 3) := by decide +kernel
theorem dX11_borrowed_40 : decode cX11_borrowed 40 = .ok (.aload 4, 2) := by decide +kernel
theorem dX11_borrowed_42 : decode cX11_borrowed 42 = .ok (.aload 5, 2) := by decide +kernel
theorem dX11_borrowed_44 : decode cX11_borrowed 44 = .ok (.invokevirtual 193, 3) := by decide +kernel
theorem dX11_borrowed_47 : decode cX11_borrowed 47 = .ok (.ifCond .eq 5, 3) := by decide +kernel
theorem dX11_borrowed_50 : decode cX11_borrowed 50 = .ok (.iconst 0, 1) := by decide +kernel
theorem dX11_borrowed_51 : decode cX11_borrowed 51 = .ok (.ireturn, 1) := by decide +kernel
theorem dX11_borrowed_52 : decode cX11_borrowed 52 = .ok (.aload_n 0, 1) := by decide +kernel
theorem dX11_borrowed_53 : decode cX11_borrowed 53 = .ok (.iload_n 2, 1) := by decide +kernel
theorem dX11_borrowed_54 : decode cX11_borrowed 54 = .ok (.iload_n 3, 1) := by decide +kernel
theorem dX11_borrowed_55 : decode cX11_borrowed 55 = .ok (.invokevirtual 220, 3) := by decide +kernel
theorem dX11_borrowed_58 : decode cX11_borrowed 58 = .ok (.iconst 1, 1) := by decide +kernel
theorem dX11_borrowed_59 : decode cX11_borrowed 59 = .ok (.iload_n 1, 1) := by decide +kernel
theorem dX11_borrowed_60 : decode cX11_borrowed 60 = .ok (.ishl, 1) := by decide +kernel
theorem dX11_borrowed_61 : decode cX11_borrowed 61 = .ok (.iconst (-1), 1) := by decide +kernel
theorem dX11_borrowed_62 : decode cX11_borrowed 62 = .ok (.ixor, 1) := by decide +kernel
theorem dX11_borrowed_63 : decode cX11_borrowed 63 = .ok (.iand, 1) := by decide +kernel
theorem dX11_borrowed_64 : decode cX11_borrowed 64 = .ok (.istore 6, 2) := by decide +kernel
theorem dX11_borrowed_66 : decode cX11_borrowed 66 = .ok (.iload 6, 2) := by decide +kernel
theorem dX11_borrowed_68 : decode cX11_borrowed 68 = .ok (.invokestatic 227, 3) := by decide +kernel
theorem dX11_borrowed_71 : decode cX11_borrowed 71 = .ok (.istore 7, 2) := by decide +kernel
theorem dX11_borrowed_73 : decode cX11_borrowed 73 = .ok (.iload 7, 2) := by decide +kernel
theorem dX11_borrowed_75 : decode cX11_borrowed 75 = .ok (.iconst 2, 1) := by decide +kernel
theorem dX11_borrowed_76 : decode cX11_borrowed 76 = .ok (.if_icmp .lt 22, 3) := by decide +kernel
theorem dX11_borrowed_79 : decode cX11_borrowed 79 = .ok (.aload_n 0, 1) := by decide +kernel
theorem dX11_borrowed_80 : decode cX11_borrowed 80 = .ok (.iload_n 2, 1) := by decide +kernel
theorem dX11_borrowed_81 : decode cX11_borrowed 81 = .ok (.iload_n 3, 1) := by decide +kernel
theorem dX11_borrowed_82 : decode cX11_borrowed 82 = .ok (.iload 6, 2) := by decide +kernel
theorem dX11_borrowed_84 : decode cX11_borrowed 84 = .ok (.invokevirtual 223, 3) := by decide +kernel
theorem dX11_borrowed_87 : decode cX11_borrowed 87 = .ok (.iconst 2, 1) := by decide +kernel
theorem dX11_borrowed_88 : decode cX11_borrowed 88 = .ok (.iload 7, 2) := by decide +kernel
theorem dX11_borrowed_90 : decode cX11_borrowed 90 = .ok (.imul, 1) := by decide +kernel
theorem dX11_borrowed_91 : decode cX11_borrowed 91 = .ok (.if_icmp .le 7, 3) := by decide +kernel
theorem dX11_borrowed_94 : decode cX11_borrowed 94 = .ok (.iconst 1, 1) := by decide +kernel
theorem dX11_borrowed_95 : decode cX11_borrowed 95 = .ok (.goto 4, 3) := by decide +kernel
theorem dX11_borrowed_98 : decode cX11_borrowed 98 = .ok (.iconst 0, 1) := by decide +kernel
theorem dX11_borrowed_99 : decode cX11_borrowed 99 = .ok (.invokestatic 163, 3) := by decide +kernel
theorem dX11_borrowed_102 : decode cX11_borrowed 102 = .ok (.ireturn, 1) := by decide +kernel
theorem dX11_old_0 : decode cX11_old 0 = .ok (.iload_n 1, 1) := by decide +kernel
theorem dX11_old_1 : decode cX11_old 1 = .ok (.invokestatic 88, 3) := by decide +kernel
theorem dX11_old_4 : decode cX11_old 4 = .ok (.ifCond .eq 12, 3) := by decide +kernel
theorem dX11_old_7 : decode cX11_old 7 = .ok (.iload_n 2, 1) := by decide +kernel
theorem dX11_old_8 : decode cX11_old 8 = .ok (.ifCond .lt 8, 3) := by decide +kernel
theorem dX11_old_11 : decode cX11_old 11 = .ok (.iload_n 2, 1) := by decide +kernel
theorem dX11_old_12 : decode cX11_old 12 = .ok (.iconst 2, 1) := by decide +kernel
theorem dX11_old_13 : decode cX11_old 13 = .ok (.if_icmp .le 5, 3) := by decide +kernel
theorem dX11_old_16 : decode cX11_old 16 = .ok (.iconst (-1), 1) := by decide +kernel
theorem dX11_old_17 : decode cX11_old 17 = .ok (.ireturn, 1) := by decide +kernel
theorem dX11_old_18 : decode cX11_old 18 = .ok (.bipush (-5), 2) := by decide +kernel
theorem dX11_old_20 : decode cX11_old 20 = .ok (.istore_n 3, 1) := by decide +kernel
theorem dX11_old_21 : decode cX11_old 21 = .ok (.iconst 0, 1) := by decide +kernel
theorem dX11_old_22 : decode cX11_old 22 = .ok (.istore 4, 2) := by decide +kernel
theorem dX11_old_24 : decode cX11_old 24 = .ok (.iconst 0, 1) := by decide +kernel
theorem dX11_old_25 : decode cX11_old 25 = .ok (.istore 5, 2) := by decide +kernel
theorem dX11_old_27 : decode cX11_old 27 = .ok (.iconst 0, 1) := by decide +kernel
theorem dX11_old_28 : decode cX11_old 28 = .ok (.istore 6, 2) := by decide +kernel
theorem dX11_old_30 : decode cX11_old 30 = .ok (.iload 6, 2) := by decide +kernel
theorem dX11_old_32 : decode cX11_old 32 = .ok (.aload_n 0, 1) := by decide +kernel
theorem dX11_old_33 : decode cX11_old 33 = .ok (.getfield 64, 3) := by decide +kernel
theorem dX11_old_36 : decode cX11_old 36 = .ok (.if_icmp .ge 69, 3) := by decide +kernel
theorem dX11_old_39 : decode cX11_old 39 = .ok (.aload_n 0, 1) := by decide +kernel
theorem dX11_old_40 : decode cX11_old 40 = .ok (.iload 6, 2) := by decide +kernel
theorem dX11_old_42 : decode cX11_old 42 = .ok (.iload_n 1, 1) := by decide +kernel
theorem dX11_old_43 : decode cX11_old 43 = .ok (.invokevirtual 190, 3) := by decide +kernel
theorem dX11_old_46 : decode cX11_old 46 = .ok (.ifnull 53, 3) := by decide +kernel
theorem dX11_old_49 : decode cX11_old 49 = .ok (.aload_n 0, 1) := by decide +kernel
theorem dX11_old_50 : decode cX11_old 50 = .ok (.iload 6, 2) := by decide +kernel
theorem dX11_old_52 : decode cX11_old 52 = .ok (.iload_n 1, 1) := by decide +kernel
theorem dX11_old_53 : decode cX11_old 53 = .ok (.invokevirtual 232, 3) := by decide +kernel
theorem dX11_old_56 : decode cX11_old 56 = .ok (.istore 7, 2) := by decide +kernel
theorem dX11_old_58 : decode cX11_old 58 = .ok (.iload_n 3, 1) := by decide +kernel
theorem dX11_old_59 : decode cX11_old 59 = .ok (.ifCond .lt 10, 3) := by decide +kernel
theorem dX11_old_62 : decode cX11_old 62 = .ok (.iload 7, 2) := by decide +kernel
theorem dX11_old_64 : decode cX11_old 64 = .ok (.iload 4, 2) := by decide +kernel
theorem dX11_old_66 : decode cX11_old 66 = .ok (.if_icmp .ge 13, 3) := by decide +kernel
theorem dX11_old_69 : decode cX11_old 69 = .ok (.iload 6, 2) := by decide +kernel
theorem dX11_old_71 : decode cX11_old 71 = .ok (.istore_n 3, 1) := by decide +kernel
theorem dX11_old_72 : decode cX11_old 72 = .ok (.iload 7, 2) := by decide +kernel
theorem dX11_old_74 : decode cX11_old 74 = .ok (.istore 4, 2) := by decide +kernel
theorem dX11_old_76 : decode cX11_old 76 = .ok (.iconst 0, 1) := by decide +kernel
theorem dX11_old_77 : decode cX11_old 77 = .ok (.istore 5, 2) := by decide +kernel
theorem dX11_old_79 : decode cX11_old 79 = .ok (.iload 5, 2) := by decide +kernel
theorem dX11_old_81 : decode cX11_old 81 = .ok (.iload 7, 2) := by decide +kernel
theorem dX11_old_83 : decode cX11_old 83 = .ok (.iload 4, 2) := by decide +kernel
theorem dX11_old_85 : decode cX11_old 85 = .ok (.if_icmp .ne 7, 3) := by decide +kernel
theorem dX11_old_88 : decode cX11_old 88 = .ok (.iconst 1, 1) := by decide +kernel
theorem dX11_old_89 : decode cX11_old 89 = .ok (.goto 4, 3) := by decide +kernel
theorem dX11_old_92 : decode cX11_old 92 = .ok (.iconst 0, 1) := by decide +kernel
theorem dX11_old_93 : decode cX11_old 93 = .ok (.invokestatic 163, 3) := by decide +kernel
theorem dX11_old_96 : decode cX11_old 96 = .ok (.iadd, 1) := by decide +kernel
theorem dX11_old_97 : decode cX11_old 97 = .ok (.istore 5, 2) := by decide +kernel
theorem dX11_old_99 : decode cX11_old 99 = .ok (.iinc 6 1, 3) := by decide +kernel
theorem dX11_old_102 : decode cX11_old 102 = .ok (.goto (-72), 3) := by decide +kernel
theorem dX11_old_105 : decode cX11_old 105 = .ok (.iload_n 3, 1) := by decide +kernel
theorem dX11_old_106 : decode cX11_old 106 = .ok (.ifCond .ge 6, 3) := by decide +kernel
theorem dX11_old_109 : decode cX11_old 109 = .ok (.bipush (-5), 2) := by decide +kernel
theorem dX11_old_111 : decode cX11_old 111 = .ok (.ireturn, 1) := by decide +kernel
theorem dX11_old_112 : decode cX11_old 112 = .ok (.iload_n 2, 1) := by decide +kernel
theorem dX11_old_113 : decode cX11_old 113 = .ok (.ifCond .ne 7, 3) := by decide +kernel
theorem dX11_old_116 : decode cX11_old 116 = .ok (.iload_n 3, 1) := by decide +kernel
theorem dX11_old_117 : decode cX11_old 117 = .ok (.goto 15, 3) := by decide +kernel
theorem dX11_old_120 : decode cX11_old 120 = .ok (.iload_n 2, 1) := by decide +kernel
theorem dX11_old_121 : decode cX11_old 121 = .ok (.iconst 1, 1) := by decide +kernel
theorem dX11_old_122 : decode cX11_old 122 = .ok (.if_icmp .ne 8, 3) := by decide +kernel
theorem dX11_old_125 : decode cX11_old 125 = .ok (.iload 4, 2) := by decide +kernel
theorem dX11_old_127 : decode cX11_old 127 = .ok (.goto 5, 3) := by decide +kernel
theorem dX11_old_130 : decode cX11_old 130 = .ok (.iload 5, 2) := by decide +kernel
theorem dX11_old_132 : decode cX11_old 132 = .ok (.ireturn, 1) := by decide +kernel
theorem dX11_best_0 : decode cX11_best 0 = .ok (.aload_n 0, 1) := by decide +kernel
theorem dX11_best_1 : decode cX11_best 1 = .ok (.iload_n 1, 1) := by decide +kernel
theorem dX11_best_2 : decode cX11_best 2 = .ok (.invokevirtual 84, 3) := by decide +kernel
theorem dX11_best_5 : decode cX11_best 5 = .ok (.ifCond .eq 18, 3) := by decide +kernel
theorem dX11_best_8 : decode cX11_best 8 = .ok (.aload_n 0, 1) := by decide +kernel
theorem dX11_best_9 : decode cX11_best 9 = .ok (.iload_n 2, 1) := by decide +kernel
theorem dX11_best_10 : decode cX11_best 10 = .ok (.invokevirtual 84, 3) := by decide +kernel
theorem dX11_best_13 : decode cX11_best 13 = .ok (.ifCond .eq 10, 3) := by decide +kernel
theorem dX11_best_16 : decode cX11_best 16 = .ok (.iload 4, 2) := by decide +kernel
theorem dX11_best_18 : decode cX11_best 18 = .ok (.bipush (-2), 2) := by decide +kernel
theorem dX11_best_20 : decode cX11_best 20 = .ok (.if_icmp .ge 5, 3) := by decide +kernel
theorem dX11_best_23 : decode cX11_best 23 = .ok (.iconst (-1), 1) := by decide +kernel
theorem dX11_best_24 : decode cX11_best 24 = .ok (.ireturn, 1) := by decide +kernel
theorem dX11_best_25 : decode cX11_best 25 = .ok (.iload_n 3, 1) := by decide +kernel
theorem dX11_best_26 : decode cX11_best 26 = .ok (.invokestatic 227, 3) := by decide +kernel
theorem dX11_best_29 : decode cX11_best 29 = .ok (.istore 5, 2) := by decide +kernel
theorem dX11_best_31 : decode cX11_best 31 = .ok (.iload_n 1, 1) := by decide +kernel
theorem dX11_best_32 : decode cX11_best 32 = .ok (.iload_n 2, 1) := by decide +kernel
theorem dX11_best_33 : decode cX11_best 33 = .ok (.if_icmp .eq 24, 3) := by decide +kernel
theorem dX11_best_36 : decode cX11_best 36 = .ok (.iload_n 3, 1) := by decide +kernel
theorem dX11_best_37 : decode cX11_best 37 = .ok (.aload_n 0, 1) := by decide +kernel
theorem dX11_best_38 : decode cX11_best 38 = .ok (.getfield 77, 3) := by decide +kernel
theorem dX11_best_41 : decode cX11_best 41 = .ok (.iushr, 1) := by decide +kernel
theorem dX11_best_42 : decode cX11_best 42 = .ok (.ifCond .ne 15, 3) := by decide +kernel
theorem dX11_best_45 : decode cX11_best 45 = .ok (.iload 5, 2) := by decide +kernel
theorem dX11_best_47 : decode cX11_best 47 = .ok (.iconst 1, 1) := by decide +kernel
theorem dX11_best_48 : decode cX11_best 48 = .ok (.if_icmp .lt 9, 3) := by decide +kernel
theorem dX11_best_51 : decode cX11_best 51 = .ok (.iload 5, 2) := by decide +kernel
theorem dX11_best_53 : decode cX11_best 53 = .ok (.iconst 4, 1) := by decide +kernel
theorem dX11_best_54 : decode cX11_best 54 = .ok (.if_icmp .le 6, 3) := by decide +kernel
theorem dX11_best_57 : decode cX11_best 57 = .ok (.bipush (-2), 2) := by decide +kernel
theorem dX11_best_59 : decode cX11_best 59 = .ok (.ireturn, 1) := by decide +kernel
theorem dX11_best_60 : decode cX11_best 60 = .ok (.iload 4, 2) := by decide +kernel
theorem dX11_best_62 : decode cX11_best 62 = .ok (.iload 5, 2) := by decide +kernel
theorem dX11_best_64 : decode cX11_best 64 = .ok (.if_icmp .lt 5, 3) := by decide +kernel
theorem dX11_best_67 : decode cX11_best 67 = .ok (.iconst (-1), 1) := by decide +kernel
theorem dX11_best_68 : decode cX11_best 68 = .ok (.ireturn, 1) := by decide +kernel
theorem dX11_best_69 : decode cX11_best 69 = .ok (.iload_n 3, 1) := by decide +kernel
theorem dX11_best_70 : decode cX11_best 70 = .ok (.invokestatic 235, 3) := by decide +kernel
theorem dX11_best_73 : decode cX11_best 73 = .ok (.astore 6, 2) := by decide +kernel
theorem dX11_best_75 : decode cX11_best 75 = .ok (.iconst 4, 1) := by decide +kernel
theorem dX11_best_76 : decode cX11_best 76 = .ok (.newarray .int, 2) := by decide +kernel
theorem dX11_best_78 : decode cX11_best 78 = .ok (.astore 7, 2) := by decide +kernel
theorem dX11_best_80 : decode cX11_best 80 = .ok (.iconst 0, 1) := by decide +kernel
theorem dX11_best_81 : decode cX11_best 81 = .ok (.istore 8, 2) := by decide +kernel
theorem dX11_best_83 : decode cX11_best 83 = .ok (.iconst (-1), 1) := by decide +kernel
theorem dX11_best_84 : decode cX11_best 84 = .ok (.istore 9, 2) := by decide +kernel
theorem dX11_best_86 : decode cX11_best 86 = .ok (.iconst 1, 1) := by decide +kernel
theorem dX11_best_87 : decode cX11_best 87 = .ok (.istore 10, 2) := by decide +kernel
theorem dX11_best_89 : decode cX11_best 89 = .ok (.iconst 0, 1) := by decide +kernel
theorem dX11_best_90 : decode cX11_best 90 = .ok (.istore 11, 2) := by decide +kernel
theorem dX11_best_92 : decode cX11_best 92 = .ok (.iload 11, 2) := by decide +kernel
theorem dX11_best_94 : decode cX11_best 94 = .ok (.bipush 24, 2) := by decide +kernel
theorem dX11_best_96 : decode cX11_best 96 = .ok (.if_icmp .ge 67, 3) := by decide +kernel
theorem dX11_best_99 : decode cX11_best 99 = .ok (.iload 10, 2) := by decide +kernel
theorem dX11_best_101 : decode cX11_best 101 = .ok (.ifCond .eq 62, 3) := by decide +kernel
theorem dX11_best_104 : decode cX11_best 104 = .ok (.aload_n 0, 1) := by decide +kernel
theorem dX11_best_105 : decode cX11_best 105 = .ok (.iload_n 1, 1) := by decide +kernel
theorem dX11_best_106 : decode cX11_best 106 = .ok (.iload_n 2, 1) := by decide +kernel
theorem dX11_best_107 : decode cX11_best 107 = .ok (.aload 6, 2) := by decide +kernel
theorem dX11_best_109 : decode cX11_best 109 = .ok (.iload 5, 2) := by decide +kernel
theorem dX11_best_111 : decode cX11_best 111 = .ok (.invokevirtual 239, 3) := by decide +kernel
theorem dX11_best_114 : decode cX11_best 114 = .ok (.istore 12, 2) := by decide +kernel
theorem dX11_best_116 : decode cX11_best 116 = .ok (.iload 12, 2) := by decide +kernel
theorem dX11_best_118 : decode cX11_best 118 = .ok (.invokestatic 227, 3) := by decide +kernel
theorem dX11_best_121 : decode cX11_best 121 = .ok (.iload 9, 2) := by decide +kernel
theorem dX11_best_123 : decode cX11_best 123 = .ok (.if_icmp .le 25, 3) := by decide +kernel
theorem dX11_best_126 : decode cX11_best 126 = .ok (.iload 12, 2) := by decide +kernel
theorem dX11_best_128 : decode cX11_best 128 = .ok (.invokestatic 227, 3) := by decide +kernel
theorem dX11_best_131 : decode cX11_best 131 = .ok (.istore 9, 2) := by decide +kernel
theorem dX11_best_133 : decode cX11_best 133 = .ok (.iload 12, 2) := by decide +kernel
theorem dX11_best_135 : decode cX11_best 135 = .ok (.istore 8, 2) := by decide +kernel
theorem dX11_best_137 : decode cX11_best 137 = .ok (.aload 6, 2) := by decide +kernel
theorem dX11_best_139 : decode cX11_best 139 = .ok (.iconst 0, 1) := by decide +kernel
theorem dX11_best_140 : decode cX11_best 140 = .ok (.aload 7, 2) := by decide +kernel
theorem dX11_best_142 : decode cX11_best 142 = .ok (.iconst 0, 1) := by decide +kernel
theorem dX11_best_143 : decode cX11_best 143 = .ok (.iload 5, 2) := by decide +kernel
theorem dX11_best_145 : decode cX11_best 145 = .ok (.invokestatic 243, 3) := by decide +kernel
theorem dX11_best_148 : decode cX11_best 148 = .ok (.aload 6, 2) := by decide +kernel
theorem dX11_best_150 : decode cX11_best 150 = .ok (.iload 5, 2) := by decide +kernel
theorem dX11_best_152 : decode cX11_best 152 = .ok (.invokestatic 249, 3) := by decide +kernel
theorem dX11_best_155 : decode cX11_best 155 = .ok (.istore 10, 2) := by decide +kernel
theorem dX11_best_157 : decode cX11_best 157 = .ok (.iinc 11 1, 3) := by decide +kernel
theorem dX11_best_160 : decode cX11_best 160 = .ok (.goto (-68), 3) := by decide +kernel
theorem dX11_best_163 : decode cX11_best 163 = .ok (.iload 4, 2) := by decide +kernel
theorem dX11_best_165 : decode cX11_best 165 = .ok (.bipush (-2), 2) := by decide +kernel
theorem dX11_best_167 : decode cX11_best 167 = .ok (.if_icmp .ne 15, 3) := by decide +kernel
theorem dX11_best_170 : decode cX11_best 170 = .ok (.aload_n 0, 1) := by decide +kernel
theorem dX11_best_171 : decode cX11_best 171 = .ok (.iload_n 1, 1) := by decide +kernel
theorem dX11_best_172 : decode cX11_best 172 = .ok (.iload_n 2, 1) := by decide +kernel
theorem dX11_best_173 : decode cX11_best 173 = .ok (.invokevirtual 220, 3) := by decide +kernel
theorem dX11_best_176 : decode cX11_best 176 = .ok (.iload 8, 2) := by decide +kernel
theorem dX11_best_178 : decode cX11_best 178 = .ok (.iconst (-1), 1) := by decide +kernel
theorem dX11_best_179 : decode cX11_best 179 = .ok (.ixor, 1) := by decide +kernel
theorem dX11_best_180 : decode cX11_best 180 = .ok (.iand, 1) := by decide +kernel
theorem dX11_best_181 : decode cX11_best 181 = .ok (.ireturn, 1) := by decide +kernel
theorem dX11_best_182 : decode cX11_best 182 = .ok (.iload 4, 2) := by decide +kernel
theorem dX11_best_184 : decode cX11_best 184 = .ok (.iconst (-1), 1) := by decide +kernel
theorem dX11_best_185 : decode cX11_best 185 = .ok (.if_icmp .ne 8, 3) := by decide +kernel
theorem dX11_best_188 : decode cX11_best 188 = .ok (.iload 9, 2) := by decide +kernel
theorem dX11_best_190 : decode cX11_best 190 = .ok (.goto 8, 3) := by decide +kernel
theorem dX11_best_193 : decode cX11_best 193 = .ok (.aload 7, 2) := by decide +kernel
theorem dX11_best_195 : decode cX11_best 195 = .ok (.iload 4, 2) := by decide +kernel
theorem dX11_best_197 : decode cX11_best 197 = .ok (.iaload, 1) := by decide +kernel
theorem dX11_best_198 : decode cX11_best 198 = .ok (.ireturn, 1) := by decide +kernel
theorem dX11_feeds_0 : decode cX11_feeds 0 = .ok (.aload_n 0, 1) := by decide +kernel
theorem dX11_feeds_1 : decode cX11_feeds 1 = .ok (.iload_n 1, 1) := by decide +kernel
theorem dX11_feeds_2 : decode cX11_feeds 2 = .ok (.invokevirtual 84, 3) := by decide +kernel
theorem dX11_feeds_5 : decode cX11_feeds 5 = .ok (.ifCond .eq 19, 3) := by decide +kernel
theorem dX11_feeds_8 : decode cX11_feeds 8 = .ok (.aload_n 0, 1) := by decide +kernel
theorem dX11_feeds_9 : decode cX11_feeds 9 = .ok (.iload_n 2, 1) := by decide +kernel
theorem dX11_feeds_10 : decode cX11_feeds 10 = .ok (.invokevirtual 121, 3) := by decide +kernel
theorem dX11_feeds_13 : decode cX11_feeds 13 = .ok (.ifCond .eq 11, 3) := by decide +kernel
theorem dX11_feeds_16 : decode cX11_feeds 16 = .ok (.aload_n 0, 1) := by decide +kernel
theorem dX11_feeds_17 : decode cX11_feeds 17 = .ok (.iload_n 3, 1) := by decide +kernel
theorem dX11_feeds_18 : decode cX11_feeds 18 = .ok (.invokevirtual 121, 3) := by decide +kernel
theorem dX11_feeds_21 : decode cX11_feeds 21 = .ok (.ifCond .ne 5, 3) := by decide +kernel
theorem dX11_feeds_24 : decode cX11_feeds 24 = .ok (.iconst (-1), 1) := by decide +kernel
theorem dX11_feeds_25 : decode cX11_feeds 25 = .ok (.ireturn, 1) := by decide +kernel
theorem dX11_feeds_26 : decode cX11_feeds 26 = .ok (.iload_n 2, 1) := by decide +kernel
theorem dX11_feeds_27 : decode cX11_feeds 27 = .ok (.iload_n 3, 1) := by decide +kernel
theorem dX11_feeds_28 : decode cX11_feeds 28 = .ok (.if_icmp .ne 6, 3) := by decide +kernel
theorem dX11_feeds_31 : decode cX11_feeds 31 = .ok (.bipush (-2), 2) := by decide +kernel
theorem dX11_feeds_33 : decode cX11_feeds 33 = .ok (.ireturn, 1) := by decide +kernel
theorem dX11_feeds_34 : decode cX11_feeds 34 = .ok (.iconst 0, 1) := by decide +kernel
theorem dX11_feeds_35 : decode cX11_feeds 35 = .ok (.istore 4, 2) := by decide +kernel
theorem dX11_feeds_37 : decode cX11_feeds 37 = .ok (.iload 4, 2) := by decide +kernel
theorem dX11_feeds_39 : decode cX11_feeds 39 = .ok (.bipush 10, 2) := by decide +kernel
theorem dX11_feeds_41 : decode cX11_feeds 41 = .ok (.if_icmp .ge 46, 3) := by decide +kernel
theorem dX11_feeds_44 : decode cX11_feeds 44 = .ok (.aload_n 0, 1) := by decide +kernel
theorem dX11_feeds_45 : decode cX11_feeds 45 = .ok (.iload_n 1, 1) := by decide +kernel
theorem dX11_feeds_46 : decode cX11_feeds 46 = .ok (.iload 4, 2) := by decide +kernel
theorem dX11_feeds_48 : decode cX11_feeds 48 = .ok (.invokevirtual 190, 3) := by decide +kernel
theorem dX11_feeds_51 : decode cX11_feeds 51 = .ok (.astore 5, 2) := by decide +kernel
theorem dX11_feeds_53 : decode cX11_feeds 53 = .ok (.aload 5, 2) := by decide +kernel
theorem dX11_feeds_55 : decode cX11_feeds 55 = .ok (.ifnull 26, 3) := by decide +kernel
theorem dX11_feeds_58 : decode cX11_feeds 58 = .ok (.aload_n 0, 1) := by decide +kernel
theorem dX11_feeds_59 : decode cX11_feeds 59 = .ok (.aload 5, 2) := by decide +kernel
theorem dX11_feeds_61 : decode cX11_feeds 61 = .ok (.aload_n 0, 1) := by decide +kernel
theorem dX11_feeds_62 : decode cX11_feeds 62 = .ok (.getfield 24, 3) := by decide +kernel
theorem dX11_feeds_65 : decode cX11_feeds 65 = .ok (.iload_n 2, 1) := by decide +kernel
theorem dX11_feeds_66 : decode cX11_feeds 66 = .ok (.aaload, 1) := by decide +kernel
theorem dX11_feeds_67 : decode cX11_feeds 67 = .ok (.aload_n 0, 1) := by decide +kernel
theorem dX11_feeds_68 : decode cX11_feeds 68 = .ok (.getfield 24, 3) := by decide +kernel
theorem dX11_feeds_71 : decode cX11_feeds 71 = .ok (.iload_n 3, 1) := by decide +kernel
theorem dX11_feeds_72 : decode cX11_feeds 72 = .ok (.aaload, 1) := by decide +kernel
theorem dX11_feeds_73 : decode cX11_feeds 73 = .ok (.invokevirtual 253, 3) := by decide +kernel
theorem dX11_feeds_76 : decode cX11_feeds 76 = .ok (.ifCond .eq 5, 3) := by decide +kernel
theorem dX11_feeds_79 : decode cX11_feeds 79 = .ok (.iconst 1, 1) := by decide +kernel
theorem dX11_feeds_80 : decode cX11_feeds 80 = .ok (.ireturn, 1) := by decide +kernel
theorem dX11_feeds_81 : decode cX11_feeds 81 = .ok (.iinc 4 1, 3) := by decide +kernel
theorem dX11_feeds_84 : decode cX11_feeds 84 = .ok (.goto (-47), 3) := by decide +kernel
theorem dX11_feeds_87 : decode cX11_feeds 87 = .ok (.iconst 0, 1) := by decide +kernel
theorem dX11_feeds_88 : decode cX11_feeds 88 = .ok (.ireturn, 1) := by decide +kernel
theorem dX11_steps_0 : decode cX11_steps 0 = .ok (.aload_n 0, 1) := by decide +kernel
theorem dX11_steps_1 : decode cX11_steps 1 = .ok (.iload_n 1, 1) := by decide +kernel
theorem dX11_steps_2 : decode cX11_steps 2 = .ok (.invokevirtual 257, 3) := by decide +kernel
theorem dX11_steps_5 : decode cX11_steps 5 = .ok (.ifCond .eq 15, 3) := by decide +kernel
theorem dX11_steps_8 : decode cX11_steps 8 = .ok (.iload_n 2, 1) := by decide +kernel
theorem dX11_steps_9 : decode cX11_steps 9 = .ok (.ifCond .lt 11, 3) := by decide +kernel
theorem dX11_steps_12 : decode cX11_steps 12 = .ok (.iload_n 2, 1) := by decide +kernel
theorem dX11_steps_13 : decode cX11_steps 13 = .ok (.iload_n 1, 1) := by decide +kernel
theorem dX11_steps_14 : decode cX11_steps 14 = .ok (.invokestatic 260, 3) := by decide +kernel
theorem dX11_steps_17 : decode cX11_steps 17 = .ok (.if_icmp .lt 6, 3) := by decide +kernel
theorem dX11_steps_20 : decode cX11_steps 20 = .ok (.bipush (-2), 2) := by decide +kernel
theorem dX11_steps_22 : decode cX11_steps 22 = .ok (.ireturn, 1) := by decide +kernel
theorem dX11_steps_23 : decode cX11_steps 23 = .ok (.aload_n 0, 1) := by decide +kernel
theorem dX11_steps_24 : decode cX11_steps 24 = .ok (.invokevirtual 263, 3) := by decide +kernel
theorem dX11_steps_27 : decode cX11_steps 27 = .ok (.aload_n 0, 1) := by decide +kernel
theorem dX11_steps_28 : decode cX11_steps 28 = .ok (.iload_n 1, 1) := by decide +kernel
theorem dX11_steps_29 : decode cX11_steps 29 = .ok (.iload_n 2, 1) := by decide +kernel
theorem dX11_steps_30 : decode cX11_steps 30 = .ok (.invokevirtual 266, 3) := by decide +kernel
theorem dX11_steps_33 : decode cX11_steps 33 = .ok (.ireturn, 1) := by decide +kernel
theorem dX11_tree_0 : decode cX11_tree 0 = .ok (.aload_n 0, 1) := by decide +kernel
theorem dX11_tree_1 : decode cX11_tree 1 = .ok (.iload_n 1, 1) := by decide +kernel
theorem dX11_tree_2 : decode cX11_tree 2 = .ok (.invokevirtual 257, 3) := by decide +kernel
theorem dX11_tree_5 : decode cX11_tree 5 = .ok (.ifCond .ne 6, 3) := by decide +kernel
theorem dX11_tree_8 : decode cX11_tree 8 = .ok (.bipush (-2), 2) := by decide +kernel
theorem dX11_tree_10 : decode cX11_tree 10 = .ok (.ireturn, 1) := by decide +kernel
theorem dX11_tree_11 : decode cX11_tree 11 = .ok (.iload_n 2, 1) := by decide +kernel
theorem dX11_tree_12 : decode cX11_tree 12 = .ok (.ifCond .lt 8, 3) := by decide +kernel
theorem dX11_tree_15 : decode cX11_tree 15 = .ok (.iload_n 2, 1) := by decide +kernel
theorem dX11_tree_16 : decode cX11_tree 16 = .ok (.iconst 2, 1) := by decide +kernel
theorem dX11_tree_17 : decode cX11_tree 17 = .ok (.if_icmp .le 5, 3) := by decide +kernel
theorem dX11_tree_20 : decode cX11_tree 20 = .ok (.iconst (-1), 1) := by decide +kernel
theorem dX11_tree_21 : decode cX11_tree 21 = .ok (.ireturn, 1) := by decide +kernel
theorem dX11_tree_22 : decode cX11_tree 22 = .ok (.aload_n 0, 1) := by decide +kernel
theorem dX11_tree_23 : decode cX11_tree 23 = .ok (.invokevirtual 263, 3) := by decide +kernel
theorem dX11_tree_26 : decode cX11_tree 26 = .ok (.iload_n 1, 1) := by decide +kernel
theorem dX11_tree_27 : decode cX11_tree 27 = .ok (.invokestatic 260, 3) := by decide +kernel
theorem dX11_tree_30 : decode cX11_tree 30 = .ok (.istore_n 3, 1) := by decide +kernel
theorem dX11_tree_31 : decode cX11_tree 31 = .ok (.iconst 0, 1) := by decide +kernel
theorem dX11_tree_32 : decode cX11_tree 32 = .ok (.istore 4, 2) := by decide +kernel
theorem dX11_tree_34 : decode cX11_tree 34 = .ok (.iconst 0, 1) := by decide +kernel
theorem dX11_tree_35 : decode cX11_tree 35 = .ok (.istore 5, 2) := by decide +kernel
theorem dX11_tree_37 : decode cX11_tree 37 = .ok (.iconst 0, 1) := by decide +kernel
theorem dX11_tree_38 : decode cX11_tree 38 = .ok (.istore 6, 2) := by decide +kernel
theorem dX11_tree_40 : decode cX11_tree 40 = .ok (.iconst 0, 1) := by decide +kernel
theorem dX11_tree_41 : decode cX11_tree 41 = .ok (.istore 7, 2) := by decide +kernel
theorem dX11_tree_43 : decode cX11_tree 43 = .ok (.iload 7, 2) := by decide +kernel
theorem dX11_tree_45 : decode cX11_tree 45 = .ok (.iload_n 3, 1) := by decide +kernel
theorem dX11_tree_46 : decode cX11_tree 46 = .ok (.if_icmp .ge 61, 3) := by decide +kernel
theorem dX11_tree_49 : decode cX11_tree 49 = .ok (.aload_n 0, 1) := by decide +kernel
theorem dX11_tree_50 : decode cX11_tree 50 = .ok (.iload_n 1, 1) := by decide +kernel
theorem dX11_tree_51 : decode cX11_tree 51 = .ok (.iload 7, 2) := by decide +kernel
theorem dX11_tree_53 : decode cX11_tree 53 = .ok (.invokevirtual 266, 3) := by decide +kernel
theorem dX11_tree_56 : decode cX11_tree 56 = .ok (.istore 8, 2) := by decide +kernel
theorem dX11_tree_58 : decode cX11_tree 58 = .ok (.iload 7, 2) := by decide +kernel
theorem dX11_tree_60 : decode cX11_tree 60 = .ok (.ifCond .eq 10, 3) := by decide +kernel
theorem dX11_tree_63 : decode cX11_tree 63 = .ok (.iload 8, 2) := by decide +kernel
theorem dX11_tree_65 : decode cX11_tree 65 = .ok (.iload 5, 2) := by decide +kernel
theorem dX11_tree_67 : decode cX11_tree 67 = .ok (.if_icmp .ge 14, 3) := by decide +kernel
theorem dX11_tree_70 : decode cX11_tree 70 = .ok (.iload 7, 2) := by decide +kernel
theorem dX11_tree_72 : decode cX11_tree 72 = .ok (.istore 4, 2) := by decide +kernel
theorem dX11_tree_74 : decode cX11_tree 74 = .ok (.iload 8, 2) := by decide +kernel
theorem dX11_tree_76 : decode cX11_tree 76 = .ok (.istore 5, 2) := by decide +kernel
theorem dX11_tree_78 : decode cX11_tree 78 = .ok (.iconst 0, 1) := by decide +kernel
theorem dX11_tree_79 : decode cX11_tree 79 = .ok (.istore 6, 2) := by decide +kernel
theorem dX11_tree_81 : decode cX11_tree 81 = .ok (.iload 6, 2) := by decide +kernel
theorem dX11_tree_83 : decode cX11_tree 83 = .ok (.iload 8, 2) := by decide +kernel
theorem dX11_tree_85 : decode cX11_tree 85 = .ok (.iload 5, 2) := by decide +kernel
theorem dX11_tree_87 : decode cX11_tree 87 = .ok (.if_icmp .ne 7, 3) := by decide +kernel
theorem dX11_tree_90 : decode cX11_tree 90 = .ok (.iconst 1, 1) := by decide +kernel
theorem dX11_tree_91 : decode cX11_tree 91 = .ok (.goto 4, 3) := by decide +kernel
theorem dX11_tree_94 : decode cX11_tree 94 = .ok (.iconst 0, 1) := by decide +kernel
theorem dX11_tree_95 : decode cX11_tree 95 = .ok (.invokestatic 163, 3) := by decide +kernel
theorem dX11_tree_98 : decode cX11_tree 98 = .ok (.iadd, 1) := by decide +kernel
theorem dX11_tree_99 : decode cX11_tree 99 = .ok (.istore 6, 2) := by decide +kernel
theorem dX11_tree_101 : decode cX11_tree 101 = .ok (.iinc 7 1, 3) := by decide +kernel
theorem dX11_tree_104 : decode cX11_tree 104 = .ok (.goto (-61), 3) := by decide +kernel
theorem dX11_tree_107 : decode cX11_tree 107 = .ok (.iload_n 2, 1) := by decide +kernel
theorem dX11_tree_108 : decode cX11_tree 108 = .ok (.ifCond .ne 8, 3) := by decide +kernel
theorem dX11_tree_111 : decode cX11_tree 111 = .ok (.iload 4, 2) := by decide +kernel
theorem dX11_tree_113 : decode cX11_tree 113 = .ok (.goto 15, 3) := by decide +kernel
theorem dX11_tree_116 : decode cX11_tree 116 = .ok (.iload_n 2, 1) := by decide +kernel
theorem dX11_tree_117 : decode cX11_tree 117 = .ok (.iconst 1, 1) := by decide +kernel
theorem dX11_tree_118 : decode cX11_tree 118 = .ok (.if_icmp .ne 8, 3) := by decide +kernel
theorem dX11_tree_121 : decode cX11_tree 121 = .ok (.iload 5, 2) := by decide +kernel
theorem dX11_tree_123 : decode cX11_tree 123 = .ok (.goto 5, 3) := by decide +kernel
theorem dX11_tree_126 : decode cX11_tree 126 = .ok (.iload 6, 2) := by decide +kernel
theorem dX11_tree_128 : decode cX11_tree 128 = .ok (.ireturn, 1) := by decide +kernel
theorem dX11_claim_0 : decode cX11_claim 0 = .ok (.aload_n 0, 1) := by decide +kernel
theorem dX11_claim_1 : decode cX11_claim 1 = .ok (.iload_n 2, 1) := by decide +kernel
theorem dX11_claim_2 : decode cX11_claim 2 = .ok (.iload_n 1, 1) := by decide +kernel
theorem dX11_claim_3 : decode cX11_claim 3 = .ok (.invokevirtual 190, 3) := by decide +kernel
theorem dX11_claim_6 : decode cX11_claim 6 = .ok (.astore 6, 2) := by decide +kernel
theorem dX11_claim_8 : decode cX11_claim 8 = .ok (.aload_n 0, 1) := by decide +kernel
theorem dX11_claim_9 : decode cX11_claim 9 = .ok (.iload_n 3, 1) := by decide +kernel
theorem dX11_claim_10 : decode cX11_claim 10 = .ok (.iload_n 1, 1) := by decide +kernel
theorem dX11_claim_11 : decode cX11_claim 11 = .ok (.invokevirtual 190, 3) := by decide +kernel
theorem dX11_claim_14 : decode cX11_claim 14 = .ok (.astore 7, 2) := by decide +kernel
theorem dX11_claim_16 : decode cX11_claim 16 = .ok (.aload 6, 2) := by decide +kernel
theorem dX11_claim_18 : decode cX11_claim 18 = .ok (.ifnull 8, 3) := by decide +kernel
theorem dX11_claim_21 : decode cX11_claim 21 = .ok (.aload 7, 2) := by decide +kernel
theorem dX11_claim_23 : decode cX11_claim 23 = .ok (.ifnonnull 5, 3) := by decide +kernel
theorem dX11_claim_26 : decode cX11_claim 26 = .ok (.iconst (-1), 1) := by decide +kernel
theorem dX11_claim_27 : decode cX11_claim 27 = .ok (.ireturn, 1) := by decide +kernel
theorem dX11_claim_28 : decode cX11_claim 28 = .ok (.iload_n 2, 1) := by decide +kernel
theorem dX11_claim_29 : decode cX11_claim 29 = .ok (.iload_n 3, 1) := by decide +kernel
theorem dX11_claim_30 : decode cX11_claim 30 = .ok (.if_icmp .eq 11, 3) := by decide +kernel
theorem dX11_claim_33 : decode cX11_claim 33 = .ok (.iload 5, 2) := by decide +kernel
theorem dX11_claim_35 : decode cX11_claim 35 = .ok (.invokestatic 269, 3) := by decide +kernel
theorem dX11_claim_38 : decode cX11_claim 38 = .ok (.ifCond .ne 6, 3) := by decide +kernel
theorem dX11_claim_41 : decode cX11_claim 41 = .ok (.bipush (-2), 2) := by decide +kernel
theorem dX11_claim_43 : decode cX11_claim 43 = .ok (.ireturn, 1) := by decide +kernel
theorem dX11_claim_44 : decode cX11_claim 44 = .ok (.aload_n 0, 1) := by decide +kernel
theorem dX11_claim_45 : decode cX11_claim 45 = .ok (.getfield 157, 3) := by decide +kernel
theorem dX11_claim_48 : decode cX11_claim 48 = .ok (.ifCond .eq 6, 3) := by decide +kernel
theorem dX11_claim_51 : decode cX11_claim 51 = .ok (.bipush (-3), 2) := by decide +kernel
theorem dX11_claim_53 : decode cX11_claim 53 = .ok (.ireturn, 1) := by decide +kernel
theorem dX11_claim_54 : decode cX11_claim 54 = .ok (.aload_n 0, 1) := by decide +kernel
theorem dX11_claim_55 : decode cX11_claim 55 = .ok (.getfield 160, 3) := by decide +kernel
theorem dX11_claim_58 : decode cX11_claim 58 = .ok (.bipush 60, 2) := by decide +kernel
theorem dX11_claim_60 : decode cX11_claim 60 = .ok (.if_icmp .lt 6, 3) := by decide +kernel
theorem dX11_claim_63 : decode cX11_claim 63 = .ok (.bipush (-4), 2) := by decide +kernel
theorem dX11_claim_65 : decode cX11_claim 65 = .ok (.ireturn, 1) := by decide +kernel
theorem dX11_claim_66 : decode cX11_claim 66 = .ok (.aload_n 0, 1) := by decide +kernel
theorem dX11_claim_67 : decode cX11_claim 67 = .ok (.getfield 38, 3) := by decide +kernel
theorem dX11_claim_70 : decode cX11_claim 70 = .ok (.iconst 2, 1) := by decide +kernel
theorem dX11_claim_71 : decode cX11_claim 71 = .ok (.aload_n 0, 1) := by decide +kernel
theorem dX11_claim_72 : decode cX11_claim 72 = .ok (.getfield 160, 3) := by decide +kernel
theorem dX11_claim_75 : decode cX11_claim 75 = .ok (.imul, 1) := by decide +kernel
theorem dX11_claim_76 : decode cX11_claim 76 = .ok (.iload 5, 2) := by decide +kernel
theorem dX11_claim_78 : decode cX11_claim 78 = .ok (.iastore, 1) := by decide +kernel
theorem dX11_claim_79 : decode cX11_claim 79 = .ok (.aload_n 0, 1) := by decide +kernel
theorem dX11_claim_80 : decode cX11_claim 80 = .ok (.getfield 38, 3) := by decide +kernel
theorem dX11_claim_83 : decode cX11_claim 83 = .ok (.iconst 2, 1) := by decide +kernel
theorem dX11_claim_84 : decode cX11_claim 84 = .ok (.aload_n 0, 1) := by decide +kernel
theorem dX11_claim_85 : decode cX11_claim 85 = .ok (.getfield 160, 3) := by decide +kernel
theorem dX11_claim_88 : decode cX11_claim 88 = .ok (.imul, 1) := by decide +kernel
theorem dX11_claim_89 : decode cX11_claim 89 = .ok (.iconst 1, 1) := by decide +kernel
theorem dX11_claim_90 : decode cX11_claim 90 = .ok (.iadd, 1) := by decide +kernel
theorem dX11_claim_91 : decode cX11_claim 91 = .ok (.aload 6, 2) := by decide +kernel
theorem dX11_claim_93 : decode cX11_claim 93 = .ok (.getfield 105, 3) := by decide +kernel
theorem dX11_claim_96 : decode cX11_claim 96 = .ok (.aload 7, 2) := by decide +kernel
theorem dX11_claim_98 : decode cX11_claim 98 = .ok (.getfield 105, 3) := by decide +kernel
theorem dX11_claim_101 : decode cX11_claim 101 = .ok (.if_icmp .ne 7, 3) := by decide +kernel
theorem dX11_claim_104 : decode cX11_claim 104 = .ok (.iconst 1, 1) := by decide +kernel
theorem dX11_claim_105 : decode cX11_claim 105 = .ok (.goto 4, 3) := by decide +kernel
theorem dX11_claim_108 : decode cX11_claim 108 = .ok (.iconst 0, 1) := by decide +kernel
theorem dX11_claim_109 : decode cX11_claim 109 = .ok (.iload 4, 2) := by decide +kernel
theorem dX11_claim_111 : decode cX11_claim 111 = .ok (.if_icmp .ne 7, 3) := by decide +kernel
theorem dX11_claim_114 : decode cX11_claim 114 = .ok (.iconst 1, 1) := by decide +kernel
theorem dX11_claim_115 : decode cX11_claim 115 = .ok (.goto 4, 3) := by decide +kernel
theorem dX11_claim_118 : decode cX11_claim 118 = .ok (.iconst 0, 1) := by decide +kernel
theorem dX11_claim_119 : decode cX11_claim 119 = .ok (.invokestatic 163, 3) := by decide +kernel
theorem dX11_claim_122 : decode cX11_claim 122 = .ok (.iastore, 1) := by decide +kernel
theorem dX11_claim_123 : decode cX11_claim 123 = .ok (.aload_n 0, 1) := by decide +kernel
theorem dX11_claim_124 : decode cX11_claim 124 = .ok (.dup, 1) := by decide +kernel
theorem dX11_claim_125 : decode cX11_claim 125 = .ok (.getfield 160, 3) := by decide +kernel
theorem dX11_claim_128 : decode cX11_claim 128 = .ok (.iconst 1, 1) := by decide +kernel
theorem dX11_claim_129 : decode cX11_claim 129 = .ok (.iadd, 1) := by decide +kernel
theorem dX11_claim_130 : decode cX11_claim 130 = .ok (.putfield 160, 3) := by decide +kernel
theorem dX11_claim_133 : decode cX11_claim 133 = .ok (.aload_n 0, 1) := by decide +kernel
theorem dX11_claim_134 : decode cX11_claim 134 = .ok (.getfield 160, 3) := by decide +kernel
theorem dX11_claim_137 : decode cX11_claim 137 = .ok (.iconst 1, 1) := by decide +kernel
theorem dX11_claim_138 : decode cX11_claim 138 = .ok (.isub, 1) := by decide +kernel
theorem dX11_claim_139 : decode cX11_claim 139 = .ok (.ireturn, 1) := by decide +kernel
theorem dX11_right_0 : decode cX11_right 0 = .ok (.iload_n 1, 1) := by decide +kernel
theorem dX11_right_1 : decode cX11_right 1 = .ok (.ifCond .lt 11, 3) := by decide +kernel
theorem dX11_right_4 : decode cX11_right 4 = .ok (.iload_n 1, 1) := by decide +kernel
theorem dX11_right_5 : decode cX11_right 5 = .ok (.aload_n 0, 1) := by decide +kernel
theorem dX11_right_6 : decode cX11_right 6 = .ok (.getfield 160, 3) := by decide +kernel
theorem dX11_right_9 : decode cX11_right 9 = .ok (.if_icmp .lt 5, 3) := by decide +kernel
theorem dX11_right_12 : decode cX11_right 12 = .ok (.iconst (-1), 1) := by decide +kernel
theorem dX11_right_13 : decode cX11_right 13 = .ok (.ireturn, 1) := by decide +kernel
theorem dX11_right_14 : decode cX11_right 14 = .ok (.aload_n 0, 1) := by decide +kernel
theorem dX11_right_15 : decode cX11_right 15 = .ok (.getfield 157, 3) := by decide +kernel
theorem dX11_right_18 : decode cX11_right 18 = .ok (.ifCond .ne 6, 3) := by decide +kernel
theorem dX11_right_21 : decode cX11_right 21 = .ok (.bipush (-3), 2) := by decide +kernel
theorem dX11_right_23 : decode cX11_right 23 = .ok (.ireturn, 1) := by decide +kernel
theorem dX11_right_24 : decode cX11_right 24 = .ok (.aload_n 0, 1) := by decide +kernel
theorem dX11_right_25 : decode cX11_right 25 = .ok (.getfield 38, 3) := by decide +kernel
theorem dX11_right_28 : decode cX11_right 28 = .ok (.iconst 2, 1) := by decide +kernel
theorem dX11_right_29 : decode cX11_right 29 = .ok (.iload_n 1, 1) := by decide +kernel
theorem dX11_right_30 : decode cX11_right 30 = .ok (.imul, 1) := by decide +kernel
theorem dX11_right_31 : decode cX11_right 31 = .ok (.iconst 1, 1) := by decide +kernel
theorem dX11_right_32 : decode cX11_right 32 = .ok (.iadd, 1) := by decide +kernel
theorem dX11_right_33 : decode cX11_right 33 = .ok (.iaload, 1) := by decide +kernel
theorem dX11_right_34 : decode cX11_right 34 = .ok (.ireturn, 1) := by decide +kernel
theorem dX11_sure_0 : decode cX11_sure 0 = .ok (.iload_n 2, 1) := by decide +kernel
theorem dX11_sure_1 : decode cX11_sure 1 = .ok (.ifCond .lt 8, 3) := by decide +kernel
theorem dX11_sure_4 : decode cX11_sure 4 = .ok (.iload_n 2, 1) := by decide +kernel
theorem dX11_sure_5 : decode cX11_sure 5 = .ok (.iconst 1, 1) := by decide +kernel
theorem dX11_sure_6 : decode cX11_sure 6 = .ok (.if_icmp .le 5, 3) := by decide +kernel
theorem dX11_sure_9 : decode cX11_sure 9 = .ok (.iconst (-1), 1) := by decide +kernel
theorem dX11_sure_10 : decode cX11_sure 10 = .ok (.ireturn, 1) := by decide +kernel
theorem dX11_sure_11 : decode cX11_sure 11 = .ok (.iload_n 1, 1) := by decide +kernel
theorem dX11_sure_12 : decode cX11_sure 12 = .ok (.invokestatic 269, 3) := by decide +kernel
theorem dX11_sure_15 : decode cX11_sure 15 = .ok (.ifCond .ne 6, 3) := by decide +kernel
theorem dX11_sure_18 : decode cX11_sure 18 = .ok (.bipush (-2), 2) := by decide +kernel
theorem dX11_sure_20 : decode cX11_sure 20 = .ok (.ireturn, 1) := by decide +kernel
theorem dX11_sure_21 : decode cX11_sure 21 = .ok (.iload_n 2, 1) := by decide +kernel
theorem dX11_sure_22 : decode cX11_sure 22 = .ok (.iconst 1, 1) := by decide +kernel
theorem dX11_sure_23 : decode cX11_sure 23 = .ok (.if_icmp .ne 13, 3) := by decide +kernel
theorem dX11_sure_26 : decode cX11_sure 26 = .ok (.aload_n 0, 1) := by decide +kernel
theorem dX11_sure_27 : decode cX11_sure 27 = .ok (.getfield 157, 3) := by decide +kernel
theorem dX11_sure_30 : decode cX11_sure 30 = .ok (.ifCond .ne 6, 3) := by decide +kernel
theorem dX11_sure_33 : decode cX11_sure 33 = .ok (.bipush (-3), 2) := by decide +kernel
theorem dX11_sure_35 : decode cX11_sure 35 = .ok (.ireturn, 1) := by decide +kernel
theorem dX11_sure_36 : decode cX11_sure 36 = .ok (.iconst 0, 1) := by decide +kernel
theorem dX11_sure_37 : decode cX11_sure 37 = .ok (.istore_n 3, 1) := by decide +kernel
theorem dX11_sure_38 : decode cX11_sure 38 = .ok (.iconst 0, 1) := by decide +kernel
theorem dX11_sure_39 : decode cX11_sure 39 = .ok (.istore 4, 2) := by decide +kernel
theorem dX11_sure_41 : decode cX11_sure 41 = .ok (.iload 4, 2) := by decide +kernel
theorem dX11_sure_43 : decode cX11_sure 43 = .ok (.aload_n 0, 1) := by decide +kernel
theorem dX11_sure_44 : decode cX11_sure 44 = .ok (.getfield 160, 3) := by decide +kernel
theorem dX11_sure_47 : decode cX11_sure 47 = .ok (.if_icmp .ge 44, 3) := by decide +kernel
theorem dX11_sure_50 : decode cX11_sure 50 = .ok (.aload_n 0, 1) := by decide +kernel
theorem dX11_sure_51 : decode cX11_sure 51 = .ok (.getfield 38, 3) := by decide +kernel
theorem dX11_sure_54 : decode cX11_sure 54 = .ok (.iconst 2, 1) := by decide +kernel
theorem dX11_sure_55 : decode cX11_sure 55 = .ok (.iload 4, 2) := by decide +kernel
theorem dX11_sure_57 : decode cX11_sure 57 = .ok (.imul, 1) := by decide +kernel
theorem dX11_sure_58 : decode cX11_sure 58 = .ok (.iaload, 1) := by decide +kernel
theorem dX11_sure_59 : decode cX11_sure 59 = .ok (.iload_n 1, 1) := by decide +kernel
theorem dX11_sure_60 : decode cX11_sure 60 = .ok (.if_icmp .ne 25, 3) := by decide +kernel
theorem dX11_sure_63 : decode cX11_sure 63 = .ok (.iload_n 3, 1) := by decide +kernel
theorem dX11_sure_64 : decode cX11_sure 64 = .ok (.iload_n 2, 1) := by decide +kernel
theorem dX11_sure_65 : decode cX11_sure 65 = .ok (.ifCond .ne 7, 3) := by decide +kernel
theorem dX11_sure_68 : decode cX11_sure 68 = .ok (.iconst 1, 1) := by decide +kernel
theorem dX11_sure_69 : decode cX11_sure 69 = .ok (.goto 14, 3) := by decide +kernel
theorem dX11_sure_72 : decode cX11_sure 72 = .ok (.aload_n 0, 1) := by decide +kernel
theorem dX11_sure_73 : decode cX11_sure 73 = .ok (.getfield 38, 3) := by decide +kernel
theorem dX11_sure_76 : decode cX11_sure 76 = .ok (.iconst 2, 1) := by decide +kernel
theorem dX11_sure_77 : decode cX11_sure 77 = .ok (.iload 4, 2) := by decide +kernel
theorem dX11_sure_79 : decode cX11_sure 79 = .ok (.imul, 1) := by decide +kernel
theorem dX11_sure_80 : decode cX11_sure 80 = .ok (.iconst 1, 1) := by decide +kernel
theorem dX11_sure_81 : decode cX11_sure 81 = .ok (.iadd, 1) := by decide +kernel
theorem dX11_sure_82 : decode cX11_sure 82 = .ok (.iaload, 1) := by decide +kernel
theorem dX11_sure_83 : decode cX11_sure 83 = .ok (.iadd, 1) := by decide +kernel
theorem dX11_sure_84 : decode cX11_sure 84 = .ok (.istore_n 3, 1) := by decide +kernel
theorem dX11_sure_85 : decode cX11_sure 85 = .ok (.iinc 4 1, 3) := by decide +kernel
theorem dX11_sure_88 : decode cX11_sure 88 = .ok (.goto (-47), 3) := by decide +kernel
theorem dX11_sure_91 : decode cX11_sure 91 = .ok (.iload_n 3, 1) := by decide +kernel
theorem dX11_sure_92 : decode cX11_sure 92 = .ok (.ireturn, 1) := by decide +kernel
theorem dX11_act_0 : decode cX11_act 0 = .ok (.aload_n 0, 1) := by decide +kernel
theorem dX11_act_1 : decode cX11_act 1 = .ok (.aconst_null, 1) := by decide +kernel
theorem dX11_act_2 : decode cX11_act 2 = .ok (.putfield 272, 3) := by decide +kernel
theorem dX11_act_5 : decode cX11_act 5 = .ok (.aload_n 0, 1) := by decide +kernel
theorem dX11_act_6 : decode cX11_act 6 = .ok (.iload_n 1, 1) := by decide +kernel
theorem dX11_act_7 : decode cX11_act 7 = .ok (.invokevirtual 167, 3) := by decide +kernel
theorem dX11_act_10 : decode cX11_act 10 = .ok (.astore 4, 2) := by decide +kernel
theorem dX11_act_12 : decode cX11_act 12 = .ok (.aload 4, 2) := by decide +kernel
theorem dX11_act_14 : decode cX11_act 14 = .ok (.ifnull 12, 3) := by decide +kernel
theorem dX11_act_17 : decode cX11_act 17 = .ok (.iload_n 2, 1) := by decide +kernel
theorem dX11_act_18 : decode cX11_act 18 = .ok (.ifCond .lt 8, 3) := by decide +kernel
theorem dX11_act_21 : decode cX11_act 21 = .ok (.iload_n 2, 1) := by decide +kernel
theorem dX11_act_22 : decode cX11_act 22 = .ok (.iconst 2, 1) := by decide +kernel
theorem dX11_act_23 : decode cX11_act 23 = .ok (.if_icmp .le 5, 3) := by decide +kernel
theorem dX11_act_26 : decode cX11_act 26 = .ok (.iconst 0, 1) := by decide +kernel
theorem dX11_act_27 : decode cX11_act 27 = .ok (.ireturn, 1) := by decide +kernel
theorem dX11_act_28 : decode cX11_act 28 = .ok (.aload_n 0, 1) := by decide +kernel
theorem dX11_act_29 : decode cX11_act 29 = .ok (.aload 4, 2) := by decide +kernel
theorem dX11_act_31 : decode cX11_act 31 = .ok (.putfield 272, 3) := by decide +kernel
theorem dX11_act_34 : decode cX11_act 34 = .ok (.aload 4, 2) := by decide +kernel
theorem dX11_act_36 : decode cX11_act 36 = .ok (.iconst 0, 1) := by decide +kernel
theorem dX11_act_37 : decode cX11_act 37 = .ok (.putfield 276, 3) := by decide +kernel
theorem dX11_act_40 : decode cX11_act 40 = .ok (.iload_n 2, 1) := by decide +kernel
theorem dX11_act_41 : decode cX11_act 41 = .ok (.lookupswitch 41 #[(0, 27), (1, 34)], 27) := by decide +kernel
theorem dX11_act_68 : decode cX11_act 68 = .ok (.aload 4, 2) := by decide +kernel
theorem dX11_act_70 : decode cX11_act 70 = .ok (.iload_n 3, 1) := by decide +kernel
theorem dX11_act_71 : decode cX11_act 71 = .ok (.invokevirtual 279, 3) := by decide +kernel
theorem dX11_act_74 : decode cX11_act 74 = .ok (.ireturn, 1) := by decide +kernel
theorem dX11_act_75 : decode cX11_act 75 = .ok (.aload 4, 2) := by decide +kernel
theorem dX11_act_77 : decode cX11_act 77 = .ok (.iload_n 3, 1) := by decide +kernel
theorem dX11_act_78 : decode cX11_act 78 = .ok (.invokevirtual 282, 3) := by decide +kernel
theorem dX11_act_81 : decode cX11_act 81 = .ok (.ireturn, 1) := by decide +kernel
theorem dX11_act_82 : decode cX11_act 82 = .ok (.aload 4, 2) := by decide +kernel
theorem dX11_act_84 : decode cX11_act 84 = .ok (.iload_n 3, 1) := by decide +kernel
theorem dX11_act_85 : decode cX11_act 85 = .ok (.invokevirtual 285, 3) := by decide +kernel
theorem dX11_act_88 : decode cX11_act 88 = .ok (.ireturn, 1) := by decide +kernel
theorem dX11_trace_0 : decode cX11_trace 0 = .ok (.aload_n 0, 1) := by decide +kernel
theorem dX11_trace_1 : decode cX11_trace 1 = .ok (.getfield 272, 3) := by decide +kernel
theorem dX11_trace_4 : decode cX11_trace 4 = .ok (.ifnull 24, 3) := by decide +kernel
theorem dX11_trace_7 : decode cX11_trace 7 = .ok (.iload_n 1, 1) := by decide +kernel
theorem dX11_trace_8 : decode cX11_trace 8 = .ok (.ifCond .lt 20, 3) := by decide +kernel
theorem dX11_trace_11 : decode cX11_trace 11 = .ok (.iload_n 1, 1) := by decide +kernel
theorem dX11_trace_12 : decode cX11_trace 12 = .ok (.aload_n 0, 1) := by decide +kernel
theorem dX11_trace_13 : decode cX11_trace 13 = .ok (.getfield 272, 3) := by decide +kernel
theorem dX11_trace_16 : decode cX11_trace 16 = .ok (.getfield 276, 3) := by decide +kernel
theorem dX11_trace_19 : decode cX11_trace 19 = .ok (.if_icmp .ge 9, 3) := by decide +kernel
theorem dX11_trace_22 : decode cX11_trace 22 = .ok (.iload_n 1, 1) := by decide +kernel
theorem dX11_trace_23 : decode cX11_trace 23 = .ok (.bipush 20, 2) := by decide +kernel
theorem dX11_trace_25 : decode cX11_trace 25 = .ok (.if_icmp .lt 5, 3) := by decide +kernel
theorem dX11_trace_28 : decode cX11_trace 28 = .ok (.iconst (-1), 1) := by decide +kernel
theorem dX11_trace_29 : decode cX11_trace 29 = .ok (.ireturn, 1) := by decide +kernel
theorem dX11_trace_30 : decode cX11_trace 30 = .ok (.aload_n 0, 1) := by decide +kernel
theorem dX11_trace_31 : decode cX11_trace 31 = .ok (.getfield 272, 3) := by decide +kernel
theorem dX11_trace_34 : decode cX11_trace 34 = .ok (.getfield 288, 3) := by decide +kernel
theorem dX11_trace_37 : decode cX11_trace 37 = .ok (.iload_n 1, 1) := by decide +kernel
theorem dX11_trace_38 : decode cX11_trace 38 = .ok (.iaload, 1) := by decide +kernel
theorem dX11_trace_39 : decode cX11_trace 39 = .ok (.ireturn, 1) := by decide +kernel
theorem dX11_as_0 : decode cX11_as 0 = .ok (.aload_n 0, 1) := by decide +kernel
theorem dX11_as_1 : decode cX11_as 1 = .ok (.iload_n 1, 1) := by decide +kernel
theorem dX11_as_2 : decode cX11_as 2 = .ok (.invokevirtual 167, 3) := by decide +kernel
theorem dX11_as_5 : decode cX11_as 5 = .ok (.astore_n 3, 1) := by decide +kernel
theorem dX11_as_6 : decode cX11_as 6 = .ok (.aload_n 3, 1) := by decide +kernel
theorem dX11_as_7 : decode cX11_as 7 = .ok (.ifnull 13, 3) := by decide +kernel
theorem dX11_as_10 : decode cX11_as 10 = .ok (.iload_n 2, 1) := by decide +kernel
theorem dX11_as_11 : decode cX11_as 11 = .ok (.ifCond .lt 9, 3) := by decide +kernel
theorem dX11_as_14 : decode cX11_as 14 = .ok (.iload_n 2, 1) := by decide +kernel
theorem dX11_as_15 : decode cX11_as 15 = .ok (.bipush 6, 2) := by decide +kernel
theorem dX11_as_17 : decode cX11_as 17 = .ok (.if_icmp .le 5, 3) := by decide +kernel
theorem dX11_as_20 : decode cX11_as 20 = .ok (.iconst (-1), 1) := by decide +kernel
theorem dX11_as_21 : decode cX11_as 21 = .ok (.ireturn, 1) := by decide +kernel
theorem dX11_as_22 : decode cX11_as 22 = .ok (.aload_n 3, 1) := by decide +kernel
theorem dX11_as_23 : decode cX11_as 23 = .ok (.iload_n 2, 1) := by decide +kernel
theorem dX11_as_24 : decode cX11_as 24 = .ok (.invokestatic 291, 3) := by decide +kernel
theorem dX11_as_27 : decode cX11_as 27 = .ok (.ifCond .eq 10, 3) := by decide +kernel
theorem dX11_as_30 : decode cX11_as 30 = .ok (.aload_n 3, 1) := by decide +kernel
theorem dX11_as_31 : decode cX11_as 31 = .ok (.getfield 175, 3) := by decide +kernel
theorem dX11_as_34 : decode cX11_as 34 = .ok (.goto 5, 3) := by decide +kernel
theorem dX11_as_37 : decode cX11_as 37 = .ok (.bipush (-6), 2) := by decide +kernel
theorem dX11_as_39 : decode cX11_as 39 = .ok (.ireturn, 1) := by decide +kernel
theorem dX11_count_0 : decode cX11_count 0 = .ok (.iload_n 1, 1) := by decide +kernel
theorem dX11_count_1 : decode cX11_count 1 = .ok (.tableswitch 101 0 7 #[47, 52, 57, 62, 67, 72, 77, 82], 47) := by decide +kernel
theorem dX11_count_48 : decode cX11_count 48 = .ok (.aload_n 0, 1) := by decide +kernel
theorem dX11_count_49 : decode cX11_count 49 = .ok (.getfield 64, 3) := by decide +kernel
theorem dX11_count_52 : decode cX11_count 52 = .ok (.ireturn, 1) := by decide +kernel
theorem dX11_count_53 : decode cX11_count 53 = .ok (.aload_n 0, 1) := by decide +kernel
theorem dX11_count_54 : decode cX11_count 54 = .ok (.getfield 77, 3) := by decide +kernel
theorem dX11_count_57 : decode cX11_count 57 = .ok (.ireturn, 1) := by decide +kernel
theorem dX11_count_58 : decode cX11_count 58 = .ok (.aload_n 0, 1) := by decide +kernel
theorem dX11_count_59 : decode cX11_count 59 = .ok (.getfield 91, 3) := by decide +kernel
theorem dX11_count_62 : decode cX11_count 62 = .ok (.ireturn, 1) := by decide +kernel
theorem dX11_count_63 : decode cX11_count 63 = .ok (.aload_n 0, 1) := by decide +kernel
theorem dX11_count_64 : decode cX11_count 64 = .ok (.getfield 102, 3) := by decide +kernel
theorem dX11_count_67 : decode cX11_count 67 = .ok (.ireturn, 1) := by decide +kernel
theorem dX11_count_68 : decode cX11_count 68 = .ok (.aload_n 0, 1) := by decide +kernel
theorem dX11_count_69 : decode cX11_count 69 = .ok (.getfield 160, 3) := by decide +kernel
theorem dX11_count_72 : decode cX11_count 72 = .ok (.ireturn, 1) := by decide +kernel
theorem dX11_count_73 : decode cX11_count 73 = .ok (.aload_n 0, 1) := by decide +kernel
theorem dX11_count_74 : decode cX11_count 74 = .ok (.getfield 71, 3) := by decide +kernel
theorem dX11_count_77 : decode cX11_count 77 = .ok (.ireturn, 1) := by decide +kernel
theorem dX11_count_78 : decode cX11_count 78 = .ok (.aload_n 0, 1) := by decide +kernel
theorem dX11_count_79 : decode cX11_count 79 = .ok (.getfield 74, 3) := by decide +kernel
theorem dX11_count_82 : decode cX11_count 82 = .ok (.ireturn, 1) := by decide +kernel
theorem dX11_count_83 : decode cX11_count 83 = .ok (.aload_n 0, 1) := by decide +kernel
theorem dX11_count_84 : decode cX11_count 84 = .ok (.getfield 272, 3) := by decide +kernel
theorem dX11_count_87 : decode cX11_count 87 = .ok (.ifnonnull 7, 3) := by decide +kernel
theorem dX11_count_90 : decode cX11_count 90 = .ok (.iconst 0, 1) := by decide +kernel
theorem dX11_count_91 : decode cX11_count 91 = .ok (.goto 10, 3) := by decide +kernel
theorem dX11_count_94 : decode cX11_count 94 = .ok (.aload_n 0, 1) := by decide +kernel
theorem dX11_count_95 : decode cX11_count 95 = .ok (.getfield 272, 3) := by decide +kernel
theorem dX11_count_98 : decode cX11_count 98 = .ok (.getfield 276, 3) := by decide +kernel
theorem dX11_count_101 : decode cX11_count 101 = .ok (.ireturn, 1) := by decide +kernel
theorem dX11_count_102 : decode cX11_count 102 = .ok (.iconst (-1), 1) := by decide +kernel
theorem dX11_count_103 : decode cX11_count 103 = .ok (.ireturn, 1) := by decide +kernel
theorem dX11_oneIf_0 : decode cX11_oneIf 0 = .ok (.iload_n 0, 1) := by decide +kernel
theorem dX11_oneIf_1 : decode cX11_oneIf 1 = .ok (.ifCond .eq 7, 3) := by decide +kernel
theorem dX11_oneIf_4 : decode cX11_oneIf 4 = .ok (.iconst 1, 1) := by decide +kernel
theorem dX11_oneIf_5 : decode cX11_oneIf 5 = .ok (.goto 4, 3) := by decide +kernel
theorem dX11_oneIf_8 : decode cX11_oneIf 8 = .ok (.iconst 0, 1) := by decide +kernel
theorem dX11_oneIf_9 : decode cX11_oneIf 9 = .ok (.ireturn, 1) := by decide +kernel
theorem dX11_isTongue_0 : decode cX11_isTongue 0 = .ok (.iload_n 1, 1) := by decide +kernel
theorem dX11_isTongue_1 : decode cX11_isTongue 1 = .ok (.ifCond .lt 15, 3) := by decide +kernel
theorem dX11_isTongue_4 : decode cX11_isTongue 4 = .ok (.iload_n 1, 1) := by decide +kernel
theorem dX11_isTongue_5 : decode cX11_isTongue 5 = .ok (.aload_n 0, 1) := by decide +kernel
theorem dX11_isTongue_6 : decode cX11_isTongue 6 = .ok (.getfield 64, 3) := by decide +kernel
theorem dX11_isTongue_9 : decode cX11_isTongue 9 = .ok (.if_icmp .ge 7, 3) := by decide +kernel
theorem dX11_isTongue_12 : decode cX11_isTongue 12 = .ok (.iconst 1, 1) := by decide +kernel
theorem dX11_isTongue_13 : decode cX11_isTongue 13 = .ok (.goto 4, 3) := by decide +kernel
theorem dX11_isTongue_16 : decode cX11_isTongue 16 = .ok (.iconst 0, 1) := by decide +kernel
theorem dX11_isTongue_17 : decode cX11_isTongue 17 = .ok (.ireturn, 1) := by decide +kernel
theorem dX11_isMeaning_0 : decode cX11_isMeaning 0 = .ok (.iload_n 0, 1) := by decide +kernel
theorem dX11_isMeaning_1 : decode cX11_isMeaning 1 = .ok (.ifCond .lt 13, 3) := by decide +kernel
theorem dX11_isMeaning_4 : decode cX11_isMeaning 4 = .ok (.iload_n 0, 1) := by decide +kernel
theorem dX11_isMeaning_5 : decode cX11_isMeaning 5 = .ok (.bipush 10, 2) := by decide +kernel
theorem dX11_isMeaning_7 : decode cX11_isMeaning 7 = .ok (.if_icmp .ge 7, 3) := by decide +kernel
theorem dX11_isMeaning_10 : decode cX11_isMeaning 10 = .ok (.iconst 1, 1) := by decide +kernel
theorem dX11_isMeaning_11 : decode cX11_isMeaning 11 = .ok (.goto 4, 3) := by decide +kernel
theorem dX11_isMeaning_14 : decode cX11_isMeaning 14 = .ok (.iconst 0, 1) := by decide +kernel
theorem dX11_isMeaning_15 : decode cX11_isMeaning 15 = .ok (.ireturn, 1) := by decide +kernel
theorem dX11_isLaw_0 : decode cX11_isLaw 0 = .ok (.iload_n 1, 1) := by decide +kernel
theorem dX11_isLaw_1 : decode cX11_isLaw 1 = .ok (.ifCond .lt 15, 3) := by decide +kernel
theorem dX11_isLaw_4 : decode cX11_isLaw 4 = .ok (.iload_n 1, 1) := by decide +kernel
theorem dX11_isLaw_5 : decode cX11_isLaw 5 = .ok (.aload_n 0, 1) := by decide +kernel
theorem dX11_isLaw_6 : decode cX11_isLaw 6 = .ok (.getfield 77, 3) := by decide +kernel
theorem dX11_isLaw_9 : decode cX11_isLaw 9 = .ok (.if_icmp .ge 7, 3) := by decide +kernel
theorem dX11_isLaw_12 : decode cX11_isLaw 12 = .ok (.iconst 1, 1) := by decide +kernel
theorem dX11_isLaw_13 : decode cX11_isLaw 13 = .ok (.goto 4, 3) := by decide +kernel
theorem dX11_isLaw_16 : decode cX11_isLaw 16 = .ok (.iconst 0, 1) := by decide +kernel
theorem dX11_isLaw_17 : decode cX11_isLaw 17 = .ok (.ireturn, 1) := by decide +kernel
theorem dX11_isSureness_0 : decode cX11_isSureness 0 = .ok (.iload_n 0, 1) := by decide +kernel
theorem dX11_isSureness_1 : decode cX11_isSureness 1 = .ok (.ifCond .lt 13, 3) := by decide +kernel
theorem dX11_isSureness_4 : decode cX11_isSureness 4 = .ok (.iload_n 0, 1) := by decide +kernel
theorem dX11_isSureness_5 : decode cX11_isSureness 5 = .ok (.bipush 10, 2) := by decide +kernel
theorem dX11_isSureness_7 : decode cX11_isSureness 7 = .ok (.if_icmp .gt 7, 3) := by decide +kernel
theorem dX11_isSureness_10 : decode cX11_isSureness 10 = .ok (.iconst 1, 1) := by decide +kernel
theorem dX11_isSureness_11 : decode cX11_isSureness 11 = .ok (.goto 4, 3) := by decide +kernel
theorem dX11_isSureness_14 : decode cX11_isSureness 14 = .ok (.iconst 0, 1) := by decide +kernel
theorem dX11_isSureness_15 : decode cX11_isSureness 15 = .ok (.ireturn, 1) := by decide +kernel
theorem dX11_isSoundOrNothing_0 : decode cX11_isSoundOrNothing 0 = .ok (.iload_n 0, 1) := by decide +kernel
theorem dX11_isSoundOrNothing_1 : decode cX11_isSoundOrNothing 1 = .ok (.ifCond .lt 13, 3) := by decide +kernel
theorem dX11_isSoundOrNothing_4 : decode cX11_isSoundOrNothing 4 = .ok (.iload_n 0, 1) := by decide +kernel
theorem dX11_isSoundOrNothing_5 : decode cX11_isSoundOrNothing 5 = .ok (.bipush 26, 2) := by decide +kernel
theorem dX11_isSoundOrNothing_7 : decode cX11_isSoundOrNothing 7 = .ok (.if_icmp .gt 7, 3) := by decide +kernel
theorem dX11_isSoundOrNothing_10 : decode cX11_isSoundOrNothing 10 = .ok (.iconst 1, 1) := by decide +kernel
theorem dX11_isSoundOrNothing_11 : decode cX11_isSoundOrNothing 11 = .ok (.goto 4, 3) := by decide +kernel
theorem dX11_isSoundOrNothing_14 : decode cX11_isSoundOrNothing 14 = .ok (.iconst 0, 1) := by decide +kernel
theorem dX11_isSoundOrNothing_15 : decode cX11_isSoundOrNothing 15 = .ok (.ireturn, 1) := by decide +kernel
theorem dX11_isLetterByte_0 : decode cX11_isLetterByte 0 = .ok (.iload_n 0, 1) := by decide +kernel
theorem dX11_isLetterByte_1 : decode cX11_isLetterByte 1 = .ok (.bipush 97, 2) := by decide +kernel
theorem dX11_isLetterByte_3 : decode cX11_isLetterByte 3 = .ok (.if_icmp .lt 13, 3) := by decide +kernel
theorem dX11_isLetterByte_6 : decode cX11_isLetterByte 6 = .ok (.iload_n 0, 1) := by decide +kernel
theorem dX11_isLetterByte_7 : decode cX11_isLetterByte 7 = .ok (.bipush 122, 2) := by decide +kernel
theorem dX11_isLetterByte_9 : decode cX11_isLetterByte 9 = .ok (.if_icmp .gt 7, 3) := by decide +kernel
theorem dX11_isLetterByte_12 : decode cX11_isLetterByte 12 = .ok (.iconst 1, 1) := by decide +kernel
theorem dX11_isLetterByte_13 : decode cX11_isLetterByte 13 = .ok (.goto 4, 3) := by decide +kernel
theorem dX11_isLetterByte_16 : decode cX11_isLetterByte 16 = .ok (.iconst 0, 1) := by decide +kernel
theorem dX11_isLetterByte_17 : decode cX11_isLetterByte 17 = .ok (.ireturn, 1) := by decide +kernel
theorem dX11_isVowel_0 : decode cX11_isVowel 0 = .ok (.iload_n 0, 1) := by decide +kernel
theorem dX11_isVowel_1 : decode cX11_isVowel 1 = .ok (.ifCond .eq 26, 3) := by decide +kernel
theorem dX11_isVowel_4 : decode cX11_isVowel 4 = .ok (.iload_n 0, 1) := by decide +kernel
theorem dX11_isVowel_5 : decode cX11_isVowel 5 = .ok (.iconst 4, 1) := by decide +kernel
theorem dX11_isVowel_6 : decode cX11_isVowel 6 = .ok (.if_icmp .eq 21, 3) := by decide +kernel
theorem dX11_isVowel_9 : decode cX11_isVowel 9 = .ok (.iload_n 0, 1) := by decide +kernel
theorem dX11_isVowel_10 : decode cX11_isVowel 10 = .ok (.bipush 8, 2) := by decide +kernel
theorem dX11_isVowel_12 : decode cX11_isVowel 12 = .ok (.if_icmp .eq 15, 3) := by decide +kernel
theorem dX11_isVowel_15 : decode cX11_isVowel 15 = .ok (.iload_n 0, 1) := by decide +kernel
theorem dX11_isVowel_16 : decode cX11_isVowel 16 = .ok (.bipush 14, 2) := by decide +kernel
theorem dX11_isVowel_18 : decode cX11_isVowel 18 = .ok (.if_icmp .eq 9, 3) := by decide +kernel
theorem dX11_isVowel_21 : decode cX11_isVowel 21 = .ok (.iload_n 0, 1) := by decide +kernel
theorem dX11_isVowel_22 : decode cX11_isVowel 22 = .ok (.bipush 20, 2) := by decide +kernel
theorem dX11_isVowel_24 : decode cX11_isVowel 24 = .ok (.if_icmp .ne 7, 3) := by decide +kernel
theorem dX11_isVowel_27 : decode cX11_isVowel 27 = .ok (.iconst 1, 1) := by decide +kernel
theorem dX11_isVowel_28 : decode cX11_isVowel 28 = .ok (.goto 4, 3) := by decide +kernel
theorem dX11_isVowel_31 : decode cX11_isVowel 31 = .ok (.iconst 0, 1) := by decide +kernel
theorem dX11_isVowel_32 : decode cX11_isVowel 32 = .ok (.ireturn, 1) := by decide +kernel
theorem dX11_spokenWord_0 : decode cX11_spokenWord 0 = .ok (.aload_n 0, 1) := by decide +kernel
theorem dX11_spokenWord_1 : decode cX11_spokenWord 1 = .ok (.iload_n 1, 1) := by decide +kernel
theorem dX11_spokenWord_2 : decode cX11_spokenWord 2 = .ok (.invokevirtual 84, 3) := by decide +kernel
theorem dX11_spokenWord_5 : decode cX11_spokenWord 5 = .ok (.ifCond .eq 10, 3) := by decide +kernel
theorem dX11_spokenWord_8 : decode cX11_spokenWord 8 = .ok (.iload_n 2, 1) := by decide +kernel
theorem dX11_spokenWord_9 : decode cX11_spokenWord 9 = .ok (.invokestatic 88, 3) := by decide +kernel
theorem dX11_spokenWord_12 : decode cX11_spokenWord 12 = .ok (.ifCond .ne 5, 3) := by decide +kernel
theorem dX11_spokenWord_15 : decode cX11_spokenWord 15 = .ok (.aconst_null, 1) := by decide +kernel
theorem dX11_spokenWord_16 : decode cX11_spokenWord 16 = .ok (.areturn, 1) := by decide +kernel
theorem dX11_spokenWord_17 : decode cX11_spokenWord 17 = .ok (.aload_n 0, 1) := by decide +kernel
theorem dX11_spokenWord_18 : decode cX11_spokenWord 18 = .ok (.getfield 15, 3) := by decide +kernel
theorem dX11_spokenWord_21 : decode cX11_spokenWord 21 = .ok (.iload_n 1, 1) := by decide +kernel
theorem dX11_spokenWord_22 : decode cX11_spokenWord 22 = .ok (.bipush 10, 2) := by decide +kernel
theorem dX11_spokenWord_24 : decode cX11_spokenWord 24 = .ok (.imul, 1) := by decide +kernel
theorem dX11_spokenWord_25 : decode cX11_spokenWord 25 = .ok (.iload_n 2, 1) := by decide +kernel
theorem dX11_spokenWord_26 : decode cX11_spokenWord 26 = .ok (.iadd, 1) := by decide +kernel
theorem dX11_spokenWord_27 : decode cX11_spokenWord 27 = .ok (.aaload, 1) := by decide +kernel
theorem dX11_spokenWord_28 : decode cX11_spokenWord 28 = .ok (.astore_n 3, 1) := by decide +kernel
theorem dX11_spokenWord_29 : decode cX11_spokenWord 29 = .ok (.aload_n 3, 1) := by decide +kernel
theorem dX11_spokenWord_30 : decode cX11_spokenWord 30 = .ok (.getfield 135, 3) := by decide +kernel
theorem dX11_spokenWord_33 : decode cX11_spokenWord 33 = .ok (.ifCond .le 7, 3) := by decide +kernel
theorem dX11_spokenWord_36 : decode cX11_spokenWord 36 = .ok (.aload_n 3, 1) := by decide +kernel
theorem dX11_spokenWord_37 : decode cX11_spokenWord 37 = .ok (.goto 4, 3) := by decide +kernel
theorem dX11_spokenWord_40 : decode cX11_spokenWord 40 = .ok (.aconst_null, 1) := by decide +kernel
theorem dX11_spokenWord_41 : decode cX11_spokenWord 41 = .ok (.areturn, 1) := by decide +kernel
theorem dX11_listedWord_0 : decode cX11_listedWord 0 = .ok (.aload_n 0, 1) := by decide +kernel
theorem dX11_listedWord_1 : decode cX11_listedWord 1 = .ok (.iload_n 1, 1) := by decide +kernel
theorem dX11_listedWord_2 : decode cX11_listedWord 2 = .ok (.iload_n 2, 1) := by decide +kernel
theorem dX11_listedWord_3 : decode cX11_listedWord 3 = .ok (.invokevirtual 131, 3) := by decide +kernel
theorem dX11_listedWord_6 : decode cX11_listedWord 6 = .ok (.astore_n 3, 1) := by decide +kernel
theorem dX11_listedWord_7 : decode cX11_listedWord 7 = .ok (.aload_n 3, 1) := by decide +kernel
theorem dX11_listedWord_8 : decode cX11_listedWord 8 = .ok (.ifnull 10, 3) := by decide +kernel
theorem dX11_listedWord_11 : decode cX11_listedWord 11 = .ok (.aload_n 3, 1) := by decide +kernel
theorem dX11_listedWord_12 : decode cX11_listedWord 12 = .ok (.getfield 187, 3) := by decide +kernel
theorem dX11_listedWord_15 : decode cX11_listedWord 15 = .ok (.ifCond .eq 7, 3) := by decide +kernel
theorem dX11_listedWord_18 : decode cX11_listedWord 18 = .ok (.aconst_null, 1) := by decide +kernel
theorem dX11_listedWord_19 : decode cX11_listedWord 19 = .ok (.goto 4, 3) := by decide +kernel
theorem dX11_listedWord_22 : decode cX11_listedWord 22 = .ok (.aload_n 3, 1) := by decide +kernel
theorem dX11_listedWord_23 : decode cX11_listedWord 23 = .ok (.areturn, 1) := by decide +kernel
theorem dX11_eventAt_0 : decode cX11_eventAt 0 = .ok (.iload_n 1, 1) := by decide +kernel
theorem dX11_eventAt_1 : decode cX11_eventAt 1 = .ok (.ifCond .lt 20, 3) := by decide +kernel
theorem dX11_eventAt_4 : decode cX11_eventAt 4 = .ok (.iload_n 1, 1) := by decide +kernel
theorem dX11_eventAt_5 : decode cX11_eventAt 5 = .ok (.aload_n 0, 1) := by decide +kernel
theorem dX11_eventAt_6 : decode cX11_eventAt 6 = .ok (.getfield 91, 3) := by decide +kernel
theorem dX11_eventAt_9 : decode cX11_eventAt 9 = .ok (.if_icmp .ge 12, 3) := by decide +kernel
theorem dX11_eventAt_12 : decode cX11_eventAt 12 = .ok (.aload_n 0, 1) := by decide +kernel
theorem dX11_eventAt_13 : decode cX11_eventAt 13 = .ok (.getfield 30, 3) := by decide +kernel
theorem dX11_eventAt_16 : decode cX11_eventAt 16 = .ok (.iload_n 1, 1) := by decide +kernel
theorem dX11_eventAt_17 : decode cX11_eventAt 17 = .ok (.aaload, 1) := by decide +kernel
theorem dX11_eventAt_18 : decode cX11_eventAt 18 = .ok (.goto 4, 3) := by decide +kernel
theorem dX11_eventAt_21 : decode cX11_eventAt 21 = .ok (.aconst_null, 1) := by decide +kernel
theorem dX11_eventAt_22 : decode cX11_eventAt 22 = .ok (.areturn, 1) := by decide +kernel
theorem dX11_isOfKind_0 : decode cX11_isOfKind 0 = .ok (.iload_n 1, 1) := by decide +kernel
theorem dX11_isOfKind_1 : decode cX11_isOfKind 1 = .ok (.tableswitch 75 0 6 #[43, 45, 50, 55, 60, 65, 70], 43) := by decide +kernel
theorem dX11_isOfKind_44 : decode cX11_isOfKind 44 = .ok (.iconst 1, 1) := by decide +kernel
theorem dX11_isOfKind_45 : decode cX11_isOfKind 45 = .ok (.ireturn, 1) := by decide +kernel
theorem dX11_isOfKind_46 : decode cX11_isOfKind 46 = .ok (.aload_n 0, 1) := by decide +kernel
theorem dX11_isOfKind_47 : decode cX11_isOfKind 47 = .ok (.instanceof 128, 3) := by decide +kernel
theorem dX11_isOfKind_50 : decode cX11_isOfKind 50 = .ok (.ireturn, 1) := by decide +kernel
theorem dX11_isOfKind_51 : decode cX11_isOfKind 51 = .ok (.aload_n 0, 1) := by decide +kernel
theorem dX11_isOfKind_52 : decode cX11_isOfKind 52 = .ok (.instanceof 145, 3) := by decide +kernel
theorem dX11_isOfKind_55 : decode cX11_isOfKind 55 = .ok (.ireturn, 1) := by decide +kernel
theorem dX11_isOfKind_56 : decode cX11_isOfKind 56 = .ok (.aload_n 0, 1) := by decide +kernel
theorem dX11_isOfKind_57 : decode cX11_isOfKind 57 = .ok (.instanceof 151, 3) := by decide +kernel
theorem dX11_isOfKind_60 : decode cX11_isOfKind 60 = .ok (.ireturn, 1) := by decide +kernel
theorem dX11_isOfKind_61 : decode cX11_isOfKind 61 = .ok (.aload_n 0, 1) := by decide +kernel
theorem dX11_isOfKind_62 : decode cX11_isOfKind 62 = .ok (.instanceof 138, 3) := by decide +kernel
theorem dX11_isOfKind_65 : decode cX11_isOfKind 65 = .ok (.ireturn, 1) := by decide +kernel
theorem dX11_isOfKind_66 : decode cX11_isOfKind 66 = .ok (.aload_n 0, 1) := by decide +kernel
theorem dX11_isOfKind_67 : decode cX11_isOfKind 67 = .ok (.instanceof 148, 3) := by decide +kernel
theorem dX11_isOfKind_70 : decode cX11_isOfKind 70 = .ok (.ireturn, 1) := by decide +kernel
theorem dX11_isOfKind_71 : decode cX11_isOfKind 71 = .ok (.aload_n 0, 1) := by decide +kernel
theorem dX11_isOfKind_72 : decode cX11_isOfKind 72 = .ok (.instanceof 112, 3) := by decide +kernel
theorem dX11_isOfKind_75 : decode cX11_isOfKind 75 = .ok (.ireturn, 1) := by decide +kernel
theorem dX11_isOfKind_76 : decode cX11_isOfKind 76 = .ok (.iconst 0, 1) := by decide +kernel
theorem dX11_isOfKind_77 : decode cX11_isOfKind 77 = .ok (.ireturn, 1) := by decide +kernel
theorem dX11_newTongue_0 : decode cX11_newTongue 0 = .ok (.aload_n 0, 1) := by decide +kernel
theorem dX11_newTongue_1 : decode cX11_newTongue 1 = .ok (.getfield 64, 3) := by decide +kernel
theorem dX11_newTongue_4 : decode cX11_newTongue 4 = .ok (.bipush 6, 2) := by decide +kernel
theorem dX11_newTongue_6 : decode cX11_newTongue 6 = .ok (.if_icmp .ge 39, 3) := by decide +kernel
theorem dX11_newTongue_9 : decode cX11_newTongue 9 = .ok (.aload_n 0, 1) := by decide +kernel
theorem dX11_newTongue_10 : decode cX11_newTongue 10 = .ok (.getfield 19, 3) := by decide +kernel
theorem dX11_newTongue_13 : decode cX11_newTongue 13 = .ok (.iconst 2, 1) := by decide +kernel
theorem dX11_newTongue_14 : decode cX11_newTongue 14 = .ok (.aload_n 0, 1) := by decide +kernel
theorem dX11_newTongue_15 : decode cX11_newTongue 15 = .ok (.getfield 64, 3) := by decide +kernel
theorem dX11_newTongue_18 : decode cX11_newTongue 18 = .ok (.imul, 1) := by decide +kernel
theorem dX11_newTongue_19 : decode cX11_newTongue 19 = .ok (.iload_n 1, 1) := by decide +kernel
theorem dX11_newTongue_20 : decode cX11_newTongue 20 = .ok (.iastore, 1) := by decide +kernel
theorem dX11_newTongue_21 : decode cX11_newTongue 21 = .ok (.aload_n 0, 1) := by decide +kernel
theorem dX11_newTongue_22 : decode cX11_newTongue 22 = .ok (.getfield 19, 3) := by decide +kernel
theorem dX11_newTongue_25 : decode cX11_newTongue 25 = .ok (.iconst 2, 1) := by decide +kernel
theorem dX11_newTongue_26 : decode cX11_newTongue 26 = .ok (.aload_n 0, 1) := by decide +kernel
theorem dX11_newTongue_27 : decode cX11_newTongue 27 = .ok (.getfield 64, 3) := by decide +kernel
theorem dX11_newTongue_30 : decode cX11_newTongue 30 = .ok (.imul, 1) := by decide +kernel
theorem dX11_newTongue_31 : decode cX11_newTongue 31 = .ok (.iconst 1, 1) := by decide +kernel
theorem dX11_newTongue_32 : decode cX11_newTongue 32 = .ok (.iadd, 1) := by decide +kernel
theorem dX11_newTongue_33 : decode cX11_newTongue 33 = .ok (.iload_n 2, 1) := by decide +kernel
theorem dX11_newTongue_34 : decode cX11_newTongue 34 = .ok (.iastore, 1) := by decide +kernel
theorem dX11_newTongue_35 : decode cX11_newTongue 35 = .ok (.aload_n 0, 1) := by decide +kernel
theorem dX11_newTongue_36 : decode cX11_newTongue 36 = .ok (.dup, 1) := by decide +kernel
theorem dX11_newTongue_37 : decode cX11_newTongue 37 = .ok (.getfield 64, 3) := by decide +kernel
theorem dX11_newTongue_40 : decode cX11_newTongue 40 = .ok (.iconst 1, 1) := by decide +kernel
theorem dX11_newTongue_41 : decode cX11_newTongue 41 = .ok (.iadd, 1) := by decide +kernel
theorem dX11_newTongue_42 : decode cX11_newTongue 42 = .ok (.putfield 64, 3) := by decide +kernel
theorem dX11_newTongue_45 : decode cX11_newTongue 45 = .ok (.aload_n 0, 1) := by decide +kernel
theorem dX11_newTongue_46 : decode cX11_newTongue 46 = .ok (.getfield 64, 3) := by decide +kernel
theorem dX11_newTongue_49 : decode cX11_newTongue 49 = .ok (.iconst 1, 1) := by decide +kernel
theorem dX11_newTongue_50 : decode cX11_newTongue 50 = .ok (.isub, 1) := by decide +kernel
theorem dX11_newTongue_51 : decode cX11_newTongue 51 = .ok (.ireturn, 1) := by decide +kernel
theorem dX11_happen_0 : decode cX11_happen 0 = .ok (.aload_n 0, 1) := by decide +kernel
theorem dX11_happen_1 : decode cX11_happen 1 = .ok (.getfield 91, 3) := by decide +kernel
theorem dX11_happen_4 : decode cX11_happen 4 = .ok (.bipush 80, 2) := by decide +kernel
theorem dX11_happen_6 : decode cX11_happen 6 = .ok (.if_icmp .ge 23, 3) := by decide +kernel
theorem dX11_happen_9 : decode cX11_happen 9 = .ok (.aload_n 0, 1) := by decide +kernel
theorem dX11_happen_10 : decode cX11_happen 10 = .ok (.getfield 30, 3) := by decide +kernel
theorem dX11_happen_13 : decode cX11_happen 13 = .ok (.aload_n 0, 1) := by decide +kernel
theorem dX11_happen_14 : decode cX11_happen 14 = .ok (.getfield 91, 3) := by decide +kernel
theorem dX11_happen_17 : decode cX11_happen 17 = .ok (.aload_n 1, 1) := by decide +kernel
theorem dX11_happen_18 : decode cX11_happen 18 = .ok (.aastore, 1) := by decide +kernel
theorem dX11_happen_19 : decode cX11_happen 19 = .ok (.aload_n 0, 1) := by decide +kernel
theorem dX11_happen_20 : decode cX11_happen 20 = .ok (.dup, 1) := by decide +kernel
theorem dX11_happen_21 : decode cX11_happen 21 = .ok (.getfield 91, 3) := by decide +kernel
theorem dX11_happen_24 : decode cX11_happen 24 = .ok (.iconst 1, 1) := by decide +kernel
theorem dX11_happen_25 : decode cX11_happen 25 = .ok (.iadd, 1) := by decide +kernel
theorem dX11_happen_26 : decode cX11_happen 26 = .ok (.putfield 91, 3) := by decide +kernel
theorem dX11_happen_29 : decode cX11_happen 29 = .ok (.return_, 1) := by decide +kernel
theorem dX11_faultOfWord_0 : decode cX11_faultOfWord 0 = .ok (.iconst 0, 1) := by decide +kernel
theorem dX11_faultOfWord_1 : decode cX11_faultOfWord 1 = .ok (.istore_n 2, 1) := by decide +kernel
theorem dX11_faultOfWord_2 : decode cX11_faultOfWord 2 = .ok (.iload_n 2, 1) := by decide +kernel
theorem dX11_faultOfWord_3 : decode cX11_faultOfWord 3 = .ok (.iload_n 1, 1) := by decide +kernel
theorem dX11_faultOfWord_4 : decode cX11_faultOfWord 4 = .ok (.if_icmp .ge 29, 3) := by decide +kernel
theorem dX11_faultOfWord_7 : decode cX11_faultOfWord 7 = .ok (.iload_n 2, 1) := by decide +kernel
theorem dX11_faultOfWord_8 : decode cX11_faultOfWord 8 = .ok (.bipush 8, 2) := by decide +kernel
theorem dX11_faultOfWord_10 : decode cX11_faultOfWord 10 = .ok (.if_icmp .ge 15, 3) := by decide +kernel
theorem dX11_faultOfWord_13 : decode cX11_faultOfWord 13 = .ok (.aload_n 0, 1) := by decide +kernel
theorem dX11_faultOfWord_14 : decode cX11_faultOfWord 14 = .ok (.getfield 9, 3) := by decide +kernel
theorem dX11_faultOfWord_17 : decode cX11_faultOfWord 17 = .ok (.iload_n 2, 1) := by decide +kernel
theorem dX11_faultOfWord_18 : decode cX11_faultOfWord 18 = .ok (.iaload, 1) := by decide +kernel
theorem dX11_faultOfWord_19 : decode cX11_faultOfWord 19 = .ok (.invokestatic 295, 3) := by decide +kernel
theorem dX11_faultOfWord_22 : decode cX11_faultOfWord 22 = .ok (.ifCond .ne 5, 3) := by decide +kernel
theorem dX11_faultOfWord_25 : decode cX11_faultOfWord 25 = .ok (.iload_n 2, 1) := by decide +kernel
theorem dX11_faultOfWord_26 : decode cX11_faultOfWord 26 = .ok (.ireturn, 1) := by decide +kernel
theorem dX11_faultOfWord_27 : decode cX11_faultOfWord 27 = .ok (.iinc 2 1, 3) := by decide +kernel
theorem dX11_faultOfWord_30 : decode cX11_faultOfWord 30 = .ok (.goto (-28), 3) := by decide +kernel
theorem dX11_faultOfWord_33 : decode cX11_faultOfWord 33 = .ok (.iload_n 1, 1) := by decide +kernel
theorem dX11_faultOfWord_34 : decode cX11_faultOfWord 34 = .ok (.ifCond .ne 7, 3) := by decide +kernel
theorem dX11_faultOfWord_37 : decode cX11_faultOfWord 37 = .ok (.iconst 0, 1) := by decide +kernel
theorem dX11_faultOfWord_38 : decode cX11_faultOfWord 38 = .ok (.goto 4, 3) := by decide +kernel
theorem dX11_faultOfWord_41 : decode cX11_faultOfWord 41 = .ok (.iconst (-1), 1) := by decide +kernel
theorem dX11_faultOfWord_42 : decode cX11_faultOfWord 42 = .ok (.ireturn, 1) := by decide +kernel
theorem dX11_areKin_0 : decode cX11_areKin 0 = .ok (.aload_n 1, 1) := by decide +kernel
theorem dX11_areKin_1 : decode cX11_areKin 1 = .ok (.getfield 135, 3) := by decide +kernel
theorem dX11_areKin_4 : decode cX11_areKin 4 = .ok (.aload_n 2, 1) := by decide +kernel
theorem dX11_areKin_5 : decode cX11_areKin 5 = .ok (.getfield 135, 3) := by decide +kernel
theorem dX11_areKin_8 : decode cX11_areKin 8 = .ok (.invokestatic 298, 3) := by decide +kernel
theorem dX11_areKin_11 : decode cX11_areKin 11 = .ok (.istore_n 3, 1) := by decide +kernel
theorem dX11_areKin_12 : decode cX11_areKin 12 = .ok (.bipush 10, 2) := by decide +kernel
theorem dX11_areKin_14 : decode cX11_areKin 14 = .ok (.aload_n 0, 1) := by decide +kernel
theorem dX11_areKin_15 : decode cX11_areKin 15 = .ok (.getfield 44, 3) := by decide +kernel
theorem dX11_areKin_18 : decode cX11_areKin 18 = .ok (.aload_n 1, 1) := by decide +kernel
theorem dX11_areKin_19 : decode cX11_areKin 19 = .ok (.aload_n 2, 1) := by decide +kernel
theorem dX11_areKin_20 : decode cX11_areKin 20 = .ok (.invokevirtual 193, 3) := by decide +kernel
theorem dX11_areKin_23 : decode cX11_areKin 23 = .ok (.imul, 1) := by decide +kernel
theorem dX11_areKin_24 : decode cX11_areKin 24 = .ok (.aload_n 0, 1) := by decide +kernel
theorem dX11_areKin_25 : decode cX11_areKin 25 = .ok (.getfield 34, 3) := by decide +kernel
theorem dX11_areKin_28 : decode cX11_areKin 28 = .ok (.iload_n 3, 1) := by decide +kernel
theorem dX11_areKin_29 : decode cX11_areKin 29 = .ok (.imul, 1) := by decide +kernel
theorem dX11_areKin_30 : decode cX11_areKin 30 = .ok (.if_icmp .gt 7, 3) := by decide +kernel
theorem dX11_areKin_33 : decode cX11_areKin 33 = .ok (.iconst 1, 1) := by decide +kernel
theorem dX11_areKin_34 : decode cX11_areKin 34 = .ok (.goto 4, 3) := by decide +kernel
theorem dX11_areKin_37 : decode cX11_areKin 37 = .ok (.iconst 0, 1) := by decide +kernel
theorem dX11_areKin_38 : decode cX11_areKin 38 = .ok (.ireturn, 1) := by decide +kernel
theorem dX11_kinSet_0 : decode cX11_kinSet 0 = .ok (.iconst 1, 1) := by decide +kernel
theorem dX11_kinSet_1 : decode cX11_kinSet 1 = .ok (.iload_n 2, 1) := by decide +kernel
theorem dX11_kinSet_2 : decode cX11_kinSet 2 = .ok (.ishl, 1) := by decide +kernel
theorem dX11_kinSet_3 : decode cX11_kinSet 3 = .ok (.istore_n 3, 1) := by decide +kernel
theorem dX11_kinSet_4 : decode cX11_kinSet 4 = .ok (.iconst 0, 1) := by decide +kernel
theorem dX11_kinSet_5 : decode cX11_kinSet 5 = .ok (.istore 4, 2) := by decide +kernel
theorem dX11_kinSet_7 : decode cX11_kinSet 7 = .ok (.iconst 0, 1) := by decide +kernel
theorem dX11_kinSet_8 : decode cX11_kinSet 8 = .ok (.istore 5, 2) := by decide +kernel
theorem dX11_kinSet_10 : decode cX11_kinSet 10 = .ok (.iload 5, 2) := by decide +kernel
theorem dX11_kinSet_12 : decode cX11_kinSet 12 = .ok (.aload_n 0, 1) := by decide +kernel
theorem dX11_kinSet_13 : decode cX11_kinSet 13 = .ok (.getfield 64, 3) := by decide +kernel
theorem dX11_kinSet_16 : decode cX11_kinSet 16 = .ok (.if_icmp .ge 120, 3) := by decide +kernel
theorem dX11_kinSet_19 : decode cX11_kinSet 19 = .ok (.iload 4, 2) := by decide +kernel
theorem dX11_kinSet_21 : decode cX11_kinSet 21 = .ok (.iload_n 3, 1) := by decide +kernel
theorem dX11_kinSet_22 : decode cX11_kinSet 22 = .ok (.if_icmp .eq 114, 3) := by decide +kernel
theorem dX11_kinSet_25 : decode cX11_kinSet 25 = .ok (.iload_n 3, 1) := by decide +kernel
theorem dX11_kinSet_26 : decode cX11_kinSet 26 = .ok (.iload 4, 2) := by decide +kernel
theorem dX11_kinSet_28 : decode cX11_kinSet 28 = .ok (.iconst (-1), 1) := by decide +kernel
theorem dX11_kinSet_29 : decode cX11_kinSet 29 = .ok (.ixor, 1) := by decide +kernel
theorem dX11_kinSet_30 : decode cX11_kinSet 30 = .ok (.iand, 1) := by decide +kernel
theorem dX11_kinSet_31 : decode cX11_kinSet 31 = .ok (.invokestatic 303, 3) := by decide +kernel
theorem dX11_kinSet_34 : decode cX11_kinSet 34 = .ok (.istore 6, 2) := by decide +kernel
theorem dX11_kinSet_36 : decode cX11_kinSet 36 = .ok (.iload 4, 2) := by decide +kernel
theorem dX11_kinSet_38 : decode cX11_kinSet 38 = .ok (.iconst 1, 1) := by decide +kernel
theorem dX11_kinSet_39 : decode cX11_kinSet 39 = .ok (.iload 6, 2) := by decide +kernel
theorem dX11_kinSet_41 : decode cX11_kinSet 41 = .ok (.ishl, 1) := by decide +kernel
theorem dX11_kinSet_42 : decode cX11_kinSet 42 = .ok (.ior, 1) := by decide +kernel
theorem dX11_kinSet_43 : decode cX11_kinSet 43 = .ok (.istore 4, 2) := by decide +kernel
theorem dX11_kinSet_45 : decode cX11_kinSet 45 = .ok (.aload_n 0, 1) := by decide +kernel
theorem dX11_kinSet_46 : decode cX11_kinSet 46 = .ok (.iload 6, 2) := by decide +kernel
theorem dX11_kinSet_48 : decode cX11_kinSet 48 = .ok (.iload_n 1, 1) := by decide +kernel
theorem dX11_kinSet_49 : decode cX11_kinSet 49 = .ok (.invokevirtual 190, 3) := by decide +kernel
theorem dX11_kinSet_52 : decode cX11_kinSet 52 = .ok (.astore 7, 2) := by decide +kernel
theorem dX11_kinSet_54 : decode cX11_kinSet 54 = .ok (.iconst 0, 1) := by decide +kernel
theorem dX11_kinSet_55 : decode cX11_kinSet 55 = .ok (.istore 8, 2) := by decide +kernel
theorem dX11_kinSet_57 : decode cX11_kinSet 57 = .ok (.iload 8, 2) := by decide +kernel
theorem dX11_kinSet_59 : decode cX11_kinSet 59 = .ok (.aload_n 0, 1) := by decide +kernel
theorem dX11_kinSet_60 : decode cX11_kinSet 60 = .ok (.getfield 64, 3) := by decide +kernel
theorem dX11_kinSet_63 : decode cX11_kinSet 63 = .ok (.if_icmp .ge 67, 3) := by decide +kernel
theorem dX11_kinSet_66 : decode cX11_kinSet 66 = .ok (.aload_n 0, 1) := by decide +kernel
theorem dX11_kinSet_67 : decode cX11_kinSet 67 = .ok (.iload 8, 2) := by decide +kernel
theorem dX11_kinSet_69 : decode cX11_kinSet 69 = .ok (.iload_n 1, 1) := by decide +kernel
theorem dX11_kinSet_70 : decode cX11_kinSet 70 = .ok (.invokevirtual 190, 3) := by decide +kernel
theorem dX11_kinSet_73 : decode cX11_kinSet 73 = .ok (.astore 9, 2) := by decide +kernel
theorem dX11_kinSet_75 : decode cX11_kinSet 75 = .ok (.iload_n 3, 1) := by decide +kernel
theorem dX11_kinSet_76 : decode cX11_kinSet 76 = .ok (.iload 8, 2) := by decide +kernel
theorem dX11_kinSet_78 : decode cX11_kinSet 78 = .ok (.ishr, 1) := by decide +kernel
theorem dX11_kinSet_79 : decode cX11_kinSet 79 = .ok (.iconst 1, 1) := by decide +kernel
theorem dX11_kinSet_80 : decode cX11_kinSet 80 = .ok (.iand, 1) := by decide +kernel
theorem dX11_kinSet_81 : decode cX11_kinSet 81 = .ok (.ifCond .ne 7, 3) := by decide +kernel
theorem dX11_kinSet_84 : decode cX11_kinSet 84 = .ok (.iconst 1, 1) := by decide +kernel
theorem dX11_kinSet_85 : decode cX11_kinSet 85 = .ok (.goto 4, 3) := by decide +kernel
theorem dX11_kinSet_88 : decode cX11_kinSet 88 = .ok (.iconst 0, 1) := by decide +kernel
theorem dX11_kinSet_89 : decode cX11_kinSet 89 = .ok (.istore 10, 2) := by decide +kernel
theorem dX11_kinSet_91 : decode cX11_kinSet 91 = .ok (.iload 10, 2) := by decide +kernel
theorem dX11_kinSet_93 : decode cX11_kinSet 93 = .ok (.ifCond .eq 31, 3) := by decide +kernel
theorem dX11_kinSet_96 : decode cX11_kinSet 96 = .ok (.aload 7, 2) := by decide +kernel
theorem dX11_kinSet_98 : decode cX11_kinSet 98 = .ok (.ifnull 26, 3) := by decide +kernel
theorem dX11_kinSet_101 : decode cX11_kinSet 101 = .ok (.aload 9, 2) := by decide +kernel
theorem dX11_kinSet_103 : decode cX11_kinSet 103 = .ok (.ifnull 21, 3) := by decide +kernel
theorem dX11_kinSet_106 : decode cX11_kinSet 106 = .ok (.aload_n 0, 1) := by decide +kernel
theorem dX11_kinSet_107 : decode cX11_kinSet 107 = .ok (.aload 7, 2) := by decide +kernel
theorem dX11_kinSet_109 : decode cX11_kinSet 109 = .ok (.aload 9, 2) := by decide +kernel
theorem dX11_kinSet_111 : decode cX11_kinSet 111 = .ok (.invokevirtual 207, 3) := by decide +kernel
theorem dX11_kinSet_114 : decode cX11_kinSet 114 = .ok (.ifCond .eq 10, 3) := by decide +kernel
theorem dX11_kinSet_117 : decode cX11_kinSet 117 = .ok (.iload_n 3, 1) := by decide +kernel
theorem dX11_kinSet_118 : decode cX11_kinSet 118 = .ok (.iconst 1, 1) := by decide +kernel
theorem dX11_kinSet_119 : decode cX11_kinSet 119 = .ok (.iload 8, 2) := by decide +kernel
theorem dX11_kinSet_121 : decode cX11_kinSet 121 = .ok (.ishl, 1) := by decide +kernel
theorem dX11_kinSet_122 : decode cX11_kinSet 122 = .ok (.ior, 1) := by decide +kernel
theorem dX11_kinSet_123 : decode cX11_kinSet 123 = .ok (.istore_n 3, 1) := by decide +kernel
theorem dX11_kinSet_124 : decode cX11_kinSet 124 = .ok (.iinc 8 1, 3) := by decide +kernel
theorem dX11_kinSet_127 : decode cX11_kinSet 127 = .ok (.goto (-70), 3) := by decide +kernel
theorem dX11_kinSet_130 : decode cX11_kinSet 130 = .ok (.iinc 5 1, 3) := by decide +kernel
theorem dX11_kinSet_133 : decode cX11_kinSet 133 = .ok (.goto (-123), 3) := by decide +kernel
theorem dX11_kinSet_136 : decode cX11_kinSet 136 = .ok (.iload_n 3, 1) := by decide +kernel
theorem dX11_kinSet_137 : decode cX11_kinSet 137 = .ok (.ireturn, 1) := by decide +kernel
theorem dX11_meaningsOfBoth_0 : decode cX11_meaningsOfBoth 0 = .ok (.iconst 0, 1) := by decide +kernel
theorem dX11_meaningsOfBoth_1 : decode cX11_meaningsOfBoth 1 = .ok (.istore_n 3, 1) := by decide +kernel
theorem dX11_meaningsOfBoth_2 : decode cX11_meaningsOfBoth 2 = .ok (.iconst 0, 1) := by decide +kernel
theorem dX11_meaningsOfBoth_3 : decode cX11_meaningsOfBoth 3 = .ok (.istore 4, 2) := by decide +kernel
theorem dX11_meaningsOfBoth_5 : decode cX11_meaningsOfBoth 5 = .ok (.iload 4, 2) := by decide +kernel
theorem dX11_meaningsOfBoth_7 : decode cX11_meaningsOfBoth 7 = .ok (.bipush 10, 2) := by decide +kernel
theorem dX11_meaningsOfBoth_9 : decode cX11_meaningsOfBoth 9 = .ok (.if_icmp .ge 36, 3) := by decide +kernel
theorem dX11_meaningsOfBoth_12 : decode cX11_meaningsOfBoth 12 = .ok (.aload_n 0, 1) := by decide +kernel
theorem dX11_meaningsOfBoth_13 : decode cX11_meaningsOfBoth 13 = .ok (.iload_n 1, 1) := by decide +kernel
theorem dX11_meaningsOfBoth_14 : decode cX11_meaningsOfBoth 14 = .ok (.iload 4, 2) := by decide +kernel
theorem dX11_meaningsOfBoth_16 : decode cX11_meaningsOfBoth 16 = .ok (.invokevirtual 190, 3) := by decide +kernel
theorem dX11_meaningsOfBoth_19 : decode cX11_meaningsOfBoth 19 = .ok (.ifnull 20, 3) := by decide +kernel
theorem dX11_meaningsOfBoth_22 : decode cX11_meaningsOfBoth 22 = .ok (.aload_n 0, 1) := by decide +kernel
theorem dX11_meaningsOfBoth_23 : decode cX11_meaningsOfBoth 23 = .ok (.iload_n 2, 1) := by decide +kernel
theorem dX11_meaningsOfBoth_24 : decode cX11_meaningsOfBoth 24 = .ok (.iload 4, 2) := by decide +kernel
theorem dX11_meaningsOfBoth_26 : decode cX11_meaningsOfBoth 26 = .ok (.invokevirtual 190, 3) := by decide +kernel
theorem dX11_meaningsOfBoth_29 : decode cX11_meaningsOfBoth 29 = .ok (.ifnull 10, 3) := by decide +kernel
theorem dX11_meaningsOfBoth_32 : decode cX11_meaningsOfBoth 32 = .ok (.iload_n 3, 1) := by decide +kernel
theorem dX11_meaningsOfBoth_33 : decode cX11_meaningsOfBoth 33 = .ok (.iconst 1, 1) := by decide +kernel
theorem dX11_meaningsOfBoth_34 : decode cX11_meaningsOfBoth 34 = .ok (.iload 4, 2) := by decide +kernel
theorem dX11_meaningsOfBoth_36 : decode cX11_meaningsOfBoth 36 = .ok (.ishl, 1) := by decide +kernel
theorem dX11_meaningsOfBoth_37 : decode cX11_meaningsOfBoth 37 = .ok (.ior, 1) := by decide +kernel
theorem dX11_meaningsOfBoth_38 : decode cX11_meaningsOfBoth 38 = .ok (.istore_n 3, 1) := by decide +kernel
theorem dX11_meaningsOfBoth_39 : decode cX11_meaningsOfBoth 39 = .ok (.iinc 4 1, 3) := by decide +kernel
theorem dX11_meaningsOfBoth_42 : decode cX11_meaningsOfBoth 42 = .ok (.goto (-37), 3) := by decide +kernel
theorem dX11_meaningsOfBoth_45 : decode cX11_meaningsOfBoth 45 = .ok (.iload_n 3, 1) := by decide +kernel
theorem dX11_meaningsOfBoth_46 : decode cX11_meaningsOfBoth 46 = .ok (.ireturn, 1) := by decide +kernel
theorem dX11_costsTogether_0 : decode cX11_costsTogether 0 = .ok (.iconst 0, 1) := by decide +kernel
theorem dX11_costsTogether_1 : decode cX11_costsTogether 1 = .ok (.istore 4, 2) := by decide +kernel
theorem dX11_costsTogether_3 : decode cX11_costsTogether 3 = .ok (.iconst 0, 1) := by decide +kernel
theorem dX11_costsTogether_4 : decode cX11_costsTogether 4 = .ok (.istore 5, 2) := by decide +kernel
theorem dX11_costsTogether_6 : decode cX11_costsTogether 6 = .ok (.iload 5, 2) := by decide +kernel
theorem dX11_costsTogether_8 : decode cX11_costsTogether 8 = .ok (.bipush 10, 2) := by decide +kernel
theorem dX11_costsTogether_10 : decode cX11_costsTogether 10 = .ok (.if_icmp .ge 31, 3) := by decide +kernel
theorem dX11_costsTogether_13 : decode cX11_costsTogether 13 = .ok (.iload_n 3, 1) := by decide +kernel
theorem dX11_costsTogether_14 : decode cX11_costsTogether 14 = .ok (.iload 5, 2) := by decide +kernel
theorem dX11_costsTogether_16 : decode cX11_costsTogether 16 = .ok (.ishr, 1) := by decide +kernel
theorem dX11_costsTogether_17 : decode cX11_costsTogether 17 = .ok (.iconst 1, 1) := by decide +kernel
theorem dX11_costsTogether_18 : decode cX11_costsTogether 18 = .ok (.iand, 1) := by decide +kernel
theorem dX11_costsTogether_19 : decode cX11_costsTogether 19 = .ok (.ifCond .eq 16, 3) := by decide +kernel
theorem dX11_costsTogether_22 : decode cX11_costsTogether 22 = .ok (.iload 4, 2) := by decide +kernel
theorem dX11_costsTogether_24 : decode cX11_costsTogether 24 = .ok (.aload_n 0, 1) := by decide +kernel
theorem dX11_costsTogether_25 : decode cX11_costsTogether 25 = .ok (.iload 5, 2) := by decide +kernel
theorem dX11_costsTogether_27 : decode cX11_costsTogether 27 = .ok (.iload_n 1, 1) := by decide +kernel
theorem dX11_costsTogether_28 : decode cX11_costsTogether 28 = .ok (.iload_n 2, 1) := by decide +kernel
theorem dX11_costsTogether_29 : decode cX11_costsTogether 29 = .ok (.invokevirtual 306, 3) := by decide +kernel
theorem dX11_costsTogether_32 : decode cX11_costsTogether 32 = .ok (.iadd, 1) := by decide +kernel
theorem dX11_costsTogether_33 : decode cX11_costsTogether 33 = .ok (.istore 4, 2) := by decide +kernel
theorem dX11_costsTogether_35 : decode cX11_costsTogether 35 = .ok (.iinc 5 1, 3) := by decide +kernel
theorem dX11_costsTogether_38 : decode cX11_costsTogether 38 = .ok (.goto (-32), 3) := by decide +kernel
theorem dX11_costsTogether_41 : decode cX11_costsTogether 41 = .ok (.iload 4, 2) := by decide +kernel
theorem dX11_costsTogether_43 : decode cX11_costsTogether 43 = .ok (.ireturn, 1) := by decide +kernel
theorem dX11_costsWithOthers_0 : decode cX11_costsWithOthers 0 = .ok (.iconst 0, 1) := by decide +kernel
theorem dX11_costsWithOthers_1 : decode cX11_costsWithOthers 1 = .ok (.istore_n 3, 1) := by decide +kernel
theorem dX11_costsWithOthers_2 : decode cX11_costsWithOthers 2 = .ok (.iconst 0, 1) := by decide +kernel
theorem dX11_costsWithOthers_3 : decode cX11_costsWithOthers 3 = .ok (.istore 4, 2) := by decide +kernel
theorem dX11_costsWithOthers_5 : decode cX11_costsWithOthers 5 = .ok (.iload 4, 2) := by decide +kernel
theorem dX11_costsWithOthers_7 : decode cX11_costsWithOthers 7 = .ok (.aload_n 0, 1) := by decide +kernel
theorem dX11_costsWithOthers_8 : decode cX11_costsWithOthers 8 = .ok (.getfield 64, 3) := by decide +kernel
theorem dX11_costsWithOthers_11 : decode cX11_costsWithOthers 11 = .ok (.if_icmp .ge 30, 3) := by decide +kernel
theorem dX11_costsWithOthers_14 : decode cX11_costsWithOthers 14 = .ok (.aload_n 0, 1) := by decide +kernel
theorem dX11_costsWithOthers_15 : decode cX11_costsWithOthers 15 = .ok (.iload 4, 2) := by decide +kernel
theorem dX11_costsWithOthers_17 : decode cX11_costsWithOthers 17 = .ok (.iload_n 2, 1) := by decide +kernel
theorem dX11_costsWithOthers_18 : decode cX11_costsWithOthers 18 = .ok (.invokevirtual 190, 3) := by decide +kernel
theorem dX11_costsWithOthers_21 : decode cX11_costsWithOthers 21 = .ok (.ifnull 14, 3) := by decide +kernel
theorem dX11_costsWithOthers_24 : decode cX11_costsWithOthers 24 = .ok (.iload_n 3, 1) := by decide +kernel
theorem dX11_costsWithOthers_25 : decode cX11_costsWithOthers 25 = .ok (.aload_n 0, 1) := by decide +kernel
theorem dX11_costsWithOthers_26 : decode cX11_costsWithOthers 26 = .ok (.iload_n 2, 1) := by decide +kernel
theorem dX11_costsWithOthers_27 : decode cX11_costsWithOthers 27 = .ok (.iload_n 1, 1) := by decide +kernel
theorem dX11_costsWithOthers_28 : decode cX11_costsWithOthers 28 = .ok (.iload 4, 2) := by decide +kernel
theorem dX11_costsWithOthers_30 : decode cX11_costsWithOthers 30 = .ok (.invokevirtual 306, 3) := by decide +kernel
theorem dX11_costsWithOthers_33 : decode cX11_costsWithOthers 33 = .ok (.iadd, 1) := by decide +kernel
theorem dX11_costsWithOthers_34 : decode cX11_costsWithOthers 34 = .ok (.istore_n 3, 1) := by decide +kernel
theorem dX11_costsWithOthers_35 : decode cX11_costsWithOthers 35 = .ok (.iinc 4 1, 3) := by decide +kernel
theorem dX11_costsWithOthers_38 : decode cX11_costsWithOthers 38 = .ok (.goto (-33), 3) := by decide +kernel
theorem dX11_costsWithOthers_41 : decode cX11_costsWithOthers 41 = .ok (.iload_n 3, 1) := by decide +kernel
theorem dX11_costsWithOthers_42 : decode cX11_costsWithOthers 42 = .ok (.ireturn, 1) := by decide +kernel
theorem dX11_firstOrder_0 : decode cX11_firstOrder 0 = .ok (.iconst 4, 1) := by decide +kernel
theorem dX11_firstOrder_1 : decode cX11_firstOrder 1 = .ok (.newarray .int, 2) := by decide +kernel
theorem dX11_firstOrder_3 : decode cX11_firstOrder 3 = .ok (.astore_n 1, 1) := by decide +kernel
theorem dX11_firstOrder_4 : decode cX11_firstOrder 4 = .ok (.iconst 0, 1) := by decide +kernel
theorem dX11_firstOrder_5 : decode cX11_firstOrder 5 = .ok (.istore_n 2, 1) := by decide +kernel
theorem dX11_firstOrder_6 : decode cX11_firstOrder 6 = .ok (.iconst 0, 1) := by decide +kernel
theorem dX11_firstOrder_7 : decode cX11_firstOrder 7 = .ok (.istore_n 3, 1) := by decide +kernel
theorem dX11_firstOrder_8 : decode cX11_firstOrder 8 = .ok (.iload_n 3, 1) := by decide +kernel
theorem dX11_firstOrder_9 : decode cX11_firstOrder 9 = .ok (.bipush 12, 2) := by decide +kernel
theorem dX11_firstOrder_11 : decode cX11_firstOrder 11 = .ok (.if_icmp .ge 29, 3) := by decide +kernel
theorem dX11_firstOrder_14 : decode cX11_firstOrder 14 = .ok (.iload_n 2, 1) := by decide +kernel
theorem dX11_firstOrder_15 : decode cX11_firstOrder 15 = .ok (.iconst 4, 1) := by decide +kernel
theorem dX11_firstOrder_16 : decode cX11_firstOrder 16 = .ok (.if_icmp .ge 24, 3) := by decide +kernel
theorem dX11_firstOrder_19 : decode cX11_firstOrder 19 = .ok (.iload_n 0, 1) := by decide +kernel
theorem dX11_firstOrder_20 : decode cX11_firstOrder 20 = .ok (.iload_n 3, 1) := by decide +kernel
theorem dX11_firstOrder_21 : decode cX11_firstOrder 21 = .ok (.ishr, 1) := by decide +kernel
theorem dX11_firstOrder_22 : decode cX11_firstOrder 22 = .ok (.iconst 1, 1) := by decide +kernel
theorem dX11_firstOrder_23 : decode cX11_firstOrder 23 = .ok (.iand, 1) := by decide +kernel
theorem dX11_firstOrder_24 : decode cX11_firstOrder 24 = .ok (.ifCond .eq 10, 3) := by decide +kernel
theorem dX11_firstOrder_27 : decode cX11_firstOrder 27 = .ok (.aload_n 1, 1) := by decide +kernel
theorem dX11_firstOrder_28 : decode cX11_firstOrder 28 = .ok (.iload_n 2, 1) := by decide +kernel
theorem dX11_firstOrder_29 : decode cX11_firstOrder 29 = .ok (.iload_n 3, 1) := by decide +kernel
theorem dX11_firstOrder_30 : decode cX11_firstOrder 30 = .ok (.iastore, 1) := by decide +kernel
theorem dX11_firstOrder_31 : decode cX11_firstOrder 31 = .ok (.iinc 2 1, 3) := by decide +kernel
theorem dX11_firstOrder_34 : decode cX11_firstOrder 34 = .ok (.iinc 3 1, 3) := by decide +kernel
theorem dX11_firstOrder_37 : decode cX11_firstOrder 37 = .ok (.goto (-29), 3) := by decide +kernel
theorem dX11_firstOrder_40 : decode cX11_firstOrder 40 = .ok (.aload_n 1, 1) := by decide +kernel
theorem dX11_firstOrder_41 : decode cX11_firstOrder 41 = .ok (.areturn, 1) := by decide +kernel
theorem dX11_toNextOrder_0 : decode cX11_toNextOrder 0 = .ok (.iload_n 1, 1) := by decide +kernel
theorem dX11_toNextOrder_1 : decode cX11_toNextOrder 1 = .ok (.iconst 2, 1) := by decide +kernel
theorem dX11_toNextOrder_2 : decode cX11_toNextOrder 2 = .ok (.isub, 1) := by decide +kernel
theorem dX11_toNextOrder_3 : decode cX11_toNextOrder 3 = .ok (.istore_n 2, 1) := by decide +kernel
theorem dX11_toNextOrder_4 : decode cX11_toNextOrder 4 = .ok (.iload_n 2, 1) := by decide +kernel
theorem dX11_toNextOrder_5 : decode cX11_toNextOrder 5 = .ok (.ifCond .lt 20, 3) := by decide +kernel
theorem dX11_toNextOrder_8 : decode cX11_toNextOrder 8 = .ok (.aload_n 0, 1) := by decide +kernel
theorem dX11_toNextOrder_9 : decode cX11_toNextOrder 9 = .ok (.iload_n 2, 1) := by decide +kernel
theorem dX11_toNextOrder_10 : decode cX11_toNextOrder 10 = .ok (.iaload, 1) := by decide +kernel
theorem dX11_toNextOrder_11 : decode cX11_toNextOrder 11 = .ok (.aload_n 0, 1) := by decide +kernel
theorem dX11_toNextOrder_12 : decode cX11_toNextOrder 12 = .ok (.iload_n 2, 1) := by decide +kernel
theorem dX11_toNextOrder_13 : decode cX11_toNextOrder 13 = .ok (.iconst 1, 1) := by decide +kernel
theorem dX11_toNextOrder_14 : decode cX11_toNextOrder 14 = .ok (.iadd, 1) := by decide +kernel
theorem dX11_toNextOrder_15 : decode cX11_toNextOrder 15 = .ok (.iaload, 1) := by decide +kernel
theorem dX11_toNextOrder_16 : decode cX11_toNextOrder 16 = .ok (.if_icmp .le 9, 3) := by decide +kernel
theorem dX11_toNextOrder_19 : decode cX11_toNextOrder 19 = .ok (.iinc 2 (-1), 3) := by decide +kernel
theorem dX11_toNextOrder_22 : decode cX11_toNextOrder 22 = .ok (.goto (-18), 3) := by decide +kernel
theorem dX11_toNextOrder_25 : decode cX11_toNextOrder 25 = .ok (.iload_n 2, 1) := by decide +kernel
theorem dX11_toNextOrder_26 : decode cX11_toNextOrder 26 = .ok (.ifCond .ge 5, 3) := by decide +kernel
theorem dX11_toNextOrder_29 : decode cX11_toNextOrder 29 = .ok (.iconst 0, 1) := by decide +kernel
theorem dX11_toNextOrder_30 : decode cX11_toNextOrder 30 = .ok (.ireturn, 1) := by decide +kernel
theorem dX11_toNextOrder_31 : decode cX11_toNextOrder 31 = .ok (.iload_n 1, 1) := by decide +kernel
theorem dX11_toNextOrder_32 : decode cX11_toNextOrder 32 = .ok (.iconst 1, 1) := by decide +kernel
theorem dX11_toNextOrder_33 : decode cX11_toNextOrder 33 = .ok (.isub, 1) := by decide +kernel
theorem dX11_toNextOrder_34 : decode cX11_toNextOrder 34 = .ok (.istore_n 3, 1) := by decide +kernel
theorem dX11_toNextOrder_35 : decode cX11_toNextOrder 35 = .ok (.iload_n 3, 1) := by decide +kernel
theorem dX11_toNextOrder_36 : decode cX11_toNextOrder 36 = .ok (.iload_n 2, 1) := by decide +kernel
theorem dX11_toNextOrder_37 : decode cX11_toNextOrder 37 = .ok (.if_icmp .le 18, 3) := by decide +kernel
theorem dX11_toNextOrder_40 : decode cX11_toNextOrder 40 = .ok (.aload_n 0, 1) := by decide +kernel
theorem dX11_toNextOrder_41 : decode cX11_toNextOrder 41 = .ok (.iload_n 3, 1) := by decide +kernel
theorem dX11_toNextOrder_42 : decode cX11_toNextOrder 42 = .ok (.iaload, 1) := by decide +kernel
theorem dX11_toNextOrder_43 : decode cX11_toNextOrder 43 = .ok (.aload_n 0, 1) := by decide +kernel
theorem dX11_toNextOrder_44 : decode cX11_toNextOrder 44 = .ok (.iload_n 2, 1) := by decide +kernel
theorem dX11_toNextOrder_45 : decode cX11_toNextOrder 45 = .ok (.iaload, 1) := by decide +kernel
theorem dX11_toNextOrder_46 : decode cX11_toNextOrder 46 = .ok (.if_icmp .ge 9, 3) := by decide +kernel
theorem dX11_toNextOrder_49 : decode cX11_toNextOrder 49 = .ok (.iinc 3 (-1), 3) := by decide +kernel
theorem dX11_toNextOrder_52 : decode cX11_toNextOrder 52 = .ok (.goto (-17), 3) := by decide +kernel
theorem dX11_toNextOrder_55 : decode cX11_toNextOrder 55 = .ok (.aload_n 0, 1) := by decide +kernel
theorem dX11_toNextOrder_56 : decode cX11_toNextOrder 56 = .ok (.iload_n 2, 1) := by decide +kernel
theorem dX11_toNextOrder_57 : decode cX11_toNextOrder 57 = .ok (.iload_n 3, 1) := by decide +kernel
theorem dX11_toNextOrder_58 : decode cX11_toNextOrder 58 = .ok (.invokestatic 309, 3) := by decide +kernel
theorem dX11_toNextOrder_61 : decode cX11_toNextOrder 61 = .ok (.iload_n 2, 1) := by decide +kernel
theorem dX11_toNextOrder_62 : decode cX11_toNextOrder 62 = .ok (.iconst 1, 1) := by decide +kernel
theorem dX11_toNextOrder_63 : decode cX11_toNextOrder 63 = .ok (.iadd, 1) := by decide +kernel
theorem dX11_toNextOrder_64 : decode cX11_toNextOrder 64 = .ok (.istore 4, 2) := by decide +kernel
theorem dX11_toNextOrder_66 : decode cX11_toNextOrder 66 = .ok (.iload_n 1, 1) := by decide +kernel
theorem dX11_toNextOrder_67 : decode cX11_toNextOrder 67 = .ok (.iconst 1, 1) := by decide +kernel
theorem dX11_toNextOrder_68 : decode cX11_toNextOrder 68 = .ok (.isub, 1) := by decide +kernel
theorem dX11_toNextOrder_69 : decode cX11_toNextOrder 69 = .ok (.istore 5, 2) := by decide +kernel
theorem dX11_toNextOrder_71 : decode cX11_toNextOrder 71 = .ok (.iload 4, 2) := by decide +kernel
theorem dX11_toNextOrder_73 : decode cX11_toNextOrder 73 = .ok (.iload 5, 2) := by decide +kernel
theorem dX11_toNextOrder_75 : decode cX11_toNextOrder 75 = .ok (.if_icmp .ge 20, 3) := by decide +kernel
theorem dX11_toNextOrder_78 : decode cX11_toNextOrder 78 = .ok (.aload_n 0, 1) := by decide +kernel
theorem dX11_toNextOrder_79 : decode cX11_toNextOrder 79 = .ok (.iload 4, 2) := by decide +kernel
theorem dX11_toNextOrder_81 : decode cX11_toNextOrder 81 = .ok (.iload 5, 2) := by decide +kernel
theorem dX11_toNextOrder_83 : decode cX11_toNextOrder 83 = .ok (.invokestatic 309, 3) := by decide +kernel
theorem dX11_toNextOrder_86 : decode cX11_toNextOrder 86 = .ok (.iinc 4 1, 3) := by decide +kernel
theorem dX11_toNextOrder_89 : decode cX11_toNextOrder 89 = .ok (.iinc 5 (-1), 3) := by decide +kernel
theorem dX11_toNextOrder_92 : decode cX11_toNextOrder 92 = .ok (.goto (-21), 3) := by decide +kernel
theorem dX11_toNextOrder_95 : decode cX11_toNextOrder 95 = .ok (.iconst 1, 1) := by decide +kernel
theorem dX11_toNextOrder_96 : decode cX11_toNextOrder 96 = .ok (.ireturn, 1) := by decide +kernel
theorem dX11_swap_0 : decode cX11_swap 0 = .ok (.aload_n 0, 1) := by decide +kernel
theorem dX11_swap_1 : decode cX11_swap 1 = .ok (.iload_n 1, 1) := by decide +kernel
theorem dX11_swap_2 : decode cX11_swap 2 = .ok (.iaload, 1) := by decide +kernel
theorem dX11_swap_3 : decode cX11_swap 3 = .ok (.istore_n 3, 1) := by decide +kernel
theorem dX11_swap_4 : decode cX11_swap 4 = .ok (.aload_n 0, 1) := by decide +kernel
theorem dX11_swap_5 : decode cX11_swap 5 = .ok (.iload_n 1, 1) := by decide +kernel
theorem dX11_swap_6 : decode cX11_swap 6 = .ok (.aload_n 0, 1) := by decide +kernel
theorem dX11_swap_7 : decode cX11_swap 7 = .ok (.iload_n 2, 1) := by decide +kernel
theorem dX11_swap_8 : decode cX11_swap 8 = .ok (.iaload, 1) := by decide +kernel
theorem dX11_swap_9 : decode cX11_swap 9 = .ok (.iastore, 1) := by decide +kernel
theorem dX11_swap_10 : decode cX11_swap 10 = .ok (.aload_n 0, 1) := by decide +kernel
theorem dX11_swap_11 : decode cX11_swap 11 = .ok (.iload_n 2, 1) := by decide +kernel
theorem dX11_swap_12 : decode cX11_swap 12 = .ok (.iload_n 3, 1) := by decide +kernel
theorem dX11_swap_13 : decode cX11_swap 13 = .ok (.iastore, 1) := by decide +kernel
theorem dX11_swap_14 : decode cX11_swap 14 = .ok (.return_, 1) := by decide +kernel
theorem dX11_comeOut_0 : decode cX11_comeOut 0 = .ok (.iconst 0, 1) := by decide +kernel
theorem dX11_comeOut_1 : decode cX11_comeOut 1 = .ok (.istore 5, 2) := by decide +kernel
theorem dX11_comeOut_3 : decode cX11_comeOut 3 = .ok (.iconst 0, 1) := by decide +kernel
theorem dX11_comeOut_4 : decode cX11_comeOut 4 = .ok (.istore 6, 2) := by decide +kernel
theorem dX11_comeOut_6 : decode cX11_comeOut 6 = .ok (.iload 6, 2) := by decide +kernel
theorem dX11_comeOut_8 : decode cX11_comeOut 8 = .ok (.bipush 10, 2) := by decide +kernel
theorem dX11_comeOut_10 : decode cX11_comeOut 10 = .ok (.if_icmp .ge 99, 3) := by decide +kernel
theorem dX11_comeOut_13 : decode cX11_comeOut 13 = .ok (.aload_n 0, 1) := by decide +kernel
theorem dX11_comeOut_14 : decode cX11_comeOut 14 = .ok (.iload_n 1, 1) := by decide +kernel
theorem dX11_comeOut_15 : decode cX11_comeOut 15 = .ok (.iload 6, 2) := by decide +kernel
theorem dX11_comeOut_17 : decode cX11_comeOut 17 = .ok (.invokevirtual 190, 3) := by decide +kernel
theorem dX11_comeOut_20 : decode cX11_comeOut 20 = .ok (.astore 7, 2) := by decide +kernel
theorem dX11_comeOut_22 : decode cX11_comeOut 22 = .ok (.aload_n 0, 1) := by decide +kernel
theorem dX11_comeOut_23 : decode cX11_comeOut 23 = .ok (.iload_n 2, 1) := by decide +kernel
theorem dX11_comeOut_24 : decode cX11_comeOut 24 = .ok (.iload 6, 2) := by decide +kernel
theorem dX11_comeOut_26 : decode cX11_comeOut 26 = .ok (.invokevirtual 190, 3) := by decide +kernel
theorem dX11_comeOut_29 : decode cX11_comeOut 29 = .ok (.astore 8, 2) := by decide +kernel
theorem dX11_comeOut_31 : decode cX11_comeOut 31 = .ok (.aload 7, 2) := by decide +kernel
theorem dX11_comeOut_33 : decode cX11_comeOut 33 = .ok (.ifnull 70, 3) := by decide +kernel
theorem dX11_comeOut_36 : decode cX11_comeOut 36 = .ok (.aload 8, 2) := by decide +kernel
theorem dX11_comeOut_38 : decode cX11_comeOut 38 = .ok (.ifnull 65, 3) := by decide +kernel
theorem dX11_comeOut_41 : decode cX11_comeOut 41 = .ok (.aload_n 0, 1) := by decide +kernel
theorem dX11_comeOut_42 : decode cX11_comeOut 42 = .ok (.getfield 56, 3) := by decide +kernel
theorem dX11_comeOut_45 : decode cX11_comeOut 45 = .ok (.aload 7, 2) := by decide +kernel
theorem dX11_comeOut_47 : decode cX11_comeOut 47 = .ok (.invokevirtual 141, 3) := by decide +kernel
theorem dX11_comeOut_50 : decode cX11_comeOut 50 = .ok (.iconst 0, 1) := by decide +kernel
theorem dX11_comeOut_51 : decode cX11_comeOut 51 = .ok (.istore 9, 2) := by decide +kernel
theorem dX11_comeOut_53 : decode cX11_comeOut 53 = .ok (.iload 9, 2) := by decide +kernel
theorem dX11_comeOut_55 : decode cX11_comeOut 55 = .ok (.iload 4, 2) := by decide +kernel
theorem dX11_comeOut_57 : decode cX11_comeOut 57 = .ok (.if_icmp .ge 26, 3) := by decide +kernel
theorem dX11_comeOut_60 : decode cX11_comeOut 60 = .ok (.aload_n 0, 1) := by decide +kernel
theorem dX11_comeOut_61 : decode cX11_comeOut 61 = .ok (.getfield 24, 3) := by decide +kernel
theorem dX11_comeOut_64 : decode cX11_comeOut 64 = .ok (.aload_n 3, 1) := by decide +kernel
theorem dX11_comeOut_65 : decode cX11_comeOut 65 = .ok (.iload 9, 2) := by decide +kernel
theorem dX11_comeOut_67 : decode cX11_comeOut 67 = .ok (.iaload, 1) := by decide +kernel
theorem dX11_comeOut_68 : decode cX11_comeOut 68 = .ok (.aaload, 1) := by decide +kernel
theorem dX11_comeOut_69 : decode cX11_comeOut 69 = .ok (.aload_n 0, 1) := by decide +kernel
theorem dX11_comeOut_70 : decode cX11_comeOut 70 = .ok (.getfield 56, 3) := by decide +kernel
theorem dX11_comeOut_73 : decode cX11_comeOut 73 = .ok (.invokevirtual 124, 3) := by decide +kernel
theorem dX11_comeOut_76 : decode cX11_comeOut 76 = .ok (.pop, 1) := by decide +kernel
theorem dX11_comeOut_77 : decode cX11_comeOut 77 = .ok (.iinc 9 1, 3) := by decide +kernel
theorem dX11_comeOut_80 : decode cX11_comeOut 80 = .ok (.goto (-27), 3) := by decide +kernel
theorem dX11_comeOut_83 : decode cX11_comeOut 83 = .ok (.iload 5, 2) := by decide +kernel
theorem dX11_comeOut_85 : decode cX11_comeOut 85 = .ok (.aload_n 0, 1) := by decide +kernel
theorem dX11_comeOut_86 : decode cX11_comeOut 86 = .ok (.getfield 56, 3) := by decide +kernel
theorem dX11_comeOut_89 : decode cX11_comeOut 89 = .ok (.aload 8, 2) := by decide +kernel
theorem dX11_comeOut_91 : decode cX11_comeOut 91 = .ok (.invokevirtual 313, 3) := by decide +kernel
theorem dX11_comeOut_94 : decode cX11_comeOut 94 = .ok (.invokestatic 163, 3) := by decide +kernel
theorem dX11_comeOut_97 : decode cX11_comeOut 97 = .ok (.iload 6, 2) := by decide +kernel
theorem dX11_comeOut_99 : decode cX11_comeOut 99 = .ok (.ishl, 1) := by decide +kernel
theorem dX11_comeOut_100 : decode cX11_comeOut 100 = .ok (.ior, 1) := by decide +kernel
theorem dX11_comeOut_101 : decode cX11_comeOut 101 = .ok (.istore 5, 2) := by decide +kernel
theorem dX11_comeOut_103 : decode cX11_comeOut 103 = .ok (.iinc 6 1, 3) := by decide +kernel
theorem dX11_comeOut_106 : decode cX11_comeOut 106 = .ok (.goto (-100), 3) := by decide +kernel
theorem dX11_comeOut_109 : decode cX11_comeOut 109 = .ok (.iload 5, 2) := by decide +kernel
theorem dX11_comeOut_111 : decode cX11_comeOut 111 = .ok (.ireturn, 1) := by decide +kernel
theorem dX11_isOrderFelt_0 : decode cX11_isOrderFelt 0 = .ok (.aload_n 0, 1) := by decide +kernel
theorem dX11_isOrderFelt_1 : decode cX11_isOrderFelt 1 = .ok (.getfield 56, 3) := by decide +kernel
theorem dX11_isOrderFelt_4 : decode cX11_isOrderFelt 4 = .ok (.aload_n 1, 1) := by decide +kernel
theorem dX11_isOrderFelt_5 : decode cX11_isOrderFelt 5 = .ok (.invokevirtual 141, 3) := by decide +kernel
theorem dX11_isOrderFelt_8 : decode cX11_isOrderFelt 8 = .ok (.aload_n 2, 1) := by decide +kernel
theorem dX11_isOrderFelt_9 : decode cX11_isOrderFelt 9 = .ok (.aload_n 0, 1) := by decide +kernel
theorem dX11_isOrderFelt_10 : decode cX11_isOrderFelt 10 = .ok (.getfield 56, 3) := by decide +kernel
theorem dX11_isOrderFelt_13 : decode cX11_isOrderFelt 13 = .ok (.invokevirtual 124, 3) := by decide +kernel
theorem dX11_isOrderFelt_16 : decode cX11_isOrderFelt 16 = .ok (.pop, 1) := by decide +kernel
theorem dX11_isOrderFelt_17 : decode cX11_isOrderFelt 17 = .ok (.aload_n 3, 1) := by decide +kernel
theorem dX11_isOrderFelt_18 : decode cX11_isOrderFelt 18 = .ok (.aload_n 0, 1) := by decide +kernel
theorem dX11_isOrderFelt_19 : decode cX11_isOrderFelt 19 = .ok (.getfield 56, 3) := by decide +kernel
theorem dX11_isOrderFelt_22 : decode cX11_isOrderFelt 22 = .ok (.invokevirtual 124, 3) := by decide +kernel
theorem dX11_isOrderFelt_25 : decode cX11_isOrderFelt 25 = .ok (.pop, 1) := by decide +kernel
theorem dX11_isOrderFelt_26 : decode cX11_isOrderFelt 26 = .ok (.aload_n 0, 1) := by decide +kernel
theorem dX11_isOrderFelt_27 : decode cX11_isOrderFelt 27 = .ok (.getfield 60, 3) := by decide +kernel
theorem dX11_isOrderFelt_30 : decode cX11_isOrderFelt 30 = .ok (.aload_n 1, 1) := by decide +kernel
theorem dX11_isOrderFelt_31 : decode cX11_isOrderFelt 31 = .ok (.invokevirtual 141, 3) := by decide +kernel
theorem dX11_isOrderFelt_34 : decode cX11_isOrderFelt 34 = .ok (.aload_n 3, 1) := by decide +kernel
theorem dX11_isOrderFelt_35 : decode cX11_isOrderFelt 35 = .ok (.aload_n 0, 1) := by decide +kernel
theorem dX11_isOrderFelt_36 : decode cX11_isOrderFelt 36 = .ok (.getfield 60, 3) := by decide +kernel
theorem dX11_isOrderFelt_39 : decode cX11_isOrderFelt 39 = .ok (.invokevirtual 124, 3) := by decide +kernel
theorem dX11_isOrderFelt_42 : decode cX11_isOrderFelt 42 = .ok (.pop, 1) := by decide +kernel
theorem dX11_isOrderFelt_43 : decode cX11_isOrderFelt 43 = .ok (.aload_n 2, 1) := by decide +kernel
theorem dX11_isOrderFelt_44 : decode cX11_isOrderFelt 44 = .ok (.aload_n 0, 1) := by decide +kernel
theorem dX11_isOrderFelt_45 : decode cX11_isOrderFelt 45 = .ok (.getfield 60, 3) := by decide +kernel
theorem dX11_isOrderFelt_48 : decode cX11_isOrderFelt 48 = .ok (.invokevirtual 124, 3) := by decide +kernel
theorem dX11_isOrderFelt_51 : decode cX11_isOrderFelt 51 = .ok (.pop, 1) := by decide +kernel
theorem dX11_isOrderFelt_52 : decode cX11_isOrderFelt 52 = .ok (.aload_n 0, 1) := by decide +kernel
theorem dX11_isOrderFelt_53 : decode cX11_isOrderFelt 53 = .ok (.getfield 56, 3) := by decide +kernel
theorem dX11_isOrderFelt_56 : decode cX11_isOrderFelt 56 = .ok (.aload_n 0, 1) := by decide +kernel
theorem dX11_isOrderFelt_57 : decode cX11_isOrderFelt 57 = .ok (.getfield 60, 3) := by decide +kernel
theorem dX11_isOrderFelt_60 : decode cX11_isOrderFelt 60 = .ok (.invokevirtual 313, 3) := by decide +kernel
theorem dX11_isOrderFelt_63 : decode cX11_isOrderFelt 63 = .ok (.ifCond .ne 7, 3) := by decide +kernel
theorem dX11_isOrderFelt_66 : decode cX11_isOrderFelt 66 = .ok (.iconst 1, 1) := by decide +kernel
theorem dX11_isOrderFelt_67 : decode cX11_isOrderFelt 67 = .ok (.goto 4, 3) := by decide +kernel
theorem dX11_isOrderFelt_70 : decode cX11_isOrderFelt 70 = .ok (.iconst 0, 1) := by decide +kernel
theorem dX11_isOrderFelt_71 : decode cX11_isOrderFelt 71 = .ok (.ireturn, 1) := by decide +kernel
theorem dX11_areLeaves_0 : decode cX11_areLeaves 0 = .ok (.iload_n 1, 1) := by decide +kernel
theorem dX11_areLeaves_1 : decode cX11_areLeaves 1 = .ok (.aload_n 0, 1) := by decide +kernel
theorem dX11_areLeaves_2 : decode cX11_areLeaves 2 = .ok (.getfield 64, 3) := by decide +kernel
theorem dX11_areLeaves_5 : decode cX11_areLeaves 5 = .ok (.iushr, 1) := by decide +kernel
theorem dX11_areLeaves_6 : decode cX11_areLeaves 6 = .ok (.ifCond .ne 15, 3) := by decide +kernel
theorem dX11_areLeaves_9 : decode cX11_areLeaves 9 = .ok (.iload_n 1, 1) := by decide +kernel
theorem dX11_areLeaves_10 : decode cX11_areLeaves 10 = .ok (.invokestatic 227, 3) := by decide +kernel
theorem dX11_areLeaves_13 : decode cX11_areLeaves 13 = .ok (.iconst 3, 1) := by decide +kernel
theorem dX11_areLeaves_14 : decode cX11_areLeaves 14 = .ok (.if_icmp .lt 7, 3) := by decide +kernel
theorem dX11_areLeaves_17 : decode cX11_areLeaves 17 = .ok (.iconst 1, 1) := by decide +kernel
theorem dX11_areLeaves_18 : decode cX11_areLeaves 18 = .ok (.goto 4, 3) := by decide +kernel
theorem dX11_areLeaves_21 : decode cX11_areLeaves 21 = .ok (.iconst 0, 1) := by decide +kernel
theorem dX11_areLeaves_22 : decode cX11_areLeaves 22 = .ok (.ireturn, 1) := by decide +kernel
theorem dX11_treesOf_0 : decode cX11_treesOf 0 = .ok (.iload_n 0, 1) := by decide +kernel
theorem dX11_treesOf_1 : decode cX11_treesOf 1 = .ok (.invokestatic 227, 3) := by decide +kernel
theorem dX11_treesOf_4 : decode cX11_treesOf 4 = .ok (.istore_n 1, 1) := by decide +kernel
theorem dX11_treesOf_5 : decode cX11_treesOf 5 = .ok (.iconst 1, 1) := by decide +kernel
theorem dX11_treesOf_6 : decode cX11_treesOf 6 = .ok (.istore_n 2, 1) := by decide +kernel
theorem dX11_treesOf_7 : decode cX11_treesOf 7 = .ok (.iconst 3, 1) := by decide +kernel
theorem dX11_treesOf_8 : decode cX11_treesOf 8 = .ok (.istore_n 3, 1) := by decide +kernel
theorem dX11_treesOf_9 : decode cX11_treesOf 9 = .ok (.iload_n 3, 1) := by decide +kernel
theorem dX11_treesOf_10 : decode cX11_treesOf 10 = .ok (.iload_n 1, 1) := by decide +kernel
theorem dX11_treesOf_11 : decode cX11_treesOf 11 = .ok (.if_icmp .ge 16, 3) := by decide +kernel
theorem dX11_treesOf_14 : decode cX11_treesOf 14 = .ok (.iload_n 2, 1) := by decide +kernel
theorem dX11_treesOf_15 : decode cX11_treesOf 15 = .ok (.iload_n 3, 1) := by decide +kernel
theorem dX11_treesOf_16 : decode cX11_treesOf 16 = .ok (.invokestatic 316, 3) := by decide +kernel
theorem dX11_treesOf_19 : decode cX11_treesOf 19 = .ok (.imul, 1) := by decide +kernel
theorem dX11_treesOf_20 : decode cX11_treesOf 20 = .ok (.istore_n 2, 1) := by decide +kernel
theorem dX11_treesOf_21 : decode cX11_treesOf 21 = .ok (.iinc 3 1, 3) := by decide +kernel
theorem dX11_treesOf_24 : decode cX11_treesOf 24 = .ok (.goto (-15), 3) := by decide +kernel
theorem dX11_treesOf_27 : decode cX11_treesOf 27 = .ok (.iload_n 2, 1) := by decide +kernel
theorem dX11_treesOf_28 : decode cX11_treesOf 28 = .ok (.ireturn, 1) := by decide +kernel
theorem dX11_hangSets_0 : decode cX11_hangSets 0 = .ok (.iconst 0, 1) := by decide +kernel
theorem dX11_hangSets_1 : decode cX11_hangSets 1 = .ok (.istore_n 1, 1) := by decide +kernel
theorem dX11_hangSets_2 : decode cX11_hangSets 2 = .ok (.iload_n 1, 1) := by decide +kernel
theorem dX11_hangSets_3 : decode cX11_hangSets 3 = .ok (.bipush 10, 2) := by decide +kernel
theorem dX11_hangSets_5 : decode cX11_hangSets 5 = .ok (.if_icmp .ge 86, 3) := by decide +kernel
theorem dX11_hangSets_8 : decode cX11_hangSets 8 = .ok (.iconst 0, 1) := by decide +kernel
theorem dX11_hangSets_9 : decode cX11_hangSets 9 = .ok (.istore_n 2, 1) := by decide +kernel
theorem dX11_hangSets_10 : decode cX11_hangSets 10 = .ok (.iconst 0, 1) := by decide +kernel
theorem dX11_hangSets_11 : decode cX11_hangSets 11 = .ok (.istore_n 3, 1) := by decide +kernel
theorem dX11_hangSets_12 : decode cX11_hangSets 12 = .ok (.iload_n 3, 1) := by decide +kernel
theorem dX11_hangSets_13 : decode cX11_hangSets 13 = .ok (.aload_n 0, 1) := by decide +kernel
theorem dX11_hangSets_14 : decode cX11_hangSets 14 = .ok (.getfield 64, 3) := by decide +kernel
theorem dX11_hangSets_17 : decode cX11_hangSets 17 = .ok (.if_icmp .ge 68, 3) := by decide +kernel
theorem dX11_hangSets_20 : decode cX11_hangSets 20 = .ok (.aload_n 0, 1) := by decide +kernel
theorem dX11_hangSets_21 : decode cX11_hangSets 21 = .ok (.iload_n 3, 1) := by decide +kernel
theorem dX11_hangSets_22 : decode cX11_hangSets 22 = .ok (.iload_n 1, 1) := by decide +kernel
theorem dX11_hangSets_23 : decode cX11_hangSets 23 = .ok (.invokevirtual 190, 3) := by decide +kernel
theorem dX11_hangSets_26 : decode cX11_hangSets 26 = .ok (.ifnonnull 19, 3) := by decide +kernel
theorem dX11_hangSets_29 : decode cX11_hangSets 29 = .ok (.aload_n 0, 1) := by decide +kernel
theorem dX11_hangSets_30 : decode cX11_hangSets 30 = .ok (.getfield 51, 3) := by decide +kernel
theorem dX11_hangSets_33 : decode cX11_hangSets 33 = .ok (.iload_n 1, 1) := by decide +kernel
theorem dX11_hangSets_34 : decode cX11_hangSets 34 = .ok (.iconst 1, 1) := by decide +kernel
theorem dX11_hangSets_35 : decode cX11_hangSets 35 = .ok (.iload_n 3, 1) := by decide +kernel
theorem dX11_hangSets_36 : decode cX11_hangSets 36 = .ok (.ishl, 1) := by decide +kernel
theorem dX11_hangSets_37 : decode cX11_hangSets 37 = .ok (.bipush 63, 2) := by decide +kernel
theorem dX11_hangSets_39 : decode cX11_hangSets 39 = .ok (.invokevirtual 319, 3) := by decide +kernel
theorem dX11_hangSets_42 : decode cX11_hangSets 42 = .ok (.goto 37, 3) := by decide +kernel
theorem dX11_hangSets_45 : decode cX11_hangSets 45 = .ok (.iload_n 2, 1) := by decide +kernel
theorem dX11_hangSets_46 : decode cX11_hangSets 46 = .ok (.iload_n 3, 1) := by decide +kernel
theorem dX11_hangSets_47 : decode cX11_hangSets 47 = .ok (.ishr, 1) := by decide +kernel
theorem dX11_hangSets_48 : decode cX11_hangSets 48 = .ok (.iconst 1, 1) := by decide +kernel
theorem dX11_hangSets_49 : decode cX11_hangSets 49 = .ok (.iand, 1) := by decide +kernel
theorem dX11_hangSets_50 : decode cX11_hangSets 50 = .ok (.ifCond .ne 29, 3) := by decide +kernel
theorem dX11_hangSets_53 : decode cX11_hangSets 53 = .ok (.aload_n 0, 1) := by decide +kernel
theorem dX11_hangSets_54 : decode cX11_hangSets 54 = .ok (.iload_n 1, 1) := by decide +kernel
theorem dX11_hangSets_55 : decode cX11_hangSets 55 = .ok (.iload_n 3, 1) := by decide +kernel
theorem dX11_hangSets_56 : decode cX11_hangSets 56 = .ok (.invokevirtual 211, 3) := by decide +kernel
theorem dX11_hangSets_59 : decode cX11_hangSets 59 = .ok (.istore 4, 2) := by decide +kernel
theorem dX11_hangSets_61 : decode cX11_hangSets 61 = .ok (.aload_n 0, 1) := by decide +kernel
theorem dX11_hangSets_62 : decode cX11_hangSets 62 = .ok (.getfield 51, 3) := by decide +kernel
theorem dX11_hangSets_65 : decode cX11_hangSets 65 = .ok (.iload_n 1, 1) := by decide +kernel
theorem dX11_hangSets_66 : decode cX11_hangSets 66 = .ok (.iload 4, 2) := by decide +kernel
theorem dX11_hangSets_68 : decode cX11_hangSets 68 = .ok (.iconst 1, 1) := by decide +kernel
theorem dX11_hangSets_69 : decode cX11_hangSets 69 = .ok (.iload_n 3, 1) := by decide +kernel
theorem dX11_hangSets_70 : decode cX11_hangSets 70 = .ok (.ishl, 1) := by decide +kernel
theorem dX11_hangSets_71 : decode cX11_hangSets 71 = .ok (.invokevirtual 319, 3) := by decide +kernel
theorem dX11_hangSets_74 : decode cX11_hangSets 74 = .ok (.iload_n 2, 1) := by decide +kernel
theorem dX11_hangSets_75 : decode cX11_hangSets 75 = .ok (.iload 4, 2) := by decide +kernel
theorem dX11_hangSets_77 : decode cX11_hangSets 77 = .ok (.ior, 1) := by decide +kernel
theorem dX11_hangSets_78 : decode cX11_hangSets 78 = .ok (.istore_n 2, 1) := by decide +kernel
theorem dX11_hangSets_79 : decode cX11_hangSets 79 = .ok (.iinc 3 1, 3) := by decide +kernel
theorem dX11_hangSets_82 : decode cX11_hangSets 82 = .ok (.goto (-70), 3) := by decide +kernel
theorem dX11_hangSets_85 : decode cX11_hangSets 85 = .ok (.iinc 1 1, 3) := by decide +kernel
theorem dX11_hangSets_88 : decode cX11_hangSets 88 = .ok (.goto (-86), 3) := by decide +kernel
theorem dX11_hangSets_91 : decode cX11_hangSets 91 = .ok (.return_, 1) := by decide +kernel
theorem dX11_stepsOf_0 : decode cX11_stepsOf 0 = .ok (.aload_n 0, 1) := by decide +kernel
theorem dX11_stepsOf_1 : decode cX11_stepsOf 1 = .ok (.getfield 51, 3) := by decide +kernel
theorem dX11_stepsOf_4 : decode cX11_stepsOf 4 = .ok (.iload_n 1, 1) := by decide +kernel
theorem dX11_stepsOf_5 : decode cX11_stepsOf 5 = .ok (.iload_n 2, 1) := by decide +kernel
theorem dX11_stepsOf_6 : decode cX11_stepsOf 6 = .ok (.invokevirtual 323, 3) := by decide +kernel
theorem dX11_stepsOf_9 : decode cX11_stepsOf 9 = .ok (.iconst 0, 1) := by decide +kernel
theorem dX11_stepsOf_10 : decode cX11_stepsOf 10 = .ok (.istore_n 3, 1) := by decide +kernel
theorem dX11_stepsOf_11 : decode cX11_stepsOf 11 = .ok (.iconst 0, 1) := by decide +kernel
theorem dX11_stepsOf_12 : decode cX11_stepsOf 12 = .ok (.istore 4, 2) := by decide +kernel
theorem dX11_stepsOf_14 : decode cX11_stepsOf 14 = .ok (.iload 4, 2) := by decide +kernel
theorem dX11_stepsOf_16 : decode cX11_stepsOf 16 = .ok (.bipush 10, 2) := by decide +kernel
theorem dX11_stepsOf_18 : decode cX11_stepsOf 18 = .ok (.if_icmp .ge 21, 3) := by decide +kernel
theorem dX11_stepsOf_21 : decode cX11_stepsOf 21 = .ok (.iload_n 3, 1) := by decide +kernel
theorem dX11_stepsOf_22 : decode cX11_stepsOf 22 = .ok (.aload_n 0, 1) := by decide +kernel
theorem dX11_stepsOf_23 : decode cX11_stepsOf 23 = .ok (.getfield 51, 3) := by decide +kernel
theorem dX11_stepsOf_26 : decode cX11_stepsOf 26 = .ok (.iload 4, 2) := by decide +kernel
theorem dX11_stepsOf_28 : decode cX11_stepsOf 28 = .ok (.invokevirtual 327, 3) := by decide +kernel
theorem dX11_stepsOf_31 : decode cX11_stepsOf 31 = .ok (.iadd, 1) := by decide +kernel
theorem dX11_stepsOf_32 : decode cX11_stepsOf 32 = .ok (.istore_n 3, 1) := by decide +kernel
theorem dX11_stepsOf_33 : decode cX11_stepsOf 33 = .ok (.iinc 4 1, 3) := by decide +kernel
theorem dX11_stepsOf_36 : decode cX11_stepsOf 36 = .ok (.goto (-22), 3) := by decide +kernel
theorem dX11_stepsOf_39 : decode cX11_stepsOf 39 = .ok (.iload_n 3, 1) := by decide +kernel
theorem dX11_stepsOf_40 : decode cX11_stepsOf 40 = .ok (.ireturn, 1) := by decide +kernel
theorem dJ6_numberOfTrailingZeros_0f7a4_0 : decode cJ6_numberOfTrailingZeros_0f7a4 0 = .ok (.iload_n 0, 1) := by decide +kernel
theorem dJ6_numberOfTrailingZeros_0f7a4_1 : decode cJ6_numberOfTrailingZeros_0f7a4 1 = .ok (.iconst (-1), 1) := by decide +kernel
theorem dJ6_numberOfTrailingZeros_0f7a4_2 : decode cJ6_numberOfTrailingZeros_0f7a4 2 = .ok (.ixor, 1) := by decide +kernel
theorem dJ6_numberOfTrailingZeros_0f7a4_3 : decode cJ6_numberOfTrailingZeros_0f7a4 3 = .ok (.iload_n 0, 1) := by decide +kernel
theorem dJ6_numberOfTrailingZeros_0f7a4_4 : decode cJ6_numberOfTrailingZeros_0f7a4 4 = .ok (.iconst 1, 1) := by decide +kernel
theorem dJ6_numberOfTrailingZeros_0f7a4_5 : decode cJ6_numberOfTrailingZeros_0f7a4 5 = .ok (.isub, 1) := by decide +kernel
theorem dJ6_numberOfTrailingZeros_0f7a4_6 : decode cJ6_numberOfTrailingZeros_0f7a4 6 = .ok (.iand, 1) := by decide +kernel
theorem dJ6_numberOfTrailingZeros_0f7a4_7 : decode cJ6_numberOfTrailingZeros_0f7a4 7 = .ok (.istore_n 0, 1) := by decide +kernel
theorem dJ6_numberOfTrailingZeros_0f7a4_8 : decode cJ6_numberOfTrailingZeros_0f7a4 8 = .ok (.iload_n 0, 1) := by decide +kernel
theorem dJ6_numberOfTrailingZeros_0f7a4_9 : decode cJ6_numberOfTrailingZeros_0f7a4 9 = .ok (.ifCond .gt 8, 3) := by decide +kernel
theorem dJ6_numberOfTrailingZeros_0f7a4_12 : decode cJ6_numberOfTrailingZeros_0f7a4 12 = .ok (.iload_n 0, 1) := by decide +kernel
theorem dJ6_numberOfTrailingZeros_0f7a4_13 : decode cJ6_numberOfTrailingZeros_0f7a4 13 = .ok (.bipush 32, 2) := by decide +kernel
theorem dJ6_numberOfTrailingZeros_0f7a4_15 : decode cJ6_numberOfTrailingZeros_0f7a4 15 = .ok (.iand, 1) := by decide +kernel
theorem dJ6_numberOfTrailingZeros_0f7a4_16 : decode cJ6_numberOfTrailingZeros_0f7a4 16 = .ok (.ireturn, 1) := by decide +kernel
theorem dJ6_numberOfTrailingZeros_0f7a4_17 : decode cJ6_numberOfTrailingZeros_0f7a4 17 = .ok (.iconst 1, 1) := by decide +kernel
theorem dJ6_numberOfTrailingZeros_0f7a4_18 : decode cJ6_numberOfTrailingZeros_0f7a4 18 = .ok (.istore_n 1, 1) := by decide +kernel
theorem dJ6_numberOfTrailingZeros_0f7a4_19 : decode cJ6_numberOfTrailingZeros_0f7a4 19 = .ok (.iload_n 0, 1) := by decide +kernel
theorem dJ6_numberOfTrailingZeros_0f7a4_20 : decode cJ6_numberOfTrailingZeros_0f7a4 20 = .ok (.ldc_w 264, 3) := by decide +kernel
theorem dJ6_numberOfTrailingZeros_0f7a4_23 : decode cJ6_numberOfTrailingZeros_0f7a4 23 = .ok (.if_icmp .le 11, 3) := by decide +kernel
theorem dJ6_numberOfTrailingZeros_0f7a4_26 : decode cJ6_numberOfTrailingZeros_0f7a4 26 = .ok (.iinc 1 16, 3) := by decide +kernel
theorem dJ6_numberOfTrailingZeros_0f7a4_29 : decode cJ6_numberOfTrailingZeros_0f7a4 29 = .ok (.iload_n 0, 1) := by decide +kernel
theorem dJ6_numberOfTrailingZeros_0f7a4_30 : decode cJ6_numberOfTrailingZeros_0f7a4 30 = .ok (.bipush 16, 2) := by decide +kernel
theorem dJ6_numberOfTrailingZeros_0f7a4_32 : decode cJ6_numberOfTrailingZeros_0f7a4 32 = .ok (.iushr, 1) := by decide +kernel
theorem dJ6_numberOfTrailingZeros_0f7a4_33 : decode cJ6_numberOfTrailingZeros_0f7a4 33 = .ok (.istore_n 0, 1) := by decide +kernel
theorem dJ6_numberOfTrailingZeros_0f7a4_34 : decode cJ6_numberOfTrailingZeros_0f7a4 34 = .ok (.iload_n 0, 1) := by decide +kernel
theorem dJ6_numberOfTrailingZeros_0f7a4_35 : decode cJ6_numberOfTrailingZeros_0f7a4 35 = .ok (.sipush 256, 3) := by decide +kernel
theorem dJ6_numberOfTrailingZeros_0f7a4_38 : decode cJ6_numberOfTrailingZeros_0f7a4 38 = .ok (.if_icmp .le 11, 3) := by decide +kernel
theorem dJ6_numberOfTrailingZeros_0f7a4_41 : decode cJ6_numberOfTrailingZeros_0f7a4 41 = .ok (.iinc 1 8, 3) := by decide +kernel
theorem dJ6_numberOfTrailingZeros_0f7a4_44 : decode cJ6_numberOfTrailingZeros_0f7a4 44 = .ok (.iload_n 0, 1) := by decide +kernel
theorem dJ6_numberOfTrailingZeros_0f7a4_45 : decode cJ6_numberOfTrailingZeros_0f7a4 45 = .ok (.bipush 8, 2) := by decide +kernel
theorem dJ6_numberOfTrailingZeros_0f7a4_47 : decode cJ6_numberOfTrailingZeros_0f7a4 47 = .ok (.iushr, 1) := by decide +kernel
theorem dJ6_numberOfTrailingZeros_0f7a4_48 : decode cJ6_numberOfTrailingZeros_0f7a4 48 = .ok (.istore_n 0, 1) := by decide +kernel
theorem dJ6_numberOfTrailingZeros_0f7a4_49 : decode cJ6_numberOfTrailingZeros_0f7a4 49 = .ok (.iload_n 0, 1) := by decide +kernel
theorem dJ6_numberOfTrailingZeros_0f7a4_50 : decode cJ6_numberOfTrailingZeros_0f7a4 50 = .ok (.bipush 16, 2) := by decide +kernel
theorem dJ6_numberOfTrailingZeros_0f7a4_52 : decode cJ6_numberOfTrailingZeros_0f7a4 52 = .ok (.if_icmp .le 10, 3) := by decide +kernel
theorem dJ6_numberOfTrailingZeros_0f7a4_55 : decode cJ6_numberOfTrailingZeros_0f7a4 55 = .ok (.iinc 1 4, 3) := by decide +kernel
theorem dJ6_numberOfTrailingZeros_0f7a4_58 : decode cJ6_numberOfTrailingZeros_0f7a4 58 = .ok (.iload_n 0, 1) := by decide +kernel
theorem dJ6_numberOfTrailingZeros_0f7a4_59 : decode cJ6_numberOfTrailingZeros_0f7a4 59 = .ok (.iconst 4, 1) := by decide +kernel
theorem dJ6_numberOfTrailingZeros_0f7a4_60 : decode cJ6_numberOfTrailingZeros_0f7a4 60 = .ok (.iushr, 1) := by decide +kernel
theorem dJ6_numberOfTrailingZeros_0f7a4_61 : decode cJ6_numberOfTrailingZeros_0f7a4 61 = .ok (.istore_n 0, 1) := by decide +kernel
theorem dJ6_numberOfTrailingZeros_0f7a4_62 : decode cJ6_numberOfTrailingZeros_0f7a4 62 = .ok (.iload_n 0, 1) := by decide +kernel
theorem dJ6_numberOfTrailingZeros_0f7a4_63 : decode cJ6_numberOfTrailingZeros_0f7a4 63 = .ok (.iconst 4, 1) := by decide +kernel
theorem dJ6_numberOfTrailingZeros_0f7a4_64 : decode cJ6_numberOfTrailingZeros_0f7a4 64 = .ok (.if_icmp .le 10, 3) := by decide +kernel
theorem dJ6_numberOfTrailingZeros_0f7a4_67 : decode cJ6_numberOfTrailingZeros_0f7a4 67 = .ok (.iinc 1 2, 3) := by decide +kernel
theorem dJ6_numberOfTrailingZeros_0f7a4_70 : decode cJ6_numberOfTrailingZeros_0f7a4 70 = .ok (.iload_n 0, 1) := by decide +kernel
theorem dJ6_numberOfTrailingZeros_0f7a4_71 : decode cJ6_numberOfTrailingZeros_0f7a4 71 = .ok (.iconst 2, 1) := by decide +kernel
theorem dJ6_numberOfTrailingZeros_0f7a4_72 : decode cJ6_numberOfTrailingZeros_0f7a4 72 = .ok (.iushr, 1) := by decide +kernel
theorem dJ6_numberOfTrailingZeros_0f7a4_73 : decode cJ6_numberOfTrailingZeros_0f7a4 73 = .ok (.istore_n 0, 1) := by decide +kernel
theorem dJ6_numberOfTrailingZeros_0f7a4_74 : decode cJ6_numberOfTrailingZeros_0f7a4 74 = .ok (.iload_n 1, 1) := by decide +kernel
theorem dJ6_numberOfTrailingZeros_0f7a4_75 : decode cJ6_numberOfTrailingZeros_0f7a4 75 = .ok (.iload_n 0, 1) := by decide +kernel
theorem dJ6_numberOfTrailingZeros_0f7a4_76 : decode cJ6_numberOfTrailingZeros_0f7a4 76 = .ok (.iconst 1, 1) := by decide +kernel
theorem dJ6_numberOfTrailingZeros_0f7a4_77 : decode cJ6_numberOfTrailingZeros_0f7a4 77 = .ok (.iushr, 1) := by decide +kernel
theorem dJ6_numberOfTrailingZeros_0f7a4_78 : decode cJ6_numberOfTrailingZeros_0f7a4 78 = .ok (.iadd, 1) := by decide +kernel
theorem dJ6_numberOfTrailingZeros_0f7a4_79 : decode cJ6_numberOfTrailingZeros_0f7a4 79 = .ok (.ireturn, 1) := by decide +kernel
theorem dJ6_bitCount_0f7a4_0 : decode cJ6_bitCount_0f7a4 0 = .ok (.iload_n 0, 1) := by decide +kernel
theorem dJ6_bitCount_0f7a4_1 : decode cJ6_bitCount_0f7a4 1 = .ok (.iload_n 0, 1) := by decide +kernel
theorem dJ6_bitCount_0f7a4_2 : decode cJ6_bitCount_0f7a4 2 = .ok (.iconst 1, 1) := by decide +kernel
theorem dJ6_bitCount_0f7a4_3 : decode cJ6_bitCount_0f7a4 3 = .ok (.iushr, 1) := by decide +kernel
theorem dJ6_bitCount_0f7a4_4 : decode cJ6_bitCount_0f7a4 4 = .ok (.ldc_w 265, 3) := by decide +kernel
theorem dJ6_bitCount_0f7a4_7 : decode cJ6_bitCount_0f7a4 7 = .ok (.iand, 1) := by decide +kernel
theorem dJ6_bitCount_0f7a4_8 : decode cJ6_bitCount_0f7a4 8 = .ok (.isub, 1) := by decide +kernel
theorem dJ6_bitCount_0f7a4_9 : decode cJ6_bitCount_0f7a4 9 = .ok (.istore_n 0, 1) := by decide +kernel
theorem dJ6_bitCount_0f7a4_10 : decode cJ6_bitCount_0f7a4 10 = .ok (.iload_n 0, 1) := by decide +kernel
theorem dJ6_bitCount_0f7a4_11 : decode cJ6_bitCount_0f7a4 11 = .ok (.ldc_w 266, 3) := by decide +kernel
theorem dJ6_bitCount_0f7a4_14 : decode cJ6_bitCount_0f7a4 14 = .ok (.iand, 1) := by decide +kernel
theorem dJ6_bitCount_0f7a4_15 : decode cJ6_bitCount_0f7a4 15 = .ok (.iload_n 0, 1) := by decide +kernel
theorem dJ6_bitCount_0f7a4_16 : decode cJ6_bitCount_0f7a4 16 = .ok (.iconst 2, 1) := by decide +kernel
theorem dJ6_bitCount_0f7a4_17 : decode cJ6_bitCount_0f7a4 17 = .ok (.iushr, 1) := by decide +kernel
theorem dJ6_bitCount_0f7a4_18 : decode cJ6_bitCount_0f7a4 18 = .ok (.ldc_w 266, 3) := by decide +kernel
theorem dJ6_bitCount_0f7a4_21 : decode cJ6_bitCount_0f7a4 21 = .ok (.iand, 1) := by decide +kernel
theorem dJ6_bitCount_0f7a4_22 : decode cJ6_bitCount_0f7a4 22 = .ok (.iadd, 1) := by decide +kernel
theorem dJ6_bitCount_0f7a4_23 : decode cJ6_bitCount_0f7a4 23 = .ok (.istore_n 0, 1) := by decide +kernel
theorem dJ6_bitCount_0f7a4_24 : decode cJ6_bitCount_0f7a4 24 = .ok (.iload_n 0, 1) := by decide +kernel
theorem dJ6_bitCount_0f7a4_25 : decode cJ6_bitCount_0f7a4 25 = .ok (.iload_n 0, 1) := by decide +kernel
theorem dJ6_bitCount_0f7a4_26 : decode cJ6_bitCount_0f7a4 26 = .ok (.iconst 4, 1) := by decide +kernel
theorem dJ6_bitCount_0f7a4_27 : decode cJ6_bitCount_0f7a4 27 = .ok (.iushr, 1) := by decide +kernel
theorem dJ6_bitCount_0f7a4_28 : decode cJ6_bitCount_0f7a4 28 = .ok (.iadd, 1) := by decide +kernel
theorem dJ6_bitCount_0f7a4_29 : decode cJ6_bitCount_0f7a4 29 = .ok (.ldc_w 267, 3) := by decide +kernel
theorem dJ6_bitCount_0f7a4_32 : decode cJ6_bitCount_0f7a4 32 = .ok (.iand, 1) := by decide +kernel
theorem dJ6_bitCount_0f7a4_33 : decode cJ6_bitCount_0f7a4 33 = .ok (.istore_n 0, 1) := by decide +kernel
theorem dJ6_bitCount_0f7a4_34 : decode cJ6_bitCount_0f7a4 34 = .ok (.iload_n 0, 1) := by decide +kernel
theorem dJ6_bitCount_0f7a4_35 : decode cJ6_bitCount_0f7a4 35 = .ok (.iload_n 0, 1) := by decide +kernel
theorem dJ6_bitCount_0f7a4_36 : decode cJ6_bitCount_0f7a4 36 = .ok (.bipush 8, 2) := by decide +kernel
theorem dJ6_bitCount_0f7a4_38 : decode cJ6_bitCount_0f7a4 38 = .ok (.iushr, 1) := by decide +kernel
theorem dJ6_bitCount_0f7a4_39 : decode cJ6_bitCount_0f7a4 39 = .ok (.iadd, 1) := by decide +kernel
theorem dJ6_bitCount_0f7a4_40 : decode cJ6_bitCount_0f7a4 40 = .ok (.istore_n 0, 1) := by decide +kernel
theorem dJ6_bitCount_0f7a4_41 : decode cJ6_bitCount_0f7a4 41 = .ok (.iload_n 0, 1) := by decide +kernel
theorem dJ6_bitCount_0f7a4_42 : decode cJ6_bitCount_0f7a4 42 = .ok (.iload_n 0, 1) := by decide +kernel
theorem dJ6_bitCount_0f7a4_43 : decode cJ6_bitCount_0f7a4 43 = .ok (.bipush 16, 2) := by decide +kernel
theorem dJ6_bitCount_0f7a4_45 : decode cJ6_bitCount_0f7a4 45 = .ok (.iushr, 1) := by decide +kernel
theorem dJ6_bitCount_0f7a4_46 : decode cJ6_bitCount_0f7a4 46 = .ok (.iadd, 1) := by decide +kernel
theorem dJ6_bitCount_0f7a4_47 : decode cJ6_bitCount_0f7a4 47 = .ok (.istore_n 0, 1) := by decide +kernel
theorem dJ6_bitCount_0f7a4_48 : decode cJ6_bitCount_0f7a4 48 = .ok (.iload_n 0, 1) := by decide +kernel
theorem dJ6_bitCount_0f7a4_49 : decode cJ6_bitCount_0f7a4 49 = .ok (.bipush 63, 2) := by decide +kernel
theorem dJ6_bitCount_0f7a4_51 : decode cJ6_bitCount_0f7a4 51 = .ok (.iand, 1) := by decide +kernel
theorem dJ6_bitCount_0f7a4_52 : decode cJ6_bitCount_0f7a4 52 = .ok (.ireturn, 1) := by decide +kernel
theorem dJ9_max_7cf53_0 : decode cJ9_max_7cf53 0 = .ok (.iload_n 0, 1) := by decide +kernel
theorem dJ9_max_7cf53_1 : decode cJ9_max_7cf53 1 = .ok (.iload_n 1, 1) := by decide +kernel
theorem dJ9_max_7cf53_2 : decode cJ9_max_7cf53 2 = .ok (.if_icmp .lt 7, 3) := by decide +kernel
theorem dJ9_max_7cf53_5 : decode cJ9_max_7cf53 5 = .ok (.iload_n 0, 1) := by decide +kernel
theorem dJ9_max_7cf53_6 : decode cJ9_max_7cf53 6 = .ok (.goto 4, 3) := by decide +kernel
theorem dJ9_max_7cf53_9 : decode cJ9_max_7cf53 9 = .ok (.iload_n 1, 1) := by decide +kernel
theorem dJ9_max_7cf53_10 : decode cJ9_max_7cf53 10 = .ok (.ireturn, 1) := by decide +kernel
theorem dJ9_min_7cf53_0 : decode cJ9_min_7cf53 0 = .ok (.iload_n 0, 1) := by decide +kernel
theorem dJ9_min_7cf53_1 : decode cJ9_min_7cf53 1 = .ok (.iload_n 1, 1) := by decide +kernel
theorem dJ9_min_7cf53_2 : decode cJ9_min_7cf53 2 = .ok (.if_icmp .gt 7, 3) := by decide +kernel
theorem dJ9_min_7cf53_5 : decode cJ9_min_7cf53 5 = .ok (.iload_n 0, 1) := by decide +kernel
theorem dJ9_min_7cf53_6 : decode cJ9_min_7cf53 6 = .ok (.goto 4, 3) := by decide +kernel
theorem dJ9_min_7cf53_9 : decode cJ9_min_7cf53 9 = .ok (.iload_n 1, 1) := by decide +kernel
theorem dJ9_min_7cf53_10 : decode cJ9_min_7cf53 10 = .ok (.ireturn, 1) := by decide +kernel

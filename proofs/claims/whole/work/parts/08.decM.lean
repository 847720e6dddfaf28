theorem d_M_init_0 : decode b_M_init 0 = .ok (.aload_n 0, 1) := by decide +kernel
theorem d_M_init_1 : decode b_M_init 1 = .ok (.invokespecial 1, 3) := by decide +kernel
theorem d_M_init_4 : decode b_M_init 4 = .ok (.aload_n 0, 1) := by decide +kernel
theorem d_M_init_5 : decode b_M_init 5 = .ok (.bipush 80, 2) := by decide +kernel
theorem d_M_init_7 : decode b_M_init 7 = .ok (.newarray .int, 2) := by decide +kernel
theorem d_M_init_9 : decode b_M_init 9 = .ok (.putfield 7, 3) := by decide +kernel
theorem d_M_init_12 : decode b_M_init 12 = .ok (.aload_n 0, 1) := by decide +kernel
theorem d_M_init_13 : decode b_M_init 13 = .ok (.sipush 5600, 3) := by decide +kernel
theorem d_M_init_16 : decode b_M_init 16 = .ok (.newarray .int, 2) := by decide +kernel
theorem d_M_init_18 : decode b_M_init 18 = .ok (.putfield 13, 3) := by decide +kernel
theorem d_M_init_21 : decode b_M_init 21 = .ok (.aload_n 0, 1) := by decide +kernel
theorem d_M_init_22 : decode b_M_init 22 = .ok (.sipush 840, 3) := by decide +kernel
theorem d_M_init_25 : decode b_M_init 25 = .ok (.newarray .int, 2) := by decide +kernel
theorem d_M_init_27 : decode b_M_init 27 = .ok (.putfield 16, 3) := by decide +kernel
theorem d_M_init_30 : decode b_M_init 30 = .ok (.aload_n 0, 1) := by decide +kernel
theorem d_M_init_31 : decode b_M_init 31 = .ok (.bipush 7, 2) := by decide +kernel
theorem d_M_init_33 : decode b_M_init 33 = .ok (.newarray .int, 2) := by decide +kernel
theorem d_M_init_35 : decode b_M_init 35 = .ok (.putfield 19, 3) := by decide +kernel
theorem d_M_init_38 : decode b_M_init 38 = .ok (.aload_n 0, 1) := by decide +kernel
theorem d_M_init_39 : decode b_M_init 39 = .ok (.iconst 5, 1) := by decide +kernel
theorem d_M_init_40 : decode b_M_init 40 = .ok (.newarray .int, 2) := by decide +kernel
theorem d_M_init_42 : decode b_M_init 42 = .ok (.putfield 22, 3) := by decide +kernel
theorem d_M_init_45 : decode b_M_init 45 = .ok (.return_, 1) := by decide +kernel
theorem d_M_thrown_0 : decode b_M_thrown 0 = .ok (.aload_n 0, 1) := by decide +kernel
theorem d_M_thrown_1 : decode b_M_thrown 1 = .ok (.getfield 25, 3) := by decide +kernel
theorem d_M_thrown_4 : decode b_M_thrown 4 = .ok (.ireturn, 1) := by decide +kernel
theorem d_M_raise_0 : decode b_M_raise 0 = .ok (.aload_n 0, 1) := by decide +kernel
theorem d_M_raise_1 : decode b_M_raise 1 = .ok (.iload_n 1, 1) := by decide +kernel
theorem d_M_raise_2 : decode b_M_raise 2 = .ok (.putfield 25, 3) := by decide +kernel
theorem d_M_raise_5 : decode b_M_raise 5 = .ok (.iconst 0, 1) := by decide +kernel
theorem d_M_raise_6 : decode b_M_raise 6 = .ok (.ireturn, 1) := by decide +kernel
theorem d_M_in_0 : decode b_M_in 0 = .ok (.lload_n 0, 1) := by decide +kernel
theorem d_M_in_1 : decode b_M_in 1 = .ok (.lload_n 2, 1) := by decide +kernel
theorem d_M_in_2 : decode b_M_in 2 = .ok (.lcmp, 1) := by decide +kernel
theorem d_M_in_3 : decode b_M_in 3 = .ok (.ifCond .lt 14, 3) := by decide +kernel
theorem d_M_in_6 : decode b_M_in 6 = .ok (.lload_n 0, 1) := by decide +kernel
theorem d_M_in_7 : decode b_M_in 7 = .ok (.lload 4, 2) := by decide +kernel
theorem d_M_in_9 : decode b_M_in 9 = .ok (.lcmp, 1) := by decide +kernel
theorem d_M_in_10 : decode b_M_in 10 = .ok (.ifCond .gt 7, 3) := by decide +kernel
theorem d_M_in_13 : decode b_M_in 13 = .ok (.iconst 1, 1) := by decide +kernel
theorem d_M_in_14 : decode b_M_in 14 = .ok (.goto 4, 3) := by decide +kernel
theorem d_M_in_17 : decode b_M_in 17 = .ok (.iconst 0, 1) := by decide +kernel
theorem d_M_in_18 : decode b_M_in 18 = .ok (.ireturn, 1) := by decide +kernel
theorem d_M_size_0 : decode b_M_size 0 = .ok (.lload_n 0, 1) := by decide +kernel
theorem d_M_size_1 : decode b_M_size 1 = .ok (.lconst 0, 1) := by decide +kernel
theorem d_M_size_2 : decode b_M_size 2 = .ok (.lcmp, 1) := by decide +kernel
theorem d_M_size_3 : decode b_M_size 3 = .ok (.ifCond .ge 8, 3) := by decide +kernel
theorem d_M_size_6 : decode b_M_size 6 = .ok (.lload_n 0, 1) := by decide +kernel
theorem d_M_size_7 : decode b_M_size 7 = .ok (.lneg, 1) := by decide +kernel
theorem d_M_size_8 : decode b_M_size 8 = .ok (.goto 4, 3) := by decide +kernel
theorem d_M_size_11 : decode b_M_size 11 = .ok (.lload_n 0, 1) := by decide +kernel
theorem d_M_size_12 : decode b_M_size 12 = .ok (.lreturn, 1) := by decide +kernel
theorem d_M_divisor_0 : decode b_M_divisor 0 = .ok (.lload_n 0, 1) := by decide +kernel
theorem d_M_divisor_1 : decode b_M_divisor 1 = .ok (.invokestatic 29, 3) := by decide +kernel
theorem d_M_divisor_4 : decode b_M_divisor 4 = .ok (.lstore 4, 2) := by decide +kernel
theorem d_M_divisor_6 : decode b_M_divisor 6 = .ok (.lload_n 2, 1) := by decide +kernel
theorem d_M_divisor_7 : decode b_M_divisor 7 = .ok (.invokestatic 29, 3) := by decide +kernel
theorem d_M_divisor_10 : decode b_M_divisor 10 = .ok (.lstore 6, 2) := by decide +kernel
theorem d_M_divisor_12 : decode b_M_divisor 12 = .ok (.lload 6, 2) := by decide +kernel
theorem d_M_divisor_14 : decode b_M_divisor 14 = .ok (.lconst 0, 1) := by decide +kernel
theorem d_M_divisor_15 : decode b_M_divisor 15 = .ok (.lcmp, 1) := by decide +kernel
theorem d_M_divisor_16 : decode b_M_divisor 16 = .ok (.ifCond .eq 21, 3) := by decide +kernel
theorem d_M_divisor_19 : decode b_M_divisor 19 = .ok (.lload 4, 2) := by decide +kernel
theorem d_M_divisor_21 : decode b_M_divisor 21 = .ok (.lload 6, 2) := by decide +kernel
theorem d_M_divisor_23 : decode b_M_divisor 23 = .ok (.lrem, 1) := by decide +kernel
theorem d_M_divisor_24 : decode b_M_divisor 24 = .ok (.lstore 8, 2) := by decide +kernel
theorem d_M_divisor_26 : decode b_M_divisor 26 = .ok (.lload 6, 2) := by decide +kernel
theorem d_M_divisor_28 : decode b_M_divisor 28 = .ok (.lstore 4, 2) := by decide +kernel
theorem d_M_divisor_30 : decode b_M_divisor 30 = .ok (.lload 8, 2) := by decide +kernel
theorem d_M_divisor_32 : decode b_M_divisor 32 = .ok (.lstore 6, 2) := by decide +kernel
theorem d_M_divisor_34 : decode b_M_divisor 34 = .ok (.goto (-22), 3) := by decide +kernel
theorem d_M_divisor_37 : decode b_M_divisor 37 = .ok (.lload 4, 2) := by decide +kernel
theorem d_M_divisor_39 : decode b_M_divisor 39 = .ok (.lreturn, 1) := by decide +kernel
theorem d_M_lowest_0 : decode b_M_lowest 0 = .ok (.lload_n 1, 1) := by decide +kernel
theorem d_M_lowest_1 : decode b_M_lowest 1 = .ok (.lload_n 3, 1) := by decide +kernel
theorem d_M_lowest_2 : decode b_M_lowest 2 = .ok (.invokestatic 32, 3) := by decide +kernel
theorem d_M_lowest_5 : decode b_M_lowest 5 = .ok (.lstore 5, 2) := by decide +kernel
theorem d_M_lowest_7 : decode b_M_lowest 7 = .ok (.aload_n 0, 1) := by decide +kernel
theorem d_M_lowest_8 : decode b_M_lowest 8 = .ok (.lload_n 3, 1) := by decide +kernel
theorem d_M_lowest_9 : decode b_M_lowest 9 = .ok (.lconst 0, 1) := by decide +kernel
theorem d_M_lowest_10 : decode b_M_lowest 10 = .ok (.lcmp, 1) := by decide +kernel
theorem d_M_lowest_11 : decode b_M_lowest 11 = .ok (.ifCond .ge 11, 3) := by decide +kernel
theorem d_M_lowest_14 : decode b_M_lowest 14 = .ok (.lload_n 1, 1) := by decide +kernel
theorem d_M_lowest_15 : decode b_M_lowest 15 = .ok (.lneg, 1) := by decide +kernel
theorem d_M_lowest_16 : decode b_M_lowest 16 = .ok (.lload 5, 2) := by decide +kernel
theorem d_M_lowest_18 : decode b_M_lowest 18 = .ok (.ldiv, 1) := by decide +kernel
theorem d_M_lowest_19 : decode b_M_lowest 19 = .ok (.goto 7, 3) := by decide +kernel
theorem d_M_lowest_22 : decode b_M_lowest 22 = .ok (.lload_n 1, 1) := by decide +kernel
theorem d_M_lowest_23 : decode b_M_lowest 23 = .ok (.lload 5, 2) := by decide +kernel
theorem d_M_lowest_25 : decode b_M_lowest 25 = .ok (.ldiv, 1) := by decide +kernel
theorem d_M_lowest_26 : decode b_M_lowest 26 = .ok (.putfield 36, 3) := by decide +kernel
theorem d_M_lowest_29 : decode b_M_lowest 29 = .ok (.aload_n 0, 1) := by decide +kernel
theorem d_M_lowest_30 : decode b_M_lowest 30 = .ok (.lload_n 3, 1) := by decide +kernel
theorem d_M_lowest_31 : decode b_M_lowest 31 = .ok (.invokestatic 29, 3) := by decide +kernel
theorem d_M_lowest_34 : decode b_M_lowest 34 = .ok (.lload 5, 2) := by decide +kernel
theorem d_M_lowest_36 : decode b_M_lowest 36 = .ok (.ldiv, 1) := by decide +kernel
theorem d_M_lowest_37 : decode b_M_lowest 37 = .ok (.putfield 40, 3) := by decide +kernel
theorem d_M_lowest_40 : decode b_M_lowest 40 = .ok (.return_, 1) := by decide +kernel
theorem d_M_bound_0 : decode b_M_bound 0 = .ok (.aload_n 0, 1) := by decide +kernel
theorem d_M_bound_1 : decode b_M_bound 1 = .ok (.getfield 36, 3) := by decide +kernel
theorem d_M_bound_4 : decode b_M_bound 4 = .ok (.invokestatic 29, 3) := by decide +kernel
theorem d_M_bound_7 : decode b_M_bound 7 = .ok (.ldc2_w 43, 3) := by decide +kernel
theorem d_M_bound_10 : decode b_M_bound 10 = .ok (.lcmp, 1) := by decide +kernel
theorem d_M_bound_11 : decode b_M_bound 11 = .ok (.ifCond .gt 14, 3) := by decide +kernel
theorem d_M_bound_14 : decode b_M_bound 14 = .ok (.aload_n 0, 1) := by decide +kernel
theorem d_M_bound_15 : decode b_M_bound 15 = .ok (.getfield 40, 3) := by decide +kernel
theorem d_M_bound_18 : decode b_M_bound 18 = .ok (.ldc2_w 43, 3) := by decide +kernel
theorem d_M_bound_21 : decode b_M_bound 21 = .ok (.lcmp, 1) := by decide +kernel
theorem d_M_bound_22 : decode b_M_bound 22 = .ok (.ifCond .le 8, 3) := by decide +kernel
theorem d_M_bound_25 : decode b_M_bound 25 = .ok (.aload_n 0, 1) := by decide +kernel
theorem d_M_bound_26 : decode b_M_bound 26 = .ok (.iconst 1, 1) := by decide +kernel
theorem d_M_bound_27 : decode b_M_bound 27 = .ok (.putfield 45, 3) := by decide +kernel
theorem d_M_bound_30 : decode b_M_bound 30 = .ok (.return_, 1) := by decide +kernel
theorem d_M_at_0 : decode b_M_at 0 = .ok (.aload_n 0, 1) := by decide +kernel
theorem d_M_at_1 : decode b_M_at 1 = .ok (.getfield 13, 3) := by decide +kernel
theorem d_M_at_4 : decode b_M_at 4 = .ok (.bipush 70, 2) := by decide +kernel
theorem d_M_at_6 : decode b_M_at 6 = .ok (.iload_n 1, 1) := by decide +kernel
theorem d_M_at_7 : decode b_M_at 7 = .ok (.imul, 1) := by decide +kernel
theorem d_M_at_8 : decode b_M_at 8 = .ok (.bipush 7, 2) := by decide +kernel
theorem d_M_at_10 : decode b_M_at 10 = .ok (.iload_n 2, 1) := by decide +kernel
theorem d_M_at_11 : decode b_M_at 11 = .ok (.imul, 1) := by decide +kernel
theorem d_M_at_12 : decode b_M_at 12 = .ok (.iadd, 1) := by decide +kernel
theorem d_M_at_13 : decode b_M_at 13 = .ok (.iload_n 3, 1) := by decide +kernel
theorem d_M_at_14 : decode b_M_at 14 = .ok (.iadd, 1) := by decide +kernel
theorem d_M_at_15 : decode b_M_at 15 = .ok (.iaload, 1) := by decide +kernel
theorem d_M_at_16 : decode b_M_at 16 = .ok (.ireturn, 1) := by decide +kernel
theorem d_M_isFunction_0 : decode b_M_isFunction 0 = .ok (.iload_n 1, 1) := by decide +kernel
theorem d_M_isFunction_1 : decode b_M_isFunction 1 = .ok (.i2l, 1) := by decide +kernel
theorem d_M_isFunction_2 : decode b_M_isFunction 2 = .ok (.lconst 0, 1) := by decide +kernel
theorem d_M_isFunction_3 : decode b_M_isFunction 3 = .ok (.aload_n 0, 1) := by decide +kernel
theorem d_M_isFunction_4 : decode b_M_isFunction 4 = .ok (.getfield 49, 3) := by decide +kernel
theorem d_M_isFunction_7 : decode b_M_isFunction 7 = .ok (.iconst 1, 1) := by decide +kernel
theorem d_M_isFunction_8 : decode b_M_isFunction 8 = .ok (.isub, 1) := by decide +kernel
theorem d_M_isFunction_9 : decode b_M_isFunction 9 = .ok (.i2l, 1) := by decide +kernel
theorem d_M_isFunction_10 : decode b_M_isFunction 10 = .ok (.invokestatic 52, 3) := by decide +kernel
theorem d_M_isFunction_13 : decode b_M_isFunction 13 = .ok (.ireturn, 1) := by decide +kernel
theorem d_M_start_0 : decode b_M_start 0 = .ok (.aload_n 0, 1) := by decide +kernel
theorem d_M_start_1 : decode b_M_start 1 = .ok (.iconst 0, 1) := by decide +kernel
theorem d_M_start_2 : decode b_M_start 2 = .ok (.putfield 56, 3) := by decide +kernel
theorem d_M_start_5 : decode b_M_start 5 = .ok (.aload_n 0, 1) := by decide +kernel
theorem d_M_start_6 : decode b_M_start 6 = .ok (.iconst 0, 1) := by decide +kernel
theorem d_M_start_7 : decode b_M_start 7 = .ok (.putfield 45, 3) := by decide +kernel
theorem d_M_start_10 : decode b_M_start 10 = .ok (.return_, 1) := by decide +kernel
theorem d_M_order_0 : decode b_M_order 0 = .ok (.iconst 0, 1) := by decide +kernel
theorem d_M_order_1 : decode b_M_order 1 = .ok (.istore_n 2, 1) := by decide +kernel
theorem d_M_order_2 : decode b_M_order 2 = .ok (.iload_n 2, 1) := by decide +kernel
theorem d_M_order_3 : decode b_M_order 3 = .ok (.iconst 5, 1) := by decide +kernel
theorem d_M_order_4 : decode b_M_order 4 = .ok (.if_icmp .ge 55, 3) := by decide +kernel
theorem d_M_order_7 : decode b_M_order 7 = .ok (.aload_n 0, 1) := by decide +kernel
theorem d_M_order_8 : decode b_M_order 8 = .ok (.getfield 16, 3) := by decide +kernel
theorem d_M_order_11 : decode b_M_order 11 = .ok (.bipush 7, 2) := by decide +kernel
theorem d_M_order_13 : decode b_M_order 13 = .ok (.iload_n 1, 1) := by decide +kernel
theorem d_M_order_14 : decode b_M_order 14 = .ok (.imul, 1) := by decide +kernel
theorem d_M_order_15 : decode b_M_order 15 = .ok (.iload_n 2, 1) := by decide +kernel
theorem d_M_order_16 : decode b_M_order 16 = .ok (.iadd, 1) := by decide +kernel
theorem d_M_order_17 : decode b_M_order 17 = .ok (.iaload, 1) := by decide +kernel
theorem d_M_order_18 : decode b_M_order 18 = .ok (.aload_n 0, 1) := by decide +kernel
theorem d_M_order_19 : decode b_M_order 19 = .ok (.getfield 19, 3) := by decide +kernel
theorem d_M_order_22 : decode b_M_order 22 = .ok (.iload_n 2, 1) := by decide +kernel
theorem d_M_order_23 : decode b_M_order 23 = .ok (.iaload, 1) := by decide +kernel
theorem d_M_order_24 : decode b_M_order 24 = .ok (.if_icmp .eq 29, 3) := by decide +kernel
theorem d_M_order_27 : decode b_M_order 27 = .ok (.aload_n 0, 1) := by decide +kernel
theorem d_M_order_28 : decode b_M_order 28 = .ok (.getfield 16, 3) := by decide +kernel
theorem d_M_order_31 : decode b_M_order 31 = .ok (.bipush 7, 2) := by decide +kernel
theorem d_M_order_33 : decode b_M_order 33 = .ok (.iload_n 1, 1) := by decide +kernel
theorem d_M_order_34 : decode b_M_order 34 = .ok (.imul, 1) := by decide +kernel
theorem d_M_order_35 : decode b_M_order 35 = .ok (.iload_n 2, 1) := by decide +kernel
theorem d_M_order_36 : decode b_M_order 36 = .ok (.iadd, 1) := by decide +kernel
theorem d_M_order_37 : decode b_M_order 37 = .ok (.iaload, 1) := by decide +kernel
theorem d_M_order_38 : decode b_M_order 38 = .ok (.aload_n 0, 1) := by decide +kernel
theorem d_M_order_39 : decode b_M_order 39 = .ok (.getfield 19, 3) := by decide +kernel
theorem d_M_order_42 : decode b_M_order 42 = .ok (.iload_n 2, 1) := by decide +kernel
theorem d_M_order_43 : decode b_M_order 43 = .ok (.iaload, 1) := by decide +kernel
theorem d_M_order_44 : decode b_M_order 44 = .ok (.if_icmp .le 7, 3) := by decide +kernel
theorem d_M_order_47 : decode b_M_order 47 = .ok (.iconst 1, 1) := by decide +kernel
theorem d_M_order_48 : decode b_M_order 48 = .ok (.goto 4, 3) := by decide +kernel
theorem d_M_order_51 : decode b_M_order 51 = .ok (.iconst (-1), 1) := by decide +kernel
theorem d_M_order_52 : decode b_M_order 52 = .ok (.ireturn, 1) := by decide +kernel
theorem d_M_order_53 : decode b_M_order 53 = .ok (.iinc 2 1, 3) := by decide +kernel
theorem d_M_order_56 : decode b_M_order 56 = .ok (.goto (-54), 3) := by decide +kernel
theorem d_M_order_59 : decode b_M_order 59 = .ok (.iconst 0, 1) := by decide +kernel
theorem d_M_order_60 : decode b_M_order 60 = .ok (.ireturn, 1) := by decide +kernel
theorem d_M_put_0 : decode b_M_put 0 = .ok (.iconst 0, 1) := by decide +kernel
theorem d_M_put_1 : decode b_M_put 1 = .ok (.istore_n 1, 1) := by decide +kernel
theorem d_M_put_2 : decode b_M_put 2 = .ok (.iload_n 1, 1) := by decide +kernel
theorem d_M_put_3 : decode b_M_put 3 = .ok (.iconst 5, 1) := by decide +kernel
theorem d_M_put_4 : decode b_M_put 4 = .ok (.if_icmp .ge 33, 3) := by decide +kernel
theorem d_M_put_7 : decode b_M_put 7 = .ok (.aload_n 0, 1) := by decide +kernel
theorem d_M_put_8 : decode b_M_put 8 = .ok (.getfield 19, 3) := by decide +kernel
theorem d_M_put_11 : decode b_M_put 11 = .ok (.iload_n 1, 1) := by decide +kernel
theorem d_M_put_12 : decode b_M_put 12 = .ok (.iaload, 1) := by decide +kernel
theorem d_M_put_13 : decode b_M_put 13 = .ok (.i2l, 1) := by decide +kernel
theorem d_M_put_14 : decode b_M_put 14 = .ok (.ldc2_w 59, 3) := by decide +kernel
theorem d_M_put_17 : decode b_M_put 17 = .ok (.ldc2_w 61, 3) := by decide +kernel
theorem d_M_put_20 : decode b_M_put 20 = .ok (.invokestatic 52, 3) := by decide +kernel
theorem d_M_put_23 : decode b_M_put 23 = .ok (.ifCond .ne 8, 3) := by decide +kernel
theorem d_M_put_26 : decode b_M_put 26 = .ok (.aload_n 0, 1) := by decide +kernel
theorem d_M_put_27 : decode b_M_put 27 = .ok (.iconst 1, 1) := by decide +kernel
theorem d_M_put_28 : decode b_M_put 28 = .ok (.putfield 45, 3) := by decide +kernel
theorem d_M_put_31 : decode b_M_put 31 = .ok (.iinc 1 1, 3) := by decide +kernel
theorem d_M_put_34 : decode b_M_put 34 = .ok (.goto (-32), 3) := by decide +kernel
theorem d_M_put_37 : decode b_M_put 37 = .ok (.aload_n 0, 1) := by decide +kernel
theorem d_M_put_38 : decode b_M_put 38 = .ok (.getfield 45, 3) := by decide +kernel
theorem d_M_put_41 : decode b_M_put 41 = .ok (.ifCond .eq 4, 3) := by decide +kernel
theorem d_M_put_44 : decode b_M_put 44 = .ok (.return_, 1) := by decide +kernel
theorem d_M_put_45 : decode b_M_put 45 = .ok (.iconst 0, 1) := by decide +kernel
theorem d_M_put_46 : decode b_M_put 46 = .ok (.istore_n 1, 1) := by decide +kernel
theorem d_M_put_47 : decode b_M_put 47 = .ok (.iload_n 1, 1) := by decide +kernel
theorem d_M_put_48 : decode b_M_put 48 = .ok (.aload_n 0, 1) := by decide +kernel
theorem d_M_put_49 : decode b_M_put 49 = .ok (.getfield 56, 3) := by decide +kernel
theorem d_M_put_52 : decode b_M_put 52 = .ok (.if_icmp .ge 17, 3) := by decide +kernel
theorem d_M_put_55 : decode b_M_put 55 = .ok (.aload_n 0, 1) := by decide +kernel
theorem d_M_put_56 : decode b_M_put 56 = .ok (.iload_n 1, 1) := by decide +kernel
theorem d_M_put_57 : decode b_M_put 57 = .ok (.invokevirtual 63, 3) := by decide +kernel
theorem d_M_put_60 : decode b_M_put 60 = .ok (.ifCond .le 9, 3) := by decide +kernel
theorem d_M_put_63 : decode b_M_put 63 = .ok (.iinc 1 1, 3) := by decide +kernel
theorem d_M_put_66 : decode b_M_put 66 = .ok (.goto (-19), 3) := by decide +kernel
theorem d_M_put_69 : decode b_M_put 69 = .ok (.iload_n 1, 1) := by decide +kernel
theorem d_M_put_70 : decode b_M_put 70 = .ok (.aload_n 0, 1) := by decide +kernel
theorem d_M_put_71 : decode b_M_put 71 = .ok (.getfield 56, 3) := by decide +kernel
theorem d_M_put_74 : decode b_M_put 74 = .ok (.if_icmp .ge 199, 3) := by decide +kernel
theorem d_M_put_77 : decode b_M_put 77 = .ok (.aload_n 0, 1) := by decide +kernel
theorem d_M_put_78 : decode b_M_put 78 = .ok (.iload_n 1, 1) := by decide +kernel
theorem d_M_put_79 : decode b_M_put 79 = .ok (.invokevirtual 63, 3) := by decide +kernel
theorem d_M_put_82 : decode b_M_put 82 = .ok (.ifCond .ne 191, 3) := by decide +kernel
theorem d_M_put_85 : decode b_M_put 85 = .ok (.aload_n 0, 1) := by decide +kernel
theorem d_M_put_86 : decode b_M_put 86 = .ok (.getfield 16, 3) := by decide +kernel
theorem d_M_put_89 : decode b_M_put 89 = .ok (.bipush 7, 2) := by decide +kernel
theorem d_M_put_91 : decode b_M_put 91 = .ok (.iload_n 1, 1) := by decide +kernel
theorem d_M_put_92 : decode b_M_put 92 = .ok (.imul, 1) := by decide +kernel
theorem d_M_put_93 : decode b_M_put 93 = .ok (.iconst 5, 1) := by decide +kernel
theorem d_M_put_94 : decode b_M_put 94 = .ok (.iadd, 1) := by decide +kernel
theorem d_M_put_95 : decode b_M_put 95 = .ok (.iaload, 1) := by decide +kernel
theorem d_M_put_96 : decode b_M_put 96 = .ok (.i2l, 1) := by decide +kernel
theorem d_M_put_97 : decode b_M_put 97 = .ok (.lstore_n 2, 1) := by decide +kernel
theorem d_M_put_98 : decode b_M_put 98 = .ok (.aload_n 0, 1) := by decide +kernel
theorem d_M_put_99 : decode b_M_put 99 = .ok (.getfield 16, 3) := by decide +kernel
theorem d_M_put_102 : decode b_M_put 102 = .ok (.bipush 7, 2) := by decide +kernel
theorem d_M_put_104 : decode b_M_put 104 = .ok (.iload_n 1, 1) := by decide +kernel
theorem d_M_put_105 : decode b_M_put 105 = .ok (.imul, 1) := by decide +kernel
theorem d_M_put_106 : decode b_M_put 106 = .ok (.bipush 6, 2) := by decide +kernel
theorem d_M_put_108 : decode b_M_put 108 = .ok (.iadd, 1) := by decide +kernel
theorem d_M_put_109 : decode b_M_put 109 = .ok (.iaload, 1) := by decide +kernel
theorem d_M_put_110 : decode b_M_put 110 = .ok (.i2l, 1) := by decide +kernel
theorem d_M_put_111 : decode b_M_put 111 = .ok (.lstore 4, 2) := by decide +kernel
theorem d_M_put_113 : decode b_M_put 113 = .ok (.lload_n 2, 1) := by decide +kernel
theorem d_M_put_114 : decode b_M_put 114 = .ok (.aload_n 0, 1) := by decide +kernel
theorem d_M_put_115 : decode b_M_put 115 = .ok (.getfield 19, 3) := by decide +kernel
theorem d_M_put_118 : decode b_M_put 118 = .ok (.bipush 6, 2) := by decide +kernel
theorem d_M_put_120 : decode b_M_put 120 = .ok (.iaload, 1) := by decide +kernel
theorem d_M_put_121 : decode b_M_put 121 = .ok (.i2l, 1) := by decide +kernel
theorem d_M_put_122 : decode b_M_put 122 = .ok (.lmul, 1) := by decide +kernel
theorem d_M_put_123 : decode b_M_put 123 = .ok (.aload_n 0, 1) := by decide +kernel
theorem d_M_put_124 : decode b_M_put 124 = .ok (.getfield 19, 3) := by decide +kernel
theorem d_M_put_127 : decode b_M_put 127 = .ok (.iconst 5, 1) := by decide +kernel
theorem d_M_put_128 : decode b_M_put 128 = .ok (.iaload, 1) := by decide +kernel
theorem d_M_put_129 : decode b_M_put 129 = .ok (.i2l, 1) := by decide +kernel
theorem d_M_put_130 : decode b_M_put 130 = .ok (.lload 4, 2) := by decide +kernel
theorem d_M_put_132 : decode b_M_put 132 = .ok (.lmul, 1) := by decide +kernel
theorem d_M_put_133 : decode b_M_put 133 = .ok (.ladd, 1) := by decide +kernel
theorem d_M_put_134 : decode b_M_put 134 = .ok (.lconst 0, 1) := by decide +kernel
theorem d_M_put_135 : decode b_M_put 135 = .ok (.lcmp, 1) := by decide +kernel
theorem d_M_put_136 : decode b_M_put 136 = .ok (.ifCond .ne 55, 3) := by decide +kernel
theorem d_M_put_139 : decode b_M_put 139 = .ok (.aload_n 0, 1) := by decide +kernel
theorem d_M_put_140 : decode b_M_put 140 = .ok (.dup, 1) := by decide +kernel
theorem d_M_put_141 : decode b_M_put 141 = .ok (.getfield 56, 3) := by decide +kernel
theorem d_M_put_144 : decode b_M_put 144 = .ok (.iconst 1, 1) := by decide +kernel
theorem d_M_put_145 : decode b_M_put 145 = .ok (.isub, 1) := by decide +kernel
theorem d_M_put_146 : decode b_M_put 146 = .ok (.putfield 56, 3) := by decide +kernel
theorem d_M_put_149 : decode b_M_put 149 = .ok (.bipush 7, 2) := by decide +kernel
theorem d_M_put_151 : decode b_M_put 151 = .ok (.iload_n 1, 1) := by decide +kernel
theorem d_M_put_152 : decode b_M_put 152 = .ok (.imul, 1) := by decide +kernel
theorem d_M_put_153 : decode b_M_put 153 = .ok (.istore 6, 2) := by decide +kernel
theorem d_M_put_155 : decode b_M_put 155 = .ok (.iload 6, 2) := by decide +kernel
theorem d_M_put_157 : decode b_M_put 157 = .ok (.bipush 7, 2) := by decide +kernel
theorem d_M_put_159 : decode b_M_put 159 = .ok (.aload_n 0, 1) := by decide +kernel
theorem d_M_put_160 : decode b_M_put 160 = .ok (.getfield 56, 3) := by decide +kernel
theorem d_M_put_163 : decode b_M_put 163 = .ok (.imul, 1) := by decide +kernel
theorem d_M_put_164 : decode b_M_put 164 = .ok (.if_icmp .ge 26, 3) := by decide +kernel
theorem d_M_put_167 : decode b_M_put 167 = .ok (.aload_n 0, 1) := by decide +kernel
theorem d_M_put_168 : decode b_M_put 168 = .ok (.getfield 16, 3) := by decide +kernel
theorem d_M_put_171 : decode b_M_put 171 = .ok (.iload 6, 2) := by decide +kernel
theorem d_M_put_173 : decode b_M_put 173 = .ok (.aload_n 0, 1) := by decide +kernel
theorem d_M_put_174 : decode b_M_put 174 = .ok (.getfield 16, 3) := by decide +kernel
theorem d_M_put_177 : decode b_M_put 177 = .ok (.iload 6, 2) := by decide +kernel
theorem d_M_put_179 : decode b_M_put 179 = .ok (.bipush 7, 2) := by decide +kernel
theorem d_M_put_181 : decode b_M_put 181 = .ok (.iadd, 1) := by decide +kernel
theorem d_M_put_182 : decode b_M_put 182 = .ok (.iaload, 1) := by decide +kernel
theorem d_M_put_183 : decode b_M_put 183 = .ok (.iastore, 1) := by decide +kernel
theorem d_M_put_184 : decode b_M_put 184 = .ok (.iinc 6 1, 3) := by decide +kernel
theorem d_M_put_187 : decode b_M_put 187 = .ok (.goto (-32), 3) := by decide +kernel
theorem d_M_put_190 : decode b_M_put 190 = .ok (.return_, 1) := by decide +kernel
theorem d_M_put_191 : decode b_M_put 191 = .ok (.aload_n 0, 1) := by decide +kernel
theorem d_M_put_192 : decode b_M_put 192 = .ok (.lload_n 2, 1) := by decide +kernel
theorem d_M_put_193 : decode b_M_put 193 = .ok (.aload_n 0, 1) := by decide +kernel
theorem d_M_put_194 : decode b_M_put 194 = .ok (.getfield 19, 3) := by decide +kernel
theorem d_M_put_197 : decode b_M_put 197 = .ok (.bipush 6, 2) := by decide +kernel
theorem d_M_put_199 : decode b_M_put 199 = .ok (.iaload, 1) := by decide +kernel
theorem d_M_put_200 : decode b_M_put 200 = .ok (.i2l, 1) := by decide +kernel
theorem d_M_put_201 : decode b_M_put 201 = .ok (.lmul, 1) := by decide +kernel
theorem d_M_put_202 : decode b_M_put 202 = .ok (.aload_n 0, 1) := by decide +kernel
theorem d_M_put_203 : decode b_M_put 203 = .ok (.getfield 19, 3) := by decide +kernel
theorem d_M_put_206 : decode b_M_put 206 = .ok (.iconst 5, 1) := by decide +kernel
theorem d_M_put_207 : decode b_M_put 207 = .ok (.iaload, 1) := by decide +kernel
theorem d_M_put_208 : decode b_M_put 208 = .ok (.i2l, 1) := by decide +kernel
theorem d_M_put_209 : decode b_M_put 209 = .ok (.lload 4, 2) := by decide +kernel
theorem d_M_put_211 : decode b_M_put 211 = .ok (.lmul, 1) := by decide +kernel
theorem d_M_put_212 : decode b_M_put 212 = .ok (.ladd, 1) := by decide +kernel
theorem d_M_put_213 : decode b_M_put 213 = .ok (.lload 4, 2) := by decide +kernel
theorem d_M_put_215 : decode b_M_put 215 = .ok (.aload_n 0, 1) := by decide +kernel
theorem d_M_put_216 : decode b_M_put 216 = .ok (.getfield 19, 3) := by decide +kernel
theorem d_M_put_219 : decode b_M_put 219 = .ok (.bipush 6, 2) := by decide +kernel
theorem d_M_put_221 : decode b_M_put 221 = .ok (.iaload, 1) := by decide +kernel
theorem d_M_put_222 : decode b_M_put 222 = .ok (.i2l, 1) := by decide +kernel
theorem d_M_put_223 : decode b_M_put 223 = .ok (.lmul, 1) := by decide +kernel
theorem d_M_put_224 : decode b_M_put 224 = .ok (.invokevirtual 67, 3) := by decide +kernel
theorem d_M_put_227 : decode b_M_put 227 = .ok (.aload_n 0, 1) := by decide +kernel
theorem d_M_put_228 : decode b_M_put 228 = .ok (.invokevirtual 71, 3) := by decide +kernel
theorem d_M_put_231 : decode b_M_put 231 = .ok (.aload_n 0, 1) := by decide +kernel
theorem d_M_put_232 : decode b_M_put 232 = .ok (.getfield 45, 3) := by decide +kernel
theorem d_M_put_235 : decode b_M_put 235 = .ok (.ifCond .eq 4, 3) := by decide +kernel
theorem d_M_put_238 : decode b_M_put 238 = .ok (.return_, 1) := by decide +kernel
theorem d_M_put_239 : decode b_M_put 239 = .ok (.aload_n 0, 1) := by decide +kernel
theorem d_M_put_240 : decode b_M_put 240 = .ok (.getfield 16, 3) := by decide +kernel
theorem d_M_put_243 : decode b_M_put 243 = .ok (.bipush 7, 2) := by decide +kernel
theorem d_M_put_245 : decode b_M_put 245 = .ok (.iload_n 1, 1) := by decide +kernel
theorem d_M_put_246 : decode b_M_put 246 = .ok (.imul, 1) := by decide +kernel
theorem d_M_put_247 : decode b_M_put 247 = .ok (.iconst 5, 1) := by decide +kernel
theorem d_M_put_248 : decode b_M_put 248 = .ok (.iadd, 1) := by decide +kernel
theorem d_M_put_249 : decode b_M_put 249 = .ok (.aload_n 0, 1) := by decide +kernel
theorem d_M_put_250 : decode b_M_put 250 = .ok (.getfield 36, 3) := by decide +kernel
theorem d_M_put_253 : decode b_M_put 253 = .ok (.l2i, 1) := by decide +kernel
theorem d_M_put_254 : decode b_M_put 254 = .ok (.iastore, 1) := by decide +kernel
theorem d_M_put_255 : decode b_M_put 255 = .ok (.aload_n 0, 1) := by decide +kernel
theorem d_M_put_256 : decode b_M_put 256 = .ok (.getfield 16, 3) := by decide +kernel
theorem d_M_put_259 : decode b_M_put 259 = .ok (.bipush 7, 2) := by decide +kernel
theorem d_M_put_261 : decode b_M_put 261 = .ok (.iload_n 1, 1) := by decide +kernel
theorem d_M_put_262 : decode b_M_put 262 = .ok (.imul, 1) := by decide +kernel
theorem d_M_put_263 : decode b_M_put 263 = .ok (.bipush 6, 2) := by decide +kernel
theorem d_M_put_265 : decode b_M_put 265 = .ok (.iadd, 1) := by decide +kernel
theorem d_M_put_266 : decode b_M_put 266 = .ok (.aload_n 0, 1) := by decide +kernel
theorem d_M_put_267 : decode b_M_put 267 = .ok (.getfield 40, 3) := by decide +kernel
theorem d_M_put_270 : decode b_M_put 270 = .ok (.l2i, 1) := by decide +kernel
theorem d_M_put_271 : decode b_M_put 271 = .ok (.iastore, 1) := by decide +kernel
theorem d_M_put_272 : decode b_M_put 272 = .ok (.return_, 1) := by decide +kernel
theorem d_M_put_273 : decode b_M_put 273 = .ok (.bipush 7, 2) := by decide +kernel
theorem d_M_put_275 : decode b_M_put 275 = .ok (.aload_n 0, 1) := by decide +kernel
theorem d_M_put_276 : decode b_M_put 276 = .ok (.getfield 56, 3) := by decide +kernel
theorem d_M_put_279 : decode b_M_put 279 = .ok (.imul, 1) := by decide +kernel
theorem d_M_put_280 : decode b_M_put 280 = .ok (.iconst 1, 1) := by decide +kernel
theorem d_M_put_281 : decode b_M_put 281 = .ok (.isub, 1) := by decide +kernel
theorem d_M_put_282 : decode b_M_put 282 = .ok (.istore_n 2, 1) := by decide +kernel
theorem d_M_put_283 : decode b_M_put 283 = .ok (.iload_n 2, 1) := by decide +kernel
theorem d_M_put_284 : decode b_M_put 284 = .ok (.bipush 7, 2) := by decide +kernel
theorem d_M_put_286 : decode b_M_put 286 = .ok (.iload_n 1, 1) := by decide +kernel
theorem d_M_put_287 : decode b_M_put 287 = .ok (.imul, 1) := by decide +kernel
theorem d_M_put_288 : decode b_M_put 288 = .ok (.if_icmp .lt 24, 3) := by decide +kernel
theorem d_M_put_291 : decode b_M_put 291 = .ok (.aload_n 0, 1) := by decide +kernel
theorem d_M_put_292 : decode b_M_put 292 = .ok (.getfield 16, 3) := by decide +kernel
theorem d_M_put_295 : decode b_M_put 295 = .ok (.iload_n 2, 1) := by decide +kernel
theorem d_M_put_296 : decode b_M_put 296 = .ok (.bipush 7, 2) := by decide +kernel
theorem d_M_put_298 : decode b_M_put 298 = .ok (.iadd, 1) := by decide +kernel
theorem d_M_put_299 : decode b_M_put 299 = .ok (.aload_n 0, 1) := by decide +kernel
theorem d_M_put_300 : decode b_M_put 300 = .ok (.getfield 16, 3) := by decide +kernel
theorem d_M_put_303 : decode b_M_put 303 = .ok (.iload_n 2, 1) := by decide +kernel
theorem d_M_put_304 : decode b_M_put 304 = .ok (.iaload, 1) := by decide +kernel
theorem d_M_put_305 : decode b_M_put 305 = .ok (.iastore, 1) := by decide +kernel
theorem d_M_put_306 : decode b_M_put 306 = .ok (.iinc 2 (-1), 3) := by decide +kernel
theorem d_M_put_309 : decode b_M_put 309 = .ok (.goto (-26), 3) := by decide +kernel
theorem d_M_put_312 : decode b_M_put 312 = .ok (.aload_n 0, 1) := by decide +kernel
theorem d_M_put_313 : decode b_M_put 313 = .ok (.dup, 1) := by decide +kernel
theorem d_M_put_314 : decode b_M_put 314 = .ok (.getfield 56, 3) := by decide +kernel
theorem d_M_put_317 : decode b_M_put 317 = .ok (.iconst 1, 1) := by decide +kernel
theorem d_M_put_318 : decode b_M_put 318 = .ok (.iadd, 1) := by decide +kernel
theorem d_M_put_319 : decode b_M_put 319 = .ok (.putfield 56, 3) := by decide +kernel
theorem d_M_put_322 : decode b_M_put 322 = .ok (.iconst 0, 1) := by decide +kernel
theorem d_M_put_323 : decode b_M_put 323 = .ok (.istore_n 2, 1) := by decide +kernel
theorem d_M_put_324 : decode b_M_put 324 = .ok (.iload_n 2, 1) := by decide +kernel
theorem d_M_put_325 : decode b_M_put 325 = .ok (.bipush 7, 2) := by decide +kernel
theorem d_M_put_327 : decode b_M_put 327 = .ok (.if_icmp .ge 26, 3) := by decide +kernel
theorem d_M_put_330 : decode b_M_put 330 = .ok (.aload_n 0, 1) := by decide +kernel
theorem d_M_put_331 : decode b_M_put 331 = .ok (.getfield 16, 3) := by decide +kernel
theorem d_M_put_334 : decode b_M_put 334 = .ok (.bipush 7, 2) := by decide +kernel
theorem d_M_put_336 : decode b_M_put 336 = .ok (.iload_n 1, 1) := by decide +kernel
theorem d_M_put_337 : decode b_M_put 337 = .ok (.imul, 1) := by decide +kernel
theorem d_M_put_338 : decode b_M_put 338 = .ok (.iload_n 2, 1) := by decide +kernel
theorem d_M_put_339 : decode b_M_put 339 = .ok (.iadd, 1) := by decide +kernel
theorem d_M_put_340 : decode b_M_put 340 = .ok (.aload_n 0, 1) := by decide +kernel
theorem d_M_put_341 : decode b_M_put 341 = .ok (.getfield 19, 3) := by decide +kernel
theorem d_M_put_344 : decode b_M_put 344 = .ok (.iload_n 2, 1) := by decide +kernel
theorem d_M_put_345 : decode b_M_put 345 = .ok (.iaload, 1) := by decide +kernel
theorem d_M_put_346 : decode b_M_put 346 = .ok (.iastore, 1) := by decide +kernel
theorem d_M_put_347 : decode b_M_put 347 = .ok (.iinc 2 1, 3) := by decide +kernel
theorem d_M_put_350 : decode b_M_put 350 = .ok (.goto (-26), 3) := by decide +kernel
theorem d_M_put_353 : decode b_M_put 353 = .ok (.return_, 1) := by decide +kernel
theorem d_M_load_0 : decode b_M_load 0 = .ok (.iconst 0, 1) := by decide +kernel
theorem d_M_load_1 : decode b_M_load 1 = .ok (.istore_n 3, 1) := by decide +kernel
theorem d_M_load_2 : decode b_M_load 2 = .ok (.iload_n 3, 1) := by decide +kernel
theorem d_M_load_3 : decode b_M_load 3 = .ok (.bipush 7, 2) := by decide +kernel
theorem d_M_load_5 : decode b_M_load 5 = .ok (.if_icmp .ge 22, 3) := by decide +kernel
theorem d_M_load_8 : decode b_M_load 8 = .ok (.aload_n 0, 1) := by decide +kernel
theorem d_M_load_9 : decode b_M_load 9 = .ok (.getfield 19, 3) := by decide +kernel
theorem d_M_load_12 : decode b_M_load 12 = .ok (.iload_n 3, 1) := by decide +kernel
theorem d_M_load_13 : decode b_M_load 13 = .ok (.aload_n 0, 1) := by decide +kernel
theorem d_M_load_14 : decode b_M_load 14 = .ok (.iload_n 1, 1) := by decide +kernel
theorem d_M_load_15 : decode b_M_load 15 = .ok (.iload_n 2, 1) := by decide +kernel
theorem d_M_load_16 : decode b_M_load 16 = .ok (.iload_n 3, 1) := by decide +kernel
theorem d_M_load_17 : decode b_M_load 17 = .ok (.invokevirtual 74, 3) := by decide +kernel
theorem d_M_load_20 : decode b_M_load 20 = .ok (.iastore, 1) := by decide +kernel
theorem d_M_load_21 : decode b_M_load 21 = .ok (.iinc 3 1, 3) := by decide +kernel
theorem d_M_load_24 : decode b_M_load 24 = .ok (.goto (-22), 3) := by decide +kernel
theorem d_M_load_27 : decode b_M_load 27 = .ok (.return_, 1) := by decide +kernel
theorem d_M_scale_0 : decode b_M_scale 0 = .ok (.aload_n 0, 1) := by decide +kernel
theorem d_M_scale_1 : decode b_M_scale 1 = .ok (.getfield 19, 3) := by decide +kernel
theorem d_M_scale_4 : decode b_M_scale 4 = .ok (.iconst 5, 1) := by decide +kernel
theorem d_M_scale_5 : decode b_M_scale 5 = .ok (.iaload, 1) := by decide +kernel
theorem d_M_scale_6 : decode b_M_scale 6 = .ok (.i2l, 1) := by decide +kernel
theorem d_M_scale_7 : decode b_M_scale 7 = .ok (.lload_n 3, 1) := by decide +kernel
theorem d_M_scale_8 : decode b_M_scale 8 = .ok (.invokestatic 32, 3) := by decide +kernel
theorem d_M_scale_11 : decode b_M_scale 11 = .ok (.lstore 5, 2) := by decide +kernel
theorem d_M_scale_13 : decode b_M_scale 13 = .ok (.lload_n 1, 1) := by decide +kernel
theorem d_M_scale_14 : decode b_M_scale 14 = .ok (.aload_n 0, 1) := by decide +kernel
theorem d_M_scale_15 : decode b_M_scale 15 = .ok (.getfield 19, 3) := by decide +kernel
theorem d_M_scale_18 : decode b_M_scale 18 = .ok (.bipush 6, 2) := by decide +kernel
theorem d_M_scale_20 : decode b_M_scale 20 = .ok (.iaload, 1) := by decide +kernel
theorem d_M_scale_21 : decode b_M_scale 21 = .ok (.i2l, 1) := by decide +kernel
theorem d_M_scale_22 : decode b_M_scale 22 = .ok (.invokestatic 32, 3) := by decide +kernel
theorem d_M_scale_25 : decode b_M_scale 25 = .ok (.lstore 7, 2) := by decide +kernel
theorem d_M_scale_27 : decode b_M_scale 27 = .ok (.aload_n 0, 1) := by decide +kernel
theorem d_M_scale_28 : decode b_M_scale 28 = .ok (.aload_n 0, 1) := by decide +kernel
theorem d_M_scale_29 : decode b_M_scale 29 = .ok (.getfield 19, 3) := by decide +kernel
theorem d_M_scale_32 : decode b_M_scale 32 = .ok (.iconst 5, 1) := by decide +kernel
theorem d_M_scale_33 : decode b_M_scale 33 = .ok (.iaload, 1) := by decide +kernel
theorem d_M_scale_34 : decode b_M_scale 34 = .ok (.i2l, 1) := by decide +kernel
theorem d_M_scale_35 : decode b_M_scale 35 = .ok (.lload 5, 2) := by decide +kernel
theorem d_M_scale_37 : decode b_M_scale 37 = .ok (.ldiv, 1) := by decide +kernel
theorem d_M_scale_38 : decode b_M_scale 38 = .ok (.lload_n 1, 1) := by decide +kernel
theorem d_M_scale_39 : decode b_M_scale 39 = .ok (.lload 7, 2) := by decide +kernel
theorem d_M_scale_41 : decode b_M_scale 41 = .ok (.ldiv, 1) := by decide +kernel
theorem d_M_scale_42 : decode b_M_scale 42 = .ok (.lmul, 1) := by decide +kernel
theorem d_M_scale_43 : decode b_M_scale 43 = .ok (.aload_n 0, 1) := by decide +kernel
theorem d_M_scale_44 : decode b_M_scale 44 = .ok (.getfield 19, 3) := by decide +kernel
theorem d_M_scale_47 : decode b_M_scale 47 = .ok (.bipush 6, 2) := by decide +kernel
theorem d_M_scale_49 : decode b_M_scale 49 = .ok (.iaload, 1) := by decide +kernel
theorem d_M_scale_50 : decode b_M_scale 50 = .ok (.i2l, 1) := by decide +kernel
theorem d_M_scale_51 : decode b_M_scale 51 = .ok (.lload 7, 2) := by decide +kernel
theorem d_M_scale_53 : decode b_M_scale 53 = .ok (.ldiv, 1) := by decide +kernel
theorem d_M_scale_54 : decode b_M_scale 54 = .ok (.lload_n 3, 1) := by decide +kernel
theorem d_M_scale_55 : decode b_M_scale 55 = .ok (.lload 5, 2) := by decide +kernel
theorem d_M_scale_57 : decode b_M_scale 57 = .ok (.ldiv, 1) := by decide +kernel
theorem d_M_scale_58 : decode b_M_scale 58 = .ok (.lmul, 1) := by decide +kernel
theorem d_M_scale_59 : decode b_M_scale 59 = .ok (.invokevirtual 67, 3) := by decide +kernel
theorem d_M_scale_62 : decode b_M_scale 62 = .ok (.aload_n 0, 1) := by decide +kernel
theorem d_M_scale_63 : decode b_M_scale 63 = .ok (.invokevirtual 71, 3) := by decide +kernel
theorem d_M_scale_66 : decode b_M_scale 66 = .ok (.aload_n 0, 1) := by decide +kernel
theorem d_M_scale_67 : decode b_M_scale 67 = .ok (.getfield 19, 3) := by decide +kernel
theorem d_M_scale_70 : decode b_M_scale 70 = .ok (.iconst 5, 1) := by decide +kernel
theorem d_M_scale_71 : decode b_M_scale 71 = .ok (.aload_n 0, 1) := by decide +kernel
theorem d_M_scale_72 : decode b_M_scale 72 = .ok (.getfield 45, 3) := by decide +kernel
theorem d_M_scale_75 : decode b_M_scale 75 = .ok (.ifCond .eq 7, 3) := by decide +kernel
theorem d_M_scale_78 : decode b_M_scale 78 = .ok (.iconst 1, 1) := by decide +kernel
theorem d_M_scale_79 : decode b_M_scale 79 = .ok (.goto 8, 3) := by decide +kernel
theorem d_M_scale_82 : decode b_M_scale 82 = .ok (.aload_n 0, 1) := by decide +kernel
theorem d_M_scale_83 : decode b_M_scale 83 = .ok (.getfield 36, 3) := by decide +kernel
theorem d_M_scale_86 : decode b_M_scale 86 = .ok (.l2i, 1) := by decide +kernel
theorem d_M_scale_87 : decode b_M_scale 87 = .ok (.iastore, 1) := by decide +kernel
theorem d_M_scale_88 : decode b_M_scale 88 = .ok (.aload_n 0, 1) := by decide +kernel
theorem d_M_scale_89 : decode b_M_scale 89 = .ok (.getfield 19, 3) := by decide +kernel
theorem d_M_scale_92 : decode b_M_scale 92 = .ok (.bipush 6, 2) := by decide +kernel
theorem d_M_scale_94 : decode b_M_scale 94 = .ok (.aload_n 0, 1) := by decide +kernel
theorem d_M_scale_95 : decode b_M_scale 95 = .ok (.getfield 45, 3) := by decide +kernel
theorem d_M_scale_98 : decode b_M_scale 98 = .ok (.ifCond .eq 7, 3) := by decide +kernel
theorem d_M_scale_101 : decode b_M_scale 101 = .ok (.iconst 1, 1) := by decide +kernel
theorem d_M_scale_102 : decode b_M_scale 102 = .ok (.goto 8, 3) := by decide +kernel
theorem d_M_scale_105 : decode b_M_scale 105 = .ok (.aload_n 0, 1) := by decide +kernel
theorem d_M_scale_106 : decode b_M_scale 106 = .ok (.getfield 40, 3) := by decide +kernel
theorem d_M_scale_109 : decode b_M_scale 109 = .ok (.l2i, 1) := by decide +kernel
theorem d_M_scale_110 : decode b_M_scale 110 = .ok (.iastore, 1) := by decide +kernel
theorem d_M_scale_111 : decode b_M_scale 111 = .ok (.return_, 1) := by decide +kernel
theorem d_M_keep_0 : decode b_M_keep 0 = .ok (.aload_n 0, 1) := by decide +kernel
theorem d_M_keep_1 : decode b_M_keep 1 = .ok (.getfield 45, 3) := by decide +kernel
theorem d_M_keep_4 : decode b_M_keep 4 = .ok (.ifCond .ne 12, 3) := by decide +kernel
theorem d_M_keep_7 : decode b_M_keep 7 = .ok (.aload_n 0, 1) := by decide +kernel
theorem d_M_keep_8 : decode b_M_keep 8 = .ok (.getfield 56, 3) := by decide +kernel
theorem d_M_keep_11 : decode b_M_keep 11 = .ok (.bipush 10, 2) := by decide +kernel
theorem d_M_keep_13 : decode b_M_keep 13 = .ok (.if_icmp .le 9, 3) := by decide +kernel
theorem d_M_keep_16 : decode b_M_keep 16 = .ok (.aload_n 0, 1) := by decide +kernel
theorem d_M_keep_17 : decode b_M_keep 17 = .ok (.iconst 2, 1) := by decide +kernel
theorem d_M_keep_18 : decode b_M_keep 18 = .ok (.invokevirtual 78, 3) := by decide +kernel
theorem d_M_keep_21 : decode b_M_keep 21 = .ok (.ireturn, 1) := by decide +kernel
theorem d_M_keep_22 : decode b_M_keep 22 = .ok (.aload_n 0, 1) := by decide +kernel
theorem d_M_keep_23 : decode b_M_keep 23 = .ok (.iconst 0, 1) := by decide +kernel
theorem d_M_keep_24 : decode b_M_keep 24 = .ok (.putfield 25, 3) := by decide +kernel
theorem d_M_keep_27 : decode b_M_keep 27 = .ok (.aload_n 0, 1) := by decide +kernel
theorem d_M_keep_28 : decode b_M_keep 28 = .ok (.getfield 7, 3) := by decide +kernel
theorem d_M_keep_31 : decode b_M_keep 31 = .ok (.aload_n 0, 1) := by decide +kernel
theorem d_M_keep_32 : decode b_M_keep 32 = .ok (.getfield 49, 3) := by decide +kernel
theorem d_M_keep_35 : decode b_M_keep 35 = .ok (.aload_n 0, 1) := by decide +kernel
theorem d_M_keep_36 : decode b_M_keep 36 = .ok (.getfield 56, 3) := by decide +kernel
theorem d_M_keep_39 : decode b_M_keep 39 = .ok (.iastore, 1) := by decide +kernel
theorem d_M_keep_40 : decode b_M_keep 40 = .ok (.iconst 0, 1) := by decide +kernel
theorem d_M_keep_41 : decode b_M_keep 41 = .ok (.istore_n 1, 1) := by decide +kernel
theorem d_M_keep_42 : decode b_M_keep 42 = .ok (.iload_n 1, 1) := by decide +kernel
theorem d_M_keep_43 : decode b_M_keep 43 = .ok (.bipush 7, 2) := by decide +kernel
theorem d_M_keep_45 : decode b_M_keep 45 = .ok (.aload_n 0, 1) := by decide +kernel
theorem d_M_keep_46 : decode b_M_keep 46 = .ok (.getfield 56, 3) := by decide +kernel
theorem d_M_keep_49 : decode b_M_keep 49 = .ok (.imul, 1) := by decide +kernel
theorem d_M_keep_50 : decode b_M_keep 50 = .ok (.if_icmp .ge 29, 3) := by decide +kernel
theorem d_M_keep_53 : decode b_M_keep 53 = .ok (.aload_n 0, 1) := by decide +kernel
theorem d_M_keep_54 : decode b_M_keep 54 = .ok (.getfield 13, 3) := by decide +kernel
theorem d_M_keep_57 : decode b_M_keep 57 = .ok (.bipush 70, 2) := by decide +kernel
theorem d_M_keep_59 : decode b_M_keep 59 = .ok (.aload_n 0, 1) := by decide +kernel
theorem d_M_keep_60 : decode b_M_keep 60 = .ok (.getfield 49, 3) := by decide +kernel
theorem d_M_keep_63 : decode b_M_keep 63 = .ok (.imul, 1) := by decide +kernel
theorem d_M_keep_64 : decode b_M_keep 64 = .ok (.iload_n 1, 1) := by decide +kernel
theorem d_M_keep_65 : decode b_M_keep 65 = .ok (.iadd, 1) := by decide +kernel
theorem d_M_keep_66 : decode b_M_keep 66 = .ok (.aload_n 0, 1) := by decide +kernel
theorem d_M_keep_67 : decode b_M_keep 67 = .ok (.getfield 16, 3) := by decide +kernel
theorem d_M_keep_70 : decode b_M_keep 70 = .ok (.iload_n 1, 1) := by decide +kernel
theorem d_M_keep_71 : decode b_M_keep 71 = .ok (.iaload, 1) := by decide +kernel
theorem d_M_keep_72 : decode b_M_keep 72 = .ok (.iastore, 1) := by decide +kernel
theorem d_M_keep_73 : decode b_M_keep 73 = .ok (.iinc 1 1, 3) := by decide +kernel
theorem d_M_keep_76 : decode b_M_keep 76 = .ok (.goto (-34), 3) := by decide +kernel
theorem d_M_keep_79 : decode b_M_keep 79 = .ok (.aload_n 0, 1) := by decide +kernel
theorem d_M_keep_80 : decode b_M_keep 80 = .ok (.dup, 1) := by decide +kernel
theorem d_M_keep_81 : decode b_M_keep 81 = .ok (.getfield 49, 3) := by decide +kernel
theorem d_M_keep_84 : decode b_M_keep 84 = .ok (.iconst 1, 1) := by decide +kernel
theorem d_M_keep_85 : decode b_M_keep 85 = .ok (.iadd, 1) := by decide +kernel
theorem d_M_keep_86 : decode b_M_keep 86 = .ok (.putfield 49, 3) := by decide +kernel
theorem d_M_keep_89 : decode b_M_keep 89 = .ok (.aload_n 0, 1) := by decide +kernel
theorem d_M_keep_90 : decode b_M_keep 90 = .ok (.getfield 49, 3) := by decide +kernel
theorem d_M_keep_93 : decode b_M_keep 93 = .ok (.iconst 1, 1) := by decide +kernel
theorem d_M_keep_94 : decode b_M_keep 94 = .ok (.isub, 1) := by decide +kernel
theorem d_M_keep_95 : decode b_M_keep 95 = .ok (.ireturn, 1) := by decide +kernel
theorem d_M_may_0 : decode b_M_may 0 = .ok (.aload_n 0, 1) := by decide +kernel
theorem d_M_may_1 : decode b_M_may 1 = .ok (.aload_n 0, 1) := by decide +kernel
theorem d_M_may_2 : decode b_M_may 2 = .ok (.iload_n 1, 1) := by decide +kernel
theorem d_M_may_3 : decode b_M_may 3 = .ok (.invokevirtual 81, 3) := by decide +kernel
theorem d_M_may_6 : decode b_M_may 6 = .ok (.ifCond .eq 11, 3) := by decide +kernel
theorem d_M_may_9 : decode b_M_may 9 = .ok (.aload_n 0, 1) := by decide +kernel
theorem d_M_may_10 : decode b_M_may 10 = .ok (.iload_n 2, 1) := by decide +kernel
theorem d_M_may_11 : decode b_M_may 11 = .ok (.invokevirtual 81, 3) := by decide +kernel
theorem d_M_may_14 : decode b_M_may 14 = .ok (.ifCond .ne 7, 3) := by decide +kernel
theorem d_M_may_17 : decode b_M_may 17 = .ok (.iconst 1, 1) := by decide +kernel
theorem d_M_may_18 : decode b_M_may 18 = .ok (.goto 17, 3) := by decide +kernel
theorem d_M_may_21 : decode b_M_may 21 = .ok (.aload_n 0, 1) := by decide +kernel
theorem d_M_may_22 : decode b_M_may 22 = .ok (.getfield 49, 3) := by decide +kernel
theorem d_M_may_25 : decode b_M_may 25 = .ok (.bipush 80, 2) := by decide +kernel
theorem d_M_may_27 : decode b_M_may 27 = .ok (.if_icmp .ne 7, 3) := by decide +kernel
theorem d_M_may_30 : decode b_M_may 30 = .ok (.iconst 2, 1) := by decide +kernel
theorem d_M_may_31 : decode b_M_may 31 = .ok (.goto 4, 3) := by decide +kernel
theorem d_M_may_34 : decode b_M_may 34 = .ok (.iconst 0, 1) := by decide +kernel
theorem d_M_may_35 : decode b_M_may 35 = .ok (.putfield 25, 3) := by decide +kernel
theorem d_M_may_38 : decode b_M_may 38 = .ok (.aload_n 0, 1) := by decide +kernel
theorem d_M_may_39 : decode b_M_may 39 = .ok (.getfield 25, 3) := by decide +kernel
theorem d_M_may_42 : decode b_M_may 42 = .ok (.ifCond .ne 7, 3) := by decide +kernel
theorem d_M_may_45 : decode b_M_may 45 = .ok (.iconst 1, 1) := by decide +kernel
theorem d_M_may_46 : decode b_M_may 46 = .ok (.goto 4, 3) := by decide +kernel
theorem d_M_may_49 : decode b_M_may 49 = .ok (.iconst 0, 1) := by decide +kernel
theorem d_M_may_50 : decode b_M_may 50 = .ok (.ireturn, 1) := by decide +kernel
theorem d_M_number_0 : decode b_M_number 0 = .ok (.iload_n 2, 1) := by decide +kernel
theorem d_M_number_1 : decode b_M_number 1 = .ok (.ifCond .ne 9, 3) := by decide +kernel
theorem d_M_number_4 : decode b_M_number 4 = .ok (.aload_n 0, 1) := by decide +kernel
theorem d_M_number_5 : decode b_M_number 5 = .ok (.iconst 1, 1) := by decide +kernel
theorem d_M_number_6 : decode b_M_number 6 = .ok (.invokevirtual 78, 3) := by decide +kernel
theorem d_M_number_9 : decode b_M_number 9 = .ok (.ireturn, 1) := by decide +kernel
theorem d_M_number_10 : decode b_M_number 10 = .ok (.aload_n 0, 1) := by decide +kernel
theorem d_M_number_11 : decode b_M_number 11 = .ok (.invokevirtual 85, 3) := by decide +kernel
theorem d_M_number_14 : decode b_M_number 14 = .ok (.iconst 0, 1) := by decide +kernel
theorem d_M_number_15 : decode b_M_number 15 = .ok (.istore_n 3, 1) := by decide +kernel
theorem d_M_number_16 : decode b_M_number 16 = .ok (.iload_n 3, 1) := by decide +kernel
theorem d_M_number_17 : decode b_M_number 17 = .ok (.iconst 5, 1) := by decide +kernel
theorem d_M_number_18 : decode b_M_number 18 = .ok (.if_icmp .ge 16, 3) := by decide +kernel
theorem d_M_number_21 : decode b_M_number 21 = .ok (.aload_n 0, 1) := by decide +kernel
theorem d_M_number_22 : decode b_M_number 22 = .ok (.getfield 19, 3) := by decide +kernel
theorem d_M_number_25 : decode b_M_number 25 = .ok (.iload_n 3, 1) := by decide +kernel
theorem d_M_number_26 : decode b_M_number 26 = .ok (.iconst 0, 1) := by decide +kernel
theorem d_M_number_27 : decode b_M_number 27 = .ok (.iastore, 1) := by decide +kernel
theorem d_M_number_28 : decode b_M_number 28 = .ok (.iinc 3 1, 3) := by decide +kernel
theorem d_M_number_31 : decode b_M_number 31 = .ok (.goto (-15), 3) := by decide +kernel
theorem d_M_number_34 : decode b_M_number 34 = .ok (.iload_n 1, 1) := by decide +kernel
theorem d_M_number_35 : decode b_M_number 35 = .ok (.ifCond .eq 64, 3) := by decide +kernel
theorem d_M_number_38 : decode b_M_number 38 = .ok (.aload_n 0, 1) := by decide +kernel
theorem d_M_number_39 : decode b_M_number 39 = .ok (.iload_n 1, 1) := by decide +kernel
theorem d_M_number_40 : decode b_M_number 40 = .ok (.i2l, 1) := by decide +kernel
theorem d_M_number_41 : decode b_M_number 41 = .ok (.iload_n 2, 1) := by decide +kernel
theorem d_M_number_42 : decode b_M_number 42 = .ok (.i2l, 1) := by decide +kernel
theorem d_M_number_43 : decode b_M_number 43 = .ok (.invokevirtual 67, 3) := by decide +kernel
theorem d_M_number_46 : decode b_M_number 46 = .ok (.aload_n 0, 1) := by decide +kernel
theorem d_M_number_47 : decode b_M_number 47 = .ok (.invokevirtual 71, 3) := by decide +kernel
theorem d_M_number_50 : decode b_M_number 50 = .ok (.aload_n 0, 1) := by decide +kernel
theorem d_M_number_51 : decode b_M_number 51 = .ok (.getfield 19, 3) := by decide +kernel
theorem d_M_number_54 : decode b_M_number 54 = .ok (.iconst 5, 1) := by decide +kernel
theorem d_M_number_55 : decode b_M_number 55 = .ok (.aload_n 0, 1) := by decide +kernel
theorem d_M_number_56 : decode b_M_number 56 = .ok (.getfield 45, 3) := by decide +kernel
theorem d_M_number_59 : decode b_M_number 59 = .ok (.ifCond .eq 7, 3) := by decide +kernel
theorem d_M_number_62 : decode b_M_number 62 = .ok (.iconst 1, 1) := by decide +kernel
theorem d_M_number_63 : decode b_M_number 63 = .ok (.goto 8, 3) := by decide +kernel
theorem d_M_number_66 : decode b_M_number 66 = .ok (.aload_n 0, 1) := by decide +kernel
theorem d_M_number_67 : decode b_M_number 67 = .ok (.getfield 36, 3) := by decide +kernel
theorem d_M_number_70 : decode b_M_number 70 = .ok (.l2i, 1) := by decide +kernel
theorem d_M_number_71 : decode b_M_number 71 = .ok (.iastore, 1) := by decide +kernel
theorem d_M_number_72 : decode b_M_number 72 = .ok (.aload_n 0, 1) := by decide +kernel
theorem d_M_number_73 : decode b_M_number 73 = .ok (.getfield 19, 3) := by decide +kernel
theorem d_M_number_76 : decode b_M_number 76 = .ok (.bipush 6, 2) := by decide +kernel
theorem d_M_number_78 : decode b_M_number 78 = .ok (.aload_n 0, 1) := by decide +kernel
theorem d_M_number_79 : decode b_M_number 79 = .ok (.getfield 45, 3) := by decide +kernel
theorem d_M_number_82 : decode b_M_number 82 = .ok (.ifCond .eq 7, 3) := by decide +kernel
theorem d_M_number_85 : decode b_M_number 85 = .ok (.iconst 1, 1) := by decide +kernel
theorem d_M_number_86 : decode b_M_number 86 = .ok (.goto 8, 3) := by decide +kernel
theorem d_M_number_89 : decode b_M_number 89 = .ok (.aload_n 0, 1) := by decide +kernel
theorem d_M_number_90 : decode b_M_number 90 = .ok (.getfield 40, 3) := by decide +kernel
theorem d_M_number_93 : decode b_M_number 93 = .ok (.l2i, 1) := by decide +kernel
theorem d_M_number_94 : decode b_M_number 94 = .ok (.iastore, 1) := by decide +kernel
theorem d_M_number_95 : decode b_M_number 95 = .ok (.aload_n 0, 1) := by decide +kernel
theorem d_M_number_96 : decode b_M_number 96 = .ok (.invokevirtual 88, 3) := by decide +kernel
theorem d_M_number_99 : decode b_M_number 99 = .ok (.aload_n 0, 1) := by decide +kernel
theorem d_M_number_100 : decode b_M_number 100 = .ok (.getfield 49, 3) := by decide +kernel
theorem d_M_number_103 : decode b_M_number 103 = .ok (.bipush 80, 2) := by decide +kernel
theorem d_M_number_105 : decode b_M_number 105 = .ok (.if_icmp .ne 11, 3) := by decide +kernel
theorem d_M_number_108 : decode b_M_number 108 = .ok (.aload_n 0, 1) := by decide +kernel
theorem d_M_number_109 : decode b_M_number 109 = .ok (.iconst 2, 1) := by decide +kernel
theorem d_M_number_110 : decode b_M_number 110 = .ok (.invokevirtual 78, 3) := by decide +kernel
theorem d_M_number_113 : decode b_M_number 113 = .ok (.goto 7, 3) := by decide +kernel
theorem d_M_number_116 : decode b_M_number 116 = .ok (.aload_n 0, 1) := by decide +kernel
theorem d_M_number_117 : decode b_M_number 117 = .ok (.invokevirtual 91, 3) := by decide +kernel
theorem d_M_number_120 : decode b_M_number 120 = .ok (.ireturn, 1) := by decide +kernel
theorem d_M_letter_0 : decode b_M_letter 0 = .ok (.aload_n 0, 1) := by decide +kernel
theorem d_M_letter_1 : decode b_M_letter 1 = .ok (.iload_n 1, 1) := by decide +kernel
theorem d_M_letter_2 : decode b_M_letter 2 = .ok (.i2l, 1) := by decide +kernel
theorem d_M_letter_3 : decode b_M_letter 3 = .ok (.lconst 0, 1) := by decide +kernel
theorem d_M_letter_4 : decode b_M_letter 4 = .ok (.ldc2_w 95, 3) := by decide +kernel
theorem d_M_letter_7 : decode b_M_letter 7 = .ok (.invokestatic 52, 3) := by decide +kernel
theorem d_M_letter_10 : decode b_M_letter 10 = .ok (.ifCond .ne 7, 3) := by decide +kernel
theorem d_M_letter_13 : decode b_M_letter 13 = .ok (.iconst 1, 1) := by decide +kernel
theorem d_M_letter_14 : decode b_M_letter 14 = .ok (.goto 17, 3) := by decide +kernel
theorem d_M_letter_17 : decode b_M_letter 17 = .ok (.aload_n 0, 1) := by decide +kernel
theorem d_M_letter_18 : decode b_M_letter 18 = .ok (.getfield 49, 3) := by decide +kernel
theorem d_M_letter_21 : decode b_M_letter 21 = .ok (.bipush 80, 2) := by decide +kernel
theorem d_M_letter_23 : decode b_M_letter 23 = .ok (.if_icmp .ne 7, 3) := by decide +kernel
theorem d_M_letter_26 : decode b_M_letter 26 = .ok (.iconst 2, 1) := by decide +kernel
theorem d_M_letter_27 : decode b_M_letter 27 = .ok (.goto 4, 3) := by decide +kernel
theorem d_M_letter_30 : decode b_M_letter 30 = .ok (.iconst 0, 1) := by decide +kernel
theorem d_M_letter_31 : decode b_M_letter 31 = .ok (.putfield 25, 3) := by decide +kernel
theorem d_M_letter_34 : decode b_M_letter 34 = .ok (.aload_n 0, 1) := by decide +kernel
theorem d_M_letter_35 : decode b_M_letter 35 = .ok (.getfield 25, 3) := by decide +kernel
theorem d_M_letter_38 : decode b_M_letter 38 = .ok (.ifCond .le 5, 3) := by decide +kernel
theorem d_M_letter_41 : decode b_M_letter 41 = .ok (.iconst 0, 1) := by decide +kernel
theorem d_M_letter_42 : decode b_M_letter 42 = .ok (.ireturn, 1) := by decide +kernel
theorem d_M_letter_43 : decode b_M_letter 43 = .ok (.aload_n 0, 1) := by decide +kernel
theorem d_M_letter_44 : decode b_M_letter 44 = .ok (.invokevirtual 85, 3) := by decide +kernel
theorem d_M_letter_47 : decode b_M_letter 47 = .ok (.iconst 0, 1) := by decide +kernel
theorem d_M_letter_48 : decode b_M_letter 48 = .ok (.istore_n 2, 1) := by decide +kernel
theorem d_M_letter_49 : decode b_M_letter 49 = .ok (.iload_n 2, 1) := by decide +kernel
theorem d_M_letter_50 : decode b_M_letter 50 = .ok (.iconst 5, 1) := by decide +kernel
theorem d_M_letter_51 : decode b_M_letter 51 = .ok (.if_icmp .ge 25, 3) := by decide +kernel
theorem d_M_letter_54 : decode b_M_letter 54 = .ok (.aload_n 0, 1) := by decide +kernel
theorem d_M_letter_55 : decode b_M_letter 55 = .ok (.getfield 19, 3) := by decide +kernel
theorem d_M_letter_58 : decode b_M_letter 58 = .ok (.iload_n 2, 1) := by decide +kernel
theorem d_M_letter_59 : decode b_M_letter 59 = .ok (.iload_n 2, 1) := by decide +kernel
theorem d_M_letter_60 : decode b_M_letter 60 = .ok (.iload_n 1, 1) := by decide +kernel
theorem d_M_letter_61 : decode b_M_letter 61 = .ok (.if_icmp .ne 7, 3) := by decide +kernel
theorem d_M_letter_64 : decode b_M_letter 64 = .ok (.iconst 1, 1) := by decide +kernel
theorem d_M_letter_65 : decode b_M_letter 65 = .ok (.goto 4, 3) := by decide +kernel
theorem d_M_letter_68 : decode b_M_letter 68 = .ok (.iconst 0, 1) := by decide +kernel
theorem d_M_letter_69 : decode b_M_letter 69 = .ok (.iastore, 1) := by decide +kernel
theorem d_M_letter_70 : decode b_M_letter 70 = .ok (.iinc 2 1, 3) := by decide +kernel
theorem d_M_letter_73 : decode b_M_letter 73 = .ok (.goto (-24), 3) := by decide +kernel
theorem d_M_letter_76 : decode b_M_letter 76 = .ok (.aload_n 0, 1) := by decide +kernel
theorem d_M_letter_77 : decode b_M_letter 77 = .ok (.getfield 19, 3) := by decide +kernel
theorem d_M_letter_80 : decode b_M_letter 80 = .ok (.iconst 5, 1) := by decide +kernel
theorem d_M_letter_81 : decode b_M_letter 81 = .ok (.iconst 1, 1) := by decide +kernel
theorem d_M_letter_82 : decode b_M_letter 82 = .ok (.iastore, 1) := by decide +kernel
theorem d_M_letter_83 : decode b_M_letter 83 = .ok (.aload_n 0, 1) := by decide +kernel
theorem d_M_letter_84 : decode b_M_letter 84 = .ok (.getfield 19, 3) := by decide +kernel
theorem d_M_letter_87 : decode b_M_letter 87 = .ok (.bipush 6, 2) := by decide +kernel
theorem d_M_letter_89 : decode b_M_letter 89 = .ok (.iconst 1, 1) := by decide +kernel
theorem d_M_letter_90 : decode b_M_letter 90 = .ok (.iastore, 1) := by decide +kernel
theorem d_M_letter_91 : decode b_M_letter 91 = .ok (.aload_n 0, 1) := by decide +kernel
theorem d_M_letter_92 : decode b_M_letter 92 = .ok (.invokevirtual 88, 3) := by decide +kernel
theorem d_M_letter_95 : decode b_M_letter 95 = .ok (.aload_n 0, 1) := by decide +kernel
theorem d_M_letter_96 : decode b_M_letter 96 = .ok (.invokevirtual 91, 3) := by decide +kernel
theorem d_M_letter_99 : decode b_M_letter 99 = .ok (.ireturn, 1) := by decide +kernel
theorem d_M_add_0 : decode b_M_add 0 = .ok (.aload_n 0, 1) := by decide +kernel
theorem d_M_add_1 : decode b_M_add 1 = .ok (.iload_n 1, 1) := by decide +kernel
theorem d_M_add_2 : decode b_M_add 2 = .ok (.iload_n 2, 1) := by decide +kernel
theorem d_M_add_3 : decode b_M_add 3 = .ok (.invokevirtual 97, 3) := by decide +kernel
theorem d_M_add_6 : decode b_M_add 6 = .ok (.ifCond .ne 5, 3) := by decide +kernel
theorem d_M_add_9 : decode b_M_add 9 = .ok (.iconst 0, 1) := by decide +kernel
theorem d_M_add_10 : decode b_M_add 10 = .ok (.ireturn, 1) := by decide +kernel
theorem d_M_add_11 : decode b_M_add 11 = .ok (.aload_n 0, 1) := by decide +kernel
theorem d_M_add_12 : decode b_M_add 12 = .ok (.invokevirtual 85, 3) := by decide +kernel
theorem d_M_add_15 : decode b_M_add 15 = .ok (.iconst 0, 1) := by decide +kernel
theorem d_M_add_16 : decode b_M_add 16 = .ok (.istore_n 3, 1) := by decide +kernel
theorem d_M_add_17 : decode b_M_add 17 = .ok (.iload_n 3, 1) := by decide +kernel
theorem d_M_add_18 : decode b_M_add 18 = .ok (.aload_n 0, 1) := by decide +kernel
theorem d_M_add_19 : decode b_M_add 19 = .ok (.getfield 7, 3) := by decide +kernel
theorem d_M_add_22 : decode b_M_add 22 = .ok (.iload_n 1, 1) := by decide +kernel
theorem d_M_add_23 : decode b_M_add 23 = .ok (.iaload, 1) := by decide +kernel
theorem d_M_add_24 : decode b_M_add 24 = .ok (.if_icmp .ge 19, 3) := by decide +kernel
theorem d_M_add_27 : decode b_M_add 27 = .ok (.aload_n 0, 1) := by decide +kernel
theorem d_M_add_28 : decode b_M_add 28 = .ok (.iload_n 1, 1) := by decide +kernel
theorem d_M_add_29 : decode b_M_add 29 = .ok (.iload_n 3, 1) := by decide +kernel
theorem d_M_add_30 : decode b_M_add 30 = .ok (.invokevirtual 101, 3) := by decide +kernel
theorem d_M_add_33 : decode b_M_add 33 = .ok (.aload_n 0, 1) := by decide +kernel
theorem d_M_add_34 : decode b_M_add 34 = .ok (.invokevirtual 88, 3) := by decide +kernel
theorem d_M_add_37 : decode b_M_add 37 = .ok (.iinc 3 1, 3) := by decide +kernel
theorem d_M_add_40 : decode b_M_add 40 = .ok (.goto (-23), 3) := by decide +kernel
theorem d_M_add_43 : decode b_M_add 43 = .ok (.iconst 0, 1) := by decide +kernel
theorem d_M_add_44 : decode b_M_add 44 = .ok (.istore_n 3, 1) := by decide +kernel
theorem d_M_add_45 : decode b_M_add 45 = .ok (.iload_n 3, 1) := by decide +kernel
theorem d_M_add_46 : decode b_M_add 46 = .ok (.aload_n 0, 1) := by decide +kernel
theorem d_M_add_47 : decode b_M_add 47 = .ok (.getfield 7, 3) := by decide +kernel
theorem d_M_add_50 : decode b_M_add 50 = .ok (.iload_n 2, 1) := by decide +kernel
theorem d_M_add_51 : decode b_M_add 51 = .ok (.iaload, 1) := by decide +kernel
theorem d_M_add_52 : decode b_M_add 52 = .ok (.if_icmp .ge 19, 3) := by decide +kernel
theorem d_M_add_55 : decode b_M_add 55 = .ok (.aload_n 0, 1) := by decide +kernel
theorem d_M_add_56 : decode b_M_add 56 = .ok (.iload_n 2, 1) := by decide +kernel
theorem d_M_add_57 : decode b_M_add 57 = .ok (.iload_n 3, 1) := by decide +kernel
theorem d_M_add_58 : decode b_M_add 58 = .ok (.invokevirtual 101, 3) := by decide +kernel
theorem d_M_add_61 : decode b_M_add 61 = .ok (.aload_n 0, 1) := by decide +kernel
theorem d_M_add_62 : decode b_M_add 62 = .ok (.invokevirtual 88, 3) := by decide +kernel
theorem d_M_add_65 : decode b_M_add 65 = .ok (.iinc 3 1, 3) := by decide +kernel
theorem d_M_add_68 : decode b_M_add 68 = .ok (.goto (-23), 3) := by decide +kernel
theorem d_M_add_71 : decode b_M_add 71 = .ok (.aload_n 0, 1) := by decide +kernel
theorem d_M_add_72 : decode b_M_add 72 = .ok (.invokevirtual 91, 3) := by decide +kernel
theorem d_M_add_75 : decode b_M_add 75 = .ok (.ireturn, 1) := by decide +kernel
theorem d_M_multiply_0 : decode b_M_multiply 0 = .ok (.aload_n 0, 1) := by decide +kernel
theorem d_M_multiply_1 : decode b_M_multiply 1 = .ok (.iload_n 1, 1) := by decide +kernel
theorem d_M_multiply_2 : decode b_M_multiply 2 = .ok (.iload_n 2, 1) := by decide +kernel
theorem d_M_multiply_3 : decode b_M_multiply 3 = .ok (.invokevirtual 101, 3) := by decide +kernel
theorem d_M_multiply_6 : decode b_M_multiply 6 = .ok (.iconst 0, 1) := by decide +kernel
theorem d_M_multiply_7 : decode b_M_multiply 7 = .ok (.istore 5, 2) := by decide +kernel
theorem d_M_multiply_9 : decode b_M_multiply 9 = .ok (.iload 5, 2) := by decide +kernel
theorem d_M_multiply_11 : decode b_M_multiply 11 = .ok (.iconst 5, 1) := by decide +kernel
theorem d_M_multiply_12 : decode b_M_multiply 12 = .ok (.if_icmp .ge 28, 3) := by decide +kernel
theorem d_M_multiply_15 : decode b_M_multiply 15 = .ok (.aload_n 0, 1) := by decide +kernel
theorem d_M_multiply_16 : decode b_M_multiply 16 = .ok (.getfield 19, 3) := by decide +kernel
theorem d_M_multiply_19 : decode b_M_multiply 19 = .ok (.iload 5, 2) := by decide +kernel
theorem d_M_multiply_21 : decode b_M_multiply 21 = .ok (.dup2, 1) := by decide +kernel
theorem d_M_multiply_22 : decode b_M_multiply 22 = .ok (.iaload, 1) := by decide +kernel
theorem d_M_multiply_23 : decode b_M_multiply 23 = .ok (.aload_n 0, 1) := by decide +kernel
theorem d_M_multiply_24 : decode b_M_multiply 24 = .ok (.iload_n 3, 1) := by decide +kernel
theorem d_M_multiply_25 : decode b_M_multiply 25 = .ok (.iload 4, 2) := by decide +kernel
theorem d_M_multiply_27 : decode b_M_multiply 27 = .ok (.iload 5, 2) := by decide +kernel
theorem d_M_multiply_29 : decode b_M_multiply 29 = .ok (.invokevirtual 74, 3) := by decide +kernel
theorem d_M_multiply_32 : decode b_M_multiply 32 = .ok (.iadd, 1) := by decide +kernel
theorem d_M_multiply_33 : decode b_M_multiply 33 = .ok (.iastore, 1) := by decide +kernel
theorem d_M_multiply_34 : decode b_M_multiply 34 = .ok (.iinc 5 1, 3) := by decide +kernel
theorem d_M_multiply_37 : decode b_M_multiply 37 = .ok (.goto (-28), 3) := by decide +kernel
theorem d_M_multiply_40 : decode b_M_multiply 40 = .ok (.aload_n 0, 1) := by decide +kernel
theorem d_M_multiply_41 : decode b_M_multiply 41 = .ok (.aload_n 0, 1) := by decide +kernel
theorem d_M_multiply_42 : decode b_M_multiply 42 = .ok (.iload_n 3, 1) := by decide +kernel
theorem d_M_multiply_43 : decode b_M_multiply 43 = .ok (.iload 4, 2) := by decide +kernel
theorem d_M_multiply_45 : decode b_M_multiply 45 = .ok (.iconst 5, 1) := by decide +kernel
theorem d_M_multiply_46 : decode b_M_multiply 46 = .ok (.invokevirtual 74, 3) := by decide +kernel
theorem d_M_multiply_49 : decode b_M_multiply 49 = .ok (.i2l, 1) := by decide +kernel
theorem d_M_multiply_50 : decode b_M_multiply 50 = .ok (.aload_n 0, 1) := by decide +kernel
theorem d_M_multiply_51 : decode b_M_multiply 51 = .ok (.iload_n 3, 1) := by decide +kernel
theorem d_M_multiply_52 : decode b_M_multiply 52 = .ok (.iload 4, 2) := by decide +kernel
theorem d_M_multiply_54 : decode b_M_multiply 54 = .ok (.bipush 6, 2) := by decide +kernel
theorem d_M_multiply_56 : decode b_M_multiply 56 = .ok (.invokevirtual 74, 3) := by decide +kernel
theorem d_M_multiply_59 : decode b_M_multiply 59 = .ok (.i2l, 1) := by decide +kernel
theorem d_M_multiply_60 : decode b_M_multiply 60 = .ok (.invokevirtual 105, 3) := by decide +kernel
theorem d_M_multiply_63 : decode b_M_multiply 63 = .ok (.return_, 1) := by decide +kernel
theorem d_M_times_0 : decode b_M_times 0 = .ok (.aload_n 0, 1) := by decide +kernel
theorem d_M_times_1 : decode b_M_times 1 = .ok (.iload_n 1, 1) := by decide +kernel
theorem d_M_times_2 : decode b_M_times 2 = .ok (.iload_n 2, 1) := by decide +kernel
theorem d_M_times_3 : decode b_M_times 3 = .ok (.invokevirtual 97, 3) := by decide +kernel
theorem d_M_times_6 : decode b_M_times 6 = .ok (.ifCond .ne 5, 3) := by decide +kernel
theorem d_M_times_9 : decode b_M_times 9 = .ok (.iconst 0, 1) := by decide +kernel
theorem d_M_times_10 : decode b_M_times 10 = .ok (.ireturn, 1) := by decide +kernel
theorem d_M_times_11 : decode b_M_times 11 = .ok (.aload_n 0, 1) := by decide +kernel
theorem d_M_times_12 : decode b_M_times 12 = .ok (.invokevirtual 85, 3) := by decide +kernel
theorem d_M_times_15 : decode b_M_times 15 = .ok (.iconst 0, 1) := by decide +kernel
theorem d_M_times_16 : decode b_M_times 16 = .ok (.istore_n 3, 1) := by decide +kernel
theorem d_M_times_17 : decode b_M_times 17 = .ok (.iload_n 3, 1) := by decide +kernel
theorem d_M_times_18 : decode b_M_times 18 = .ok (.aload_n 0, 1) := by decide +kernel
theorem d_M_times_19 : decode b_M_times 19 = .ok (.getfield 7, 3) := by decide +kernel
theorem d_M_times_22 : decode b_M_times 22 = .ok (.iload_n 1, 1) := by decide +kernel
theorem d_M_times_23 : decode b_M_times 23 = .ok (.iaload, 1) := by decide +kernel
theorem d_M_times_24 : decode b_M_times 24 = .ok (.if_icmp .ge 49, 3) := by decide +kernel
theorem d_M_times_27 : decode b_M_times 27 = .ok (.iconst 0, 1) := by decide +kernel
theorem d_M_times_28 : decode b_M_times 28 = .ok (.istore 4, 2) := by decide +kernel
theorem d_M_times_30 : decode b_M_times 30 = .ok (.iload 4, 2) := by decide +kernel
theorem d_M_times_32 : decode b_M_times 32 = .ok (.aload_n 0, 1) := by decide +kernel
theorem d_M_times_33 : decode b_M_times 33 = .ok (.getfield 7, 3) := by decide +kernel
theorem d_M_times_36 : decode b_M_times 36 = .ok (.iload_n 2, 1) := by decide +kernel
theorem d_M_times_37 : decode b_M_times 37 = .ok (.iaload, 1) := by decide +kernel
theorem d_M_times_38 : decode b_M_times 38 = .ok (.if_icmp .ge 29, 3) := by decide +kernel
theorem d_M_times_41 : decode b_M_times 41 = .ok (.aload_n 0, 1) := by decide +kernel
theorem d_M_times_42 : decode b_M_times 42 = .ok (.getfield 45, 3) := by decide +kernel
theorem d_M_times_45 : decode b_M_times 45 = .ok (.ifCond .ne 22, 3) := by decide +kernel
theorem d_M_times_48 : decode b_M_times 48 = .ok (.aload_n 0, 1) := by decide +kernel
theorem d_M_times_49 : decode b_M_times 49 = .ok (.iload_n 1, 1) := by decide +kernel
theorem d_M_times_50 : decode b_M_times 50 = .ok (.iload_n 3, 1) := by decide +kernel
theorem d_M_times_51 : decode b_M_times 51 = .ok (.iload_n 2, 1) := by decide +kernel
theorem d_M_times_52 : decode b_M_times 52 = .ok (.iload 4, 2) := by decide +kernel
theorem d_M_times_54 : decode b_M_times 54 = .ok (.invokevirtual 108, 3) := by decide +kernel
theorem d_M_times_57 : decode b_M_times 57 = .ok (.aload_n 0, 1) := by decide +kernel
theorem d_M_times_58 : decode b_M_times 58 = .ok (.invokevirtual 88, 3) := by decide +kernel
theorem d_M_times_61 : decode b_M_times 61 = .ok (.iinc 4 1, 3) := by decide +kernel
theorem d_M_times_64 : decode b_M_times 64 = .ok (.goto (-34), 3) := by decide +kernel
theorem d_M_times_67 : decode b_M_times 67 = .ok (.iinc 3 1, 3) := by decide +kernel
theorem d_M_times_70 : decode b_M_times 70 = .ok (.goto (-53), 3) := by decide +kernel
theorem d_M_times_73 : decode b_M_times 73 = .ok (.aload_n 0, 1) := by decide +kernel
theorem d_M_times_74 : decode b_M_times 74 = .ok (.invokevirtual 91, 3) := by decide +kernel
theorem d_M_times_77 : decode b_M_times 77 = .ok (.ireturn, 1) := by decide +kernel
theorem d_M_over_0 : decode b_M_over 0 = .ok (.aload_n 0, 1) := by decide +kernel
theorem d_M_over_1 : decode b_M_over 1 = .ok (.iload_n 1, 1) := by decide +kernel
theorem d_M_over_2 : decode b_M_over 2 = .ok (.iload_n 2, 1) := by decide +kernel
theorem d_M_over_3 : decode b_M_over 3 = .ok (.invokevirtual 97, 3) := by decide +kernel
theorem d_M_over_6 : decode b_M_over 6 = .ok (.ifCond .ne 5, 3) := by decide +kernel
theorem d_M_over_9 : decode b_M_over 9 = .ok (.iconst 0, 1) := by decide +kernel
theorem d_M_over_10 : decode b_M_over 10 = .ok (.ireturn, 1) := by decide +kernel
theorem d_M_over_11 : decode b_M_over 11 = .ok (.aload_n 0, 1) := by decide +kernel
theorem d_M_over_12 : decode b_M_over 12 = .ok (.getfield 7, 3) := by decide +kernel
theorem d_M_over_15 : decode b_M_over 15 = .ok (.iload_n 2, 1) := by decide +kernel
theorem d_M_over_16 : decode b_M_over 16 = .ok (.iaload, 1) := by decide +kernel
theorem d_M_over_17 : decode b_M_over 17 = .ok (.iconst 1, 1) := by decide +kernel
theorem d_M_over_18 : decode b_M_over 18 = .ok (.if_icmp .eq 5, 3) := by decide +kernel
theorem d_M_over_21 : decode b_M_over 21 = .ok (.iconst (-1), 1) := by decide +kernel
theorem d_M_over_22 : decode b_M_over 22 = .ok (.ireturn, 1) := by decide +kernel
theorem d_M_over_23 : decode b_M_over 23 = .ok (.aload_n 0, 1) := by decide +kernel
theorem d_M_over_24 : decode b_M_over 24 = .ok (.invokevirtual 85, 3) := by decide +kernel
theorem d_M_over_27 : decode b_M_over 27 = .ok (.iconst 0, 1) := by decide +kernel
theorem d_M_over_28 : decode b_M_over 28 = .ok (.istore_n 3, 1) := by decide +kernel
theorem d_M_over_29 : decode b_M_over 29 = .ok (.iload_n 3, 1) := by decide +kernel
theorem d_M_over_30 : decode b_M_over 30 = .ok (.aload_n 0, 1) := by decide +kernel
theorem d_M_over_31 : decode b_M_over 31 = .ok (.getfield 7, 3) := by decide +kernel
theorem d_M_over_34 : decode b_M_over 34 = .ok (.iload_n 1, 1) := by decide +kernel
theorem d_M_over_35 : decode b_M_over 35 = .ok (.iaload, 1) := by decide +kernel
theorem d_M_over_36 : decode b_M_over 36 = .ok (.if_icmp .ge 104, 3) := by decide +kernel
theorem d_M_over_39 : decode b_M_over 39 = .ok (.aload_n 0, 1) := by decide +kernel
theorem d_M_over_40 : decode b_M_over 40 = .ok (.getfield 45, 3) := by decide +kernel
theorem d_M_over_43 : decode b_M_over 43 = .ok (.ifCond .ne 97, 3) := by decide +kernel
theorem d_M_over_46 : decode b_M_over 46 = .ok (.aload_n 0, 1) := by decide +kernel
theorem d_M_over_47 : decode b_M_over 47 = .ok (.iload_n 1, 1) := by decide +kernel
theorem d_M_over_48 : decode b_M_over 48 = .ok (.iload_n 3, 1) := by decide +kernel
theorem d_M_over_49 : decode b_M_over 49 = .ok (.invokevirtual 101, 3) := by decide +kernel
theorem d_M_over_52 : decode b_M_over 52 = .ok (.iconst 0, 1) := by decide +kernel
theorem d_M_over_53 : decode b_M_over 53 = .ok (.istore 4, 2) := by decide +kernel
theorem d_M_over_55 : decode b_M_over 55 = .ok (.iload 4, 2) := by decide +kernel
theorem d_M_over_57 : decode b_M_over 57 = .ok (.iconst 5, 1) := by decide +kernel
theorem d_M_over_58 : decode b_M_over 58 = .ok (.if_icmp .ge 27, 3) := by decide +kernel
theorem d_M_over_61 : decode b_M_over 61 = .ok (.aload_n 0, 1) := by decide +kernel
theorem d_M_over_62 : decode b_M_over 62 = .ok (.getfield 19, 3) := by decide +kernel
theorem d_M_over_65 : decode b_M_over 65 = .ok (.iload 4, 2) := by decide +kernel
theorem d_M_over_67 : decode b_M_over 67 = .ok (.dup2, 1) := by decide +kernel
theorem d_M_over_68 : decode b_M_over 68 = .ok (.iaload, 1) := by decide +kernel
theorem d_M_over_69 : decode b_M_over 69 = .ok (.aload_n 0, 1) := by decide +kernel
theorem d_M_over_70 : decode b_M_over 70 = .ok (.iload_n 2, 1) := by decide +kernel
theorem d_M_over_71 : decode b_M_over 71 = .ok (.iconst 0, 1) := by decide +kernel
theorem d_M_over_72 : decode b_M_over 72 = .ok (.iload 4, 2) := by decide +kernel
theorem d_M_over_74 : decode b_M_over 74 = .ok (.invokevirtual 74, 3) := by decide +kernel
theorem d_M_over_77 : decode b_M_over 77 = .ok (.isub, 1) := by decide +kernel
theorem d_M_over_78 : decode b_M_over 78 = .ok (.iastore, 1) := by decide +kernel
theorem d_M_over_79 : decode b_M_over 79 = .ok (.iinc 4 1, 3) := by decide +kernel
theorem d_M_over_82 : decode b_M_over 82 = .ok (.goto (-27), 3) := by decide +kernel
theorem d_M_over_85 : decode b_M_over 85 = .ok (.aload_n 0, 1) := by decide +kernel
theorem d_M_over_86 : decode b_M_over 86 = .ok (.iload_n 2, 1) := by decide +kernel
theorem d_M_over_87 : decode b_M_over 87 = .ok (.iconst 0, 1) := by decide +kernel
theorem d_M_over_88 : decode b_M_over 88 = .ok (.iconst 5, 1) := by decide +kernel
theorem d_M_over_89 : decode b_M_over 89 = .ok (.invokevirtual 74, 3) := by decide +kernel
theorem d_M_over_92 : decode b_M_over 92 = .ok (.i2l, 1) := by decide +kernel
theorem d_M_over_93 : decode b_M_over 93 = .ok (.lstore 4, 2) := by decide +kernel
theorem d_M_over_95 : decode b_M_over 95 = .ok (.aload_n 0, 1) := by decide +kernel
theorem d_M_over_96 : decode b_M_over 96 = .ok (.iload_n 2, 1) := by decide +kernel
theorem d_M_over_97 : decode b_M_over 97 = .ok (.iconst 0, 1) := by decide +kernel
theorem d_M_over_98 : decode b_M_over 98 = .ok (.bipush 6, 2) := by decide +kernel
theorem d_M_over_100 : decode b_M_over 100 = .ok (.invokevirtual 74, 3) := by decide +kernel
theorem d_M_over_103 : decode b_M_over 103 = .ok (.i2l, 1) := by decide +kernel
theorem d_M_over_104 : decode b_M_over 104 = .ok (.lstore 6, 2) := by decide +kernel
theorem d_M_over_106 : decode b_M_over 106 = .ok (.aload_n 0, 1) := by decide +kernel
theorem d_M_over_107 : decode b_M_over 107 = .ok (.lload 4, 2) := by decide +kernel
theorem d_M_over_109 : decode b_M_over 109 = .ok (.lconst 0, 1) := by decide +kernel
theorem d_M_over_110 : decode b_M_over 110 = .ok (.lcmp, 1) := by decide +kernel
theorem d_M_over_111 : decode b_M_over 111 = .ok (.ifCond .ge 9, 3) := by decide +kernel
theorem d_M_over_114 : decode b_M_over 114 = .ok (.lload 6, 2) := by decide +kernel
theorem d_M_over_116 : decode b_M_over 116 = .ok (.lneg, 1) := by decide +kernel
theorem d_M_over_117 : decode b_M_over 117 = .ok (.goto 5, 3) := by decide +kernel
theorem d_M_over_120 : decode b_M_over 120 = .ok (.lload 6, 2) := by decide +kernel
theorem d_M_over_122 : decode b_M_over 122 = .ok (.lload 4, 2) := by decide +kernel
theorem d_M_over_124 : decode b_M_over 124 = .ok (.invokestatic 29, 3) := by decide +kernel
theorem d_M_over_127 : decode b_M_over 127 = .ok (.invokevirtual 105, 3) := by decide +kernel
theorem d_M_over_130 : decode b_M_over 130 = .ok (.aload_n 0, 1) := by decide +kernel
theorem d_M_over_131 : decode b_M_over 131 = .ok (.invokevirtual 88, 3) := by decide +kernel
theorem d_M_over_134 : decode b_M_over 134 = .ok (.iinc 3 1, 3) := by decide +kernel
theorem d_M_over_137 : decode b_M_over 137 = .ok (.goto (-108), 3) := by decide +kernel
theorem d_M_over_140 : decode b_M_over 140 = .ok (.aload_n 0, 1) := by decide +kernel
theorem d_M_over_141 : decode b_M_over 141 = .ok (.invokevirtual 91, 3) := by decide +kernel
theorem d_M_over_144 : decode b_M_over 144 = .ok (.ireturn, 1) := by decide +kernel
theorem d_M_derive_0 : decode b_M_derive 0 = .ok (.aload_n 0, 1) := by decide +kernel
theorem d_M_derive_1 : decode b_M_derive 1 = .ok (.iload_n 1, 1) := by decide +kernel
theorem d_M_derive_2 : decode b_M_derive 2 = .ok (.iload_n 1, 1) := by decide +kernel
theorem d_M_derive_3 : decode b_M_derive 3 = .ok (.invokevirtual 97, 3) := by decide +kernel
theorem d_M_derive_6 : decode b_M_derive 6 = .ok (.ifCond .ne 5, 3) := by decide +kernel
theorem d_M_derive_9 : decode b_M_derive 9 = .ok (.iconst 0, 1) := by decide +kernel
theorem d_M_derive_10 : decode b_M_derive 10 = .ok (.ireturn, 1) := by decide +kernel
theorem d_M_derive_11 : decode b_M_derive 11 = .ok (.aload_n 0, 1) := by decide +kernel
theorem d_M_derive_12 : decode b_M_derive 12 = .ok (.invokevirtual 85, 3) := by decide +kernel
theorem d_M_derive_15 : decode b_M_derive 15 = .ok (.iconst 0, 1) := by decide +kernel
theorem d_M_derive_16 : decode b_M_derive 16 = .ok (.istore_n 2, 1) := by decide +kernel
theorem d_M_derive_17 : decode b_M_derive 17 = .ok (.iload_n 2, 1) := by decide +kernel
theorem d_M_derive_18 : decode b_M_derive 18 = .ok (.aload_n 0, 1) := by decide +kernel
theorem d_M_derive_19 : decode b_M_derive 19 = .ok (.getfield 7, 3) := by decide +kernel
theorem d_M_derive_22 : decode b_M_derive 22 = .ok (.iload_n 1, 1) := by decide +kernel
theorem d_M_derive_23 : decode b_M_derive 23 = .ok (.iaload, 1) := by decide +kernel
theorem d_M_derive_24 : decode b_M_derive 24 = .ok (.if_icmp .ge 150, 3) := by decide +kernel
theorem d_M_derive_27 : decode b_M_derive 27 = .ok (.iconst 0, 1) := by decide +kernel
theorem d_M_derive_28 : decode b_M_derive 28 = .ok (.istore_n 3, 1) := by decide +kernel
theorem d_M_derive_29 : decode b_M_derive 29 = .ok (.iload_n 3, 1) := by decide +kernel
theorem d_M_derive_30 : decode b_M_derive 30 = .ok (.iconst 5, 1) := by decide +kernel
theorem d_M_derive_31 : decode b_M_derive 31 = .ok (.if_icmp .ge 137, 3) := by decide +kernel
theorem d_M_derive_34 : decode b_M_derive 34 = .ok (.aload_n 0, 1) := by decide +kernel
theorem d_M_derive_35 : decode b_M_derive 35 = .ok (.getfield 45, 3) := by decide +kernel
theorem d_M_derive_38 : decode b_M_derive 38 = .ok (.ifCond .ne 130, 3) := by decide +kernel
theorem d_M_derive_41 : decode b_M_derive 41 = .ok (.iload_n 3, 1) := by decide +kernel
theorem d_M_derive_42 : decode b_M_derive 42 = .ok (.ifCond .ne 18, 3) := by decide +kernel
theorem d_M_derive_45 : decode b_M_derive 45 = .ok (.ldc2_w 112, 3) := by decide +kernel
theorem d_M_derive_48 : decode b_M_derive 48 = .ok (.aload_n 0, 1) := by decide +kernel
theorem d_M_derive_49 : decode b_M_derive 49 = .ok (.iload_n 1, 1) := by decide +kernel
theorem d_M_derive_50 : decode b_M_derive 50 = .ok (.iload_n 2, 1) := by decide +kernel
theorem d_M_derive_51 : decode b_M_derive 51 = .ok (.iconst 0, 1) := by decide +kernel
theorem d_M_derive_52 : decode b_M_derive 52 = .ok (.invokevirtual 74, 3) := by decide +kernel
theorem d_M_derive_55 : decode b_M_derive 55 = .ok (.i2l, 1) := by decide +kernel
theorem d_M_derive_56 : decode b_M_derive 56 = .ok (.lmul, 1) := by decide +kernel
theorem d_M_derive_57 : decode b_M_derive 57 = .ok (.goto 11, 3) := by decide +kernel
theorem d_M_derive_60 : decode b_M_derive 60 = .ok (.aload_n 0, 1) := by decide +kernel
theorem d_M_derive_61 : decode b_M_derive 61 = .ok (.iload_n 1, 1) := by decide +kernel
theorem d_M_derive_62 : decode b_M_derive 62 = .ok (.iload_n 2, 1) := by decide +kernel
theorem d_M_derive_63 : decode b_M_derive 63 = .ok (.iload_n 3, 1) := by decide +kernel
theorem d_M_derive_64 : decode b_M_derive 64 = .ok (.invokevirtual 74, 3) := by decide +kernel
theorem d_M_derive_67 : decode b_M_derive 67 = .ok (.i2l, 1) := by decide +kernel
theorem d_M_derive_68 : decode b_M_derive 68 = .ok (.lstore 4, 2) := by decide +kernel
theorem d_M_derive_70 : decode b_M_derive 70 = .ok (.lload 4, 2) := by decide +kernel
theorem d_M_derive_72 : decode b_M_derive 72 = .ok (.lconst 0, 1) := by decide +kernel
theorem d_M_derive_73 : decode b_M_derive 73 = .ok (.lcmp, 1) := by decide +kernel
theorem d_M_derive_74 : decode b_M_derive 74 = .ok (.ifCond .ne 6, 3) := by decide +kernel
theorem d_M_derive_77 : decode b_M_derive 77 = .ok (.goto 85, 3) := by decide +kernel
theorem d_M_derive_80 : decode b_M_derive 80 = .ok (.aload_n 0, 1) := by decide +kernel
theorem d_M_derive_81 : decode b_M_derive 81 = .ok (.iload_n 1, 1) := by decide +kernel
theorem d_M_derive_82 : decode b_M_derive 82 = .ok (.iload_n 2, 1) := by decide +kernel
theorem d_M_derive_83 : decode b_M_derive 83 = .ok (.invokevirtual 101, 3) := by decide +kernel
theorem d_M_derive_86 : decode b_M_derive 86 = .ok (.aload_n 0, 1) := by decide +kernel
theorem d_M_derive_87 : decode b_M_derive 87 = .ok (.getfield 19, 3) := by decide +kernel
theorem d_M_derive_90 : decode b_M_derive 90 = .ok (.iconst 2, 1) := by decide +kernel
theorem d_M_derive_91 : decode b_M_derive 91 = .ok (.dup2, 1) := by decide +kernel
theorem d_M_derive_92 : decode b_M_derive 92 = .ok (.iaload, 1) := by decide +kernel
theorem d_M_derive_93 : decode b_M_derive 93 = .ok (.iload_n 3, 1) := by decide +kernel
theorem d_M_derive_94 : decode b_M_derive 94 = .ok (.ifCond .ne 7, 3) := by decide +kernel
theorem d_M_derive_97 : decode b_M_derive 97 = .ok (.iconst 1, 1) := by decide +kernel
theorem d_M_derive_98 : decode b_M_derive 98 = .ok (.goto 13, 3) := by decide +kernel
theorem d_M_derive_101 : decode b_M_derive 101 = .ok (.iload_n 3, 1) := by decide +kernel
theorem d_M_derive_102 : decode b_M_derive 102 = .ok (.iconst 1, 1) := by decide +kernel
theorem d_M_derive_103 : decode b_M_derive 103 = .ok (.if_icmp .ne 7, 3) := by decide +kernel
theorem d_M_derive_106 : decode b_M_derive 106 = .ok (.iconst 0, 1) := by decide +kernel
theorem d_M_derive_107 : decode b_M_derive 107 = .ok (.goto 4, 3) := by decide +kernel
theorem d_M_derive_110 : decode b_M_derive 110 = .ok (.iconst (-1), 1) := by decide +kernel
theorem d_M_derive_111 : decode b_M_derive 111 = .ok (.iadd, 1) := by decide +kernel
theorem d_M_derive_112 : decode b_M_derive 112 = .ok (.iastore, 1) := by decide +kernel
theorem d_M_derive_113 : decode b_M_derive 113 = .ok (.aload_n 0, 1) := by decide +kernel
theorem d_M_derive_114 : decode b_M_derive 114 = .ok (.getfield 19, 3) := by decide +kernel
theorem d_M_derive_117 : decode b_M_derive 117 = .ok (.iconst 3, 1) := by decide +kernel
theorem d_M_derive_118 : decode b_M_derive 118 = .ok (.dup2, 1) := by decide +kernel
theorem d_M_derive_119 : decode b_M_derive 119 = .ok (.iaload, 1) := by decide +kernel
theorem d_M_derive_120 : decode b_M_derive 120 = .ok (.iload_n 3, 1) := by decide +kernel
theorem d_M_derive_121 : decode b_M_derive 121 = .ok (.iconst 2, 1) := by decide +kernel
theorem d_M_derive_122 : decode b_M_derive 122 = .ok (.if_icmp .le 7, 3) := by decide +kernel
theorem d_M_derive_125 : decode b_M_derive 125 = .ok (.iconst 1, 1) := by decide +kernel
theorem d_M_derive_126 : decode b_M_derive 126 = .ok (.goto 4, 3) := by decide +kernel
theorem d_M_derive_129 : decode b_M_derive 129 = .ok (.iconst 0, 1) := by decide +kernel
theorem d_M_derive_130 : decode b_M_derive 130 = .ok (.isub, 1) := by decide +kernel
theorem d_M_derive_131 : decode b_M_derive 131 = .ok (.iastore, 1) := by decide +kernel
theorem d_M_derive_132 : decode b_M_derive 132 = .ok (.aload_n 0, 1) := by decide +kernel
theorem d_M_derive_133 : decode b_M_derive 133 = .ok (.getfield 19, 3) := by decide +kernel
theorem d_M_derive_136 : decode b_M_derive 136 = .ok (.iconst 4, 1) := by decide +kernel
theorem d_M_derive_137 : decode b_M_derive 137 = .ok (.dup2, 1) := by decide +kernel
theorem d_M_derive_138 : decode b_M_derive 138 = .ok (.iaload, 1) := by decide +kernel
theorem d_M_derive_139 : decode b_M_derive 139 = .ok (.iload_n 3, 1) := by decide +kernel
theorem d_M_derive_140 : decode b_M_derive 140 = .ok (.iconst 3, 1) := by decide +kernel
theorem d_M_derive_141 : decode b_M_derive 141 = .ok (.if_icmp .le 7, 3) := by decide +kernel
theorem d_M_derive_144 : decode b_M_derive 144 = .ok (.iconst 1, 1) := by decide +kernel
theorem d_M_derive_145 : decode b_M_derive 145 = .ok (.goto 4, 3) := by decide +kernel
theorem d_M_derive_148 : decode b_M_derive 148 = .ok (.iconst 0, 1) := by decide +kernel
theorem d_M_derive_149 : decode b_M_derive 149 = .ok (.isub, 1) := by decide +kernel
theorem d_M_derive_150 : decode b_M_derive 150 = .ok (.iastore, 1) := by decide +kernel
theorem d_M_derive_151 : decode b_M_derive 151 = .ok (.aload_n 0, 1) := by decide +kernel
theorem d_M_derive_152 : decode b_M_derive 152 = .ok (.lload 4, 2) := by decide +kernel
theorem d_M_derive_154 : decode b_M_derive 154 = .ok (.lconst 1, 1) := by decide +kernel
theorem d_M_derive_155 : decode b_M_derive 155 = .ok (.invokevirtual 105, 3) := by decide +kernel
theorem d_M_derive_158 : decode b_M_derive 158 = .ok (.aload_n 0, 1) := by decide +kernel
theorem d_M_derive_159 : decode b_M_derive 159 = .ok (.invokevirtual 88, 3) := by decide +kernel
theorem d_M_derive_162 : decode b_M_derive 162 = .ok (.iinc 3 1, 3) := by decide +kernel
theorem d_M_derive_165 : decode b_M_derive 165 = .ok (.goto (-136), 3) := by decide +kernel
theorem d_M_derive_168 : decode b_M_derive 168 = .ok (.iinc 2 1, 3) := by decide +kernel
theorem d_M_derive_171 : decode b_M_derive 171 = .ok (.goto (-154), 3) := by decide +kernel
theorem d_M_derive_174 : decode b_M_derive 174 = .ok (.aload_n 0, 1) := by decide +kernel
theorem d_M_derive_175 : decode b_M_derive 175 = .ok (.invokevirtual 91, 3) := by decide +kernel
theorem d_M_derive_178 : decode b_M_derive 178 = .ok (.ireturn, 1) := by decide +kernel
theorem d_M_logarithm_0 : decode b_M_logarithm 0 = .ok (.aload_n 0, 1) := by decide +kernel
theorem d_M_logarithm_1 : decode b_M_logarithm 1 = .ok (.iload_n 1, 1) := by decide +kernel
theorem d_M_logarithm_2 : decode b_M_logarithm 2 = .ok (.iload_n 1, 1) := by decide +kernel
theorem d_M_logarithm_3 : decode b_M_logarithm 3 = .ok (.invokevirtual 97, 3) := by decide +kernel
theorem d_M_logarithm_6 : decode b_M_logarithm 6 = .ok (.ifCond .ne 5, 3) := by decide +kernel
theorem d_M_logarithm_9 : decode b_M_logarithm 9 = .ok (.iconst 0, 1) := by decide +kernel
theorem d_M_logarithm_10 : decode b_M_logarithm 10 = .ok (.ireturn, 1) := by decide +kernel
theorem d_M_logarithm_11 : decode b_M_logarithm 11 = .ok (.aload_n 0, 1) := by decide +kernel
theorem d_M_logarithm_12 : decode b_M_logarithm 12 = .ok (.getfield 7, 3) := by decide +kernel
theorem d_M_logarithm_15 : decode b_M_logarithm 15 = .ok (.iload_n 1, 1) := by decide +kernel
theorem d_M_logarithm_16 : decode b_M_logarithm 16 = .ok (.iaload, 1) := by decide +kernel
theorem d_M_logarithm_17 : decode b_M_logarithm 17 = .ok (.iconst 1, 1) := by decide +kernel
theorem d_M_logarithm_18 : decode b_M_logarithm 18 = .ok (.if_icmp .ne 40, 3) := by decide +kernel
theorem d_M_logarithm_21 : decode b_M_logarithm 21 = .ok (.aload_n 0, 1) := by decide +kernel
theorem d_M_logarithm_22 : decode b_M_logarithm 22 = .ok (.iload_n 1, 1) := by decide +kernel
theorem d_M_logarithm_23 : decode b_M_logarithm 23 = .ok (.iconst 0, 1) := by decide +kernel
theorem d_M_logarithm_24 : decode b_M_logarithm 24 = .ok (.iconst 5, 1) := by decide +kernel
theorem d_M_logarithm_25 : decode b_M_logarithm 25 = .ok (.invokevirtual 74, 3) := by decide +kernel
theorem d_M_logarithm_28 : decode b_M_logarithm 28 = .ok (.iconst 1, 1) := by decide +kernel
theorem d_M_logarithm_29 : decode b_M_logarithm 29 = .ok (.if_icmp .ne 29, 3) := by decide +kernel
theorem d_M_logarithm_32 : decode b_M_logarithm 32 = .ok (.aload_n 0, 1) := by decide +kernel
theorem d_M_logarithm_33 : decode b_M_logarithm 33 = .ok (.iload_n 1, 1) := by decide +kernel
theorem d_M_logarithm_34 : decode b_M_logarithm 34 = .ok (.iconst 0, 1) := by decide +kernel
theorem d_M_logarithm_35 : decode b_M_logarithm 35 = .ok (.bipush 6, 2) := by decide +kernel
theorem d_M_logarithm_37 : decode b_M_logarithm 37 = .ok (.invokevirtual 74, 3) := by decide +kernel
theorem d_M_logarithm_40 : decode b_M_logarithm 40 = .ok (.iconst 1, 1) := by decide +kernel
theorem d_M_logarithm_41 : decode b_M_logarithm 41 = .ok (.if_icmp .ne 17, 3) := by decide +kernel
theorem d_M_logarithm_44 : decode b_M_logarithm 44 = .ok (.aload_n 0, 1) := by decide +kernel
theorem d_M_logarithm_45 : decode b_M_logarithm 45 = .ok (.iload_n 1, 1) := by decide +kernel
theorem d_M_logarithm_46 : decode b_M_logarithm 46 = .ok (.iconst 0, 1) := by decide +kernel
theorem d_M_logarithm_47 : decode b_M_logarithm 47 = .ok (.iconst 4, 1) := by decide +kernel
theorem d_M_logarithm_48 : decode b_M_logarithm 48 = .ok (.invokevirtual 74, 3) := by decide +kernel
theorem d_M_logarithm_51 : decode b_M_logarithm 51 = .ok (.ifCond .ne 7, 3) := by decide +kernel
theorem d_M_logarithm_54 : decode b_M_logarithm 54 = .ok (.iconst 1, 1) := by decide +kernel
theorem d_M_logarithm_55 : decode b_M_logarithm 55 = .ok (.goto 4, 3) := by decide +kernel
theorem d_M_logarithm_58 : decode b_M_logarithm 58 = .ok (.iconst 0, 1) := by decide +kernel
theorem d_M_logarithm_59 : decode b_M_logarithm 59 = .ok (.istore_n 2, 1) := by decide +kernel
theorem d_M_logarithm_60 : decode b_M_logarithm 60 = .ok (.iload_n 2, 1) := by decide +kernel
theorem d_M_logarithm_61 : decode b_M_logarithm 61 = .ok (.ifCond .ne 5, 3) := by decide +kernel
theorem d_M_logarithm_64 : decode b_M_logarithm 64 = .ok (.iconst (-1), 1) := by decide +kernel
theorem d_M_logarithm_65 : decode b_M_logarithm 65 = .ok (.ireturn, 1) := by decide +kernel
theorem d_M_logarithm_66 : decode b_M_logarithm 66 = .ok (.aload_n 0, 1) := by decide +kernel
theorem d_M_logarithm_67 : decode b_M_logarithm 67 = .ok (.invokevirtual 85, 3) := by decide +kernel
theorem d_M_logarithm_70 : decode b_M_logarithm 70 = .ok (.iconst 0, 1) := by decide +kernel
theorem d_M_logarithm_71 : decode b_M_logarithm 71 = .ok (.istore_n 3, 1) := by decide +kernel
theorem d_M_logarithm_72 : decode b_M_logarithm 72 = .ok (.iload_n 3, 1) := by decide +kernel
theorem d_M_logarithm_73 : decode b_M_logarithm 73 = .ok (.iconst 4, 1) := by decide +kernel
theorem d_M_logarithm_74 : decode b_M_logarithm 74 = .ok (.if_icmp .ge 96, 3) := by decide +kernel
theorem d_M_logarithm_77 : decode b_M_logarithm 77 = .ok (.aload_n 0, 1) := by decide +kernel
theorem d_M_logarithm_78 : decode b_M_logarithm 78 = .ok (.iload_n 1, 1) := by decide +kernel
theorem d_M_logarithm_79 : decode b_M_logarithm 79 = .ok (.iconst 0, 1) := by decide +kernel
theorem d_M_logarithm_80 : decode b_M_logarithm 80 = .ok (.iload_n 3, 1) := by decide +kernel
theorem d_M_logarithm_81 : decode b_M_logarithm 81 = .ok (.invokevirtual 74, 3) := by decide +kernel
theorem d_M_logarithm_84 : decode b_M_logarithm 84 = .ok (.ifCond .ne 6, 3) := by decide +kernel
theorem d_M_logarithm_87 : decode b_M_logarithm 87 = .ok (.goto 77, 3) := by decide +kernel
theorem d_M_logarithm_90 : decode b_M_logarithm 90 = .ok (.iconst 0, 1) := by decide +kernel
theorem d_M_logarithm_91 : decode b_M_logarithm 91 = .ok (.istore 4, 2) := by decide +kernel
theorem d_M_logarithm_93 : decode b_M_logarithm 93 = .ok (.iload 4, 2) := by decide +kernel
theorem d_M_logarithm_95 : decode b_M_logarithm 95 = .ok (.iconst 5, 1) := by decide +kernel
theorem d_M_logarithm_96 : decode b_M_logarithm 96 = .ok (.if_icmp .ge 17, 3) := by decide +kernel
theorem d_M_logarithm_99 : decode b_M_logarithm 99 = .ok (.aload_n 0, 1) := by decide +kernel
theorem d_M_logarithm_100 : decode b_M_logarithm 100 = .ok (.getfield 19, 3) := by decide +kernel
theorem d_M_logarithm_103 : decode b_M_logarithm 103 = .ok (.iload 4, 2) := by decide +kernel
theorem d_M_logarithm_105 : decode b_M_logarithm 105 = .ok (.iconst 0, 1) := by decide +kernel
theorem d_M_logarithm_106 : decode b_M_logarithm 106 = .ok (.iastore, 1) := by decide +kernel
theorem d_M_logarithm_107 : decode b_M_logarithm 107 = .ok (.iinc 4 1, 3) := by decide +kernel
theorem d_M_logarithm_110 : decode b_M_logarithm 110 = .ok (.goto (-17), 3) := by decide +kernel
theorem d_M_logarithm_113 : decode b_M_logarithm 113 = .ok (.iload_n 3, 1) := by decide +kernel
theorem d_M_logarithm_114 : decode b_M_logarithm 114 = .ok (.iconst 2, 1) := by decide +kernel
theorem d_M_logarithm_115 : decode b_M_logarithm 115 = .ok (.if_icmp .ge 15, 3) := by decide +kernel
theorem d_M_logarithm_118 : decode b_M_logarithm 118 = .ok (.aload_n 0, 1) := by decide +kernel
theorem d_M_logarithm_119 : decode b_M_logarithm 119 = .ok (.getfield 19, 3) := by decide +kernel
theorem d_M_logarithm_122 : decode b_M_logarithm 122 = .ok (.iconst 2, 1) := by decide +kernel
theorem d_M_logarithm_123 : decode b_M_logarithm 123 = .ok (.iconst 2, 1) := by decide +kernel
theorem d_M_logarithm_124 : decode b_M_logarithm 124 = .ok (.iload_n 3, 1) := by decide +kernel
theorem d_M_logarithm_125 : decode b_M_logarithm 125 = .ok (.isub, 1) := by decide +kernel
theorem d_M_logarithm_126 : decode b_M_logarithm 126 = .ok (.iastore, 1) := by decide +kernel
theorem d_M_logarithm_127 : decode b_M_logarithm 127 = .ok (.goto 12, 3) := by decide +kernel
theorem d_M_logarithm_130 : decode b_M_logarithm 130 = .ok (.aload_n 0, 1) := by decide +kernel
theorem d_M_logarithm_131 : decode b_M_logarithm 131 = .ok (.getfield 19, 3) := by decide +kernel
theorem d_M_logarithm_134 : decode b_M_logarithm 134 = .ok (.iload_n 3, 1) := by decide +kernel
theorem d_M_logarithm_135 : decode b_M_logarithm 135 = .ok (.iconst 1, 1) := by decide +kernel
theorem d_M_logarithm_136 : decode b_M_logarithm 136 = .ok (.iadd, 1) := by decide +kernel
theorem d_M_logarithm_137 : decode b_M_logarithm 137 = .ok (.iconst 1, 1) := by decide +kernel
theorem d_M_logarithm_138 : decode b_M_logarithm 138 = .ok (.iastore, 1) := by decide +kernel
theorem d_M_logarithm_139 : decode b_M_logarithm 139 = .ok (.aload_n 0, 1) := by decide +kernel
theorem d_M_logarithm_140 : decode b_M_logarithm 140 = .ok (.getfield 19, 3) := by decide +kernel
theorem d_M_logarithm_143 : decode b_M_logarithm 143 = .ok (.iconst 5, 1) := by decide +kernel
theorem d_M_logarithm_144 : decode b_M_logarithm 144 = .ok (.aload_n 0, 1) := by decide +kernel
theorem d_M_logarithm_145 : decode b_M_logarithm 145 = .ok (.iload_n 1, 1) := by decide +kernel
theorem d_M_logarithm_146 : decode b_M_logarithm 146 = .ok (.iconst 0, 1) := by decide +kernel
theorem d_M_logarithm_147 : decode b_M_logarithm 147 = .ok (.iload_n 3, 1) := by decide +kernel
theorem d_M_logarithm_148 : decode b_M_logarithm 148 = .ok (.invokevirtual 74, 3) := by decide +kernel
theorem d_M_logarithm_151 : decode b_M_logarithm 151 = .ok (.iastore, 1) := by decide +kernel
theorem d_M_logarithm_152 : decode b_M_logarithm 152 = .ok (.aload_n 0, 1) := by decide +kernel
theorem d_M_logarithm_153 : decode b_M_logarithm 153 = .ok (.getfield 19, 3) := by decide +kernel
theorem d_M_logarithm_156 : decode b_M_logarithm 156 = .ok (.bipush 6, 2) := by decide +kernel
theorem d_M_logarithm_158 : decode b_M_logarithm 158 = .ok (.iconst 1, 1) := by decide +kernel
theorem d_M_logarithm_159 : decode b_M_logarithm 159 = .ok (.iastore, 1) := by decide +kernel
theorem d_M_logarithm_160 : decode b_M_logarithm 160 = .ok (.aload_n 0, 1) := by decide +kernel
theorem d_M_logarithm_161 : decode b_M_logarithm 161 = .ok (.invokevirtual 88, 3) := by decide +kernel
theorem d_M_logarithm_164 : decode b_M_logarithm 164 = .ok (.iinc 3 1, 3) := by decide +kernel
theorem d_M_logarithm_167 : decode b_M_logarithm 167 = .ok (.goto (-95), 3) := by decide +kernel
theorem d_M_logarithm_170 : decode b_M_logarithm 170 = .ok (.aload_n 0, 1) := by decide +kernel
theorem d_M_logarithm_171 : decode b_M_logarithm 171 = .ok (.invokevirtual 91, 3) := by decide +kernel
theorem d_M_logarithm_174 : decode b_M_logarithm 174 = .ok (.ireturn, 1) := by decide +kernel
theorem d_M_exponential_0 : decode b_M_exponential 0 = .ok (.aload_n 0, 1) := by decide +kernel
theorem d_M_exponential_1 : decode b_M_exponential 1 = .ok (.iload_n 1, 1) := by decide +kernel
theorem d_M_exponential_2 : decode b_M_exponential 2 = .ok (.iload_n 1, 1) := by decide +kernel
theorem d_M_exponential_3 : decode b_M_exponential 3 = .ok (.invokevirtual 97, 3) := by decide +kernel
theorem d_M_exponential_6 : decode b_M_exponential 6 = .ok (.ifCond .ne 5, 3) := by decide +kernel
theorem d_M_exponential_9 : decode b_M_exponential 9 = .ok (.iconst 0, 1) := by decide +kernel
theorem d_M_exponential_10 : decode b_M_exponential 10 = .ok (.ireturn, 1) := by decide +kernel
theorem d_M_exponential_11 : decode b_M_exponential 11 = .ok (.iconst 0, 1) := by decide +kernel
theorem d_M_exponential_12 : decode b_M_exponential 12 = .ok (.istore_n 2, 1) := by decide +kernel
theorem d_M_exponential_13 : decode b_M_exponential 13 = .ok (.iload_n 2, 1) := by decide +kernel
theorem d_M_exponential_14 : decode b_M_exponential 14 = .ok (.iconst 5, 1) := by decide +kernel
theorem d_M_exponential_15 : decode b_M_exponential 15 = .ok (.if_icmp .ge 16, 3) := by decide +kernel
theorem d_M_exponential_18 : decode b_M_exponential 18 = .ok (.aload_n 0, 1) := by decide +kernel
theorem d_M_exponential_19 : decode b_M_exponential 19 = .ok (.getfield 22, 3) := by decide +kernel
theorem d_M_exponential_22 : decode b_M_exponential 22 = .ok (.iload_n 2, 1) := by decide +kernel
theorem d_M_exponential_23 : decode b_M_exponential 23 = .ok (.iconst 0, 1) := by decide +kernel
theorem d_M_exponential_24 : decode b_M_exponential 24 = .ok (.iastore, 1) := by decide +kernel
theorem d_M_exponential_25 : decode b_M_exponential 25 = .ok (.iinc 2 1, 3) := by decide +kernel
theorem d_M_exponential_28 : decode b_M_exponential 28 = .ok (.goto (-15), 3) := by decide +kernel
theorem d_M_exponential_31 : decode b_M_exponential 31 = .ok (.iconst 0, 1) := by decide +kernel
theorem d_M_exponential_32 : decode b_M_exponential 32 = .ok (.istore_n 2, 1) := by decide +kernel
theorem d_M_exponential_33 : decode b_M_exponential 33 = .ok (.iload_n 2, 1) := by decide +kernel
theorem d_M_exponential_34 : decode b_M_exponential 34 = .ok (.aload_n 0, 1) := by decide +kernel
theorem d_M_exponential_35 : decode b_M_exponential 35 = .ok (.getfield 7, 3) := by decide +kernel
theorem d_M_exponential_38 : decode b_M_exponential 38 = .ok (.iload_n 1, 1) := by decide +kernel
theorem d_M_exponential_39 : decode b_M_exponential 39 = .ok (.iaload, 1) := by decide +kernel
theorem d_M_exponential_40 : decode b_M_exponential 40 = .ok (.if_icmp .ge 182, 3) := by decide +kernel
theorem d_M_exponential_43 : decode b_M_exponential 43 = .ok (.iconst (-1), 1) := by decide +kernel
theorem d_M_exponential_44 : decode b_M_exponential 44 = .ok (.istore_n 3, 1) := by decide +kernel
theorem d_M_exponential_45 : decode b_M_exponential 45 = .ok (.aload_n 0, 1) := by decide +kernel
theorem d_M_exponential_46 : decode b_M_exponential 46 = .ok (.iload_n 1, 1) := by decide +kernel
theorem d_M_exponential_47 : decode b_M_exponential 47 = .ok (.iload_n 2, 1) := by decide +kernel
theorem d_M_exponential_48 : decode b_M_exponential 48 = .ok (.iconst 0, 1) := by decide +kernel
theorem d_M_exponential_49 : decode b_M_exponential 49 = .ok (.invokevirtual 74, 3) := by decide +kernel
theorem d_M_exponential_52 : decode b_M_exponential 52 = .ok (.ifCond .ne 112, 3) := by decide +kernel
theorem d_M_exponential_55 : decode b_M_exponential 55 = .ok (.aload_n 0, 1) := by decide +kernel
theorem d_M_exponential_56 : decode b_M_exponential 56 = .ok (.iload_n 1, 1) := by decide +kernel
theorem d_M_exponential_57 : decode b_M_exponential 57 = .ok (.iload_n 2, 1) := by decide +kernel
theorem d_M_exponential_58 : decode b_M_exponential 58 = .ok (.iconst 1, 1) := by decide +kernel
theorem d_M_exponential_59 : decode b_M_exponential 59 = .ok (.invokevirtual 74, 3) := by decide +kernel
theorem d_M_exponential_62 : decode b_M_exponential 62 = .ok (.ifCond .ne 102, 3) := by decide +kernel
theorem d_M_exponential_65 : decode b_M_exponential 65 = .ok (.aload_n 0, 1) := by decide +kernel
theorem d_M_exponential_66 : decode b_M_exponential 66 = .ok (.iload_n 1, 1) := by decide +kernel
theorem d_M_exponential_67 : decode b_M_exponential 67 = .ok (.iload_n 2, 1) := by decide +kernel
theorem d_M_exponential_68 : decode b_M_exponential 68 = .ok (.iconst 2, 1) := by decide +kernel
theorem d_M_exponential_69 : decode b_M_exponential 69 = .ok (.invokevirtual 74, 3) := by decide +kernel
theorem d_M_exponential_72 : decode b_M_exponential 72 = .ok (.istore 4, 2) := by decide +kernel
theorem d_M_exponential_74 : decode b_M_exponential 74 = .ok (.aload_n 0, 1) := by decide +kernel
theorem d_M_exponential_75 : decode b_M_exponential 75 = .ok (.iload_n 1, 1) := by decide +kernel
theorem d_M_exponential_76 : decode b_M_exponential 76 = .ok (.iload_n 2, 1) := by decide +kernel
theorem d_M_exponential_77 : decode b_M_exponential 77 = .ok (.iconst 3, 1) := by decide +kernel
theorem d_M_exponential_78 : decode b_M_exponential 78 = .ok (.invokevirtual 74, 3) := by decide +kernel
theorem d_M_exponential_81 : decode b_M_exponential 81 = .ok (.istore 5, 2) := by decide +kernel
theorem d_M_exponential_83 : decode b_M_exponential 83 = .ok (.aload_n 0, 1) := by decide +kernel
theorem d_M_exponential_84 : decode b_M_exponential 84 = .ok (.iload_n 1, 1) := by decide +kernel
theorem d_M_exponential_85 : decode b_M_exponential 85 = .ok (.iload_n 2, 1) := by decide +kernel
theorem d_M_exponential_86 : decode b_M_exponential 86 = .ok (.iconst 4, 1) := by decide +kernel
theorem d_M_exponential_87 : decode b_M_exponential 87 = .ok (.invokevirtual 74, 3) := by decide +kernel
theorem d_M_exponential_90 : decode b_M_exponential 90 = .ok (.istore 6, 2) := by decide +kernel
theorem d_M_exponential_92 : decode b_M_exponential 92 = .ok (.iload 4, 2) := by decide +kernel
theorem d_M_exponential_94 : decode b_M_exponential 94 = .ok (.iconst 2, 1) := by decide +kernel
theorem d_M_exponential_95 : decode b_M_exponential 95 = .ok (.if_icmp .ne 15, 3) := by decide +kernel
theorem d_M_exponential_98 : decode b_M_exponential 98 = .ok (.iload 5, 2) := by decide +kernel
theorem d_M_exponential_100 : decode b_M_exponential 100 = .ok (.ifCond .ne 10, 3) := by decide +kernel
theorem d_M_exponential_103 : decode b_M_exponential 103 = .ok (.iload 6, 2) := by decide +kernel
theorem d_M_exponential_105 : decode b_M_exponential 105 = .ok (.ifCond .ne 5, 3) := by decide +kernel
theorem d_M_exponential_108 : decode b_M_exponential 108 = .ok (.iconst 0, 1) := by decide +kernel
theorem d_M_exponential_109 : decode b_M_exponential 109 = .ok (.istore_n 3, 1) := by decide +kernel
theorem d_M_exponential_110 : decode b_M_exponential 110 = .ok (.iload 4, 2) := by decide +kernel
theorem d_M_exponential_112 : decode b_M_exponential 112 = .ok (.iconst 1, 1) := by decide +kernel
theorem d_M_exponential_113 : decode b_M_exponential 113 = .ok (.if_icmp .ne 15, 3) := by decide +kernel
theorem d_M_exponential_116 : decode b_M_exponential 116 = .ok (.iload 5, 2) := by decide +kernel
theorem d_M_exponential_118 : decode b_M_exponential 118 = .ok (.ifCond .ne 10, 3) := by decide +kernel
theorem d_M_exponential_121 : decode b_M_exponential 121 = .ok (.iload 6, 2) := by decide +kernel
theorem d_M_exponential_123 : decode b_M_exponential 123 = .ok (.ifCond .ne 5, 3) := by decide +kernel
theorem d_M_exponential_126 : decode b_M_exponential 126 = .ok (.iconst 1, 1) := by decide +kernel
theorem d_M_exponential_127 : decode b_M_exponential 127 = .ok (.istore_n 3, 1) := by decide +kernel
theorem d_M_exponential_128 : decode b_M_exponential 128 = .ok (.iload 4, 2) := by decide +kernel
theorem d_M_exponential_130 : decode b_M_exponential 130 = .ok (.ifCond .ne 16, 3) := by decide +kernel
theorem d_M_exponential_133 : decode b_M_exponential 133 = .ok (.iload 5, 2) := by decide +kernel
theorem d_M_exponential_135 : decode b_M_exponential 135 = .ok (.iconst 1, 1) := by decide +kernel
theorem d_M_exponential_136 : decode b_M_exponential 136 = .ok (.if_icmp .ne 10, 3) := by decide +kernel
theorem d_M_exponential_139 : decode b_M_exponential 139 = .ok (.iload 6, 2) := by decide +kernel
theorem d_M_exponential_141 : decode b_M_exponential 141 = .ok (.ifCond .ne 5, 3) := by decide +kernel
theorem d_M_exponential_144 : decode b_M_exponential 144 = .ok (.iconst 2, 1) := by decide +kernel
theorem d_M_exponential_145 : decode b_M_exponential 145 = .ok (.istore_n 3, 1) := by decide +kernel
theorem d_M_exponential_146 : decode b_M_exponential 146 = .ok (.iload 4, 2) := by decide +kernel
theorem d_M_exponential_148 : decode b_M_exponential 148 = .ok (.ifCond .ne 16, 3) := by decide +kernel
theorem d_M_exponential_151 : decode b_M_exponential 151 = .ok (.iload 5, 2) := by decide +kernel
theorem d_M_exponential_153 : decode b_M_exponential 153 = .ok (.ifCond .ne 11, 3) := by decide +kernel
theorem d_M_exponential_156 : decode b_M_exponential 156 = .ok (.iload 6, 2) := by decide +kernel
theorem d_M_exponential_158 : decode b_M_exponential 158 = .ok (.iconst 1, 1) := by decide +kernel
theorem d_M_exponential_159 : decode b_M_exponential 159 = .ok (.if_icmp .ne 5, 3) := by decide +kernel
theorem d_M_exponential_162 : decode b_M_exponential 162 = .ok (.iconst 3, 1) := by decide +kernel
theorem d_M_exponential_163 : decode b_M_exponential 163 = .ok (.istore_n 3, 1) := by decide +kernel
theorem d_M_exponential_164 : decode b_M_exponential 164 = .ok (.iload_n 3, 1) := by decide +kernel
theorem d_M_exponential_165 : decode b_M_exponential 165 = .ok (.iconst (-1), 1) := by decide +kernel
theorem d_M_exponential_166 : decode b_M_exponential 166 = .ok (.if_icmp .eq 35, 3) := by decide +kernel
theorem d_M_exponential_169 : decode b_M_exponential 169 = .ok (.aload_n 0, 1) := by decide +kernel
theorem d_M_exponential_170 : decode b_M_exponential 170 = .ok (.iload_n 1, 1) := by decide +kernel
theorem d_M_exponential_171 : decode b_M_exponential 171 = .ok (.iload_n 2, 1) := by decide +kernel
theorem d_M_exponential_172 : decode b_M_exponential 172 = .ok (.bipush 6, 2) := by decide +kernel
theorem d_M_exponential_174 : decode b_M_exponential 174 = .ok (.invokevirtual 74, 3) := by decide +kernel
theorem d_M_exponential_177 : decode b_M_exponential 177 = .ok (.iconst 1, 1) := by decide +kernel
theorem d_M_exponential_178 : decode b_M_exponential 178 = .ok (.if_icmp .ne 23, 3) := by decide +kernel
theorem d_M_exponential_181 : decode b_M_exponential 181 = .ok (.aload_n 0, 1) := by decide +kernel
theorem d_M_exponential_182 : decode b_M_exponential 182 = .ok (.iload_n 1, 1) := by decide +kernel
theorem d_M_exponential_183 : decode b_M_exponential 183 = .ok (.iload_n 2, 1) := by decide +kernel
theorem d_M_exponential_184 : decode b_M_exponential 184 = .ok (.iconst 5, 1) := by decide +kernel
theorem d_M_exponential_185 : decode b_M_exponential 185 = .ok (.invokevirtual 74, 3) := by decide +kernel
theorem d_M_exponential_188 : decode b_M_exponential 188 = .ok (.i2l, 1) := by decide +kernel
theorem d_M_exponential_189 : decode b_M_exponential 189 = .ok (.ldc2_w 59, 3) := by decide +kernel
theorem d_M_exponential_192 : decode b_M_exponential 192 = .ok (.ldc2_w 61, 3) := by decide +kernel
theorem d_M_exponential_195 : decode b_M_exponential 195 = .ok (.invokestatic 52, 3) := by decide +kernel
theorem d_M_exponential_198 : decode b_M_exponential 198 = .ok (.ifCond .ne 5, 3) := by decide +kernel
theorem d_M_exponential_201 : decode b_M_exponential 201 = .ok (.iconst (-1), 1) := by decide +kernel
theorem d_M_exponential_202 : decode b_M_exponential 202 = .ok (.ireturn, 1) := by decide +kernel
theorem d_M_exponential_203 : decode b_M_exponential 203 = .ok (.aload_n 0, 1) := by decide +kernel
theorem d_M_exponential_204 : decode b_M_exponential 204 = .ok (.getfield 22, 3) := by decide +kernel
theorem d_M_exponential_207 : decode b_M_exponential 207 = .ok (.iload_n 3, 1) := by decide +kernel
theorem d_M_exponential_208 : decode b_M_exponential 208 = .ok (.aload_n 0, 1) := by decide +kernel
theorem d_M_exponential_209 : decode b_M_exponential 209 = .ok (.iload_n 1, 1) := by decide +kernel
theorem d_M_exponential_210 : decode b_M_exponential 210 = .ok (.iload_n 2, 1) := by decide +kernel
theorem d_M_exponential_211 : decode b_M_exponential 211 = .ok (.iconst 5, 1) := by decide +kernel
theorem d_M_exponential_212 : decode b_M_exponential 212 = .ok (.invokevirtual 74, 3) := by decide +kernel
theorem d_M_exponential_215 : decode b_M_exponential 215 = .ok (.iastore, 1) := by decide +kernel
theorem d_M_exponential_216 : decode b_M_exponential 216 = .ok (.iinc 2 1, 3) := by decide +kernel
theorem d_M_exponential_219 : decode b_M_exponential 219 = .ok (.goto (-186), 3) := by decide +kernel
theorem d_M_exponential_222 : decode b_M_exponential 222 = .ok (.aload_n 0, 1) := by decide +kernel
theorem d_M_exponential_223 : decode b_M_exponential 223 = .ok (.invokevirtual 85, 3) := by decide +kernel
theorem d_M_exponential_226 : decode b_M_exponential 226 = .ok (.iconst 0, 1) := by decide +kernel
theorem d_M_exponential_227 : decode b_M_exponential 227 = .ok (.istore_n 2, 1) := by decide +kernel
theorem d_M_exponential_228 : decode b_M_exponential 228 = .ok (.iload_n 2, 1) := by decide +kernel
theorem d_M_exponential_229 : decode b_M_exponential 229 = .ok (.iconst 5, 1) := by decide +kernel
theorem d_M_exponential_230 : decode b_M_exponential 230 = .ok (.if_icmp .ge 21, 3) := by decide +kernel
theorem d_M_exponential_233 : decode b_M_exponential 233 = .ok (.aload_n 0, 1) := by decide +kernel
theorem d_M_exponential_234 : decode b_M_exponential 234 = .ok (.getfield 19, 3) := by decide +kernel
theorem d_M_exponential_237 : decode b_M_exponential 237 = .ok (.iload_n 2, 1) := by decide +kernel
theorem d_M_exponential_238 : decode b_M_exponential 238 = .ok (.aload_n 0, 1) := by decide +kernel
theorem d_M_exponential_239 : decode b_M_exponential 239 = .ok (.getfield 22, 3) := by decide +kernel
theorem d_M_exponential_242 : decode b_M_exponential 242 = .ok (.iload_n 2, 1) := by decide +kernel
theorem d_M_exponential_243 : decode b_M_exponential 243 = .ok (.iaload, 1) := by decide +kernel
theorem d_M_exponential_244 : decode b_M_exponential 244 = .ok (.iastore, 1) := by decide +kernel
theorem d_M_exponential_245 : decode b_M_exponential 245 = .ok (.iinc 2 1, 3) := by decide +kernel
theorem d_M_exponential_248 : decode b_M_exponential 248 = .ok (.goto (-20), 3) := by decide +kernel
theorem d_M_exponential_251 : decode b_M_exponential 251 = .ok (.aload_n 0, 1) := by decide +kernel
theorem d_M_exponential_252 : decode b_M_exponential 252 = .ok (.getfield 19, 3) := by decide +kernel
theorem d_M_exponential_255 : decode b_M_exponential 255 = .ok (.iconst 5, 1) := by decide +kernel
theorem d_M_exponential_256 : decode b_M_exponential 256 = .ok (.iconst 1, 1) := by decide +kernel
theorem d_M_exponential_257 : decode b_M_exponential 257 = .ok (.iastore, 1) := by decide +kernel
theorem d_M_exponential_258 : decode b_M_exponential 258 = .ok (.aload_n 0, 1) := by decide +kernel
theorem d_M_exponential_259 : decode b_M_exponential 259 = .ok (.getfield 19, 3) := by decide +kernel
theorem d_M_exponential_262 : decode b_M_exponential 262 = .ok (.bipush 6, 2) := by decide +kernel
theorem d_M_exponential_264 : decode b_M_exponential 264 = .ok (.iconst 1, 1) := by decide +kernel
theorem d_M_exponential_265 : decode b_M_exponential 265 = .ok (.iastore, 1) := by decide +kernel
theorem d_M_exponential_266 : decode b_M_exponential 266 = .ok (.aload_n 0, 1) := by decide +kernel
theorem d_M_exponential_267 : decode b_M_exponential 267 = .ok (.invokevirtual 88, 3) := by decide +kernel
theorem d_M_exponential_270 : decode b_M_exponential 270 = .ok (.aload_n 0, 1) := by decide +kernel
theorem d_M_exponential_271 : decode b_M_exponential 271 = .ok (.invokevirtual 91, 3) := by decide +kernel
theorem d_M_exponential_274 : decode b_M_exponential 274 = .ok (.ireturn, 1) := by decide +kernel
theorem d_M_terms_0 : decode b_M_terms 0 = .ok (.aload_n 0, 1) := by decide +kernel
theorem d_M_terms_1 : decode b_M_terms 1 = .ok (.aload_n 0, 1) := by decide +kernel
theorem d_M_terms_2 : decode b_M_terms 2 = .ok (.iload_n 1, 1) := by decide +kernel
theorem d_M_terms_3 : decode b_M_terms 3 = .ok (.invokevirtual 81, 3) := by decide +kernel
theorem d_M_terms_6 : decode b_M_terms 6 = .ok (.ifCond .eq 7, 3) := by decide +kernel
theorem d_M_terms_9 : decode b_M_terms 9 = .ok (.iconst 0, 1) := by decide +kernel
theorem d_M_terms_10 : decode b_M_terms 10 = .ok (.goto 4, 3) := by decide +kernel
theorem d_M_terms_13 : decode b_M_terms 13 = .ok (.iconst 1, 1) := by decide +kernel
theorem d_M_terms_14 : decode b_M_terms 14 = .ok (.putfield 25, 3) := by decide +kernel
theorem d_M_terms_17 : decode b_M_terms 17 = .ok (.aload_n 0, 1) := by decide +kernel
theorem d_M_terms_18 : decode b_M_terms 18 = .ok (.getfield 25, 3) := by decide +kernel
theorem d_M_terms_21 : decode b_M_terms 21 = .ok (.ifCond .le 7, 3) := by decide +kernel
theorem d_M_terms_24 : decode b_M_terms 24 = .ok (.iconst 0, 1) := by decide +kernel
theorem d_M_terms_25 : decode b_M_terms 25 = .ok (.goto 9, 3) := by decide +kernel
theorem d_M_terms_28 : decode b_M_terms 28 = .ok (.aload_n 0, 1) := by decide +kernel
theorem d_M_terms_29 : decode b_M_terms 29 = .ok (.getfield 7, 3) := by decide +kernel
theorem d_M_terms_32 : decode b_M_terms 32 = .ok (.iload_n 1, 1) := by decide +kernel
theorem d_M_terms_33 : decode b_M_terms 33 = .ok (.iaload, 1) := by decide +kernel
theorem d_M_terms_34 : decode b_M_terms 34 = .ok (.ireturn, 1) := by decide +kernel
theorem d_M_term_0 : decode b_M_term 0 = .ok (.aload_n 0, 1) := by decide +kernel
theorem d_M_term_1 : decode b_M_term 1 = .ok (.aload_n 0, 1) := by decide +kernel
theorem d_M_term_2 : decode b_M_term 2 = .ok (.iload_n 1, 1) := by decide +kernel
theorem d_M_term_3 : decode b_M_term 3 = .ok (.invokevirtual 81, 3) := by decide +kernel
theorem d_M_term_6 : decode b_M_term 6 = .ok (.ifCond .ne 7, 3) := by decide +kernel
theorem d_M_term_9 : decode b_M_term 9 = .ok (.iconst 1, 1) := by decide +kernel
theorem d_M_term_10 : decode b_M_term 10 = .ok (.goto 38, 3) := by decide +kernel
theorem d_M_term_13 : decode b_M_term 13 = .ok (.iload_n 2, 1) := by decide +kernel
theorem d_M_term_14 : decode b_M_term 14 = .ok (.i2l, 1) := by decide +kernel
theorem d_M_term_15 : decode b_M_term 15 = .ok (.lconst 0, 1) := by decide +kernel
theorem d_M_term_16 : decode b_M_term 16 = .ok (.aload_n 0, 1) := by decide +kernel
theorem d_M_term_17 : decode b_M_term 17 = .ok (.getfield 7, 3) := by decide +kernel
theorem d_M_term_20 : decode b_M_term 20 = .ok (.iload_n 1, 1) := by decide +kernel
theorem d_M_term_21 : decode b_M_term 21 = .ok (.iaload, 1) := by decide +kernel
theorem d_M_term_22 : decode b_M_term 22 = .ok (.iconst 1, 1) := by decide +kernel
theorem d_M_term_23 : decode b_M_term 23 = .ok (.isub, 1) := by decide +kernel
theorem d_M_term_24 : decode b_M_term 24 = .ok (.i2l, 1) := by decide +kernel
theorem d_M_term_25 : decode b_M_term 25 = .ok (.invokestatic 52, 3) := by decide +kernel
theorem d_M_term_28 : decode b_M_term 28 = .ok (.ifCond .eq 15, 3) := by decide +kernel
theorem d_M_term_31 : decode b_M_term 31 = .ok (.iload_n 3, 1) := by decide +kernel
theorem d_M_term_32 : decode b_M_term 32 = .ok (.i2l, 1) := by decide +kernel
theorem d_M_term_33 : decode b_M_term 33 = .ok (.lconst 0, 1) := by decide +kernel
theorem d_M_term_34 : decode b_M_term 34 = .ok (.ldc2_w 114, 3) := by decide +kernel
theorem d_M_term_37 : decode b_M_term 37 = .ok (.invokestatic 52, 3) := by decide +kernel
theorem d_M_term_40 : decode b_M_term 40 = .ok (.ifCond .ne 7, 3) := by decide +kernel
theorem d_M_term_43 : decode b_M_term 43 = .ok (.iconst 2, 1) := by decide +kernel
theorem d_M_term_44 : decode b_M_term 44 = .ok (.goto 4, 3) := by decide +kernel
theorem d_M_term_47 : decode b_M_term 47 = .ok (.iconst 0, 1) := by decide +kernel
theorem d_M_term_48 : decode b_M_term 48 = .ok (.putfield 25, 3) := by decide +kernel
theorem d_M_term_51 : decode b_M_term 51 = .ok (.aload_n 0, 1) := by decide +kernel
theorem d_M_term_52 : decode b_M_term 52 = .ok (.getfield 25, 3) := by decide +kernel
theorem d_M_term_55 : decode b_M_term 55 = .ok (.ifCond .le 7, 3) := by decide +kernel
theorem d_M_term_58 : decode b_M_term 58 = .ok (.iconst 0, 1) := by decide +kernel
theorem d_M_term_59 : decode b_M_term 59 = .ok (.goto 10, 3) := by decide +kernel
theorem d_M_term_62 : decode b_M_term 62 = .ok (.aload_n 0, 1) := by decide +kernel
theorem d_M_term_63 : decode b_M_term 63 = .ok (.iload_n 1, 1) := by decide +kernel
theorem d_M_term_64 : decode b_M_term 64 = .ok (.iload_n 2, 1) := by decide +kernel
theorem d_M_term_65 : decode b_M_term 65 = .ok (.iload_n 3, 1) := by decide +kernel
theorem d_M_term_66 : decode b_M_term 66 = .ok (.invokevirtual 74, 3) := by decide +kernel
theorem d_M_term_69 : decode b_M_term 69 = .ok (.ireturn, 1) := by decide +kernel
theorem d_M_high_0 : decode b_M_high 0 = .ok (.iconst 0, 1) := by decide +kernel
theorem d_M_high_1 : decode b_M_high 1 = .ok (.istore_n 2, 1) := by decide +kernel
theorem d_M_high_2 : decode b_M_high 2 = .ok (.iload_n 2, 1) := by decide +kernel
theorem d_M_high_3 : decode b_M_high 3 = .ok (.iconst 5, 1) := by decide +kernel
theorem d_M_high_4 : decode b_M_high 4 = .ok (.if_icmp .ge 44, 3) := by decide +kernel
theorem d_M_high_7 : decode b_M_high 7 = .ok (.aload_n 0, 1) := by decide +kernel
theorem d_M_high_8 : decode b_M_high 8 = .ok (.getfield 7, 3) := by decide +kernel
theorem d_M_high_11 : decode b_M_high 11 = .ok (.iload_n 1, 1) := by decide +kernel
theorem d_M_high_12 : decode b_M_high 12 = .ok (.iaload, 1) := by decide +kernel
theorem d_M_high_13 : decode b_M_high 13 = .ok (.ifCond .le 35, 3) := by decide +kernel
theorem d_M_high_16 : decode b_M_high 16 = .ok (.aload_n 0, 1) := by decide +kernel
theorem d_M_high_17 : decode b_M_high 17 = .ok (.iload_n 1, 1) := by decide +kernel
theorem d_M_high_18 : decode b_M_high 18 = .ok (.iconst 0, 1) := by decide +kernel
theorem d_M_high_19 : decode b_M_high 19 = .ok (.iload_n 2, 1) := by decide +kernel
theorem d_M_high_20 : decode b_M_high 20 = .ok (.invokevirtual 74, 3) := by decide +kernel
theorem d_M_high_23 : decode b_M_high 23 = .ok (.ifCond .eq 19, 3) := by decide +kernel
theorem d_M_high_26 : decode b_M_high 26 = .ok (.aload_n 0, 1) := by decide +kernel
theorem d_M_high_27 : decode b_M_high 27 = .ok (.iload_n 1, 1) := by decide +kernel
theorem d_M_high_28 : decode b_M_high 28 = .ok (.iconst 0, 1) := by decide +kernel
theorem d_M_high_29 : decode b_M_high 29 = .ok (.iload_n 2, 1) := by decide +kernel
theorem d_M_high_30 : decode b_M_high 30 = .ok (.invokevirtual 74, 3) := by decide +kernel
theorem d_M_high_33 : decode b_M_high 33 = .ok (.ifCond .le 7, 3) := by decide +kernel
theorem d_M_high_36 : decode b_M_high 36 = .ok (.iconst 1, 1) := by decide +kernel
theorem d_M_high_37 : decode b_M_high 37 = .ok (.goto 4, 3) := by decide +kernel
theorem d_M_high_40 : decode b_M_high 40 = .ok (.iconst (-1), 1) := by decide +kernel
theorem d_M_high_41 : decode b_M_high 41 = .ok (.ireturn, 1) := by decide +kernel
theorem d_M_high_42 : decode b_M_high 42 = .ok (.iinc 2 1, 3) := by decide +kernel
theorem d_M_high_45 : decode b_M_high 45 = .ok (.goto (-43), 3) := by decide +kernel
theorem d_M_high_48 : decode b_M_high 48 = .ok (.iconst 0, 1) := by decide +kernel
theorem d_M_high_49 : decode b_M_high 49 = .ok (.ireturn, 1) := by decide +kernel
theorem d_M_signOf_0 : decode b_M_signOf 0 = .ok (.aload_n 0, 1) := by decide +kernel
theorem d_M_signOf_1 : decode b_M_signOf 1 = .ok (.getfield 7, 3) := by decide +kernel
theorem d_M_signOf_4 : decode b_M_signOf 4 = .ok (.iload_n 1, 1) := by decide +kernel
theorem d_M_signOf_5 : decode b_M_signOf 5 = .ok (.iaload, 1) := by decide +kernel
theorem d_M_signOf_6 : decode b_M_signOf 6 = .ok (.ifCond .ne 7, 3) := by decide +kernel
theorem d_M_signOf_9 : decode b_M_signOf 9 = .ok (.iconst 0, 1) := by decide +kernel
theorem d_M_signOf_10 : decode b_M_signOf 10 = .ok (.goto 18, 3) := by decide +kernel
theorem d_M_signOf_13 : decode b_M_signOf 13 = .ok (.aload_n 0, 1) := by decide +kernel
theorem d_M_signOf_14 : decode b_M_signOf 14 = .ok (.iload_n 1, 1) := by decide +kernel
theorem d_M_signOf_15 : decode b_M_signOf 15 = .ok (.iconst 0, 1) := by decide +kernel
theorem d_M_signOf_16 : decode b_M_signOf 16 = .ok (.iconst 5, 1) := by decide +kernel
theorem d_M_signOf_17 : decode b_M_signOf 17 = .ok (.invokevirtual 74, 3) := by decide +kernel
theorem d_M_signOf_20 : decode b_M_signOf 20 = .ok (.ifCond .le 7, 3) := by decide +kernel
theorem d_M_signOf_23 : decode b_M_signOf 23 = .ok (.iconst 1, 1) := by decide +kernel
theorem d_M_signOf_24 : decode b_M_signOf 24 = .ok (.goto 4, 3) := by decide +kernel
theorem d_M_signOf_27 : decode b_M_signOf 27 = .ok (.iconst (-1), 1) := by decide +kernel
theorem d_M_signOf_28 : decode b_M_signOf 28 = .ok (.ireturn, 1) := by decide +kernel
theorem d_M_sign_0 : decode b_M_sign 0 = .ok (.aload_n 0, 1) := by decide +kernel
theorem d_M_sign_1 : decode b_M_sign 1 = .ok (.aload_n 0, 1) := by decide +kernel
theorem d_M_sign_2 : decode b_M_sign 2 = .ok (.iload_n 1, 1) := by decide +kernel
theorem d_M_sign_3 : decode b_M_sign 3 = .ok (.invokevirtual 81, 3) := by decide +kernel
theorem d_M_sign_6 : decode b_M_sign 6 = .ok (.ifCond .eq 7, 3) := by decide +kernel
theorem d_M_sign_9 : decode b_M_sign 9 = .ok (.iconst 0, 1) := by decide +kernel
theorem d_M_sign_10 : decode b_M_sign 10 = .ok (.goto 4, 3) := by decide +kernel
theorem d_M_sign_13 : decode b_M_sign 13 = .ok (.iconst 1, 1) := by decide +kernel
theorem d_M_sign_14 : decode b_M_sign 14 = .ok (.putfield 25, 3) := by decide +kernel
theorem d_M_sign_17 : decode b_M_sign 17 = .ok (.aload_n 0, 1) := by decide +kernel
theorem d_M_sign_18 : decode b_M_sign 18 = .ok (.getfield 25, 3) := by decide +kernel
theorem d_M_sign_21 : decode b_M_sign 21 = .ok (.ifCond .le 7, 3) := by decide +kernel
theorem d_M_sign_24 : decode b_M_sign 24 = .ok (.iconst 0, 1) := by decide +kernel
theorem d_M_sign_25 : decode b_M_sign 25 = .ok (.goto 8, 3) := by decide +kernel
theorem d_M_sign_28 : decode b_M_sign 28 = .ok (.aload_n 0, 1) := by decide +kernel
theorem d_M_sign_29 : decode b_M_sign 29 = .ok (.iload_n 1, 1) := by decide +kernel
theorem d_M_sign_30 : decode b_M_sign 30 = .ok (.invokevirtual 116, 3) := by decide +kernel
theorem d_M_sign_33 : decode b_M_sign 33 = .ok (.ireturn, 1) := by decide +kernel
theorem d_M_limit_0 : decode b_M_limit 0 = .ok (.aload_n 0, 1) := by decide +kernel
theorem d_M_limit_1 : decode b_M_limit 1 = .ok (.aload_n 0, 1) := by decide +kernel
theorem d_M_limit_2 : decode b_M_limit 2 = .ok (.iload_n 1, 1) := by decide +kernel
theorem d_M_limit_3 : decode b_M_limit 3 = .ok (.invokevirtual 81, 3) := by decide +kernel
theorem d_M_limit_6 : decode b_M_limit 6 = .ok (.ifCond .eq 7, 3) := by decide +kernel
theorem d_M_limit_9 : decode b_M_limit 9 = .ok (.iconst 0, 1) := by decide +kernel
theorem d_M_limit_10 : decode b_M_limit 10 = .ok (.goto 4, 3) := by decide +kernel
theorem d_M_limit_13 : decode b_M_limit 13 = .ok (.iconst 1, 1) := by decide +kernel
theorem d_M_limit_14 : decode b_M_limit 14 = .ok (.putfield 25, 3) := by decide +kernel
theorem d_M_limit_17 : decode b_M_limit 17 = .ok (.aload_n 0, 1) := by decide +kernel
theorem d_M_limit_18 : decode b_M_limit 18 = .ok (.getfield 25, 3) := by decide +kernel
theorem d_M_limit_21 : decode b_M_limit 21 = .ok (.ifCond .le 7, 3) := by decide +kernel
theorem d_M_limit_24 : decode b_M_limit 24 = .ok (.iconst 0, 1) := by decide +kernel
theorem d_M_limit_25 : decode b_M_limit 25 = .ok (.goto 20, 3) := by decide +kernel
theorem d_M_limit_28 : decode b_M_limit 28 = .ok (.aload_n 0, 1) := by decide +kernel
theorem d_M_limit_29 : decode b_M_limit 29 = .ok (.iload_n 1, 1) := by decide +kernel
theorem d_M_limit_30 : decode b_M_limit 30 = .ok (.invokevirtual 119, 3) := by decide +kernel
theorem d_M_limit_33 : decode b_M_limit 33 = .ok (.ifCond .le 11, 3) := by decide +kernel
theorem d_M_limit_36 : decode b_M_limit 36 = .ok (.aload_n 0, 1) := by decide +kernel
theorem d_M_limit_37 : decode b_M_limit 37 = .ok (.iload_n 1, 1) := by decide +kernel
theorem d_M_limit_38 : decode b_M_limit 38 = .ok (.invokevirtual 116, 3) := by decide +kernel
theorem d_M_limit_41 : decode b_M_limit 41 = .ok (.goto 4, 3) := by decide +kernel
theorem d_M_limit_44 : decode b_M_limit 44 = .ok (.iconst 0, 1) := by decide +kernel
theorem d_M_limit_45 : decode b_M_limit 45 = .ok (.ireturn, 1) := by decide +kernel
theorem d_M_value_0 : decode b_M_value 0 = .ok (.aload_n 0, 1) := by decide +kernel
theorem d_M_value_1 : decode b_M_value 1 = .ok (.aload_n 0, 1) := by decide +kernel
theorem d_M_value_2 : decode b_M_value 2 = .ok (.iload_n 1, 1) := by decide +kernel
theorem d_M_value_3 : decode b_M_value 3 = .ok (.invokevirtual 81, 3) := by decide +kernel
theorem d_M_value_6 : decode b_M_value 6 = .ok (.ifCond .ne 7, 3) := by decide +kernel
theorem d_M_value_9 : decode b_M_value 9 = .ok (.iconst 1, 1) := by decide +kernel
theorem d_M_value_10 : decode b_M_value 10 = .ok (.goto 30, 3) := by decide +kernel
theorem d_M_value_13 : decode b_M_value 13 = .ok (.aload_n 0, 1) := by decide +kernel
theorem d_M_value_14 : decode b_M_value 14 = .ok (.iload_n 1, 1) := by decide +kernel
theorem d_M_value_15 : decode b_M_value 15 = .ok (.invokevirtual 119, 3) := by decide +kernel
theorem d_M_value_18 : decode b_M_value 18 = .ok (.ifCond .le 7, 3) := by decide +kernel
theorem d_M_value_21 : decode b_M_value 21 = .ok (.iconst 2, 1) := by decide +kernel
theorem d_M_value_22 : decode b_M_value 22 = .ok (.goto 18, 3) := by decide +kernel
theorem d_M_value_25 : decode b_M_value 25 = .ok (.iload_n 2, 1) := by decide +kernel
theorem d_M_value_26 : decode b_M_value 26 = .ok (.i2l, 1) := by decide +kernel
theorem d_M_value_27 : decode b_M_value 27 = .ok (.lconst 0, 1) := by decide +kernel
theorem d_M_value_28 : decode b_M_value 28 = .ok (.lconst 1, 1) := by decide +kernel
theorem d_M_value_29 : decode b_M_value 29 = .ok (.invokestatic 52, 3) := by decide +kernel
theorem d_M_value_32 : decode b_M_value 32 = .ok (.ifCond .ne 7, 3) := by decide +kernel
theorem d_M_value_35 : decode b_M_value 35 = .ok (.iconst 3, 1) := by decide +kernel
theorem d_M_value_36 : decode b_M_value 36 = .ok (.goto 4, 3) := by decide +kernel
theorem d_M_value_39 : decode b_M_value 39 = .ok (.iconst 0, 1) := by decide +kernel
theorem d_M_value_40 : decode b_M_value 40 = .ok (.putfield 25, 3) := by decide +kernel
theorem d_M_value_43 : decode b_M_value 43 = .ok (.aload_n 0, 1) := by decide +kernel
theorem d_M_value_44 : decode b_M_value 44 = .ok (.getfield 25, 3) := by decide +kernel
theorem d_M_value_47 : decode b_M_value 47 = .ok (.ifCond .le 5, 3) := by decide +kernel
theorem d_M_value_50 : decode b_M_value 50 = .ok (.iconst 0, 1) := by decide +kernel
theorem d_M_value_51 : decode b_M_value 51 = .ok (.ireturn, 1) := by decide +kernel
theorem d_M_value_52 : decode b_M_value 52 = .ok (.aload_n 0, 1) := by decide +kernel
theorem d_M_value_53 : decode b_M_value 53 = .ok (.getfield 7, 3) := by decide +kernel
theorem d_M_value_56 : decode b_M_value 56 = .ok (.iload_n 1, 1) := by decide +kernel
theorem d_M_value_57 : decode b_M_value 57 = .ok (.iaload, 1) := by decide +kernel
theorem d_M_value_58 : decode b_M_value 58 = .ok (.ifCond .le 15, 3) := by decide +kernel
theorem d_M_value_61 : decode b_M_value 61 = .ok (.aload_n 0, 1) := by decide +kernel
theorem d_M_value_62 : decode b_M_value 62 = .ok (.iload_n 1, 1) := by decide +kernel
theorem d_M_value_63 : decode b_M_value 63 = .ok (.invokevirtual 119, 3) := by decide +kernel
theorem d_M_value_66 : decode b_M_value 66 = .ok (.ifCond .ne 7, 3) := by decide +kernel
theorem d_M_value_69 : decode b_M_value 69 = .ok (.iconst 1, 1) := by decide +kernel
theorem d_M_value_70 : decode b_M_value 70 = .ok (.goto 4, 3) := by decide +kernel
theorem d_M_value_73 : decode b_M_value 73 = .ok (.iconst 0, 1) := by decide +kernel
theorem d_M_value_74 : decode b_M_value 74 = .ok (.istore_n 3, 1) := by decide +kernel
theorem d_M_value_75 : decode b_M_value 75 = .ok (.iload_n 3, 1) := by decide +kernel
theorem d_M_value_76 : decode b_M_value 76 = .ok (.ifCond .eq 15, 3) := by decide +kernel
theorem d_M_value_79 : decode b_M_value 79 = .ok (.aload_n 0, 1) := by decide +kernel
theorem d_M_value_80 : decode b_M_value 80 = .ok (.iload_n 1, 1) := by decide +kernel
theorem d_M_value_81 : decode b_M_value 81 = .ok (.iconst 0, 1) := by decide +kernel
theorem d_M_value_82 : decode b_M_value 82 = .ok (.iconst 5, 1) := by decide +kernel
theorem d_M_value_83 : decode b_M_value 83 = .ok (.iload_n 2, 1) := by decide +kernel
theorem d_M_value_84 : decode b_M_value 84 = .ok (.iadd, 1) := by decide +kernel
theorem d_M_value_85 : decode b_M_value 85 = .ok (.invokevirtual 74, 3) := by decide +kernel
theorem d_M_value_88 : decode b_M_value 88 = .ok (.goto 4, 3) := by decide +kernel
theorem d_M_value_91 : decode b_M_value 91 = .ok (.iload_n 2, 1) := by decide +kernel
theorem d_M_value_92 : decode b_M_value 92 = .ok (.ireturn, 1) := by decide +kernel
theorem d_M_compared_0 : decode b_M_compared 0 = .ok (.aload_n 0, 1) := by decide +kernel
theorem d_M_compared_1 : decode b_M_compared 1 = .ok (.getfield 7, 3) := by decide +kernel
theorem d_M_compared_4 : decode b_M_compared 4 = .ok (.iload_n 1, 1) := by decide +kernel
theorem d_M_compared_5 : decode b_M_compared 5 = .ok (.iaload, 1) := by decide +kernel
theorem d_M_compared_6 : decode b_M_compared 6 = .ok (.ifCond .eq 12, 3) := by decide +kernel
theorem d_M_compared_9 : decode b_M_compared 9 = .ok (.aload_n 0, 1) := by decide +kernel
theorem d_M_compared_10 : decode b_M_compared 10 = .ok (.getfield 7, 3) := by decide +kernel
theorem d_M_compared_13 : decode b_M_compared 13 = .ok (.iload_n 2, 1) := by decide +kernel
theorem d_M_compared_14 : decode b_M_compared 14 = .ok (.iaload, 1) := by decide +kernel
theorem d_M_compared_15 : decode b_M_compared 15 = .ok (.ifCond .ne 31, 3) := by decide +kernel
theorem d_M_compared_18 : decode b_M_compared 18 = .ok (.aload_n 0, 1) := by decide +kernel
theorem d_M_compared_19 : decode b_M_compared 19 = .ok (.getfield 7, 3) := by decide +kernel
theorem d_M_compared_22 : decode b_M_compared 22 = .ok (.iload_n 1, 1) := by decide +kernel
theorem d_M_compared_23 : decode b_M_compared 23 = .ok (.iaload, 1) := by decide +kernel
theorem d_M_compared_24 : decode b_M_compared 24 = .ok (.ifCond .le 7, 3) := by decide +kernel
theorem d_M_compared_27 : decode b_M_compared 27 = .ok (.iconst 1, 1) := by decide +kernel
theorem d_M_compared_28 : decode b_M_compared 28 = .ok (.goto 17, 3) := by decide +kernel
theorem d_M_compared_31 : decode b_M_compared 31 = .ok (.aload_n 0, 1) := by decide +kernel
theorem d_M_compared_32 : decode b_M_compared 32 = .ok (.getfield 7, 3) := by decide +kernel
theorem d_M_compared_35 : decode b_M_compared 35 = .ok (.iload_n 2, 1) := by decide +kernel
theorem d_M_compared_36 : decode b_M_compared 36 = .ok (.iaload, 1) := by decide +kernel
theorem d_M_compared_37 : decode b_M_compared 37 = .ok (.ifCond .le 7, 3) := by decide +kernel
theorem d_M_compared_40 : decode b_M_compared 40 = .ok (.iconst (-1), 1) := by decide +kernel
theorem d_M_compared_41 : decode b_M_compared 41 = .ok (.goto 4, 3) := by decide +kernel
theorem d_M_compared_44 : decode b_M_compared 44 = .ok (.iconst 0, 1) := by decide +kernel
theorem d_M_compared_45 : decode b_M_compared 45 = .ok (.ireturn, 1) := by decide +kernel
theorem d_M_compared_46 : decode b_M_compared 46 = .ok (.iconst 0, 1) := by decide +kernel
theorem d_M_compared_47 : decode b_M_compared 47 = .ok (.istore_n 3, 1) := by decide +kernel
theorem d_M_compared_48 : decode b_M_compared 48 = .ok (.iload_n 3, 1) := by decide +kernel
theorem d_M_compared_49 : decode b_M_compared 49 = .ok (.iconst 5, 1) := by decide +kernel
theorem d_M_compared_50 : decode b_M_compared 50 = .ok (.if_icmp .ge 49, 3) := by decide +kernel
theorem d_M_compared_53 : decode b_M_compared 53 = .ok (.aload_n 0, 1) := by decide +kernel
theorem d_M_compared_54 : decode b_M_compared 54 = .ok (.iload_n 1, 1) := by decide +kernel
theorem d_M_compared_55 : decode b_M_compared 55 = .ok (.iconst 0, 1) := by decide +kernel
theorem d_M_compared_56 : decode b_M_compared 56 = .ok (.iload_n 3, 1) := by decide +kernel
theorem d_M_compared_57 : decode b_M_compared 57 = .ok (.invokevirtual 74, 3) := by decide +kernel
theorem d_M_compared_60 : decode b_M_compared 60 = .ok (.aload_n 0, 1) := by decide +kernel
theorem d_M_compared_61 : decode b_M_compared 61 = .ok (.iload_n 2, 1) := by decide +kernel
theorem d_M_compared_62 : decode b_M_compared 62 = .ok (.iconst 0, 1) := by decide +kernel
theorem d_M_compared_63 : decode b_M_compared 63 = .ok (.iload_n 3, 1) := by decide +kernel
theorem d_M_compared_64 : decode b_M_compared 64 = .ok (.invokevirtual 74, 3) := by decide +kernel
theorem d_M_compared_67 : decode b_M_compared 67 = .ok (.if_icmp .eq 26, 3) := by decide +kernel
theorem d_M_compared_70 : decode b_M_compared 70 = .ok (.aload_n 0, 1) := by decide +kernel
theorem d_M_compared_71 : decode b_M_compared 71 = .ok (.iload_n 1, 1) := by decide +kernel
theorem d_M_compared_72 : decode b_M_compared 72 = .ok (.iconst 0, 1) := by decide +kernel
theorem d_M_compared_73 : decode b_M_compared 73 = .ok (.iload_n 3, 1) := by decide +kernel
theorem d_M_compared_74 : decode b_M_compared 74 = .ok (.invokevirtual 74, 3) := by decide +kernel
theorem d_M_compared_77 : decode b_M_compared 77 = .ok (.aload_n 0, 1) := by decide +kernel
theorem d_M_compared_78 : decode b_M_compared 78 = .ok (.iload_n 2, 1) := by decide +kernel
theorem d_M_compared_79 : decode b_M_compared 79 = .ok (.iconst 0, 1) := by decide +kernel
theorem d_M_compared_80 : decode b_M_compared 80 = .ok (.iload_n 3, 1) := by decide +kernel
theorem d_M_compared_81 : decode b_M_compared 81 = .ok (.invokevirtual 74, 3) := by decide +kernel
theorem d_M_compared_84 : decode b_M_compared 84 = .ok (.if_icmp .le 7, 3) := by decide +kernel
theorem d_M_compared_87 : decode b_M_compared 87 = .ok (.iconst 1, 1) := by decide +kernel
theorem d_M_compared_88 : decode b_M_compared 88 = .ok (.goto 4, 3) := by decide +kernel
theorem d_M_compared_91 : decode b_M_compared 91 = .ok (.iconst (-1), 1) := by decide +kernel
theorem d_M_compared_92 : decode b_M_compared 92 = .ok (.ireturn, 1) := by decide +kernel
theorem d_M_compared_93 : decode b_M_compared 93 = .ok (.iinc 3 1, 3) := by decide +kernel
theorem d_M_compared_96 : decode b_M_compared 96 = .ok (.goto (-48), 3) := by decide +kernel
theorem d_M_compared_99 : decode b_M_compared 99 = .ok (.iconst 0, 1) := by decide +kernel
theorem d_M_compared_100 : decode b_M_compared 100 = .ok (.ireturn, 1) := by decide +kernel
theorem d_M_compare_0 : decode b_M_compare 0 = .ok (.aload_n 0, 1) := by decide +kernel
theorem d_M_compare_1 : decode b_M_compare 1 = .ok (.aload_n 0, 1) := by decide +kernel
theorem d_M_compare_2 : decode b_M_compare 2 = .ok (.iload_n 1, 1) := by decide +kernel
theorem d_M_compare_3 : decode b_M_compare 3 = .ok (.invokevirtual 81, 3) := by decide +kernel
theorem d_M_compare_6 : decode b_M_compare 6 = .ok (.ifCond .eq 15, 3) := by decide +kernel
theorem d_M_compare_9 : decode b_M_compare 9 = .ok (.aload_n 0, 1) := by decide +kernel
theorem d_M_compare_10 : decode b_M_compare 10 = .ok (.iload_n 2, 1) := by decide +kernel
theorem d_M_compare_11 : decode b_M_compare 11 = .ok (.invokevirtual 81, 3) := by decide +kernel
theorem d_M_compare_14 : decode b_M_compare 14 = .ok (.ifCond .eq 7, 3) := by decide +kernel
theorem d_M_compare_17 : decode b_M_compare 17 = .ok (.iconst 0, 1) := by decide +kernel
theorem d_M_compare_18 : decode b_M_compare 18 = .ok (.goto 4, 3) := by decide +kernel
theorem d_M_compare_21 : decode b_M_compare 21 = .ok (.iconst 1, 1) := by decide +kernel
theorem d_M_compare_22 : decode b_M_compare 22 = .ok (.putfield 25, 3) := by decide +kernel
theorem d_M_compare_25 : decode b_M_compare 25 = .ok (.aload_n 0, 1) := by decide +kernel
theorem d_M_compare_26 : decode b_M_compare 26 = .ok (.getfield 25, 3) := by decide +kernel
theorem d_M_compare_29 : decode b_M_compare 29 = .ok (.ifCond .le 7, 3) := by decide +kernel
theorem d_M_compare_32 : decode b_M_compare 32 = .ok (.iconst 0, 1) := by decide +kernel
theorem d_M_compare_33 : decode b_M_compare 33 = .ok (.goto 9, 3) := by decide +kernel
theorem d_M_compare_36 : decode b_M_compare 36 = .ok (.aload_n 0, 1) := by decide +kernel
theorem d_M_compare_37 : decode b_M_compare 37 = .ok (.iload_n 1, 1) := by decide +kernel
theorem d_M_compare_38 : decode b_M_compare 38 = .ok (.iload_n 2, 1) := by decide +kernel
theorem d_M_compare_39 : decode b_M_compare 39 = .ok (.invokevirtual 122, 3) := by decide +kernel
theorem d_M_compare_42 : decode b_M_compare 42 = .ok (.ireturn, 1) := by decide +kernel
theorem d_M_ratio_0 : decode b_M_ratio 0 = .ok (.aload_n 0, 1) := by decide +kernel
theorem d_M_ratio_1 : decode b_M_ratio 1 = .ok (.iload_n 1, 1) := by decide +kernel
theorem d_M_ratio_2 : decode b_M_ratio 2 = .ok (.invokevirtual 81, 3) := by decide +kernel
theorem d_M_ratio_5 : decode b_M_ratio 5 = .ok (.ifCond .eq 11, 3) := by decide +kernel
theorem d_M_ratio_8 : decode b_M_ratio 8 = .ok (.aload_n 0, 1) := by decide +kernel
theorem d_M_ratio_9 : decode b_M_ratio 9 = .ok (.iload_n 2, 1) := by decide +kernel
theorem d_M_ratio_10 : decode b_M_ratio 10 = .ok (.invokevirtual 81, 3) := by decide +kernel
theorem d_M_ratio_13 : decode b_M_ratio 13 = .ok (.ifCond .ne 10, 3) := by decide +kernel
theorem d_M_ratio_16 : decode b_M_ratio 16 = .ok (.aload_n 0, 1) := by decide +kernel
theorem d_M_ratio_17 : decode b_M_ratio 17 = .ok (.iconst 1, 1) := by decide +kernel
theorem d_M_ratio_18 : decode b_M_ratio 18 = .ok (.invokevirtual 78, 3) := by decide +kernel
theorem d_M_ratio_21 : decode b_M_ratio 21 = .ok (.i2l, 1) := by decide +kernel
theorem d_M_ratio_22 : decode b_M_ratio 22 = .ok (.lreturn, 1) := by decide +kernel
theorem d_M_ratio_23 : decode b_M_ratio 23 = .ok (.aload_n 0, 1) := by decide +kernel
theorem d_M_ratio_24 : decode b_M_ratio 24 = .ok (.getfield 7, 3) := by decide +kernel
theorem d_M_ratio_27 : decode b_M_ratio 27 = .ok (.iload_n 1, 1) := by decide +kernel
theorem d_M_ratio_28 : decode b_M_ratio 28 = .ok (.iaload, 1) := by decide +kernel
theorem d_M_ratio_29 : decode b_M_ratio 29 = .ok (.ifCond .eq 21, 3) := by decide +kernel
theorem d_M_ratio_32 : decode b_M_ratio 32 = .ok (.aload_n 0, 1) := by decide +kernel
theorem d_M_ratio_33 : decode b_M_ratio 33 = .ok (.getfield 7, 3) := by decide +kernel
theorem d_M_ratio_36 : decode b_M_ratio 36 = .ok (.iload_n 2, 1) := by decide +kernel
theorem d_M_ratio_37 : decode b_M_ratio 37 = .ok (.iaload, 1) := by decide +kernel
theorem d_M_ratio_38 : decode b_M_ratio 38 = .ok (.ifCond .eq 12, 3) := by decide +kernel
theorem d_M_ratio_41 : decode b_M_ratio 41 = .ok (.aload_n 0, 1) := by decide +kernel
theorem d_M_ratio_42 : decode b_M_ratio 42 = .ok (.iload_n 1, 1) := by decide +kernel
theorem d_M_ratio_43 : decode b_M_ratio 43 = .ok (.iload_n 2, 1) := by decide +kernel
theorem d_M_ratio_44 : decode b_M_ratio 44 = .ok (.invokevirtual 122, 3) := by decide +kernel
theorem d_M_ratio_47 : decode b_M_ratio 47 = .ok (.ifCond .eq 10, 3) := by decide +kernel
theorem d_M_ratio_50 : decode b_M_ratio 50 = .ok (.aload_n 0, 1) := by decide +kernel
theorem d_M_ratio_51 : decode b_M_ratio 51 = .ok (.iconst 2, 1) := by decide +kernel
theorem d_M_ratio_52 : decode b_M_ratio 52 = .ok (.invokevirtual 78, 3) := by decide +kernel
theorem d_M_ratio_55 : decode b_M_ratio 55 = .ok (.i2l, 1) := by decide +kernel
theorem d_M_ratio_56 : decode b_M_ratio 56 = .ok (.lreturn, 1) := by decide +kernel
theorem d_M_ratio_57 : decode b_M_ratio 57 = .ok (.aload_n 0, 1) := by decide +kernel
theorem d_M_ratio_58 : decode b_M_ratio 58 = .ok (.iload_n 3, 1) := by decide +kernel
theorem d_M_ratio_59 : decode b_M_ratio 59 = .ok (.i2l, 1) := by decide +kernel
theorem d_M_ratio_60 : decode b_M_ratio 60 = .ok (.lconst 0, 1) := by decide +kernel
theorem d_M_ratio_61 : decode b_M_ratio 61 = .ok (.lconst 1, 1) := by decide +kernel
theorem d_M_ratio_62 : decode b_M_ratio 62 = .ok (.invokestatic 52, 3) := by decide +kernel
theorem d_M_ratio_65 : decode b_M_ratio 65 = .ok (.ifCond .eq 7, 3) := by decide +kernel
theorem d_M_ratio_68 : decode b_M_ratio 68 = .ok (.iconst 0, 1) := by decide +kernel
theorem d_M_ratio_69 : decode b_M_ratio 69 = .ok (.goto 4, 3) := by decide +kernel
theorem d_M_ratio_72 : decode b_M_ratio 72 = .ok (.iconst 3, 1) := by decide +kernel
theorem d_M_ratio_73 : decode b_M_ratio 73 = .ok (.putfield 25, 3) := by decide +kernel
theorem d_M_ratio_76 : decode b_M_ratio 76 = .ok (.aload_n 0, 1) := by decide +kernel
theorem d_M_ratio_77 : decode b_M_ratio 77 = .ok (.getfield 25, 3) := by decide +kernel
theorem d_M_ratio_80 : decode b_M_ratio 80 = .ok (.ifCond .le 5, 3) := by decide +kernel
theorem d_M_ratio_83 : decode b_M_ratio 83 = .ok (.lconst 0, 1) := by decide +kernel
theorem d_M_ratio_84 : decode b_M_ratio 84 = .ok (.lreturn, 1) := by decide +kernel
theorem d_M_ratio_85 : decode b_M_ratio 85 = .ok (.aload_n 0, 1) := by decide +kernel
theorem d_M_ratio_86 : decode b_M_ratio 86 = .ok (.aload_n 0, 1) := by decide +kernel
theorem d_M_ratio_87 : decode b_M_ratio 87 = .ok (.iload_n 1, 1) := by decide +kernel
theorem d_M_ratio_88 : decode b_M_ratio 88 = .ok (.iconst 0, 1) := by decide +kernel
theorem d_M_ratio_89 : decode b_M_ratio 89 = .ok (.iconst 5, 1) := by decide +kernel
theorem d_M_ratio_90 : decode b_M_ratio 90 = .ok (.invokevirtual 74, 3) := by decide +kernel
theorem d_M_ratio_93 : decode b_M_ratio 93 = .ok (.i2l, 1) := by decide +kernel
theorem d_M_ratio_94 : decode b_M_ratio 94 = .ok (.aload_n 0, 1) := by decide +kernel
theorem d_M_ratio_95 : decode b_M_ratio 95 = .ok (.iload_n 2, 1) := by decide +kernel
theorem d_M_ratio_96 : decode b_M_ratio 96 = .ok (.iconst 0, 1) := by decide +kernel
theorem d_M_ratio_97 : decode b_M_ratio 97 = .ok (.bipush 6, 2) := by decide +kernel
theorem d_M_ratio_99 : decode b_M_ratio 99 = .ok (.invokevirtual 74, 3) := by decide +kernel
theorem d_M_ratio_102 : decode b_M_ratio 102 = .ok (.i2l, 1) := by decide +kernel
theorem d_M_ratio_103 : decode b_M_ratio 103 = .ok (.lmul, 1) := by decide +kernel
theorem d_M_ratio_104 : decode b_M_ratio 104 = .ok (.aload_n 0, 1) := by decide +kernel
theorem d_M_ratio_105 : decode b_M_ratio 105 = .ok (.iload_n 1, 1) := by decide +kernel
theorem d_M_ratio_106 : decode b_M_ratio 106 = .ok (.iconst 0, 1) := by decide +kernel
theorem d_M_ratio_107 : decode b_M_ratio 107 = .ok (.bipush 6, 2) := by decide +kernel
theorem d_M_ratio_109 : decode b_M_ratio 109 = .ok (.invokevirtual 74, 3) := by decide +kernel
theorem d_M_ratio_112 : decode b_M_ratio 112 = .ok (.i2l, 1) := by decide +kernel
theorem d_M_ratio_113 : decode b_M_ratio 113 = .ok (.aload_n 0, 1) := by decide +kernel
theorem d_M_ratio_114 : decode b_M_ratio 114 = .ok (.iload_n 2, 1) := by decide +kernel
theorem d_M_ratio_115 : decode b_M_ratio 115 = .ok (.iconst 0, 1) := by decide +kernel
theorem d_M_ratio_116 : decode b_M_ratio 116 = .ok (.iconst 5, 1) := by decide +kernel
theorem d_M_ratio_117 : decode b_M_ratio 117 = .ok (.invokevirtual 74, 3) := by decide +kernel
theorem d_M_ratio_120 : decode b_M_ratio 120 = .ok (.i2l, 1) := by decide +kernel
theorem d_M_ratio_121 : decode b_M_ratio 121 = .ok (.lmul, 1) := by decide +kernel
theorem d_M_ratio_122 : decode b_M_ratio 122 = .ok (.invokevirtual 67, 3) := by decide +kernel
theorem d_M_ratio_125 : decode b_M_ratio 125 = .ok (.iload_n 3, 1) := by decide +kernel
theorem d_M_ratio_126 : decode b_M_ratio 126 = .ok (.ifCond .ne 10, 3) := by decide +kernel
theorem d_M_ratio_129 : decode b_M_ratio 129 = .ok (.aload_n 0, 1) := by decide +kernel
theorem d_M_ratio_130 : decode b_M_ratio 130 = .ok (.getfield 36, 3) := by decide +kernel
theorem d_M_ratio_133 : decode b_M_ratio 133 = .ok (.goto 7, 3) := by decide +kernel
theorem d_M_ratio_136 : decode b_M_ratio 136 = .ok (.aload_n 0, 1) := by decide +kernel
theorem d_M_ratio_137 : decode b_M_ratio 137 = .ok (.getfield 40, 3) := by decide +kernel
theorem d_M_ratio_140 : decode b_M_ratio 140 = .ok (.lreturn, 1) := by decide +kernel
theorem d_M_same_0 : decode b_M_same 0 = .ok (.aload_n 0, 1) := by decide +kernel
theorem d_M_same_1 : decode b_M_same 1 = .ok (.aload_n 0, 1) := by decide +kernel
theorem d_M_same_2 : decode b_M_same 2 = .ok (.iload_n 1, 1) := by decide +kernel
theorem d_M_same_3 : decode b_M_same 3 = .ok (.invokevirtual 81, 3) := by decide +kernel
theorem d_M_same_6 : decode b_M_same 6 = .ok (.ifCond .eq 15, 3) := by decide +kernel
theorem d_M_same_9 : decode b_M_same 9 = .ok (.aload_n 0, 1) := by decide +kernel
theorem d_M_same_10 : decode b_M_same 10 = .ok (.iload_n 2, 1) := by decide +kernel
theorem d_M_same_11 : decode b_M_same 11 = .ok (.invokevirtual 81, 3) := by decide +kernel
theorem d_M_same_14 : decode b_M_same 14 = .ok (.ifCond .eq 7, 3) := by decide +kernel
theorem d_M_same_17 : decode b_M_same 17 = .ok (.iconst 0, 1) := by decide +kernel
theorem d_M_same_18 : decode b_M_same 18 = .ok (.goto 4, 3) := by decide +kernel
theorem d_M_same_21 : decode b_M_same 21 = .ok (.iconst 1, 1) := by decide +kernel
theorem d_M_same_22 : decode b_M_same 22 = .ok (.putfield 25, 3) := by decide +kernel
theorem d_M_same_25 : decode b_M_same 25 = .ok (.aload_n 0, 1) := by decide +kernel
theorem d_M_same_26 : decode b_M_same 26 = .ok (.getfield 25, 3) := by decide +kernel
theorem d_M_same_29 : decode b_M_same 29 = .ok (.ifCond .gt 18, 3) := by decide +kernel
theorem d_M_same_32 : decode b_M_same 32 = .ok (.aload_n 0, 1) := by decide +kernel
theorem d_M_same_33 : decode b_M_same 33 = .ok (.getfield 7, 3) := by decide +kernel
theorem d_M_same_36 : decode b_M_same 36 = .ok (.iload_n 1, 1) := by decide +kernel
theorem d_M_same_37 : decode b_M_same 37 = .ok (.iaload, 1) := by decide +kernel
theorem d_M_same_38 : decode b_M_same 38 = .ok (.aload_n 0, 1) := by decide +kernel
theorem d_M_same_39 : decode b_M_same 39 = .ok (.getfield 7, 3) := by decide +kernel
theorem d_M_same_42 : decode b_M_same 42 = .ok (.iload_n 2, 1) := by decide +kernel
theorem d_M_same_43 : decode b_M_same 43 = .ok (.iaload, 1) := by decide +kernel
theorem d_M_same_44 : decode b_M_same 44 = .ok (.if_icmp .eq 5, 3) := by decide +kernel
theorem d_M_same_47 : decode b_M_same 47 = .ok (.iconst 0, 1) := by decide +kernel
theorem d_M_same_48 : decode b_M_same 48 = .ok (.ireturn, 1) := by decide +kernel
theorem d_M_same_49 : decode b_M_same 49 = .ok (.iconst 0, 1) := by decide +kernel
theorem d_M_same_50 : decode b_M_same 50 = .ok (.istore_n 3, 1) := by decide +kernel
theorem d_M_same_51 : decode b_M_same 51 = .ok (.iload_n 3, 1) := by decide +kernel
theorem d_M_same_52 : decode b_M_same 52 = .ok (.bipush 7, 2) := by decide +kernel
theorem d_M_same_54 : decode b_M_same 54 = .ok (.aload_n 0, 1) := by decide +kernel
theorem d_M_same_55 : decode b_M_same 55 = .ok (.getfield 7, 3) := by decide +kernel
theorem d_M_same_58 : decode b_M_same 58 = .ok (.iload_n 1, 1) := by decide +kernel
theorem d_M_same_59 : decode b_M_same 59 = .ok (.iaload, 1) := by decide +kernel
theorem d_M_same_60 : decode b_M_same 60 = .ok (.imul, 1) := by decide +kernel
theorem d_M_same_61 : decode b_M_same 61 = .ok (.if_icmp .ge 36, 3) := by decide +kernel
theorem d_M_same_64 : decode b_M_same 64 = .ok (.aload_n 0, 1) := by decide +kernel
theorem d_M_same_65 : decode b_M_same 65 = .ok (.getfield 13, 3) := by decide +kernel
theorem d_M_same_68 : decode b_M_same 68 = .ok (.bipush 70, 2) := by decide +kernel
theorem d_M_same_70 : decode b_M_same 70 = .ok (.iload_n 1, 1) := by decide +kernel
theorem d_M_same_71 : decode b_M_same 71 = .ok (.imul, 1) := by decide +kernel
theorem d_M_same_72 : decode b_M_same 72 = .ok (.iload_n 3, 1) := by decide +kernel
theorem d_M_same_73 : decode b_M_same 73 = .ok (.iadd, 1) := by decide +kernel
theorem d_M_same_74 : decode b_M_same 74 = .ok (.iaload, 1) := by decide +kernel
theorem d_M_same_75 : decode b_M_same 75 = .ok (.aload_n 0, 1) := by decide +kernel
theorem d_M_same_76 : decode b_M_same 76 = .ok (.getfield 13, 3) := by decide +kernel
theorem d_M_same_79 : decode b_M_same 79 = .ok (.bipush 70, 2) := by decide +kernel
theorem d_M_same_81 : decode b_M_same 81 = .ok (.iload_n 2, 1) := by decide +kernel
theorem d_M_same_82 : decode b_M_same 82 = .ok (.imul, 1) := by decide +kernel
theorem d_M_same_83 : decode b_M_same 83 = .ok (.iload_n 3, 1) := by decide +kernel
theorem d_M_same_84 : decode b_M_same 84 = .ok (.iadd, 1) := by decide +kernel
theorem d_M_same_85 : decode b_M_same 85 = .ok (.iaload, 1) := by decide +kernel
theorem d_M_same_86 : decode b_M_same 86 = .ok (.if_icmp .eq 5, 3) := by decide +kernel
theorem d_M_same_89 : decode b_M_same 89 = .ok (.iconst 0, 1) := by decide +kernel
theorem d_M_same_90 : decode b_M_same 90 = .ok (.ireturn, 1) := by decide +kernel
theorem d_M_same_91 : decode b_M_same 91 = .ok (.iinc 3 1, 3) := by decide +kernel
theorem d_M_same_94 : decode b_M_same 94 = .ok (.goto (-43), 3) := by decide +kernel
theorem d_M_same_97 : decode b_M_same 97 = .ok (.iconst 1, 1) := by decide +kernel
theorem d_M_same_98 : decode b_M_same 98 = .ok (.ireturn, 1) := by decide +kernel
theorem d_M_fastest_0 : decode b_M_fastest 0 = .ok (.aload_n 0, 1) := by decide +kernel
theorem d_M_fastest_1 : decode b_M_fastest 1 = .ok (.iconst 0, 1) := by decide +kernel
theorem d_M_fastest_2 : decode b_M_fastest 2 = .ok (.putfield 25, 3) := by decide +kernel
theorem d_M_fastest_5 : decode b_M_fastest 5 = .ok (.iconst 0, 1) := by decide +kernel
theorem d_M_fastest_6 : decode b_M_fastest 6 = .ok (.istore_n 2, 1) := by decide +kernel
theorem d_M_fastest_7 : decode b_M_fastest 7 = .ok (.iload_n 2, 1) := by decide +kernel
theorem d_M_fastest_8 : decode b_M_fastest 8 = .ok (.bipush 32, 2) := by decide +kernel
theorem d_M_fastest_10 : decode b_M_fastest 10 = .ok (.if_icmp .ge 31, 3) := by decide +kernel
theorem d_M_fastest_13 : decode b_M_fastest 13 = .ok (.iload_n 1, 1) := by decide +kernel
theorem d_M_fastest_14 : decode b_M_fastest 14 = .ok (.iload_n 2, 1) := by decide +kernel
theorem d_M_fastest_15 : decode b_M_fastest 15 = .ok (.ishr, 1) := by decide +kernel
theorem d_M_fastest_16 : decode b_M_fastest 16 = .ok (.iconst 1, 1) := by decide +kernel
theorem d_M_fastest_17 : decode b_M_fastest 17 = .ok (.iand, 1) := by decide +kernel
theorem d_M_fastest_18 : decode b_M_fastest 18 = .ok (.iconst 1, 1) := by decide +kernel
theorem d_M_fastest_19 : decode b_M_fastest 19 = .ok (.if_icmp .ne 16, 3) := by decide +kernel
theorem d_M_fastest_22 : decode b_M_fastest 22 = .ok (.iload_n 2, 1) := by decide +kernel
theorem d_M_fastest_23 : decode b_M_fastest 23 = .ok (.aload_n 0, 1) := by decide +kernel
theorem d_M_fastest_24 : decode b_M_fastest 24 = .ok (.getfield 49, 3) := by decide +kernel
theorem d_M_fastest_27 : decode b_M_fastest 27 = .ok (.if_icmp .lt 8, 3) := by decide +kernel
theorem d_M_fastest_30 : decode b_M_fastest 30 = .ok (.aload_n 0, 1) := by decide +kernel
theorem d_M_fastest_31 : decode b_M_fastest 31 = .ok (.iconst 1, 1) := by decide +kernel
theorem d_M_fastest_32 : decode b_M_fastest 32 = .ok (.putfield 25, 3) := by decide +kernel
theorem d_M_fastest_35 : decode b_M_fastest 35 = .ok (.iinc 2 1, 3) := by decide +kernel
theorem d_M_fastest_38 : decode b_M_fastest 38 = .ok (.goto (-31), 3) := by decide +kernel
theorem d_M_fastest_41 : decode b_M_fastest 41 = .ok (.aload_n 0, 1) := by decide +kernel
theorem d_M_fastest_42 : decode b_M_fastest 42 = .ok (.getfield 25, 3) := by decide +kernel
theorem d_M_fastest_45 : decode b_M_fastest 45 = .ok (.ifCond .le 5, 3) := by decide +kernel
theorem d_M_fastest_48 : decode b_M_fastest 48 = .ok (.iconst 0, 1) := by decide +kernel
theorem d_M_fastest_49 : decode b_M_fastest 49 = .ok (.ireturn, 1) := by decide +kernel
theorem d_M_fastest_50 : decode b_M_fastest 50 = .ok (.iconst (-1), 1) := by decide +kernel
theorem d_M_fastest_51 : decode b_M_fastest 51 = .ok (.istore_n 2, 1) := by decide +kernel
theorem d_M_fastest_52 : decode b_M_fastest 52 = .ok (.iconst 0, 1) := by decide +kernel
theorem d_M_fastest_53 : decode b_M_fastest 53 = .ok (.istore_n 3, 1) := by decide +kernel
theorem d_M_fastest_54 : decode b_M_fastest 54 = .ok (.iload_n 3, 1) := by decide +kernel
theorem d_M_fastest_55 : decode b_M_fastest 55 = .ok (.bipush 32, 2) := by decide +kernel
theorem d_M_fastest_57 : decode b_M_fastest 57 = .ok (.if_icmp .ge 36, 3) := by decide +kernel
theorem d_M_fastest_60 : decode b_M_fastest 60 = .ok (.iload_n 1, 1) := by decide +kernel
theorem d_M_fastest_61 : decode b_M_fastest 61 = .ok (.iload_n 3, 1) := by decide +kernel
theorem d_M_fastest_62 : decode b_M_fastest 62 = .ok (.ishr, 1) := by decide +kernel
theorem d_M_fastest_63 : decode b_M_fastest 63 = .ok (.iconst 1, 1) := by decide +kernel
theorem d_M_fastest_64 : decode b_M_fastest 64 = .ok (.iand, 1) := by decide +kernel
theorem d_M_fastest_65 : decode b_M_fastest 65 = .ok (.ifCond .ne 6, 3) := by decide +kernel
theorem d_M_fastest_68 : decode b_M_fastest 68 = .ok (.goto 19, 3) := by decide +kernel
theorem d_M_fastest_71 : decode b_M_fastest 71 = .ok (.iload_n 2, 1) := by decide +kernel
theorem d_M_fastest_72 : decode b_M_fastest 72 = .ok (.iconst (-1), 1) := by decide +kernel
theorem d_M_fastest_73 : decode b_M_fastest 73 = .ok (.if_icmp .eq 12, 3) := by decide +kernel
theorem d_M_fastest_76 : decode b_M_fastest 76 = .ok (.aload_n 0, 1) := by decide +kernel
theorem d_M_fastest_77 : decode b_M_fastest 77 = .ok (.iload_n 3, 1) := by decide +kernel
theorem d_M_fastest_78 : decode b_M_fastest 78 = .ok (.iload_n 2, 1) := by decide +kernel
theorem d_M_fastest_79 : decode b_M_fastest 79 = .ok (.invokevirtual 122, 3) := by decide +kernel
theorem d_M_fastest_82 : decode b_M_fastest 82 = .ok (.ifCond .le 5, 3) := by decide +kernel
theorem d_M_fastest_85 : decode b_M_fastest 85 = .ok (.iload_n 3, 1) := by decide +kernel
theorem d_M_fastest_86 : decode b_M_fastest 86 = .ok (.istore_n 2, 1) := by decide +kernel
theorem d_M_fastest_87 : decode b_M_fastest 87 = .ok (.iinc 3 1, 3) := by decide +kernel
theorem d_M_fastest_90 : decode b_M_fastest 90 = .ok (.goto (-36), 3) := by decide +kernel
theorem d_M_fastest_93 : decode b_M_fastest 93 = .ok (.iload_n 2, 1) := by decide +kernel
theorem d_M_fastest_94 : decode b_M_fastest 94 = .ok (.ireturn, 1) := by decide +kernel
theorem d_M_count_0 : decode b_M_count 0 = .ok (.aload_n 0, 1) := by decide +kernel
theorem d_M_count_1 : decode b_M_count 1 = .ok (.iconst 0, 1) := by decide +kernel
theorem d_M_count_2 : decode b_M_count 2 = .ok (.putfield 25, 3) := by decide +kernel
theorem d_M_count_5 : decode b_M_count 5 = .ok (.aload_n 0, 1) := by decide +kernel
theorem d_M_count_6 : decode b_M_count 6 = .ok (.getfield 49, 3) := by decide +kernel
theorem d_M_count_9 : decode b_M_count 9 = .ok (.ireturn, 1) := by decide +kernel

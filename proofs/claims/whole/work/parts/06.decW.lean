theorem d_W_init_0 : decode b_W_init 0 = .ok (.aload_n 0, 1) := by decide +kernel
theorem d_W_init_1 : decode b_W_init 1 = .ok (.invokespecial 3, 3) := by decide +kernel
theorem d_W_init_4 : decode b_W_init 4 = .ok (.aload_n 0, 1) := by decide +kernel
theorem d_W_init_5 : decode b_W_init 5 = .ok (.sipush 700, 3) := by decide +kernel
theorem d_W_init_8 : decode b_W_init 8 = .ok (.newarray .int, 2) := by decide +kernel
theorem d_W_init_10 : decode b_W_init 10 = .ok (.putfield 9, 3) := by decide +kernel
theorem d_W_init_13 : decode b_W_init 13 = .ok (.aload_n 0, 1) := by decide +kernel
theorem d_W_init_14 : decode b_W_init 14 = .ok (.bipush 7, 2) := by decide +kernel
theorem d_W_init_16 : decode b_W_init 16 = .ok (.newarray .int, 2) := by decide +kernel
theorem d_W_init_18 : decode b_W_init 18 = .ok (.putfield 15, 3) := by decide +kernel
theorem d_W_init_21 : decode b_W_init 21 = .ok (.aload_n 0, 1) := by decide +kernel
theorem d_W_init_22 : decode b_W_init 22 = .ok (.iconst 0, 1) := by decide +kernel
theorem d_W_init_23 : decode b_W_init 23 = .ok (.putfield 18, 3) := by decide +kernel
theorem d_W_init_26 : decode b_W_init 26 = .ok (.aload_n 0, 1) := by decide +kernel
theorem d_W_init_27 : decode b_W_init 27 = .ok (.iconst 0, 1) := by decide +kernel
theorem d_W_init_28 : decode b_W_init 28 = .ok (.putfield 22, 3) := by decide +kernel
theorem d_W_init_31 : decode b_W_init 31 = .ok (.return_, 1) := by decide +kernel
theorem d_W_begin_0 : decode b_W_begin 0 = .ok (.aload_n 0, 1) := by decide +kernel
theorem d_W_begin_1 : decode b_W_begin 1 = .ok (.iconst 0, 1) := by decide +kernel
theorem d_W_begin_2 : decode b_W_begin 2 = .ok (.putfield 18, 3) := by decide +kernel
theorem d_W_begin_5 : decode b_W_begin 5 = .ok (.aload_n 0, 1) := by decide +kernel
theorem d_W_begin_6 : decode b_W_begin 6 = .ok (.iconst 0, 1) := by decide +kernel
theorem d_W_begin_7 : decode b_W_begin 7 = .ok (.putfield 22, 3) := by decide +kernel
theorem d_W_begin_10 : decode b_W_begin 10 = .ok (.return_, 1) := by decide +kernel
theorem d_W_takeOne_0 : decode b_W_takeOne 0 = .ok (.iconst 0, 1) := by decide +kernel
theorem d_W_takeOne_1 : decode b_W_takeOne 1 = .ok (.istore_n 1, 1) := by decide +kernel
theorem d_W_takeOne_2 : decode b_W_takeOne 2 = .ok (.iload_n 1, 1) := by decide +kernel
theorem d_W_takeOne_3 : decode b_W_takeOne 3 = .ok (.iconst 5, 1) := by decide +kernel
theorem d_W_takeOne_4 : decode b_W_takeOne 4 = .ok (.if_icmp .ge 16, 3) := by decide +kernel
theorem d_W_takeOne_7 : decode b_W_takeOne 7 = .ok (.aload_n 0, 1) := by decide +kernel
theorem d_W_takeOne_8 : decode b_W_takeOne 8 = .ok (.getfield 15, 3) := by decide +kernel
theorem d_W_takeOne_11 : decode b_W_takeOne 11 = .ok (.iload_n 1, 1) := by decide +kernel
theorem d_W_takeOne_12 : decode b_W_takeOne 12 = .ok (.iconst 0, 1) := by decide +kernel
theorem d_W_takeOne_13 : decode b_W_takeOne 13 = .ok (.iastore, 1) := by decide +kernel
theorem d_W_takeOne_14 : decode b_W_takeOne 14 = .ok (.iinc 1 1, 3) := by decide +kernel
theorem d_W_takeOne_17 : decode b_W_takeOne 17 = .ok (.goto (-15), 3) := by decide +kernel
theorem d_W_takeOne_20 : decode b_W_takeOne 20 = .ok (.aload_n 0, 1) := by decide +kernel
theorem d_W_takeOne_21 : decode b_W_takeOne 21 = .ok (.getfield 15, 3) := by decide +kernel
theorem d_W_takeOne_24 : decode b_W_takeOne 24 = .ok (.iconst 5, 1) := by decide +kernel
theorem d_W_takeOne_25 : decode b_W_takeOne 25 = .ok (.iconst 1, 1) := by decide +kernel
theorem d_W_takeOne_26 : decode b_W_takeOne 26 = .ok (.iastore, 1) := by decide +kernel
theorem d_W_takeOne_27 : decode b_W_takeOne 27 = .ok (.aload_n 0, 1) := by decide +kernel
theorem d_W_takeOne_28 : decode b_W_takeOne 28 = .ok (.getfield 15, 3) := by decide +kernel
theorem d_W_takeOne_31 : decode b_W_takeOne 31 = .ok (.bipush 6, 2) := by decide +kernel
theorem d_W_takeOne_33 : decode b_W_takeOne 33 = .ok (.iconst 1, 1) := by decide +kernel
theorem d_W_takeOne_34 : decode b_W_takeOne 34 = .ok (.iastore, 1) := by decide +kernel
theorem d_W_takeOne_35 : decode b_W_takeOne 35 = .ok (.return_, 1) := by decide +kernel
theorem d_W_take_0 : decode b_W_take 0 = .ok (.aload_n 1, 1) := by decide +kernel
theorem d_W_take_1 : decode b_W_take 1 = .ok (.iload_n 2, 1) := by decide +kernel
theorem d_W_take_2 : decode b_W_take 2 = .ok (.aload_n 0, 1) := by decide +kernel
theorem d_W_take_3 : decode b_W_take 3 = .ok (.getfield 15, 3) := by decide +kernel
theorem d_W_take_6 : decode b_W_take 6 = .ok (.iconst 0, 1) := by decide +kernel
theorem d_W_take_7 : decode b_W_take 7 = .ok (.bipush 7, 2) := by decide +kernel
theorem d_W_take_9 : decode b_W_take 9 = .ok (.invokestatic 26, 3) := by decide +kernel
theorem d_W_take_12 : decode b_W_take 12 = .ok (.return_, 1) := by decide +kernel
theorem d_W_multiply_0 : decode b_W_multiply 0 = .ok (.aload_n 0, 1) := by decide +kernel
theorem d_W_multiply_1 : decode b_W_multiply 1 = .ok (.aload_n 0, 1) := by decide +kernel
theorem d_W_multiply_2 : decode b_W_multiply 2 = .ok (.getfield 15, 3) := by decide +kernel
theorem d_W_multiply_5 : decode b_W_multiply 5 = .ok (.iconst 0, 1) := by decide +kernel
theorem d_W_multiply_6 : decode b_W_multiply 6 = .ok (.aload_n 0, 1) := by decide +kernel
theorem d_W_multiply_7 : decode b_W_multiply 7 = .ok (.getfield 15, 3) := by decide +kernel
theorem d_W_multiply_10 : decode b_W_multiply 10 = .ok (.iconst 5, 1) := by decide +kernel
theorem d_W_multiply_11 : decode b_W_multiply 11 = .ok (.iaload, 1) := by decide +kernel
theorem d_W_multiply_12 : decode b_W_multiply 12 = .ok (.i2l, 1) := by decide +kernel
theorem d_W_multiply_13 : decode b_W_multiply 13 = .ok (.lload_n 1, 1) := by decide +kernel
theorem d_W_multiply_14 : decode b_W_multiply 14 = .ok (.lmul, 1) := by decide +kernel
theorem d_W_multiply_15 : decode b_W_multiply 15 = .ok (.aload_n 0, 1) := by decide +kernel
theorem d_W_multiply_16 : decode b_W_multiply 16 = .ok (.getfield 15, 3) := by decide +kernel
theorem d_W_multiply_19 : decode b_W_multiply 19 = .ok (.bipush 6, 2) := by decide +kernel
theorem d_W_multiply_21 : decode b_W_multiply 21 = .ok (.iaload, 1) := by decide +kernel
theorem d_W_multiply_22 : decode b_W_multiply 22 = .ok (.i2l, 1) := by decide +kernel
theorem d_W_multiply_23 : decode b_W_multiply 23 = .ok (.lload_n 3, 1) := by decide +kernel
theorem d_W_multiply_24 : decode b_W_multiply 24 = .ok (.lmul, 1) := by decide +kernel
theorem d_W_multiply_25 : decode b_W_multiply 25 = .ok (.invokevirtual 32, 3) := by decide +kernel
theorem d_W_multiply_28 : decode b_W_multiply 28 = .ok (.return_, 1) := by decide +kernel
theorem d_W_multiplyByTerm_0 : decode b_W_multiplyByTerm 0 = .ok (.aload_n 0, 1) := by decide +kernel
theorem d_W_multiplyByTerm_1 : decode b_W_multiplyByTerm 1 = .ok (.aload_n 1, 1) := by decide +kernel
theorem d_W_multiplyByTerm_2 : decode b_W_multiplyByTerm 2 = .ok (.iload_n 2, 1) := by decide +kernel
theorem d_W_multiplyByTerm_3 : decode b_W_multiplyByTerm 3 = .ok (.iconst 5, 1) := by decide +kernel
theorem d_W_multiplyByTerm_4 : decode b_W_multiplyByTerm 4 = .ok (.iadd, 1) := by decide +kernel
theorem d_W_multiplyByTerm_5 : decode b_W_multiplyByTerm 5 = .ok (.iaload, 1) := by decide +kernel
theorem d_W_multiplyByTerm_6 : decode b_W_multiplyByTerm 6 = .ok (.i2l, 1) := by decide +kernel
theorem d_W_multiplyByTerm_7 : decode b_W_multiplyByTerm 7 = .ok (.aload_n 1, 1) := by decide +kernel
theorem d_W_multiplyByTerm_8 : decode b_W_multiplyByTerm 8 = .ok (.iload_n 2, 1) := by decide +kernel
theorem d_W_multiplyByTerm_9 : decode b_W_multiplyByTerm 9 = .ok (.bipush 6, 2) := by decide +kernel
theorem d_W_multiplyByTerm_11 : decode b_W_multiplyByTerm 11 = .ok (.iadd, 1) := by decide +kernel
theorem d_W_multiplyByTerm_12 : decode b_W_multiplyByTerm 12 = .ok (.iaload, 1) := by decide +kernel
theorem d_W_multiplyByTerm_13 : decode b_W_multiplyByTerm 13 = .ok (.i2l, 1) := by decide +kernel
theorem d_W_multiplyByTerm_14 : decode b_W_multiplyByTerm 14 = .ok (.invokevirtual 36, 3) := by decide +kernel
theorem d_W_multiplyByTerm_17 : decode b_W_multiplyByTerm 17 = .ok (.iconst 0, 1) := by decide +kernel
theorem d_W_multiplyByTerm_18 : decode b_W_multiplyByTerm 18 = .ok (.istore_n 3, 1) := by decide +kernel
theorem d_W_multiplyByTerm_19 : decode b_W_multiplyByTerm 19 = .ok (.iload_n 3, 1) := by decide +kernel
theorem d_W_multiplyByTerm_20 : decode b_W_multiplyByTerm 20 = .ok (.iconst 5, 1) := by decide +kernel
theorem d_W_multiplyByTerm_21 : decode b_W_multiplyByTerm 21 = .ok (.if_icmp .ge 19, 3) := by decide +kernel
theorem d_W_multiplyByTerm_24 : decode b_W_multiplyByTerm 24 = .ok (.aload_n 0, 1) := by decide +kernel
theorem d_W_multiplyByTerm_25 : decode b_W_multiplyByTerm 25 = .ok (.iload_n 3, 1) := by decide +kernel
theorem d_W_multiplyByTerm_26 : decode b_W_multiplyByTerm 26 = .ok (.aload_n 1, 1) := by decide +kernel
theorem d_W_multiplyByTerm_27 : decode b_W_multiplyByTerm 27 = .ok (.iload_n 2, 1) := by decide +kernel
theorem d_W_multiplyByTerm_28 : decode b_W_multiplyByTerm 28 = .ok (.iload_n 3, 1) := by decide +kernel
theorem d_W_multiplyByTerm_29 : decode b_W_multiplyByTerm 29 = .ok (.iadd, 1) := by decide +kernel
theorem d_W_multiplyByTerm_30 : decode b_W_multiplyByTerm 30 = .ok (.iaload, 1) := by decide +kernel
theorem d_W_multiplyByTerm_31 : decode b_W_multiplyByTerm 31 = .ok (.invokevirtual 40, 3) := by decide +kernel
theorem d_W_multiplyByTerm_34 : decode b_W_multiplyByTerm 34 = .ok (.iinc 3 1, 3) := by decide +kernel
theorem d_W_multiplyByTerm_37 : decode b_W_multiplyByTerm 37 = .ok (.goto (-18), 3) := by decide +kernel
theorem d_W_multiplyByTerm_40 : decode b_W_multiplyByTerm 40 = .ok (.return_, 1) := by decide +kernel
theorem d_W_divideByTerm_0 : decode b_W_divideByTerm 0 = .ok (.aload_n 0, 1) := by decide +kernel
theorem d_W_divideByTerm_1 : decode b_W_divideByTerm 1 = .ok (.aload_n 1, 1) := by decide +kernel
theorem d_W_divideByTerm_2 : decode b_W_divideByTerm 2 = .ok (.iload_n 2, 1) := by decide +kernel
theorem d_W_divideByTerm_3 : decode b_W_divideByTerm 3 = .ok (.bipush 6, 2) := by decide +kernel
theorem d_W_divideByTerm_5 : decode b_W_divideByTerm 5 = .ok (.iadd, 1) := by decide +kernel
theorem d_W_divideByTerm_6 : decode b_W_divideByTerm 6 = .ok (.iaload, 1) := by decide +kernel
theorem d_W_divideByTerm_7 : decode b_W_divideByTerm 7 = .ok (.i2l, 1) := by decide +kernel
theorem d_W_divideByTerm_8 : decode b_W_divideByTerm 8 = .ok (.aload_n 1, 1) := by decide +kernel
theorem d_W_divideByTerm_9 : decode b_W_divideByTerm 9 = .ok (.iload_n 2, 1) := by decide +kernel
theorem d_W_divideByTerm_10 : decode b_W_divideByTerm 10 = .ok (.iconst 5, 1) := by decide +kernel
theorem d_W_divideByTerm_11 : decode b_W_divideByTerm 11 = .ok (.iadd, 1) := by decide +kernel
theorem d_W_divideByTerm_12 : decode b_W_divideByTerm 12 = .ok (.iaload, 1) := by decide +kernel
theorem d_W_divideByTerm_13 : decode b_W_divideByTerm 13 = .ok (.i2l, 1) := by decide +kernel
theorem d_W_divideByTerm_14 : decode b_W_divideByTerm 14 = .ok (.invokevirtual 36, 3) := by decide +kernel
theorem d_W_divideByTerm_17 : decode b_W_divideByTerm 17 = .ok (.iconst 0, 1) := by decide +kernel
theorem d_W_divideByTerm_18 : decode b_W_divideByTerm 18 = .ok (.istore_n 3, 1) := by decide +kernel
theorem d_W_divideByTerm_19 : decode b_W_divideByTerm 19 = .ok (.iload_n 3, 1) := by decide +kernel
theorem d_W_divideByTerm_20 : decode b_W_divideByTerm 20 = .ok (.iconst 5, 1) := by decide +kernel
theorem d_W_divideByTerm_21 : decode b_W_divideByTerm 21 = .ok (.if_icmp .ge 20, 3) := by decide +kernel
theorem d_W_divideByTerm_24 : decode b_W_divideByTerm 24 = .ok (.aload_n 0, 1) := by decide +kernel
theorem d_W_divideByTerm_25 : decode b_W_divideByTerm 25 = .ok (.iload_n 3, 1) := by decide +kernel
theorem d_W_divideByTerm_26 : decode b_W_divideByTerm 26 = .ok (.aload_n 1, 1) := by decide +kernel
theorem d_W_divideByTerm_27 : decode b_W_divideByTerm 27 = .ok (.iload_n 2, 1) := by decide +kernel
theorem d_W_divideByTerm_28 : decode b_W_divideByTerm 28 = .ok (.iload_n 3, 1) := by decide +kernel
theorem d_W_divideByTerm_29 : decode b_W_divideByTerm 29 = .ok (.iadd, 1) := by decide +kernel
theorem d_W_divideByTerm_30 : decode b_W_divideByTerm 30 = .ok (.iaload, 1) := by decide +kernel
theorem d_W_divideByTerm_31 : decode b_W_divideByTerm 31 = .ok (.ineg, 1) := by decide +kernel
theorem d_W_divideByTerm_32 : decode b_W_divideByTerm 32 = .ok (.invokevirtual 40, 3) := by decide +kernel
theorem d_W_divideByTerm_35 : decode b_W_divideByTerm 35 = .ok (.iinc 3 1, 3) := by decide +kernel
theorem d_W_divideByTerm_38 : decode b_W_divideByTerm 38 = .ok (.goto (-19), 3) := by decide +kernel
theorem d_W_divideByTerm_41 : decode b_W_divideByTerm 41 = .ok (.return_, 1) := by decide +kernel
theorem d_W_raise_0 : decode b_W_raise 0 = .ok (.aload_n 0, 1) := by decide +kernel
theorem d_W_raise_1 : decode b_W_raise 1 = .ok (.getfield 15, 3) := by decide +kernel
theorem d_W_raise_4 : decode b_W_raise 4 = .ok (.iload_n 1, 1) := by decide +kernel
theorem d_W_raise_5 : decode b_W_raise 5 = .ok (.iaload, 1) := by decide +kernel
theorem d_W_raise_6 : decode b_W_raise 6 = .ok (.iload_n 2, 1) := by decide +kernel
theorem d_W_raise_7 : decode b_W_raise 7 = .ok (.iadd, 1) := by decide +kernel
theorem d_W_raise_8 : decode b_W_raise 8 = .ok (.istore_n 3, 1) := by decide +kernel
theorem d_W_raise_9 : decode b_W_raise 9 = .ok (.iload_n 3, 1) := by decide +kernel
theorem d_W_raise_10 : decode b_W_raise 10 = .ok (.bipush (-99), 2) := by decide +kernel
theorem d_W_raise_12 : decode b_W_raise 12 = .ok (.if_icmp .lt 9, 3) := by decide +kernel
theorem d_W_raise_15 : decode b_W_raise 15 = .ok (.iload_n 3, 1) := by decide +kernel
theorem d_W_raise_16 : decode b_W_raise 16 = .ok (.bipush 99, 2) := by decide +kernel
theorem d_W_raise_18 : decode b_W_raise 18 = .ok (.if_icmp .le 11, 3) := by decide +kernel
theorem d_W_raise_21 : decode b_W_raise 21 = .ok (.aload_n 0, 1) := by decide +kernel
theorem d_W_raise_22 : decode b_W_raise 22 = .ok (.iconst 1, 1) := by decide +kernel
theorem d_W_raise_23 : decode b_W_raise 23 = .ok (.putfield 22, 3) := by decide +kernel
theorem d_W_raise_26 : decode b_W_raise 26 = .ok (.goto 10, 3) := by decide +kernel
theorem d_W_raise_29 : decode b_W_raise 29 = .ok (.aload_n 0, 1) := by decide +kernel
theorem d_W_raise_30 : decode b_W_raise 30 = .ok (.getfield 15, 3) := by decide +kernel
theorem d_W_raise_33 : decode b_W_raise 33 = .ok (.iload_n 1, 1) := by decide +kernel
theorem d_W_raise_34 : decode b_W_raise 34 = .ok (.iload_n 3, 1) := by decide +kernel
theorem d_W_raise_35 : decode b_W_raise 35 = .ok (.iastore, 1) := by decide +kernel
theorem d_W_raise_36 : decode b_W_raise 36 = .ok (.return_, 1) := by decide +kernel
theorem d_W_putTaken_0 : decode b_W_putTaken 0 = .ok (.aload_n 0, 1) := by decide +kernel
theorem d_W_putTaken_1 : decode b_W_putTaken 1 = .ok (.invokevirtual 44, 3) := by decide +kernel
theorem d_W_putTaken_4 : decode b_W_putTaken 4 = .ok (.istore_n 1, 1) := by decide +kernel
theorem d_W_putTaken_5 : decode b_W_putTaken 5 = .ok (.iload_n 1, 1) := by decide +kernel
theorem d_W_putTaken_6 : decode b_W_putTaken 6 = .ok (.aload_n 0, 1) := by decide +kernel
theorem d_W_putTaken_7 : decode b_W_putTaken 7 = .ok (.getfield 18, 3) := by decide +kernel
theorem d_W_putTaken_10 : decode b_W_putTaken 10 = .ok (.if_icmp .ge 30, 3) := by decide +kernel
theorem d_W_putTaken_13 : decode b_W_putTaken 13 = .ok (.aload_n 0, 1) := by decide +kernel
theorem d_W_putTaken_14 : decode b_W_putTaken 14 = .ok (.getfield 9, 3) := by decide +kernel
theorem d_W_putTaken_17 : decode b_W_putTaken 17 = .ok (.iload_n 1, 1) := by decide +kernel
theorem d_W_putTaken_18 : decode b_W_putTaken 18 = .ok (.bipush 7, 2) := by decide +kernel
theorem d_W_putTaken_20 : decode b_W_putTaken 20 = .ok (.imul, 1) := by decide +kernel
theorem d_W_putTaken_21 : decode b_W_putTaken 21 = .ok (.aload_n 0, 1) := by decide +kernel
theorem d_W_putTaken_22 : decode b_W_putTaken 22 = .ok (.getfield 15, 3) := by decide +kernel
theorem d_W_putTaken_25 : decode b_W_putTaken 25 = .ok (.iconst 0, 1) := by decide +kernel
theorem d_W_putTaken_26 : decode b_W_putTaken 26 = .ok (.invokestatic 48, 3) := by decide +kernel
theorem d_W_putTaken_29 : decode b_W_putTaken 29 = .ok (.ifCond .ne 11, 3) := by decide +kernel
theorem d_W_putTaken_32 : decode b_W_putTaken 32 = .ok (.aload_n 0, 1) := by decide +kernel
theorem d_W_putTaken_33 : decode b_W_putTaken 33 = .ok (.iload_n 1, 1) := by decide +kernel
theorem d_W_putTaken_34 : decode b_W_putTaken 34 = .ok (.invokevirtual 52, 3) := by decide +kernel
theorem d_W_putTaken_37 : decode b_W_putTaken 37 = .ok (.goto 8, 3) := by decide +kernel
theorem d_W_putTaken_40 : decode b_W_putTaken 40 = .ok (.aload_n 0, 1) := by decide +kernel
theorem d_W_putTaken_41 : decode b_W_putTaken 41 = .ok (.iload_n 1, 1) := by decide +kernel
theorem d_W_putTaken_42 : decode b_W_putTaken 42 = .ok (.invokevirtual 56, 3) := by decide +kernel
theorem d_W_putTaken_45 : decode b_W_putTaken 45 = .ok (.return_, 1) := by decide +kernel
theorem d_W_placeOfTaken_0 : decode b_W_placeOfTaken 0 = .ok (.iconst 0, 1) := by decide +kernel
theorem d_W_placeOfTaken_1 : decode b_W_placeOfTaken 1 = .ok (.istore_n 1, 1) := by decide +kernel
theorem d_W_placeOfTaken_2 : decode b_W_placeOfTaken 2 = .ok (.aload_n 0, 1) := by decide +kernel
theorem d_W_placeOfTaken_3 : decode b_W_placeOfTaken 3 = .ok (.getfield 18, 3) := by decide +kernel
theorem d_W_placeOfTaken_6 : decode b_W_placeOfTaken 6 = .ok (.istore_n 2, 1) := by decide +kernel
theorem d_W_placeOfTaken_7 : decode b_W_placeOfTaken 7 = .ok (.iconst 0, 1) := by decide +kernel
theorem d_W_placeOfTaken_8 : decode b_W_placeOfTaken 8 = .ok (.istore_n 3, 1) := by decide +kernel
theorem d_W_placeOfTaken_9 : decode b_W_placeOfTaken 9 = .ok (.iload_n 3, 1) := by decide +kernel
theorem d_W_placeOfTaken_10 : decode b_W_placeOfTaken 10 = .ok (.bipush 100, 2) := by decide +kernel
theorem d_W_placeOfTaken_12 : decode b_W_placeOfTaken 12 = .ok (.if_icmp .ge 52, 3) := by decide +kernel
theorem d_W_placeOfTaken_15 : decode b_W_placeOfTaken 15 = .ok (.iload_n 1, 1) := by decide +kernel
theorem d_W_placeOfTaken_16 : decode b_W_placeOfTaken 16 = .ok (.iload_n 2, 1) := by decide +kernel
theorem d_W_placeOfTaken_17 : decode b_W_placeOfTaken 17 = .ok (.if_icmp .ge 47, 3) := by decide +kernel
theorem d_W_placeOfTaken_20 : decode b_W_placeOfTaken 20 = .ok (.iload_n 1, 1) := by decide +kernel
theorem d_W_placeOfTaken_21 : decode b_W_placeOfTaken 21 = .ok (.iload_n 2, 1) := by decide +kernel
theorem d_W_placeOfTaken_22 : decode b_W_placeOfTaken 22 = .ok (.iadd, 1) := by decide +kernel
theorem d_W_placeOfTaken_23 : decode b_W_placeOfTaken 23 = .ok (.iconst 1, 1) := by decide +kernel
theorem d_W_placeOfTaken_24 : decode b_W_placeOfTaken 24 = .ok (.iushr, 1) := by decide +kernel
theorem d_W_placeOfTaken_25 : decode b_W_placeOfTaken 25 = .ok (.istore 4, 2) := by decide +kernel
theorem d_W_placeOfTaken_27 : decode b_W_placeOfTaken 27 = .ok (.aload_n 0, 1) := by decide +kernel
theorem d_W_placeOfTaken_28 : decode b_W_placeOfTaken 28 = .ok (.getfield 9, 3) := by decide +kernel
theorem d_W_placeOfTaken_31 : decode b_W_placeOfTaken 31 = .ok (.iload 4, 2) := by decide +kernel
theorem d_W_placeOfTaken_33 : decode b_W_placeOfTaken 33 = .ok (.bipush 7, 2) := by decide +kernel
theorem d_W_placeOfTaken_35 : decode b_W_placeOfTaken 35 = .ok (.imul, 1) := by decide +kernel
theorem d_W_placeOfTaken_36 : decode b_W_placeOfTaken 36 = .ok (.aload_n 0, 1) := by decide +kernel
theorem d_W_placeOfTaken_37 : decode b_W_placeOfTaken 37 = .ok (.getfield 15, 3) := by decide +kernel
theorem d_W_placeOfTaken_40 : decode b_W_placeOfTaken 40 = .ok (.iconst 0, 1) := by decide +kernel
theorem d_W_placeOfTaken_41 : decode b_W_placeOfTaken 41 = .ok (.invokestatic 48, 3) := by decide +kernel
theorem d_W_placeOfTaken_44 : decode b_W_placeOfTaken 44 = .ok (.ifCond .le 11, 3) := by decide +kernel
theorem d_W_placeOfTaken_47 : decode b_W_placeOfTaken 47 = .ok (.iload 4, 2) := by decide +kernel
theorem d_W_placeOfTaken_49 : decode b_W_placeOfTaken 49 = .ok (.iconst 1, 1) := by decide +kernel
theorem d_W_placeOfTaken_50 : decode b_W_placeOfTaken 50 = .ok (.iadd, 1) := by decide +kernel
theorem d_W_placeOfTaken_51 : decode b_W_placeOfTaken 51 = .ok (.istore_n 1, 1) := by decide +kernel
theorem d_W_placeOfTaken_52 : decode b_W_placeOfTaken 52 = .ok (.goto 6, 3) := by decide +kernel
theorem d_W_placeOfTaken_55 : decode b_W_placeOfTaken 55 = .ok (.iload 4, 2) := by decide +kernel
theorem d_W_placeOfTaken_57 : decode b_W_placeOfTaken 57 = .ok (.istore_n 2, 1) := by decide +kernel
theorem d_W_placeOfTaken_58 : decode b_W_placeOfTaken 58 = .ok (.iinc 3 1, 3) := by decide +kernel
theorem d_W_placeOfTaken_61 : decode b_W_placeOfTaken 61 = .ok (.goto (-52), 3) := by decide +kernel
theorem d_W_placeOfTaken_64 : decode b_W_placeOfTaken 64 = .ok (.iload_n 1, 1) := by decide +kernel
theorem d_W_placeOfTaken_65 : decode b_W_placeOfTaken 65 = .ok (.ireturn, 1) := by decide +kernel
theorem d_W_addTaken_0 : decode b_W_addTaken 0 = .ok (.iload_n 1, 1) := by decide +kernel
theorem d_W_addTaken_1 : decode b_W_addTaken 1 = .ok (.bipush 7, 2) := by decide +kernel
theorem d_W_addTaken_3 : decode b_W_addTaken 3 = .ok (.imul, 1) := by decide +kernel
theorem d_W_addTaken_4 : decode b_W_addTaken 4 = .ok (.istore_n 2, 1) := by decide +kernel
theorem d_W_addTaken_5 : decode b_W_addTaken 5 = .ok (.aload_n 0, 1) := by decide +kernel
theorem d_W_addTaken_6 : decode b_W_addTaken 6 = .ok (.getfield 9, 3) := by decide +kernel
theorem d_W_addTaken_9 : decode b_W_addTaken 9 = .ok (.iload_n 2, 1) := by decide +kernel
theorem d_W_addTaken_10 : decode b_W_addTaken 10 = .ok (.iconst 5, 1) := by decide +kernel
theorem d_W_addTaken_11 : decode b_W_addTaken 11 = .ok (.iadd, 1) := by decide +kernel
theorem d_W_addTaken_12 : decode b_W_addTaken 12 = .ok (.iaload, 1) := by decide +kernel
theorem d_W_addTaken_13 : decode b_W_addTaken 13 = .ok (.i2l, 1) := by decide +kernel
theorem d_W_addTaken_14 : decode b_W_addTaken 14 = .ok (.aload_n 0, 1) := by decide +kernel
theorem d_W_addTaken_15 : decode b_W_addTaken 15 = .ok (.getfield 15, 3) := by decide +kernel
theorem d_W_addTaken_18 : decode b_W_addTaken 18 = .ok (.bipush 6, 2) := by decide +kernel
theorem d_W_addTaken_20 : decode b_W_addTaken 20 = .ok (.iaload, 1) := by decide +kernel
theorem d_W_addTaken_21 : decode b_W_addTaken 21 = .ok (.i2l, 1) := by decide +kernel
theorem d_W_addTaken_22 : decode b_W_addTaken 22 = .ok (.lmul, 1) := by decide +kernel
theorem d_W_addTaken_23 : decode b_W_addTaken 23 = .ok (.aload_n 0, 1) := by decide +kernel
theorem d_W_addTaken_24 : decode b_W_addTaken 24 = .ok (.getfield 15, 3) := by decide +kernel
theorem d_W_addTaken_27 : decode b_W_addTaken 27 = .ok (.iconst 5, 1) := by decide +kernel
theorem d_W_addTaken_28 : decode b_W_addTaken 28 = .ok (.iaload, 1) := by decide +kernel
theorem d_W_addTaken_29 : decode b_W_addTaken 29 = .ok (.i2l, 1) := by decide +kernel
theorem d_W_addTaken_30 : decode b_W_addTaken 30 = .ok (.aload_n 0, 1) := by decide +kernel
theorem d_W_addTaken_31 : decode b_W_addTaken 31 = .ok (.getfield 9, 3) := by decide +kernel
theorem d_W_addTaken_34 : decode b_W_addTaken 34 = .ok (.iload_n 2, 1) := by decide +kernel
theorem d_W_addTaken_35 : decode b_W_addTaken 35 = .ok (.bipush 6, 2) := by decide +kernel
theorem d_W_addTaken_37 : decode b_W_addTaken 37 = .ok (.iadd, 1) := by decide +kernel
theorem d_W_addTaken_38 : decode b_W_addTaken 38 = .ok (.iaload, 1) := by decide +kernel
theorem d_W_addTaken_39 : decode b_W_addTaken 39 = .ok (.i2l, 1) := by decide +kernel
theorem d_W_addTaken_40 : decode b_W_addTaken 40 = .ok (.lmul, 1) := by decide +kernel
theorem d_W_addTaken_41 : decode b_W_addTaken 41 = .ok (.ladd, 1) := by decide +kernel
theorem d_W_addTaken_42 : decode b_W_addTaken 42 = .ok (.lstore_n 3, 1) := by decide +kernel
theorem d_W_addTaken_43 : decode b_W_addTaken 43 = .ok (.lload_n 3, 1) := by decide +kernel
theorem d_W_addTaken_44 : decode b_W_addTaken 44 = .ok (.lconst 0, 1) := by decide +kernel
theorem d_W_addTaken_45 : decode b_W_addTaken 45 = .ok (.lcmp, 1) := by decide +kernel
theorem d_W_addTaken_46 : decode b_W_addTaken 46 = .ok (.ifCond .ne 11, 3) := by decide +kernel
theorem d_W_addTaken_49 : decode b_W_addTaken 49 = .ok (.aload_n 0, 1) := by decide +kernel
theorem d_W_addTaken_50 : decode b_W_addTaken 50 = .ok (.iload_n 1, 1) := by decide +kernel
theorem d_W_addTaken_51 : decode b_W_addTaken 51 = .ok (.invokevirtual 59, 3) := by decide +kernel
theorem d_W_addTaken_54 : decode b_W_addTaken 54 = .ok (.goto 32, 3) := by decide +kernel
theorem d_W_addTaken_57 : decode b_W_addTaken 57 = .ok (.aload_n 0, 1) := by decide +kernel
theorem d_W_addTaken_58 : decode b_W_addTaken 58 = .ok (.aload_n 0, 1) := by decide +kernel
theorem d_W_addTaken_59 : decode b_W_addTaken 59 = .ok (.getfield 9, 3) := by decide +kernel
theorem d_W_addTaken_62 : decode b_W_addTaken 62 = .ok (.iload_n 2, 1) := by decide +kernel
theorem d_W_addTaken_63 : decode b_W_addTaken 63 = .ok (.lload_n 3, 1) := by decide +kernel
theorem d_W_addTaken_64 : decode b_W_addTaken 64 = .ok (.aload_n 0, 1) := by decide +kernel
theorem d_W_addTaken_65 : decode b_W_addTaken 65 = .ok (.getfield 9, 3) := by decide +kernel
theorem d_W_addTaken_68 : decode b_W_addTaken 68 = .ok (.iload_n 2, 1) := by decide +kernel
theorem d_W_addTaken_69 : decode b_W_addTaken 69 = .ok (.bipush 6, 2) := by decide +kernel
theorem d_W_addTaken_71 : decode b_W_addTaken 71 = .ok (.iadd, 1) := by decide +kernel
theorem d_W_addTaken_72 : decode b_W_addTaken 72 = .ok (.iaload, 1) := by decide +kernel
theorem d_W_addTaken_73 : decode b_W_addTaken 73 = .ok (.i2l, 1) := by decide +kernel
theorem d_W_addTaken_74 : decode b_W_addTaken 74 = .ok (.aload_n 0, 1) := by decide +kernel
theorem d_W_addTaken_75 : decode b_W_addTaken 75 = .ok (.getfield 15, 3) := by decide +kernel
theorem d_W_addTaken_78 : decode b_W_addTaken 78 = .ok (.bipush 6, 2) := by decide +kernel
theorem d_W_addTaken_80 : decode b_W_addTaken 80 = .ok (.iaload, 1) := by decide +kernel
theorem d_W_addTaken_81 : decode b_W_addTaken 81 = .ok (.i2l, 1) := by decide +kernel
theorem d_W_addTaken_82 : decode b_W_addTaken 82 = .ok (.lmul, 1) := by decide +kernel
theorem d_W_addTaken_83 : decode b_W_addTaken 83 = .ok (.invokevirtual 32, 3) := by decide +kernel
theorem d_W_addTaken_86 : decode b_W_addTaken 86 = .ok (.return_, 1) := by decide +kernel
theorem d_W_insertTaken_0 : decode b_W_insertTaken 0 = .ok (.aload_n 0, 1) := by decide +kernel
theorem d_W_insertTaken_1 : decode b_W_insertTaken 1 = .ok (.getfield 18, 3) := by decide +kernel
theorem d_W_insertTaken_4 : decode b_W_insertTaken 4 = .ok (.bipush 100, 2) := by decide +kernel
theorem d_W_insertTaken_6 : decode b_W_insertTaken 6 = .ok (.if_icmp .lt 9, 3) := by decide +kernel
theorem d_W_insertTaken_9 : decode b_W_insertTaken 9 = .ok (.aload_n 0, 1) := by decide +kernel
theorem d_W_insertTaken_10 : decode b_W_insertTaken 10 = .ok (.iconst 1, 1) := by decide +kernel
theorem d_W_insertTaken_11 : decode b_W_insertTaken 11 = .ok (.putfield 22, 3) := by decide +kernel
theorem d_W_insertTaken_14 : decode b_W_insertTaken 14 = .ok (.return_, 1) := by decide +kernel
theorem d_W_insertTaken_15 : decode b_W_insertTaken 15 = .ok (.iload_n 1, 1) := by decide +kernel
theorem d_W_insertTaken_16 : decode b_W_insertTaken 16 = .ok (.bipush 7, 2) := by decide +kernel
theorem d_W_insertTaken_18 : decode b_W_insertTaken 18 = .ok (.imul, 1) := by decide +kernel
theorem d_W_insertTaken_19 : decode b_W_insertTaken 19 = .ok (.istore_n 2, 1) := by decide +kernel
theorem d_W_insertTaken_20 : decode b_W_insertTaken 20 = .ok (.aload_n 0, 1) := by decide +kernel
theorem d_W_insertTaken_21 : decode b_W_insertTaken 21 = .ok (.getfield 9, 3) := by decide +kernel
theorem d_W_insertTaken_24 : decode b_W_insertTaken 24 = .ok (.iload_n 2, 1) := by decide +kernel
theorem d_W_insertTaken_25 : decode b_W_insertTaken 25 = .ok (.aload_n 0, 1) := by decide +kernel
theorem d_W_insertTaken_26 : decode b_W_insertTaken 26 = .ok (.getfield 9, 3) := by decide +kernel
theorem d_W_insertTaken_29 : decode b_W_insertTaken 29 = .ok (.iload_n 2, 1) := by decide +kernel
theorem d_W_insertTaken_30 : decode b_W_insertTaken 30 = .ok (.bipush 7, 2) := by decide +kernel
theorem d_W_insertTaken_32 : decode b_W_insertTaken 32 = .ok (.iadd, 1) := by decide +kernel
theorem d_W_insertTaken_33 : decode b_W_insertTaken 33 = .ok (.aload_n 0, 1) := by decide +kernel
theorem d_W_insertTaken_34 : decode b_W_insertTaken 34 = .ok (.getfield 18, 3) := by decide +kernel
theorem d_W_insertTaken_37 : decode b_W_insertTaken 37 = .ok (.iload_n 1, 1) := by decide +kernel
theorem d_W_insertTaken_38 : decode b_W_insertTaken 38 = .ok (.isub, 1) := by decide +kernel
theorem d_W_insertTaken_39 : decode b_W_insertTaken 39 = .ok (.bipush 7, 2) := by decide +kernel
theorem d_W_insertTaken_41 : decode b_W_insertTaken 41 = .ok (.imul, 1) := by decide +kernel
theorem d_W_insertTaken_42 : decode b_W_insertTaken 42 = .ok (.invokestatic 26, 3) := by decide +kernel
theorem d_W_insertTaken_45 : decode b_W_insertTaken 45 = .ok (.aload_n 0, 1) := by decide +kernel
theorem d_W_insertTaken_46 : decode b_W_insertTaken 46 = .ok (.getfield 15, 3) := by decide +kernel
theorem d_W_insertTaken_49 : decode b_W_insertTaken 49 = .ok (.iconst 0, 1) := by decide +kernel
theorem d_W_insertTaken_50 : decode b_W_insertTaken 50 = .ok (.aload_n 0, 1) := by decide +kernel
theorem d_W_insertTaken_51 : decode b_W_insertTaken 51 = .ok (.getfield 9, 3) := by decide +kernel
theorem d_W_insertTaken_54 : decode b_W_insertTaken 54 = .ok (.iload_n 2, 1) := by decide +kernel
theorem d_W_insertTaken_55 : decode b_W_insertTaken 55 = .ok (.bipush 7, 2) := by decide +kernel
theorem d_W_insertTaken_57 : decode b_W_insertTaken 57 = .ok (.invokestatic 26, 3) := by decide +kernel
theorem d_W_insertTaken_60 : decode b_W_insertTaken 60 = .ok (.aload_n 0, 1) := by decide +kernel
theorem d_W_insertTaken_61 : decode b_W_insertTaken 61 = .ok (.dup, 1) := by decide +kernel
theorem d_W_insertTaken_62 : decode b_W_insertTaken 62 = .ok (.getfield 18, 3) := by decide +kernel
theorem d_W_insertTaken_65 : decode b_W_insertTaken 65 = .ok (.iconst 1, 1) := by decide +kernel
theorem d_W_insertTaken_66 : decode b_W_insertTaken 66 = .ok (.iadd, 1) := by decide +kernel
theorem d_W_insertTaken_67 : decode b_W_insertTaken 67 = .ok (.putfield 18, 3) := by decide +kernel
theorem d_W_insertTaken_70 : decode b_W_insertTaken 70 = .ok (.return_, 1) := by decide +kernel
theorem d_W_removeRow_0 : decode b_W_removeRow 0 = .ok (.iload_n 1, 1) := by decide +kernel
theorem d_W_removeRow_1 : decode b_W_removeRow 1 = .ok (.bipush 7, 2) := by decide +kernel
theorem d_W_removeRow_3 : decode b_W_removeRow 3 = .ok (.imul, 1) := by decide +kernel
theorem d_W_removeRow_4 : decode b_W_removeRow 4 = .ok (.istore_n 2, 1) := by decide +kernel
theorem d_W_removeRow_5 : decode b_W_removeRow 5 = .ok (.aload_n 0, 1) := by decide +kernel
theorem d_W_removeRow_6 : decode b_W_removeRow 6 = .ok (.getfield 9, 3) := by decide +kernel
theorem d_W_removeRow_9 : decode b_W_removeRow 9 = .ok (.iload_n 2, 1) := by decide +kernel
theorem d_W_removeRow_10 : decode b_W_removeRow 10 = .ok (.bipush 7, 2) := by decide +kernel
theorem d_W_removeRow_12 : decode b_W_removeRow 12 = .ok (.iadd, 1) := by decide +kernel
theorem d_W_removeRow_13 : decode b_W_removeRow 13 = .ok (.aload_n 0, 1) := by decide +kernel
theorem d_W_removeRow_14 : decode b_W_removeRow 14 = .ok (.getfield 9, 3) := by decide +kernel
theorem d_W_removeRow_17 : decode b_W_removeRow 17 = .ok (.iload_n 2, 1) := by decide +kernel
theorem d_W_removeRow_18 : decode b_W_removeRow 18 = .ok (.aload_n 0, 1) := by decide +kernel
theorem d_W_removeRow_19 : decode b_W_removeRow 19 = .ok (.getfield 18, 3) := by decide +kernel
theorem d_W_removeRow_22 : decode b_W_removeRow 22 = .ok (.iload_n 1, 1) := by decide +kernel
theorem d_W_removeRow_23 : decode b_W_removeRow 23 = .ok (.isub, 1) := by decide +kernel
theorem d_W_removeRow_24 : decode b_W_removeRow 24 = .ok (.iconst 1, 1) := by decide +kernel
theorem d_W_removeRow_25 : decode b_W_removeRow 25 = .ok (.isub, 1) := by decide +kernel
theorem d_W_removeRow_26 : decode b_W_removeRow 26 = .ok (.bipush 7, 2) := by decide +kernel
theorem d_W_removeRow_28 : decode b_W_removeRow 28 = .ok (.imul, 1) := by decide +kernel
theorem d_W_removeRow_29 : decode b_W_removeRow 29 = .ok (.invokestatic 26, 3) := by decide +kernel
theorem d_W_removeRow_32 : decode b_W_removeRow 32 = .ok (.aload_n 0, 1) := by decide +kernel
theorem d_W_removeRow_33 : decode b_W_removeRow 33 = .ok (.dup, 1) := by decide +kernel
theorem d_W_removeRow_34 : decode b_W_removeRow 34 = .ok (.getfield 18, 3) := by decide +kernel
theorem d_W_removeRow_37 : decode b_W_removeRow 37 = .ok (.iconst 1, 1) := by decide +kernel
theorem d_W_removeRow_38 : decode b_W_removeRow 38 = .ok (.isub, 1) := by decide +kernel
theorem d_W_removeRow_39 : decode b_W_removeRow 39 = .ok (.putfield 18, 3) := by decide +kernel
theorem d_W_removeRow_42 : decode b_W_removeRow 42 = .ok (.return_, 1) := by decide +kernel
theorem d_W_setNumber_0 : decode b_W_setNumber 0 = .ok (.lload_n 3, 1) := by decide +kernel
theorem d_W_setNumber_1 : decode b_W_setNumber 1 = .ok (.lload 5, 2) := by decide +kernel
theorem d_W_setNumber_3 : decode b_W_setNumber 3 = .ok (.invokestatic 62, 3) := by decide +kernel
theorem d_W_setNumber_6 : decode b_W_setNumber 6 = .ok (.lstore 7, 2) := by decide +kernel
theorem d_W_setNumber_8 : decode b_W_setNumber 8 = .ok (.lload_n 3, 1) := by decide +kernel
theorem d_W_setNumber_9 : decode b_W_setNumber 9 = .ok (.lload 7, 2) := by decide +kernel
theorem d_W_setNumber_11 : decode b_W_setNumber 11 = .ok (.ldiv, 1) := by decide +kernel
theorem d_W_setNumber_12 : decode b_W_setNumber 12 = .ok (.lstore 9, 2) := by decide +kernel
theorem d_W_setNumber_14 : decode b_W_setNumber 14 = .ok (.lload 5, 2) := by decide +kernel
theorem d_W_setNumber_16 : decode b_W_setNumber 16 = .ok (.lload 7, 2) := by decide +kernel
theorem d_W_setNumber_18 : decode b_W_setNumber 18 = .ok (.ldiv, 1) := by decide +kernel
theorem d_W_setNumber_19 : decode b_W_setNumber 19 = .ok (.lstore 11, 2) := by decide +kernel
theorem d_W_setNumber_21 : decode b_W_setNumber 21 = .ok (.lload 9, 2) := by decide +kernel
theorem d_W_setNumber_23 : decode b_W_setNumber 23 = .ok (.invokestatic 66, 3) := by decide +kernel
theorem d_W_setNumber_26 : decode b_W_setNumber 26 = .ok (.ldc2_w 72, 3) := by decide +kernel
theorem d_W_setNumber_29 : decode b_W_setNumber 29 = .ok (.lcmp, 1) := by decide +kernel
theorem d_W_setNumber_30 : decode b_W_setNumber 30 = .ok (.ifCond .gt 12, 3) := by decide +kernel
theorem d_W_setNumber_33 : decode b_W_setNumber 33 = .ok (.lload 11, 2) := by decide +kernel
theorem d_W_setNumber_35 : decode b_W_setNumber 35 = .ok (.ldc2_w 72, 3) := by decide +kernel
theorem d_W_setNumber_38 : decode b_W_setNumber 38 = .ok (.lcmp, 1) := by decide +kernel
theorem d_W_setNumber_39 : decode b_W_setNumber 39 = .ok (.ifCond .le 11, 3) := by decide +kernel
theorem d_W_setNumber_42 : decode b_W_setNumber 42 = .ok (.aload_n 0, 1) := by decide +kernel
theorem d_W_setNumber_43 : decode b_W_setNumber 43 = .ok (.iconst 1, 1) := by decide +kernel
theorem d_W_setNumber_44 : decode b_W_setNumber 44 = .ok (.putfield 22, 3) := by decide +kernel
theorem d_W_setNumber_47 : decode b_W_setNumber 47 = .ok (.goto 20, 3) := by decide +kernel
theorem d_W_setNumber_50 : decode b_W_setNumber 50 = .ok (.aload_n 1, 1) := by decide +kernel
theorem d_W_setNumber_51 : decode b_W_setNumber 51 = .ok (.iload_n 2, 1) := by decide +kernel
theorem d_W_setNumber_52 : decode b_W_setNumber 52 = .ok (.iconst 5, 1) := by decide +kernel
theorem d_W_setNumber_53 : decode b_W_setNumber 53 = .ok (.iadd, 1) := by decide +kernel
theorem d_W_setNumber_54 : decode b_W_setNumber 54 = .ok (.lload 9, 2) := by decide +kernel
theorem d_W_setNumber_56 : decode b_W_setNumber 56 = .ok (.l2i, 1) := by decide +kernel
theorem d_W_setNumber_57 : decode b_W_setNumber 57 = .ok (.iastore, 1) := by decide +kernel
theorem d_W_setNumber_58 : decode b_W_setNumber 58 = .ok (.aload_n 1, 1) := by decide +kernel
theorem d_W_setNumber_59 : decode b_W_setNumber 59 = .ok (.iload_n 2, 1) := by decide +kernel
theorem d_W_setNumber_60 : decode b_W_setNumber 60 = .ok (.bipush 6, 2) := by decide +kernel
theorem d_W_setNumber_62 : decode b_W_setNumber 62 = .ok (.iadd, 1) := by decide +kernel
theorem d_W_setNumber_63 : decode b_W_setNumber 63 = .ok (.lload 11, 2) := by decide +kernel
theorem d_W_setNumber_65 : decode b_W_setNumber 65 = .ok (.l2i, 1) := by decide +kernel
theorem d_W_setNumber_66 : decode b_W_setNumber 66 = .ok (.iastore, 1) := by decide +kernel
theorem d_W_setNumber_67 : decode b_W_setNumber 67 = .ok (.return_, 1) := by decide +kernel

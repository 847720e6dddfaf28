theorem d_G_init_0 : decode b_G_init 0 = .ok (.aload_n 0, 1) := by decide +kernel
theorem d_G_init_1 : decode b_G_init 1 = .ok (.invokespecial 3, 3) := by decide +kernel
theorem d_G_init_4 : decode b_G_init 4 = .ok (.aload_n 0, 1) := by decide +kernel
theorem d_G_init_5 : decode b_G_init 5 = .ok (.sipush 5600, 3) := by decide +kernel
theorem d_G_init_8 : decode b_G_init 8 = .ok (.newarray .int, 2) := by decide +kernel
theorem d_G_init_10 : decode b_G_init 10 = .ok (.putfield 9, 3) := by decide +kernel
theorem d_G_init_13 : decode b_G_init 13 = .ok (.aload_n 0, 1) := by decide +kernel
theorem d_G_init_14 : decode b_G_init 14 = .ok (.bipush 80, 2) := by decide +kernel
theorem d_G_init_16 : decode b_G_init 16 = .ok (.newarray .int, 2) := by decide +kernel
theorem d_G_init_18 : decode b_G_init 18 = .ok (.putfield 13, 3) := by decide +kernel
theorem d_G_init_21 : decode b_G_init 21 = .ok (.aload_n 0, 1) := by decide +kernel
theorem d_G_init_22 : decode b_G_init 22 = .ok (.new 16, 3) := by decide +kernel
theorem d_G_init_25 : decode b_G_init 25 = .ok (.dup, 1) := by decide +kernel
theorem d_G_init_26 : decode b_G_init 26 = .ok (.invokespecial 18, 3) := by decide +kernel
theorem d_G_init_29 : decode b_G_init 29 = .ok (.putfield 19, 3) := by decide +kernel
theorem d_G_init_32 : decode b_G_init 32 = .ok (.aload_n 0, 1) := by decide +kernel
theorem d_G_init_33 : decode b_G_init 33 = .ok (.iconst 0, 1) := by decide +kernel
theorem d_G_init_34 : decode b_G_init 34 = .ok (.putfield 23, 3) := by decide +kernel
theorem d_G_init_37 : decode b_G_init 37 = .ok (.return_, 1) := by decide +kernel
theorem d_G_number_0 : decode b_G_number 0 = .ok (.iload_n 2, 1) := by decide +kernel
theorem d_G_number_1 : decode b_G_number 1 = .ok (.ifCond .ne 13, 3) := by decide +kernel
theorem d_G_number_4 : decode b_G_number 4 = .ok (.new 27, 3) := by decide +kernel
theorem d_G_number_7 : decode b_G_number 7 = .ok (.dup, 1) := by decide +kernel
theorem d_G_number_8 : decode b_G_number 8 = .ok (.ldc 29, 2) := by decide +kernel
theorem d_G_number_10 : decode b_G_number 10 = .ok (.invokespecial 31, 3) := by decide +kernel
theorem d_G_number_13 : decode b_G_number 13 = .ok (.athrow, 1) := by decide +kernel
theorem d_G_number_14 : decode b_G_number 14 = .ok (.aload_n 0, 1) := by decide +kernel
theorem d_G_number_15 : decode b_G_number 15 = .ok (.invokevirtual 34, 3) := by decide +kernel
theorem d_G_number_18 : decode b_G_number 18 = .ok (.aload_n 0, 1) := by decide +kernel
theorem d_G_number_19 : decode b_G_number 19 = .ok (.getfield 19, 3) := by decide +kernel
theorem d_G_number_22 : decode b_G_number 22 = .ok (.invokevirtual 37, 3) := by decide +kernel
theorem d_G_number_25 : decode b_G_number 25 = .ok (.iload_n 1, 1) := by decide +kernel
theorem d_G_number_26 : decode b_G_number 26 = .ok (.ifCond .eq 28, 3) := by decide +kernel
theorem d_G_number_29 : decode b_G_number 29 = .ok (.aload_n 0, 1) := by decide +kernel
theorem d_G_number_30 : decode b_G_number 30 = .ok (.getfield 19, 3) := by decide +kernel
theorem d_G_number_33 : decode b_G_number 33 = .ok (.invokevirtual 40, 3) := by decide +kernel
theorem d_G_number_36 : decode b_G_number 36 = .ok (.aload_n 0, 1) := by decide +kernel
theorem d_G_number_37 : decode b_G_number 37 = .ok (.getfield 19, 3) := by decide +kernel
theorem d_G_number_40 : decode b_G_number 40 = .ok (.iload_n 1, 1) := by decide +kernel
theorem d_G_number_41 : decode b_G_number 41 = .ok (.i2l, 1) := by decide +kernel
theorem d_G_number_42 : decode b_G_number 42 = .ok (.iload_n 2, 1) := by decide +kernel
theorem d_G_number_43 : decode b_G_number 43 = .ok (.i2l, 1) := by decide +kernel
theorem d_G_number_44 : decode b_G_number 44 = .ok (.invokevirtual 43, 3) := by decide +kernel
theorem d_G_number_47 : decode b_G_number 47 = .ok (.aload_n 0, 1) := by decide +kernel
theorem d_G_number_48 : decode b_G_number 48 = .ok (.getfield 19, 3) := by decide +kernel
theorem d_G_number_51 : decode b_G_number 51 = .ok (.invokevirtual 47, 3) := by decide +kernel
theorem d_G_number_54 : decode b_G_number 54 = .ok (.aload_n 0, 1) := by decide +kernel
theorem d_G_number_55 : decode b_G_number 55 = .ok (.invokevirtual 50, 3) := by decide +kernel
theorem d_G_number_58 : decode b_G_number 58 = .ok (.ireturn, 1) := by decide +kernel
theorem d_G_letter_0 : decode b_G_letter 0 = .ok (.iload_n 1, 1) := by decide +kernel
theorem d_G_letter_1 : decode b_G_letter 1 = .ok (.ifCond .lt 8, 3) := by decide +kernel
theorem d_G_letter_4 : decode b_G_letter 4 = .ok (.iload_n 1, 1) := by decide +kernel
theorem d_G_letter_5 : decode b_G_letter 5 = .ok (.iconst 4, 1) := by decide +kernel
theorem d_G_letter_6 : decode b_G_letter 6 = .ok (.if_icmp .le 13, 3) := by decide +kernel
theorem d_G_letter_9 : decode b_G_letter 9 = .ok (.new 54, 3) := by decide +kernel
theorem d_G_letter_12 : decode b_G_letter 12 = .ok (.dup, 1) := by decide +kernel
theorem d_G_letter_13 : decode b_G_letter 13 = .ok (.ldc 56, 2) := by decide +kernel
theorem d_G_letter_15 : decode b_G_letter 15 = .ok (.invokespecial 58, 3) := by decide +kernel
theorem d_G_letter_18 : decode b_G_letter 18 = .ok (.athrow, 1) := by decide +kernel
theorem d_G_letter_19 : decode b_G_letter 19 = .ok (.aload_n 0, 1) := by decide +kernel
theorem d_G_letter_20 : decode b_G_letter 20 = .ok (.invokevirtual 34, 3) := by decide +kernel
theorem d_G_letter_23 : decode b_G_letter 23 = .ok (.aload_n 0, 1) := by decide +kernel
theorem d_G_letter_24 : decode b_G_letter 24 = .ok (.getfield 19, 3) := by decide +kernel
theorem d_G_letter_27 : decode b_G_letter 27 = .ok (.invokevirtual 37, 3) := by decide +kernel
theorem d_G_letter_30 : decode b_G_letter 30 = .ok (.aload_n 0, 1) := by decide +kernel
theorem d_G_letter_31 : decode b_G_letter 31 = .ok (.iconst 1, 1) := by decide +kernel
theorem d_G_letter_32 : decode b_G_letter 32 = .ok (.iload_n 1, 1) := by decide +kernel
theorem d_G_letter_33 : decode b_G_letter 33 = .ok (.iconst 1, 1) := by decide +kernel
theorem d_G_letter_34 : decode b_G_letter 34 = .ok (.invokevirtual 59, 3) := by decide +kernel
theorem d_G_letter_37 : decode b_G_letter 37 = .ok (.aload_n 0, 1) := by decide +kernel
theorem d_G_letter_38 : decode b_G_letter 38 = .ok (.invokevirtual 50, 3) := by decide +kernel
theorem d_G_letter_41 : decode b_G_letter 41 = .ok (.ireturn, 1) := by decide +kernel
theorem d_G_add_0 : decode b_G_add 0 = .ok (.aload_n 0, 1) := by decide +kernel
theorem d_G_add_1 : decode b_G_add 1 = .ok (.iload_n 1, 1) := by decide +kernel
theorem d_G_add_2 : decode b_G_add 2 = .ok (.invokevirtual 63, 3) := by decide +kernel
theorem d_G_add_5 : decode b_G_add 5 = .ok (.aload_n 0, 1) := by decide +kernel
theorem d_G_add_6 : decode b_G_add 6 = .ok (.iload_n 2, 1) := by decide +kernel
theorem d_G_add_7 : decode b_G_add 7 = .ok (.invokevirtual 63, 3) := by decide +kernel
theorem d_G_add_10 : decode b_G_add 10 = .ok (.aload_n 0, 1) := by decide +kernel
theorem d_G_add_11 : decode b_G_add 11 = .ok (.invokevirtual 34, 3) := by decide +kernel
theorem d_G_add_14 : decode b_G_add 14 = .ok (.aload_n 0, 1) := by decide +kernel
theorem d_G_add_15 : decode b_G_add 15 = .ok (.getfield 19, 3) := by decide +kernel
theorem d_G_add_18 : decode b_G_add 18 = .ok (.invokevirtual 37, 3) := by decide +kernel
theorem d_G_add_21 : decode b_G_add 21 = .ok (.aload_n 0, 1) := by decide +kernel
theorem d_G_add_22 : decode b_G_add 22 = .ok (.iload_n 1, 1) := by decide +kernel
theorem d_G_add_23 : decode b_G_add 23 = .ok (.invokevirtual 67, 3) := by decide +kernel
theorem d_G_add_26 : decode b_G_add 26 = .ok (.aload_n 0, 1) := by decide +kernel
theorem d_G_add_27 : decode b_G_add 27 = .ok (.iload_n 2, 1) := by decide +kernel
theorem d_G_add_28 : decode b_G_add 28 = .ok (.invokevirtual 67, 3) := by decide +kernel
theorem d_G_add_31 : decode b_G_add 31 = .ok (.aload_n 0, 1) := by decide +kernel
theorem d_G_add_32 : decode b_G_add 32 = .ok (.invokevirtual 50, 3) := by decide +kernel
theorem d_G_add_35 : decode b_G_add 35 = .ok (.ireturn, 1) := by decide +kernel
theorem d_G_times_0 : decode b_G_times 0 = .ok (.aload_n 0, 1) := by decide +kernel
theorem d_G_times_1 : decode b_G_times 1 = .ok (.iload_n 1, 1) := by decide +kernel
theorem d_G_times_2 : decode b_G_times 2 = .ok (.invokevirtual 63, 3) := by decide +kernel
theorem d_G_times_5 : decode b_G_times 5 = .ok (.aload_n 0, 1) := by decide +kernel
theorem d_G_times_6 : decode b_G_times 6 = .ok (.iload_n 2, 1) := by decide +kernel
theorem d_G_times_7 : decode b_G_times 7 = .ok (.invokevirtual 63, 3) := by decide +kernel
theorem d_G_times_10 : decode b_G_times 10 = .ok (.aload_n 0, 1) := by decide +kernel
theorem d_G_times_11 : decode b_G_times 11 = .ok (.invokevirtual 34, 3) := by decide +kernel
theorem d_G_times_14 : decode b_G_times 14 = .ok (.aload_n 0, 1) := by decide +kernel
theorem d_G_times_15 : decode b_G_times 15 = .ok (.getfield 19, 3) := by decide +kernel
theorem d_G_times_18 : decode b_G_times 18 = .ok (.invokevirtual 37, 3) := by decide +kernel
theorem d_G_times_21 : decode b_G_times 21 = .ok (.iconst 0, 1) := by decide +kernel
theorem d_G_times_22 : decode b_G_times 22 = .ok (.istore_n 3, 1) := by decide +kernel
theorem d_G_times_23 : decode b_G_times 23 = .ok (.iload_n 3, 1) := by decide +kernel
theorem d_G_times_24 : decode b_G_times 24 = .ok (.aload_n 0, 1) := by decide +kernel
theorem d_G_times_25 : decode b_G_times 25 = .ok (.getfield 13, 3) := by decide +kernel
theorem d_G_times_28 : decode b_G_times 28 = .ok (.iload_n 1, 1) := by decide +kernel
theorem d_G_times_29 : decode b_G_times 29 = .ok (.iaload, 1) := by decide +kernel
theorem d_G_times_30 : decode b_G_times 30 = .ok (.if_icmp .ge 69, 3) := by decide +kernel
theorem d_G_times_33 : decode b_G_times 33 = .ok (.iconst 0, 1) := by decide +kernel
theorem d_G_times_34 : decode b_G_times 34 = .ok (.istore 4, 2) := by decide +kernel
theorem d_G_times_36 : decode b_G_times 36 = .ok (.iload 4, 2) := by decide +kernel
theorem d_G_times_38 : decode b_G_times 38 = .ok (.aload_n 0, 1) := by decide +kernel
theorem d_G_times_39 : decode b_G_times 39 = .ok (.getfield 13, 3) := by decide +kernel
theorem d_G_times_42 : decode b_G_times 42 = .ok (.iload_n 2, 1) := by decide +kernel
theorem d_G_times_43 : decode b_G_times 43 = .ok (.iaload, 1) := by decide +kernel
theorem d_G_times_44 : decode b_G_times 44 = .ok (.if_icmp .ge 49, 3) := by decide +kernel
theorem d_G_times_47 : decode b_G_times 47 = .ok (.aload_n 0, 1) := by decide +kernel
theorem d_G_times_48 : decode b_G_times 48 = .ok (.getfield 19, 3) := by decide +kernel
theorem d_G_times_51 : decode b_G_times 51 = .ok (.aload_n 0, 1) := by decide +kernel
theorem d_G_times_52 : decode b_G_times 52 = .ok (.getfield 9, 3) := by decide +kernel
theorem d_G_times_55 : decode b_G_times 55 = .ok (.iload_n 1, 1) := by decide +kernel
theorem d_G_times_56 : decode b_G_times 56 = .ok (.iload_n 3, 1) := by decide +kernel
theorem d_G_times_57 : decode b_G_times 57 = .ok (.invokestatic 70, 3) := by decide +kernel
theorem d_G_times_60 : decode b_G_times 60 = .ok (.invokevirtual 74, 3) := by decide +kernel
theorem d_G_times_63 : decode b_G_times 63 = .ok (.aload_n 0, 1) := by decide +kernel
theorem d_G_times_64 : decode b_G_times 64 = .ok (.getfield 19, 3) := by decide +kernel
theorem d_G_times_67 : decode b_G_times 67 = .ok (.aload_n 0, 1) := by decide +kernel
theorem d_G_times_68 : decode b_G_times 68 = .ok (.getfield 9, 3) := by decide +kernel
theorem d_G_times_71 : decode b_G_times 71 = .ok (.iload_n 2, 1) := by decide +kernel
theorem d_G_times_72 : decode b_G_times 72 = .ok (.iload 4, 2) := by decide +kernel
theorem d_G_times_74 : decode b_G_times 74 = .ok (.invokestatic 70, 3) := by decide +kernel
theorem d_G_times_77 : decode b_G_times 77 = .ok (.invokevirtual 78, 3) := by decide +kernel
theorem d_G_times_80 : decode b_G_times 80 = .ok (.aload_n 0, 1) := by decide +kernel
theorem d_G_times_81 : decode b_G_times 81 = .ok (.getfield 19, 3) := by decide +kernel
theorem d_G_times_84 : decode b_G_times 84 = .ok (.invokevirtual 47, 3) := by decide +kernel
theorem d_G_times_87 : decode b_G_times 87 = .ok (.iinc 4 1, 3) := by decide +kernel
theorem d_G_times_90 : decode b_G_times 90 = .ok (.goto (-54), 3) := by decide +kernel
theorem d_G_times_93 : decode b_G_times 93 = .ok (.iinc 3 1, 3) := by decide +kernel
theorem d_G_times_96 : decode b_G_times 96 = .ok (.goto (-73), 3) := by decide +kernel
theorem d_G_times_99 : decode b_G_times 99 = .ok (.aload_n 0, 1) := by decide +kernel
theorem d_G_times_100 : decode b_G_times 100 = .ok (.invokevirtual 50, 3) := by decide +kernel
theorem d_G_times_103 : decode b_G_times 103 = .ok (.ireturn, 1) := by decide +kernel
theorem d_G_over_0 : decode b_G_over 0 = .ok (.aload_n 0, 1) := by decide +kernel
theorem d_G_over_1 : decode b_G_over 1 = .ok (.iload_n 1, 1) := by decide +kernel
theorem d_G_over_2 : decode b_G_over 2 = .ok (.invokevirtual 63, 3) := by decide +kernel
theorem d_G_over_5 : decode b_G_over 5 = .ok (.aload_n 0, 1) := by decide +kernel
theorem d_G_over_6 : decode b_G_over 6 = .ok (.iload_n 2, 1) := by decide +kernel
theorem d_G_over_7 : decode b_G_over 7 = .ok (.invokevirtual 63, 3) := by decide +kernel
theorem d_G_over_10 : decode b_G_over 10 = .ok (.aload_n 0, 1) := by decide +kernel
theorem d_G_over_11 : decode b_G_over 11 = .ok (.invokevirtual 34, 3) := by decide +kernel
theorem d_G_over_14 : decode b_G_over 14 = .ok (.aload_n 0, 1) := by decide +kernel
theorem d_G_over_15 : decode b_G_over 15 = .ok (.getfield 13, 3) := by decide +kernel
theorem d_G_over_18 : decode b_G_over 18 = .ok (.iload_n 2, 1) := by decide +kernel
theorem d_G_over_19 : decode b_G_over 19 = .ok (.iaload, 1) := by decide +kernel
theorem d_G_over_20 : decode b_G_over 20 = .ok (.iconst 1, 1) := by decide +kernel
theorem d_G_over_21 : decode b_G_over 21 = .ok (.if_icmp .eq 5, 3) := by decide +kernel
theorem d_G_over_24 : decode b_G_over 24 = .ok (.iconst (-1), 1) := by decide +kernel
theorem d_G_over_25 : decode b_G_over 25 = .ok (.ireturn, 1) := by decide +kernel
theorem d_G_over_26 : decode b_G_over 26 = .ok (.aload_n 0, 1) := by decide +kernel
theorem d_G_over_27 : decode b_G_over 27 = .ok (.getfield 19, 3) := by decide +kernel
theorem d_G_over_30 : decode b_G_over 30 = .ok (.invokevirtual 37, 3) := by decide +kernel
theorem d_G_over_33 : decode b_G_over 33 = .ok (.iconst 0, 1) := by decide +kernel
theorem d_G_over_34 : decode b_G_over 34 = .ok (.istore_n 3, 1) := by decide +kernel
theorem d_G_over_35 : decode b_G_over 35 = .ok (.iload_n 3, 1) := by decide +kernel
theorem d_G_over_36 : decode b_G_over 36 = .ok (.aload_n 0, 1) := by decide +kernel
theorem d_G_over_37 : decode b_G_over 37 = .ok (.getfield 13, 3) := by decide +kernel
theorem d_G_over_40 : decode b_G_over 40 = .ok (.iload_n 1, 1) := by decide +kernel
theorem d_G_over_41 : decode b_G_over 41 = .ok (.iaload, 1) := by decide +kernel
theorem d_G_over_42 : decode b_G_over 42 = .ok (.if_icmp .ge 48, 3) := by decide +kernel
theorem d_G_over_45 : decode b_G_over 45 = .ok (.aload_n 0, 1) := by decide +kernel
theorem d_G_over_46 : decode b_G_over 46 = .ok (.getfield 19, 3) := by decide +kernel
theorem d_G_over_49 : decode b_G_over 49 = .ok (.aload_n 0, 1) := by decide +kernel
theorem d_G_over_50 : decode b_G_over 50 = .ok (.getfield 9, 3) := by decide +kernel
theorem d_G_over_53 : decode b_G_over 53 = .ok (.iload_n 1, 1) := by decide +kernel
theorem d_G_over_54 : decode b_G_over 54 = .ok (.iload_n 3, 1) := by decide +kernel
theorem d_G_over_55 : decode b_G_over 55 = .ok (.invokestatic 70, 3) := by decide +kernel
theorem d_G_over_58 : decode b_G_over 58 = .ok (.invokevirtual 74, 3) := by decide +kernel
theorem d_G_over_61 : decode b_G_over 61 = .ok (.aload_n 0, 1) := by decide +kernel
theorem d_G_over_62 : decode b_G_over 62 = .ok (.getfield 19, 3) := by decide +kernel
theorem d_G_over_65 : decode b_G_over 65 = .ok (.aload_n 0, 1) := by decide +kernel
theorem d_G_over_66 : decode b_G_over 66 = .ok (.getfield 9, 3) := by decide +kernel
theorem d_G_over_69 : decode b_G_over 69 = .ok (.iload_n 2, 1) := by decide +kernel
theorem d_G_over_70 : decode b_G_over 70 = .ok (.iconst 0, 1) := by decide +kernel
theorem d_G_over_71 : decode b_G_over 71 = .ok (.invokestatic 70, 3) := by decide +kernel
theorem d_G_over_74 : decode b_G_over 74 = .ok (.invokevirtual 81, 3) := by decide +kernel
theorem d_G_over_77 : decode b_G_over 77 = .ok (.aload_n 0, 1) := by decide +kernel
theorem d_G_over_78 : decode b_G_over 78 = .ok (.getfield 19, 3) := by decide +kernel
theorem d_G_over_81 : decode b_G_over 81 = .ok (.invokevirtual 47, 3) := by decide +kernel
theorem d_G_over_84 : decode b_G_over 84 = .ok (.iinc 3 1, 3) := by decide +kernel
theorem d_G_over_87 : decode b_G_over 87 = .ok (.goto (-52), 3) := by decide +kernel
theorem d_G_over_90 : decode b_G_over 90 = .ok (.aload_n 0, 1) := by decide +kernel
theorem d_G_over_91 : decode b_G_over 91 = .ok (.invokevirtual 50, 3) := by decide +kernel
theorem d_G_over_94 : decode b_G_over 94 = .ok (.ireturn, 1) := by decide +kernel
theorem d_G_derive_0 : decode b_G_derive 0 = .ok (.aload_n 0, 1) := by decide +kernel
theorem d_G_derive_1 : decode b_G_derive 1 = .ok (.iload_n 1, 1) := by decide +kernel
theorem d_G_derive_2 : decode b_G_derive 2 = .ok (.invokevirtual 63, 3) := by decide +kernel
theorem d_G_derive_5 : decode b_G_derive 5 = .ok (.aload_n 0, 1) := by decide +kernel
theorem d_G_derive_6 : decode b_G_derive 6 = .ok (.invokevirtual 34, 3) := by decide +kernel
theorem d_G_derive_9 : decode b_G_derive 9 = .ok (.aload_n 0, 1) := by decide +kernel
theorem d_G_derive_10 : decode b_G_derive 10 = .ok (.getfield 19, 3) := by decide +kernel
theorem d_G_derive_13 : decode b_G_derive 13 = .ok (.invokevirtual 37, 3) := by decide +kernel
theorem d_G_derive_16 : decode b_G_derive 16 = .ok (.iconst 0, 1) := by decide +kernel
theorem d_G_derive_17 : decode b_G_derive 17 = .ok (.istore_n 2, 1) := by decide +kernel
theorem d_G_derive_18 : decode b_G_derive 18 = .ok (.iload_n 2, 1) := by decide +kernel
theorem d_G_derive_19 : decode b_G_derive 19 = .ok (.aload_n 0, 1) := by decide +kernel
theorem d_G_derive_20 : decode b_G_derive 20 = .ok (.getfield 13, 3) := by decide +kernel
theorem d_G_derive_23 : decode b_G_derive 23 = .ok (.iload_n 1, 1) := by decide +kernel
theorem d_G_derive_24 : decode b_G_derive 24 = .ok (.iaload, 1) := by decide +kernel
theorem d_G_derive_25 : decode b_G_derive 25 = .ok (.if_icmp .ge 97, 3) := by decide +kernel
theorem d_G_derive_28 : decode b_G_derive 28 = .ok (.iload_n 1, 1) := by decide +kernel
theorem d_G_derive_29 : decode b_G_derive 29 = .ok (.iload_n 2, 1) := by decide +kernel
theorem d_G_derive_30 : decode b_G_derive 30 = .ok (.invokestatic 70, 3) := by decide +kernel
theorem d_G_derive_33 : decode b_G_derive 33 = .ok (.istore_n 3, 1) := by decide +kernel
theorem d_G_derive_34 : decode b_G_derive 34 = .ok (.aload_n 0, 1) := by decide +kernel
theorem d_G_derive_35 : decode b_G_derive 35 = .ok (.iload_n 3, 1) := by decide +kernel
theorem d_G_derive_36 : decode b_G_derive 36 = .ok (.iconst 2, 1) := by decide +kernel
theorem d_G_derive_37 : decode b_G_derive 37 = .ok (.aload_n 0, 1) := by decide +kernel
theorem d_G_derive_38 : decode b_G_derive 38 = .ok (.getfield 9, 3) := by decide +kernel
theorem d_G_derive_41 : decode b_G_derive 41 = .ok (.iload_n 3, 1) := by decide +kernel
theorem d_G_derive_42 : decode b_G_derive 42 = .ok (.iconst 0, 1) := by decide +kernel
theorem d_G_derive_43 : decode b_G_derive 43 = .ok (.iadd, 1) := by decide +kernel
theorem d_G_derive_44 : decode b_G_derive 44 = .ok (.iaload, 1) := by decide +kernel
theorem d_G_derive_45 : decode b_G_derive 45 = .ok (.imul, 1) := by decide +kernel
theorem d_G_derive_46 : decode b_G_derive 46 = .ok (.iconst 1, 1) := by decide +kernel
theorem d_G_derive_47 : decode b_G_derive 47 = .ok (.iconst 0, 1) := by decide +kernel
theorem d_G_derive_48 : decode b_G_derive 48 = .ok (.iconst 0, 1) := by decide +kernel
theorem d_G_derive_49 : decode b_G_derive 49 = .ok (.invokevirtual 84, 3) := by decide +kernel
theorem d_G_derive_52 : decode b_G_derive 52 = .ok (.aload_n 0, 1) := by decide +kernel
theorem d_G_derive_53 : decode b_G_derive 53 = .ok (.iload_n 3, 1) := by decide +kernel
theorem d_G_derive_54 : decode b_G_derive 54 = .ok (.aload_n 0, 1) := by decide +kernel
theorem d_G_derive_55 : decode b_G_derive 55 = .ok (.getfield 9, 3) := by decide +kernel
theorem d_G_derive_58 : decode b_G_derive 58 = .ok (.iload_n 3, 1) := by decide +kernel
theorem d_G_derive_59 : decode b_G_derive 59 = .ok (.iconst 1, 1) := by decide +kernel
theorem d_G_derive_60 : decode b_G_derive 60 = .ok (.iadd, 1) := by decide +kernel
theorem d_G_derive_61 : decode b_G_derive 61 = .ok (.iaload, 1) := by decide +kernel
theorem d_G_derive_62 : decode b_G_derive 62 = .ok (.iconst 0, 1) := by decide +kernel
theorem d_G_derive_63 : decode b_G_derive 63 = .ok (.iconst 0, 1) := by decide +kernel
theorem d_G_derive_64 : decode b_G_derive 64 = .ok (.iconst 0, 1) := by decide +kernel
theorem d_G_derive_65 : decode b_G_derive 65 = .ok (.invokevirtual 84, 3) := by decide +kernel
theorem d_G_derive_68 : decode b_G_derive 68 = .ok (.aload_n 0, 1) := by decide +kernel
theorem d_G_derive_69 : decode b_G_derive 69 = .ok (.iload_n 3, 1) := by decide +kernel
theorem d_G_derive_70 : decode b_G_derive 70 = .ok (.aload_n 0, 1) := by decide +kernel
theorem d_G_derive_71 : decode b_G_derive 71 = .ok (.getfield 9, 3) := by decide +kernel
theorem d_G_derive_74 : decode b_G_derive 74 = .ok (.iload_n 3, 1) := by decide +kernel
theorem d_G_derive_75 : decode b_G_derive 75 = .ok (.iconst 2, 1) := by decide +kernel
theorem d_G_derive_76 : decode b_G_derive 76 = .ok (.iadd, 1) := by decide +kernel
theorem d_G_derive_77 : decode b_G_derive 77 = .ok (.iaload, 1) := by decide +kernel
theorem d_G_derive_78 : decode b_G_derive 78 = .ok (.iconst (-1), 1) := by decide +kernel
theorem d_G_derive_79 : decode b_G_derive 79 = .ok (.iconst 0, 1) := by decide +kernel
theorem d_G_derive_80 : decode b_G_derive 80 = .ok (.iconst 0, 1) := by decide +kernel
theorem d_G_derive_81 : decode b_G_derive 81 = .ok (.invokevirtual 84, 3) := by decide +kernel
theorem d_G_derive_84 : decode b_G_derive 84 = .ok (.aload_n 0, 1) := by decide +kernel
theorem d_G_derive_85 : decode b_G_derive 85 = .ok (.iload_n 3, 1) := by decide +kernel
theorem d_G_derive_86 : decode b_G_derive 86 = .ok (.aload_n 0, 1) := by decide +kernel
theorem d_G_derive_87 : decode b_G_derive 87 = .ok (.getfield 9, 3) := by decide +kernel
theorem d_G_derive_90 : decode b_G_derive 90 = .ok (.iload_n 3, 1) := by decide +kernel
theorem d_G_derive_91 : decode b_G_derive 91 = .ok (.iconst 3, 1) := by decide +kernel
theorem d_G_derive_92 : decode b_G_derive 92 = .ok (.iadd, 1) := by decide +kernel
theorem d_G_derive_93 : decode b_G_derive 93 = .ok (.iaload, 1) := by decide +kernel
theorem d_G_derive_94 : decode b_G_derive 94 = .ok (.iconst (-1), 1) := by decide +kernel
theorem d_G_derive_95 : decode b_G_derive 95 = .ok (.iconst (-1), 1) := by decide +kernel
theorem d_G_derive_96 : decode b_G_derive 96 = .ok (.iconst 0, 1) := by decide +kernel
theorem d_G_derive_97 : decode b_G_derive 97 = .ok (.invokevirtual 84, 3) := by decide +kernel
theorem d_G_derive_100 : decode b_G_derive 100 = .ok (.aload_n 0, 1) := by decide +kernel
theorem d_G_derive_101 : decode b_G_derive 101 = .ok (.iload_n 3, 1) := by decide +kernel
theorem d_G_derive_102 : decode b_G_derive 102 = .ok (.aload_n 0, 1) := by decide +kernel
theorem d_G_derive_103 : decode b_G_derive 103 = .ok (.getfield 9, 3) := by decide +kernel
theorem d_G_derive_106 : decode b_G_derive 106 = .ok (.iload_n 3, 1) := by decide +kernel
theorem d_G_derive_107 : decode b_G_derive 107 = .ok (.iconst 4, 1) := by decide +kernel
theorem d_G_derive_108 : decode b_G_derive 108 = .ok (.iadd, 1) := by decide +kernel
theorem d_G_derive_109 : decode b_G_derive 109 = .ok (.iaload, 1) := by decide +kernel
theorem d_G_derive_110 : decode b_G_derive 110 = .ok (.iconst (-1), 1) := by decide +kernel
theorem d_G_derive_111 : decode b_G_derive 111 = .ok (.iconst (-1), 1) := by decide +kernel
theorem d_G_derive_112 : decode b_G_derive 112 = .ok (.iconst (-1), 1) := by decide +kernel
theorem d_G_derive_113 : decode b_G_derive 113 = .ok (.invokevirtual 84, 3) := by decide +kernel
theorem d_G_derive_116 : decode b_G_derive 116 = .ok (.iinc 2 1, 3) := by decide +kernel
theorem d_G_derive_119 : decode b_G_derive 119 = .ok (.goto (-101), 3) := by decide +kernel
theorem d_G_derive_122 : decode b_G_derive 122 = .ok (.aload_n 0, 1) := by decide +kernel
theorem d_G_derive_123 : decode b_G_derive 123 = .ok (.invokevirtual 50, 3) := by decide +kernel
theorem d_G_derive_126 : decode b_G_derive 126 = .ok (.ireturn, 1) := by decide +kernel
theorem d_G_logarithm_0 : decode b_G_logarithm 0 = .ok (.aload_n 0, 1) := by decide +kernel
theorem d_G_logarithm_1 : decode b_G_logarithm 1 = .ok (.iload_n 1, 1) := by decide +kernel
theorem d_G_logarithm_2 : decode b_G_logarithm 2 = .ok (.invokevirtual 63, 3) := by decide +kernel
theorem d_G_logarithm_5 : decode b_G_logarithm 5 = .ok (.aload_n 0, 1) := by decide +kernel
theorem d_G_logarithm_6 : decode b_G_logarithm 6 = .ok (.invokevirtual 34, 3) := by decide +kernel
theorem d_G_logarithm_9 : decode b_G_logarithm 9 = .ok (.aload_n 0, 1) := by decide +kernel
theorem d_G_logarithm_10 : decode b_G_logarithm 10 = .ok (.iload_n 1, 1) := by decide +kernel
theorem d_G_logarithm_11 : decode b_G_logarithm 11 = .ok (.invokevirtual 88, 3) := by decide +kernel
theorem d_G_logarithm_14 : decode b_G_logarithm 14 = .ok (.ifCond .ne 5, 3) := by decide +kernel
theorem d_G_logarithm_17 : decode b_G_logarithm 17 = .ok (.iconst (-1), 1) := by decide +kernel
theorem d_G_logarithm_18 : decode b_G_logarithm 18 = .ok (.ireturn, 1) := by decide +kernel
theorem d_G_logarithm_19 : decode b_G_logarithm 19 = .ok (.iload_n 1, 1) := by decide +kernel
theorem d_G_logarithm_20 : decode b_G_logarithm 20 = .ok (.iconst 0, 1) := by decide +kernel
theorem d_G_logarithm_21 : decode b_G_logarithm 21 = .ok (.invokestatic 70, 3) := by decide +kernel
theorem d_G_logarithm_24 : decode b_G_logarithm 24 = .ok (.istore_n 2, 1) := by decide +kernel
theorem d_G_logarithm_25 : decode b_G_logarithm 25 = .ok (.aload_n 0, 1) := by decide +kernel
theorem d_G_logarithm_26 : decode b_G_logarithm 26 = .ok (.getfield 19, 3) := by decide +kernel
theorem d_G_logarithm_29 : decode b_G_logarithm 29 = .ok (.invokevirtual 37, 3) := by decide +kernel
theorem d_G_logarithm_32 : decode b_G_logarithm 32 = .ok (.aload_n 0, 1) := by decide +kernel
theorem d_G_logarithm_33 : decode b_G_logarithm 33 = .ok (.aload_n 0, 1) := by decide +kernel
theorem d_G_logarithm_34 : decode b_G_logarithm 34 = .ok (.getfield 9, 3) := by decide +kernel
theorem d_G_logarithm_37 : decode b_G_logarithm 37 = .ok (.iload_n 2, 1) := by decide +kernel
theorem d_G_logarithm_38 : decode b_G_logarithm 38 = .ok (.iconst 0, 1) := by decide +kernel
theorem d_G_logarithm_39 : decode b_G_logarithm 39 = .ok (.iadd, 1) := by decide +kernel
theorem d_G_logarithm_40 : decode b_G_logarithm 40 = .ok (.iaload, 1) := by decide +kernel
theorem d_G_logarithm_41 : decode b_G_logarithm 41 = .ok (.iconst 2, 1) := by decide +kernel
theorem d_G_logarithm_42 : decode b_G_logarithm 42 = .ok (.iconst 2, 1) := by decide +kernel
theorem d_G_logarithm_43 : decode b_G_logarithm 43 = .ok (.invokevirtual 59, 3) := by decide +kernel
theorem d_G_logarithm_46 : decode b_G_logarithm 46 = .ok (.aload_n 0, 1) := by decide +kernel
theorem d_G_logarithm_47 : decode b_G_logarithm 47 = .ok (.aload_n 0, 1) := by decide +kernel
theorem d_G_logarithm_48 : decode b_G_logarithm 48 = .ok (.getfield 9, 3) := by decide +kernel
theorem d_G_logarithm_51 : decode b_G_logarithm 51 = .ok (.iload_n 2, 1) := by decide +kernel
theorem d_G_logarithm_52 : decode b_G_logarithm 52 = .ok (.iconst 1, 1) := by decide +kernel
theorem d_G_logarithm_53 : decode b_G_logarithm 53 = .ok (.iadd, 1) := by decide +kernel
theorem d_G_logarithm_54 : decode b_G_logarithm 54 = .ok (.iaload, 1) := by decide +kernel
theorem d_G_logarithm_55 : decode b_G_logarithm 55 = .ok (.iconst 2, 1) := by decide +kernel
theorem d_G_logarithm_56 : decode b_G_logarithm 56 = .ok (.iconst 1, 1) := by decide +kernel
theorem d_G_logarithm_57 : decode b_G_logarithm 57 = .ok (.invokevirtual 59, 3) := by decide +kernel
theorem d_G_logarithm_60 : decode b_G_logarithm 60 = .ok (.aload_n 0, 1) := by decide +kernel
theorem d_G_logarithm_61 : decode b_G_logarithm 61 = .ok (.aload_n 0, 1) := by decide +kernel
theorem d_G_logarithm_62 : decode b_G_logarithm 62 = .ok (.getfield 9, 3) := by decide +kernel
theorem d_G_logarithm_65 : decode b_G_logarithm 65 = .ok (.iload_n 2, 1) := by decide +kernel
theorem d_G_logarithm_66 : decode b_G_logarithm 66 = .ok (.iconst 2, 1) := by decide +kernel
theorem d_G_logarithm_67 : decode b_G_logarithm 67 = .ok (.iadd, 1) := by decide +kernel
theorem d_G_logarithm_68 : decode b_G_logarithm 68 = .ok (.iaload, 1) := by decide +kernel
theorem d_G_logarithm_69 : decode b_G_logarithm 69 = .ok (.iconst 3, 1) := by decide +kernel
theorem d_G_logarithm_70 : decode b_G_logarithm 70 = .ok (.iconst 1, 1) := by decide +kernel
theorem d_G_logarithm_71 : decode b_G_logarithm 71 = .ok (.invokevirtual 59, 3) := by decide +kernel
theorem d_G_logarithm_74 : decode b_G_logarithm 74 = .ok (.aload_n 0, 1) := by decide +kernel
theorem d_G_logarithm_75 : decode b_G_logarithm 75 = .ok (.aload_n 0, 1) := by decide +kernel
theorem d_G_logarithm_76 : decode b_G_logarithm 76 = .ok (.getfield 9, 3) := by decide +kernel
theorem d_G_logarithm_79 : decode b_G_logarithm 79 = .ok (.iload_n 2, 1) := by decide +kernel
theorem d_G_logarithm_80 : decode b_G_logarithm 80 = .ok (.iconst 3, 1) := by decide +kernel
theorem d_G_logarithm_81 : decode b_G_logarithm 81 = .ok (.iadd, 1) := by decide +kernel
theorem d_G_logarithm_82 : decode b_G_logarithm 82 = .ok (.iaload, 1) := by decide +kernel
theorem d_G_logarithm_83 : decode b_G_logarithm 83 = .ok (.iconst 4, 1) := by decide +kernel
theorem d_G_logarithm_84 : decode b_G_logarithm 84 = .ok (.iconst 1, 1) := by decide +kernel
theorem d_G_logarithm_85 : decode b_G_logarithm 85 = .ok (.invokevirtual 59, 3) := by decide +kernel
theorem d_G_logarithm_88 : decode b_G_logarithm 88 = .ok (.aload_n 0, 1) := by decide +kernel
theorem d_G_logarithm_89 : decode b_G_logarithm 89 = .ok (.invokevirtual 50, 3) := by decide +kernel
theorem d_G_logarithm_92 : decode b_G_logarithm 92 = .ok (.ireturn, 1) := by decide +kernel
theorem d_G_exponential_0 : decode b_G_exponential 0 = .ok (.aload_n 0, 1) := by decide +kernel
theorem d_G_exponential_1 : decode b_G_exponential 1 = .ok (.iload_n 1, 1) := by decide +kernel
theorem d_G_exponential_2 : decode b_G_exponential 2 = .ok (.invokevirtual 63, 3) := by decide +kernel
theorem d_G_exponential_5 : decode b_G_exponential 5 = .ok (.aload_n 0, 1) := by decide +kernel
theorem d_G_exponential_6 : decode b_G_exponential 6 = .ok (.invokevirtual 34, 3) := by decide +kernel
theorem d_G_exponential_9 : decode b_G_exponential 9 = .ok (.aload_n 0, 1) := by decide +kernel
theorem d_G_exponential_10 : decode b_G_exponential 10 = .ok (.getfield 19, 3) := by decide +kernel
theorem d_G_exponential_13 : decode b_G_exponential 13 = .ok (.invokevirtual 37, 3) := by decide +kernel
theorem d_G_exponential_16 : decode b_G_exponential 16 = .ok (.aload_n 0, 1) := by decide +kernel
theorem d_G_exponential_17 : decode b_G_exponential 17 = .ok (.getfield 19, 3) := by decide +kernel
theorem d_G_exponential_20 : decode b_G_exponential 20 = .ok (.invokevirtual 40, 3) := by decide +kernel
theorem d_G_exponential_23 : decode b_G_exponential 23 = .ok (.iconst 0, 1) := by decide +kernel
theorem d_G_exponential_24 : decode b_G_exponential 24 = .ok (.istore_n 2, 1) := by decide +kernel
theorem d_G_exponential_25 : decode b_G_exponential 25 = .ok (.iload_n 2, 1) := by decide +kernel
theorem d_G_exponential_26 : decode b_G_exponential 26 = .ok (.aload_n 0, 1) := by decide +kernel
theorem d_G_exponential_27 : decode b_G_exponential 27 = .ok (.getfield 13, 3) := by decide +kernel
theorem d_G_exponential_30 : decode b_G_exponential 30 = .ok (.iload_n 1, 1) := by decide +kernel
theorem d_G_exponential_31 : decode b_G_exponential 31 = .ok (.iaload, 1) := by decide +kernel
theorem d_G_exponential_32 : decode b_G_exponential 32 = .ok (.if_icmp .ge 46, 3) := by decide +kernel
theorem d_G_exponential_35 : decode b_G_exponential 35 = .ok (.iload_n 1, 1) := by decide +kernel
theorem d_G_exponential_36 : decode b_G_exponential 36 = .ok (.iload_n 2, 1) := by decide +kernel
theorem d_G_exponential_37 : decode b_G_exponential 37 = .ok (.invokestatic 70, 3) := by decide +kernel
theorem d_G_exponential_40 : decode b_G_exponential 40 = .ok (.istore_n 3, 1) := by decide +kernel
theorem d_G_exponential_41 : decode b_G_exponential 41 = .ok (.aload_n 0, 1) := by decide +kernel
theorem d_G_exponential_42 : decode b_G_exponential 42 = .ok (.iload_n 3, 1) := by decide +kernel
theorem d_G_exponential_43 : decode b_G_exponential 43 = .ok (.invokevirtual 92, 3) := by decide +kernel
theorem d_G_exponential_46 : decode b_G_exponential 46 = .ok (.istore 4, 2) := by decide +kernel
theorem d_G_exponential_48 : decode b_G_exponential 48 = .ok (.iload 4, 2) := by decide +kernel
theorem d_G_exponential_50 : decode b_G_exponential 50 = .ok (.ifCond .ge 5, 3) := by decide +kernel
theorem d_G_exponential_53 : decode b_G_exponential 53 = .ok (.iconst (-1), 1) := by decide +kernel
theorem d_G_exponential_54 : decode b_G_exponential 54 = .ok (.ireturn, 1) := by decide +kernel
theorem d_G_exponential_55 : decode b_G_exponential 55 = .ok (.aload_n 0, 1) := by decide +kernel
theorem d_G_exponential_56 : decode b_G_exponential 56 = .ok (.getfield 19, 3) := by decide +kernel
theorem d_G_exponential_59 : decode b_G_exponential 59 = .ok (.iload 4, 2) := by decide +kernel
theorem d_G_exponential_61 : decode b_G_exponential 61 = .ok (.aload_n 0, 1) := by decide +kernel
theorem d_G_exponential_62 : decode b_G_exponential 62 = .ok (.getfield 9, 3) := by decide +kernel
theorem d_G_exponential_65 : decode b_G_exponential 65 = .ok (.iload_n 3, 1) := by decide +kernel
theorem d_G_exponential_66 : decode b_G_exponential 66 = .ok (.iconst 5, 1) := by decide +kernel
theorem d_G_exponential_67 : decode b_G_exponential 67 = .ok (.iadd, 1) := by decide +kernel
theorem d_G_exponential_68 : decode b_G_exponential 68 = .ok (.iaload, 1) := by decide +kernel
theorem d_G_exponential_69 : decode b_G_exponential 69 = .ok (.invokevirtual 96, 3) := by decide +kernel
theorem d_G_exponential_72 : decode b_G_exponential 72 = .ok (.iinc 2 1, 3) := by decide +kernel
theorem d_G_exponential_75 : decode b_G_exponential 75 = .ok (.goto (-50), 3) := by decide +kernel
theorem d_G_exponential_78 : decode b_G_exponential 78 = .ok (.aload_n 0, 1) := by decide +kernel
theorem d_G_exponential_79 : decode b_G_exponential 79 = .ok (.getfield 19, 3) := by decide +kernel
theorem d_G_exponential_82 : decode b_G_exponential 82 = .ok (.invokevirtual 47, 3) := by decide +kernel
theorem d_G_exponential_85 : decode b_G_exponential 85 = .ok (.aload_n 0, 1) := by decide +kernel
theorem d_G_exponential_86 : decode b_G_exponential 86 = .ok (.invokevirtual 50, 3) := by decide +kernel
theorem d_G_exponential_89 : decode b_G_exponential 89 = .ok (.ireturn, 1) := by decide +kernel
theorem d_G_terms_0 : decode b_G_terms 0 = .ok (.aload_n 0, 1) := by decide +kernel
theorem d_G_terms_1 : decode b_G_terms 1 = .ok (.iload_n 1, 1) := by decide +kernel
theorem d_G_terms_2 : decode b_G_terms 2 = .ok (.invokevirtual 63, 3) := by decide +kernel
theorem d_G_terms_5 : decode b_G_terms 5 = .ok (.aload_n 0, 1) := by decide +kernel
theorem d_G_terms_6 : decode b_G_terms 6 = .ok (.getfield 13, 3) := by decide +kernel
theorem d_G_terms_9 : decode b_G_terms 9 = .ok (.iload_n 1, 1) := by decide +kernel
theorem d_G_terms_10 : decode b_G_terms 10 = .ok (.iaload, 1) := by decide +kernel
theorem d_G_terms_11 : decode b_G_terms 11 = .ok (.ireturn, 1) := by decide +kernel
theorem d_G_term_0 : decode b_G_term 0 = .ok (.aload_n 0, 1) := by decide +kernel
theorem d_G_term_1 : decode b_G_term 1 = .ok (.iload_n 1, 1) := by decide +kernel
theorem d_G_term_2 : decode b_G_term 2 = .ok (.invokevirtual 63, 3) := by decide +kernel
theorem d_G_term_5 : decode b_G_term 5 = .ok (.iload_n 2, 1) := by decide +kernel
theorem d_G_term_6 : decode b_G_term 6 = .ok (.ifCond .lt 13, 3) := by decide +kernel
theorem d_G_term_9 : decode b_G_term 9 = .ok (.iload_n 2, 1) := by decide +kernel
theorem d_G_term_10 : decode b_G_term 10 = .ok (.aload_n 0, 1) := by decide +kernel
theorem d_G_term_11 : decode b_G_term 11 = .ok (.getfield 13, 3) := by decide +kernel
theorem d_G_term_14 : decode b_G_term 14 = .ok (.iload_n 1, 1) := by decide +kernel
theorem d_G_term_15 : decode b_G_term 15 = .ok (.iaload, 1) := by decide +kernel
theorem d_G_term_16 : decode b_G_term 16 = .ok (.if_icmp .lt 13, 3) := by decide +kernel
theorem d_G_term_19 : decode b_G_term 19 = .ok (.new 54, 3) := by decide +kernel
theorem d_G_term_22 : decode b_G_term 22 = .ok (.dup, 1) := by decide +kernel
theorem d_G_term_23 : decode b_G_term 23 = .ok (.ldc 100, 2) := by decide +kernel
theorem d_G_term_25 : decode b_G_term 25 = .ok (.invokespecial 58, 3) := by decide +kernel
theorem d_G_term_28 : decode b_G_term 28 = .ok (.athrow, 1) := by decide +kernel
theorem d_G_term_29 : decode b_G_term 29 = .ok (.iload_n 3, 1) := by decide +kernel
theorem d_G_term_30 : decode b_G_term 30 = .ok (.ifCond .lt 9, 3) := by decide +kernel
theorem d_G_term_33 : decode b_G_term 33 = .ok (.iload_n 3, 1) := by decide +kernel
theorem d_G_term_34 : decode b_G_term 34 = .ok (.bipush 7, 2) := by decide +kernel
theorem d_G_term_36 : decode b_G_term 36 = .ok (.if_icmp .lt 13, 3) := by decide +kernel
theorem d_G_term_39 : decode b_G_term 39 = .ok (.new 54, 3) := by decide +kernel
theorem d_G_term_42 : decode b_G_term 42 = .ok (.dup, 1) := by decide +kernel
theorem d_G_term_43 : decode b_G_term 43 = .ok (.ldc 102, 2) := by decide +kernel
theorem d_G_term_45 : decode b_G_term 45 = .ok (.invokespecial 58, 3) := by decide +kernel
theorem d_G_term_48 : decode b_G_term 48 = .ok (.athrow, 1) := by decide +kernel
theorem d_G_term_49 : decode b_G_term 49 = .ok (.aload_n 0, 1) := by decide +kernel
theorem d_G_term_50 : decode b_G_term 50 = .ok (.getfield 9, 3) := by decide +kernel
theorem d_G_term_53 : decode b_G_term 53 = .ok (.iload_n 1, 1) := by decide +kernel
theorem d_G_term_54 : decode b_G_term 54 = .ok (.iload_n 2, 1) := by decide +kernel
theorem d_G_term_55 : decode b_G_term 55 = .ok (.invokestatic 70, 3) := by decide +kernel
theorem d_G_term_58 : decode b_G_term 58 = .ok (.iload_n 3, 1) := by decide +kernel
theorem d_G_term_59 : decode b_G_term 59 = .ok (.iadd, 1) := by decide +kernel
theorem d_G_term_60 : decode b_G_term 60 = .ok (.iaload, 1) := by decide +kernel
theorem d_G_term_61 : decode b_G_term 61 = .ok (.ireturn, 1) := by decide +kernel
theorem d_G_limit_0 : decode b_G_limit 0 = .ok (.aload_n 0, 1) := by decide +kernel
theorem d_G_limit_1 : decode b_G_limit 1 = .ok (.iload_n 1, 1) := by decide +kernel
theorem d_G_limit_2 : decode b_G_limit 2 = .ok (.invokevirtual 63, 3) := by decide +kernel
theorem d_G_limit_5 : decode b_G_limit 5 = .ok (.aload_n 0, 1) := by decide +kernel
theorem d_G_limit_6 : decode b_G_limit 6 = .ok (.iload_n 1, 1) := by decide +kernel
theorem d_G_limit_7 : decode b_G_limit 7 = .ok (.invokevirtual 104, 3) := by decide +kernel
theorem d_G_limit_10 : decode b_G_limit 10 = .ok (.ireturn, 1) := by decide +kernel
theorem d_G_value_0 : decode b_G_value 0 = .ok (.aload_n 0, 1) := by decide +kernel
theorem d_G_value_1 : decode b_G_value 1 = .ok (.iload_n 1, 1) := by decide +kernel
theorem d_G_value_2 : decode b_G_value 2 = .ok (.invokevirtual 63, 3) := by decide +kernel
theorem d_G_value_5 : decode b_G_value 5 = .ok (.aload_n 0, 1) := by decide +kernel
theorem d_G_value_6 : decode b_G_value 6 = .ok (.iload_n 1, 1) := by decide +kernel
theorem d_G_value_7 : decode b_G_value 7 = .ok (.invokevirtual 104, 3) := by decide +kernel
theorem d_G_value_10 : decode b_G_value 10 = .ok (.ifCond .eq 13, 3) := by decide +kernel
theorem d_G_value_13 : decode b_G_value 13 = .ok (.new 107, 3) := by decide +kernel
theorem d_G_value_16 : decode b_G_value 16 = .ok (.dup, 1) := by decide +kernel
theorem d_G_value_17 : decode b_G_value 17 = .ok (.ldc 109, 2) := by decide +kernel
theorem d_G_value_19 : decode b_G_value 19 = .ok (.invokespecial 111, 3) := by decide +kernel
theorem d_G_value_22 : decode b_G_value 22 = .ok (.athrow, 1) := by decide +kernel
theorem d_G_value_23 : decode b_G_value 23 = .ok (.iload_n 2, 1) := by decide +kernel
theorem d_G_value_24 : decode b_G_value 24 = .ok (.invokestatic 112, 3) := by decide +kernel
theorem d_G_value_27 : decode b_G_value 27 = .ok (.iload_n 1, 1) := by decide +kernel
theorem d_G_value_28 : decode b_G_value 28 = .ok (.iconst 0, 1) := by decide +kernel
theorem d_G_value_29 : decode b_G_value 29 = .ok (.invokestatic 70, 3) := by decide +kernel
theorem d_G_value_32 : decode b_G_value 32 = .ok (.istore_n 3, 1) := by decide +kernel
theorem d_G_value_33 : decode b_G_value 33 = .ok (.aload_n 0, 1) := by decide +kernel
theorem d_G_value_34 : decode b_G_value 34 = .ok (.getfield 13, 3) := by decide +kernel
theorem d_G_value_37 : decode b_G_value 37 = .ok (.iload_n 1, 1) := by decide +kernel
theorem d_G_value_38 : decode b_G_value 38 = .ok (.iaload, 1) := by decide +kernel
theorem d_G_value_39 : decode b_G_value 39 = .ok (.ifCond .le 29, 3) := by decide +kernel
theorem d_G_value_42 : decode b_G_value 42 = .ok (.aload_n 0, 1) := by decide +kernel
theorem d_G_value_43 : decode b_G_value 43 = .ok (.iload_n 3, 1) := by decide +kernel
theorem d_G_value_44 : decode b_G_value 44 = .ok (.invokevirtual 115, 3) := by decide +kernel
theorem d_G_value_47 : decode b_G_value 47 = .ok (.ifCond .ne 21, 3) := by decide +kernel
theorem d_G_value_50 : decode b_G_value 50 = .ok (.aload_n 0, 1) := by decide +kernel
theorem d_G_value_51 : decode b_G_value 51 = .ok (.getfield 9, 3) := by decide +kernel
theorem d_G_value_54 : decode b_G_value 54 = .ok (.iload_n 3, 1) := by decide +kernel
theorem d_G_value_55 : decode b_G_value 55 = .ok (.iload_n 2, 1) := by decide +kernel
theorem d_G_value_56 : decode b_G_value 56 = .ok (.ifCond .ne 7, 3) := by decide +kernel
theorem d_G_value_59 : decode b_G_value 59 = .ok (.iconst 5, 1) := by decide +kernel
theorem d_G_value_60 : decode b_G_value 60 = .ok (.goto 5, 3) := by decide +kernel
theorem d_G_value_63 : decode b_G_value 63 = .ok (.bipush 6, 2) := by decide +kernel
theorem d_G_value_65 : decode b_G_value 65 = .ok (.iadd, 1) := by decide +kernel
theorem d_G_value_66 : decode b_G_value 66 = .ok (.iaload, 1) := by decide +kernel
theorem d_G_value_67 : decode b_G_value 67 = .ok (.ireturn, 1) := by decide +kernel
theorem d_G_value_68 : decode b_G_value 68 = .ok (.iload_n 2, 1) := by decide +kernel
theorem d_G_value_69 : decode b_G_value 69 = .ok (.ifCond .ne 7, 3) := by decide +kernel
theorem d_G_value_72 : decode b_G_value 72 = .ok (.iconst 0, 1) := by decide +kernel
theorem d_G_value_73 : decode b_G_value 73 = .ok (.goto 4, 3) := by decide +kernel
theorem d_G_value_76 : decode b_G_value 76 = .ok (.iconst 1, 1) := by decide +kernel
theorem d_G_value_77 : decode b_G_value 77 = .ok (.ireturn, 1) := by decide +kernel
theorem d_G_compare_0 : decode b_G_compare 0 = .ok (.aload_n 0, 1) := by decide +kernel
theorem d_G_compare_1 : decode b_G_compare 1 = .ok (.iload_n 1, 1) := by decide +kernel
theorem d_G_compare_2 : decode b_G_compare 2 = .ok (.invokevirtual 63, 3) := by decide +kernel
theorem d_G_compare_5 : decode b_G_compare 5 = .ok (.aload_n 0, 1) := by decide +kernel
theorem d_G_compare_6 : decode b_G_compare 6 = .ok (.iload_n 2, 1) := by decide +kernel
theorem d_G_compare_7 : decode b_G_compare 7 = .ok (.invokevirtual 63, 3) := by decide +kernel
theorem d_G_compare_10 : decode b_G_compare 10 = .ok (.aload_n 0, 1) := by decide +kernel
theorem d_G_compare_11 : decode b_G_compare 11 = .ok (.iload_n 1, 1) := by decide +kernel
theorem d_G_compare_12 : decode b_G_compare 12 = .ok (.iload_n 2, 1) := by decide +kernel
theorem d_G_compare_13 : decode b_G_compare 13 = .ok (.invokevirtual 118, 3) := by decide +kernel
theorem d_G_compare_16 : decode b_G_compare 16 = .ok (.ireturn, 1) := by decide +kernel
theorem d_G_ratio_0 : decode b_G_ratio 0 = .ok (.aload_n 0, 1) := by decide +kernel
theorem d_G_ratio_1 : decode b_G_ratio 1 = .ok (.iload_n 1, 1) := by decide +kernel
theorem d_G_ratio_2 : decode b_G_ratio 2 = .ok (.invokevirtual 63, 3) := by decide +kernel
theorem d_G_ratio_5 : decode b_G_ratio 5 = .ok (.aload_n 0, 1) := by decide +kernel
theorem d_G_ratio_6 : decode b_G_ratio 6 = .ok (.iload_n 2, 1) := by decide +kernel
theorem d_G_ratio_7 : decode b_G_ratio 7 = .ok (.invokevirtual 63, 3) := by decide +kernel
theorem d_G_ratio_10 : decode b_G_ratio 10 = .ok (.aload_n 0, 1) := by decide +kernel
theorem d_G_ratio_11 : decode b_G_ratio 11 = .ok (.getfield 13, 3) := by decide +kernel
theorem d_G_ratio_14 : decode b_G_ratio 14 = .ok (.iload_n 1, 1) := by decide +kernel
theorem d_G_ratio_15 : decode b_G_ratio 15 = .ok (.iaload, 1) := by decide +kernel
theorem d_G_ratio_16 : decode b_G_ratio 16 = .ok (.ifCond .eq 21, 3) := by decide +kernel
theorem d_G_ratio_19 : decode b_G_ratio 19 = .ok (.aload_n 0, 1) := by decide +kernel
theorem d_G_ratio_20 : decode b_G_ratio 20 = .ok (.getfield 13, 3) := by decide +kernel
theorem d_G_ratio_23 : decode b_G_ratio 23 = .ok (.iload_n 2, 1) := by decide +kernel
theorem d_G_ratio_24 : decode b_G_ratio 24 = .ok (.iaload, 1) := by decide +kernel
theorem d_G_ratio_25 : decode b_G_ratio 25 = .ok (.ifCond .eq 12, 3) := by decide +kernel
theorem d_G_ratio_28 : decode b_G_ratio 28 = .ok (.aload_n 0, 1) := by decide +kernel
theorem d_G_ratio_29 : decode b_G_ratio 29 = .ok (.iload_n 1, 1) := by decide +kernel
theorem d_G_ratio_30 : decode b_G_ratio 30 = .ok (.iload_n 2, 1) := by decide +kernel
theorem d_G_ratio_31 : decode b_G_ratio 31 = .ok (.invokevirtual 118, 3) := by decide +kernel
theorem d_G_ratio_34 : decode b_G_ratio 34 = .ok (.ifCond .eq 13, 3) := by decide +kernel
theorem d_G_ratio_37 : decode b_G_ratio 37 = .ok (.new 107, 3) := by decide +kernel
theorem d_G_ratio_40 : decode b_G_ratio 40 = .ok (.dup, 1) := by decide +kernel
theorem d_G_ratio_41 : decode b_G_ratio 41 = .ok (.ldc 121, 2) := by decide +kernel
theorem d_G_ratio_43 : decode b_G_ratio 43 = .ok (.invokespecial 111, 3) := by decide +kernel
theorem d_G_ratio_46 : decode b_G_ratio 46 = .ok (.athrow, 1) := by decide +kernel
theorem d_G_ratio_47 : decode b_G_ratio 47 = .ok (.iload_n 3, 1) := by decide +kernel
theorem d_G_ratio_48 : decode b_G_ratio 48 = .ok (.invokestatic 112, 3) := by decide +kernel
theorem d_G_ratio_51 : decode b_G_ratio 51 = .ok (.iload_n 1, 1) := by decide +kernel
theorem d_G_ratio_52 : decode b_G_ratio 52 = .ok (.iconst 0, 1) := by decide +kernel
theorem d_G_ratio_53 : decode b_G_ratio 53 = .ok (.invokestatic 70, 3) := by decide +kernel
theorem d_G_ratio_56 : decode b_G_ratio 56 = .ok (.istore 4, 2) := by decide +kernel
theorem d_G_ratio_58 : decode b_G_ratio 58 = .ok (.iload_n 2, 1) := by decide +kernel
theorem d_G_ratio_59 : decode b_G_ratio 59 = .ok (.iconst 0, 1) := by decide +kernel
theorem d_G_ratio_60 : decode b_G_ratio 60 = .ok (.invokestatic 70, 3) := by decide +kernel
theorem d_G_ratio_63 : decode b_G_ratio 63 = .ok (.istore 5, 2) := by decide +kernel
theorem d_G_ratio_65 : decode b_G_ratio 65 = .ok (.aload_n 0, 1) := by decide +kernel
theorem d_G_ratio_66 : decode b_G_ratio 66 = .ok (.getfield 9, 3) := by decide +kernel
theorem d_G_ratio_69 : decode b_G_ratio 69 = .ok (.iload 4, 2) := by decide +kernel
theorem d_G_ratio_71 : decode b_G_ratio 71 = .ok (.iconst 5, 1) := by decide +kernel
theorem d_G_ratio_72 : decode b_G_ratio 72 = .ok (.iadd, 1) := by decide +kernel
theorem d_G_ratio_73 : decode b_G_ratio 73 = .ok (.iaload, 1) := by decide +kernel
theorem d_G_ratio_74 : decode b_G_ratio 74 = .ok (.i2l, 1) := by decide +kernel
theorem d_G_ratio_75 : decode b_G_ratio 75 = .ok (.aload_n 0, 1) := by decide +kernel
theorem d_G_ratio_76 : decode b_G_ratio 76 = .ok (.getfield 9, 3) := by decide +kernel
theorem d_G_ratio_79 : decode b_G_ratio 79 = .ok (.iload 5, 2) := by decide +kernel
theorem d_G_ratio_81 : decode b_G_ratio 81 = .ok (.bipush 6, 2) := by decide +kernel
theorem d_G_ratio_83 : decode b_G_ratio 83 = .ok (.iadd, 1) := by decide +kernel
theorem d_G_ratio_84 : decode b_G_ratio 84 = .ok (.iaload, 1) := by decide +kernel
theorem d_G_ratio_85 : decode b_G_ratio 85 = .ok (.i2l, 1) := by decide +kernel
theorem d_G_ratio_86 : decode b_G_ratio 86 = .ok (.lmul, 1) := by decide +kernel
theorem d_G_ratio_87 : decode b_G_ratio 87 = .ok (.lstore 6, 2) := by decide +kernel
theorem d_G_ratio_89 : decode b_G_ratio 89 = .ok (.aload_n 0, 1) := by decide +kernel
theorem d_G_ratio_90 : decode b_G_ratio 90 = .ok (.getfield 9, 3) := by decide +kernel
theorem d_G_ratio_93 : decode b_G_ratio 93 = .ok (.iload 4, 2) := by decide +kernel
theorem d_G_ratio_95 : decode b_G_ratio 95 = .ok (.bipush 6, 2) := by decide +kernel
theorem d_G_ratio_97 : decode b_G_ratio 97 = .ok (.iadd, 1) := by decide +kernel
theorem d_G_ratio_98 : decode b_G_ratio 98 = .ok (.iaload, 1) := by decide +kernel
theorem d_G_ratio_99 : decode b_G_ratio 99 = .ok (.i2l, 1) := by decide +kernel
theorem d_G_ratio_100 : decode b_G_ratio 100 = .ok (.aload_n 0, 1) := by decide +kernel
theorem d_G_ratio_101 : decode b_G_ratio 101 = .ok (.getfield 9, 3) := by decide +kernel
theorem d_G_ratio_104 : decode b_G_ratio 104 = .ok (.iload 5, 2) := by decide +kernel
theorem d_G_ratio_106 : decode b_G_ratio 106 = .ok (.iconst 5, 1) := by decide +kernel
theorem d_G_ratio_107 : decode b_G_ratio 107 = .ok (.iadd, 1) := by decide +kernel
theorem d_G_ratio_108 : decode b_G_ratio 108 = .ok (.iaload, 1) := by decide +kernel
theorem d_G_ratio_109 : decode b_G_ratio 109 = .ok (.i2l, 1) := by decide +kernel
theorem d_G_ratio_110 : decode b_G_ratio 110 = .ok (.lmul, 1) := by decide +kernel
theorem d_G_ratio_111 : decode b_G_ratio 111 = .ok (.lstore 8, 2) := by decide +kernel
theorem d_G_ratio_113 : decode b_G_ratio 113 = .ok (.lload 6, 2) := by decide +kernel
theorem d_G_ratio_115 : decode b_G_ratio 115 = .ok (.lload 8, 2) := by decide +kernel
theorem d_G_ratio_117 : decode b_G_ratio 117 = .ok (.invokestatic 123, 3) := by decide +kernel
theorem d_G_ratio_120 : decode b_G_ratio 120 = .ok (.lstore 10, 2) := by decide +kernel
theorem d_G_ratio_122 : decode b_G_ratio 122 = .ok (.iload_n 3, 1) := by decide +kernel
theorem d_G_ratio_123 : decode b_G_ratio 123 = .ok (.ifCond .ne 11, 3) := by decide +kernel
theorem d_G_ratio_126 : decode b_G_ratio 126 = .ok (.lload 6, 2) := by decide +kernel
theorem d_G_ratio_128 : decode b_G_ratio 128 = .ok (.lload 10, 2) := by decide +kernel
theorem d_G_ratio_130 : decode b_G_ratio 130 = .ok (.ldiv, 1) := by decide +kernel
theorem d_G_ratio_131 : decode b_G_ratio 131 = .ok (.goto 8, 3) := by decide +kernel
theorem d_G_ratio_134 : decode b_G_ratio 134 = .ok (.lload 8, 2) := by decide +kernel
theorem d_G_ratio_136 : decode b_G_ratio 136 = .ok (.lload 10, 2) := by decide +kernel
theorem d_G_ratio_138 : decode b_G_ratio 138 = .ok (.ldiv, 1) := by decide +kernel
theorem d_G_ratio_139 : decode b_G_ratio 139 = .ok (.lreturn, 1) := by decide +kernel
theorem d_G_sign_0 : decode b_G_sign 0 = .ok (.aload_n 0, 1) := by decide +kernel
theorem d_G_sign_1 : decode b_G_sign 1 = .ok (.iload_n 1, 1) := by decide +kernel
theorem d_G_sign_2 : decode b_G_sign 2 = .ok (.invokevirtual 63, 3) := by decide +kernel
theorem d_G_sign_5 : decode b_G_sign 5 = .ok (.aload_n 0, 1) := by decide +kernel
theorem d_G_sign_6 : decode b_G_sign 6 = .ok (.getfield 13, 3) := by decide +kernel
theorem d_G_sign_9 : decode b_G_sign 9 = .ok (.iload_n 1, 1) := by decide +kernel
theorem d_G_sign_10 : decode b_G_sign 10 = .ok (.iaload, 1) := by decide +kernel
theorem d_G_sign_11 : decode b_G_sign 11 = .ok (.ifCond .ne 7, 3) := by decide +kernel
theorem d_G_sign_14 : decode b_G_sign 14 = .ok (.iconst 0, 1) := by decide +kernel
theorem d_G_sign_15 : decode b_G_sign 15 = .ok (.goto 12, 3) := by decide +kernel
theorem d_G_sign_18 : decode b_G_sign 18 = .ok (.aload_n 0, 1) := by decide +kernel
theorem d_G_sign_19 : decode b_G_sign 19 = .ok (.iload_n 1, 1) := by decide +kernel
theorem d_G_sign_20 : decode b_G_sign 20 = .ok (.iconst 0, 1) := by decide +kernel
theorem d_G_sign_21 : decode b_G_sign 21 = .ok (.invokestatic 70, 3) := by decide +kernel
theorem d_G_sign_24 : decode b_G_sign 24 = .ok (.invokevirtual 127, 3) := by decide +kernel
theorem d_G_sign_27 : decode b_G_sign 27 = .ok (.ireturn, 1) := by decide +kernel
theorem d_G_same_0 : decode b_G_same 0 = .ok (.aload_n 0, 1) := by decide +kernel
theorem d_G_same_1 : decode b_G_same 1 = .ok (.iload_n 1, 1) := by decide +kernel
theorem d_G_same_2 : decode b_G_same 2 = .ok (.invokevirtual 63, 3) := by decide +kernel
theorem d_G_same_5 : decode b_G_same 5 = .ok (.aload_n 0, 1) := by decide +kernel
theorem d_G_same_6 : decode b_G_same 6 = .ok (.iload_n 2, 1) := by decide +kernel
theorem d_G_same_7 : decode b_G_same 7 = .ok (.invokevirtual 63, 3) := by decide +kernel
theorem d_G_same_10 : decode b_G_same 10 = .ok (.aload_n 0, 1) := by decide +kernel
theorem d_G_same_11 : decode b_G_same 11 = .ok (.getfield 13, 3) := by decide +kernel
theorem d_G_same_14 : decode b_G_same 14 = .ok (.iload_n 1, 1) := by decide +kernel
theorem d_G_same_15 : decode b_G_same 15 = .ok (.iaload, 1) := by decide +kernel
theorem d_G_same_16 : decode b_G_same 16 = .ok (.aload_n 0, 1) := by decide +kernel
theorem d_G_same_17 : decode b_G_same 17 = .ok (.getfield 13, 3) := by decide +kernel
theorem d_G_same_20 : decode b_G_same 20 = .ok (.iload_n 2, 1) := by decide +kernel
theorem d_G_same_21 : decode b_G_same 21 = .ok (.iaload, 1) := by decide +kernel
theorem d_G_same_22 : decode b_G_same 22 = .ok (.if_icmp .eq 5, 3) := by decide +kernel
theorem d_G_same_25 : decode b_G_same 25 = .ok (.iconst 0, 1) := by decide +kernel
theorem d_G_same_26 : decode b_G_same 26 = .ok (.ireturn, 1) := by decide +kernel
theorem d_G_same_27 : decode b_G_same 27 = .ok (.iload_n 1, 1) := by decide +kernel
theorem d_G_same_28 : decode b_G_same 28 = .ok (.iconst 0, 1) := by decide +kernel
theorem d_G_same_29 : decode b_G_same 29 = .ok (.invokestatic 70, 3) := by decide +kernel
theorem d_G_same_32 : decode b_G_same 32 = .ok (.istore_n 3, 1) := by decide +kernel
theorem d_G_same_33 : decode b_G_same 33 = .ok (.iload_n 2, 1) := by decide +kernel
theorem d_G_same_34 : decode b_G_same 34 = .ok (.iconst 0, 1) := by decide +kernel
theorem d_G_same_35 : decode b_G_same 35 = .ok (.invokestatic 70, 3) := by decide +kernel
theorem d_G_same_38 : decode b_G_same 38 = .ok (.istore 4, 2) := by decide +kernel
theorem d_G_same_40 : decode b_G_same 40 = .ok (.iconst 0, 1) := by decide +kernel
theorem d_G_same_41 : decode b_G_same 41 = .ok (.istore 5, 2) := by decide +kernel
theorem d_G_same_43 : decode b_G_same 43 = .ok (.iload 5, 2) := by decide +kernel
theorem d_G_same_45 : decode b_G_same 45 = .ok (.aload_n 0, 1) := by decide +kernel
theorem d_G_same_46 : decode b_G_same 46 = .ok (.getfield 13, 3) := by decide +kernel
theorem d_G_same_49 : decode b_G_same 49 = .ok (.iload_n 1, 1) := by decide +kernel
theorem d_G_same_50 : decode b_G_same 50 = .ok (.iaload, 1) := by decide +kernel
theorem d_G_same_51 : decode b_G_same 51 = .ok (.bipush 7, 2) := by decide +kernel
theorem d_G_same_53 : decode b_G_same 53 = .ok (.imul, 1) := by decide +kernel
theorem d_G_same_54 : decode b_G_same 54 = .ok (.if_icmp .ge 33, 3) := by decide +kernel
theorem d_G_same_57 : decode b_G_same 57 = .ok (.aload_n 0, 1) := by decide +kernel
theorem d_G_same_58 : decode b_G_same 58 = .ok (.getfield 9, 3) := by decide +kernel
theorem d_G_same_61 : decode b_G_same 61 = .ok (.iload_n 3, 1) := by decide +kernel
theorem d_G_same_62 : decode b_G_same 62 = .ok (.iload 5, 2) := by decide +kernel
theorem d_G_same_64 : decode b_G_same 64 = .ok (.iadd, 1) := by decide +kernel
theorem d_G_same_65 : decode b_G_same 65 = .ok (.iaload, 1) := by decide +kernel
theorem d_G_same_66 : decode b_G_same 66 = .ok (.aload_n 0, 1) := by decide +kernel
theorem d_G_same_67 : decode b_G_same 67 = .ok (.getfield 9, 3) := by decide +kernel
theorem d_G_same_70 : decode b_G_same 70 = .ok (.iload 4, 2) := by decide +kernel
theorem d_G_same_72 : decode b_G_same 72 = .ok (.iload 5, 2) := by decide +kernel
theorem d_G_same_74 : decode b_G_same 74 = .ok (.iadd, 1) := by decide +kernel
theorem d_G_same_75 : decode b_G_same 75 = .ok (.iaload, 1) := by decide +kernel
theorem d_G_same_76 : decode b_G_same 76 = .ok (.if_icmp .eq 5, 3) := by decide +kernel
theorem d_G_same_79 : decode b_G_same 79 = .ok (.iconst 0, 1) := by decide +kernel
theorem d_G_same_80 : decode b_G_same 80 = .ok (.ireturn, 1) := by decide +kernel
theorem d_G_same_81 : decode b_G_same 81 = .ok (.iinc 5 1, 3) := by decide +kernel
theorem d_G_same_84 : decode b_G_same 84 = .ok (.goto (-41), 3) := by decide +kernel
theorem d_G_same_87 : decode b_G_same 87 = .ok (.iconst 1, 1) := by decide +kernel
theorem d_G_same_88 : decode b_G_same 88 = .ok (.ireturn, 1) := by decide +kernel
theorem d_G_fastest_0 : decode b_G_fastest 0 = .ok (.iconst (-1), 1) := by decide +kernel
theorem d_G_fastest_1 : decode b_G_fastest 1 = .ok (.istore_n 2, 1) := by decide +kernel
theorem d_G_fastest_2 : decode b_G_fastest 2 = .ok (.iconst 0, 1) := by decide +kernel
theorem d_G_fastest_3 : decode b_G_fastest 3 = .ok (.istore_n 3, 1) := by decide +kernel
theorem d_G_fastest_4 : decode b_G_fastest 4 = .ok (.iload_n 3, 1) := by decide +kernel
theorem d_G_fastest_5 : decode b_G_fastest 5 = .ok (.bipush 32, 2) := by decide +kernel
theorem d_G_fastest_7 : decode b_G_fastest 7 = .ok (.if_icmp .ge 51, 3) := by decide +kernel
theorem d_G_fastest_10 : decode b_G_fastest 10 = .ok (.iload_n 1, 1) := by decide +kernel
theorem d_G_fastest_11 : decode b_G_fastest 11 = .ok (.iload_n 3, 1) := by decide +kernel
theorem d_G_fastest_12 : decode b_G_fastest 12 = .ok (.iushr, 1) := by decide +kernel
theorem d_G_fastest_13 : decode b_G_fastest 13 = .ok (.iconst 1, 1) := by decide +kernel
theorem d_G_fastest_14 : decode b_G_fastest 14 = .ok (.iand, 1) := by decide +kernel
theorem d_G_fastest_15 : decode b_G_fastest 15 = .ok (.iconst 1, 1) := by decide +kernel
theorem d_G_fastest_16 : decode b_G_fastest 16 = .ok (.if_icmp .ne 36, 3) := by decide +kernel
theorem d_G_fastest_19 : decode b_G_fastest 19 = .ok (.iload_n 3, 1) := by decide +kernel
theorem d_G_fastest_20 : decode b_G_fastest 20 = .ok (.aload_n 0, 1) := by decide +kernel
theorem d_G_fastest_21 : decode b_G_fastest 21 = .ok (.getfield 23, 3) := by decide +kernel
theorem d_G_fastest_24 : decode b_G_fastest 24 = .ok (.if_icmp .lt 13, 3) := by decide +kernel
theorem d_G_fastest_27 : decode b_G_fastest 27 = .ok (.new 54, 3) := by decide +kernel
theorem d_G_fastest_30 : decode b_G_fastest 30 = .ok (.dup, 1) := by decide +kernel
theorem d_G_fastest_31 : decode b_G_fastest 31 = .ok (.ldc 130, 2) := by decide +kernel
theorem d_G_fastest_33 : decode b_G_fastest 33 = .ok (.invokespecial 58, 3) := by decide +kernel
theorem d_G_fastest_36 : decode b_G_fastest 36 = .ok (.athrow, 1) := by decide +kernel
theorem d_G_fastest_37 : decode b_G_fastest 37 = .ok (.iload_n 2, 1) := by decide +kernel
theorem d_G_fastest_38 : decode b_G_fastest 38 = .ok (.ifCond .lt 12, 3) := by decide +kernel
theorem d_G_fastest_41 : decode b_G_fastest 41 = .ok (.aload_n 0, 1) := by decide +kernel
theorem d_G_fastest_42 : decode b_G_fastest 42 = .ok (.iload_n 3, 1) := by decide +kernel
theorem d_G_fastest_43 : decode b_G_fastest 43 = .ok (.iload_n 2, 1) := by decide +kernel
theorem d_G_fastest_44 : decode b_G_fastest 44 = .ok (.invokevirtual 118, 3) := by decide +kernel
theorem d_G_fastest_47 : decode b_G_fastest 47 = .ok (.ifCond .le 5, 3) := by decide +kernel
theorem d_G_fastest_50 : decode b_G_fastest 50 = .ok (.iload_n 3, 1) := by decide +kernel
theorem d_G_fastest_51 : decode b_G_fastest 51 = .ok (.istore_n 2, 1) := by decide +kernel
theorem d_G_fastest_52 : decode b_G_fastest 52 = .ok (.iinc 3 1, 3) := by decide +kernel
theorem d_G_fastest_55 : decode b_G_fastest 55 = .ok (.goto (-51), 3) := by decide +kernel
theorem d_G_fastest_58 : decode b_G_fastest 58 = .ok (.iload_n 2, 1) := by decide +kernel
theorem d_G_fastest_59 : decode b_G_fastest 59 = .ok (.ireturn, 1) := by decide +kernel
theorem d_G_count_0 : decode b_G_count 0 = .ok (.aload_n 0, 1) := by decide +kernel
theorem d_G_count_1 : decode b_G_count 1 = .ok (.getfield 23, 3) := by decide +kernel
theorem d_G_count_4 : decode b_G_count 4 = .ok (.ireturn, 1) := by decide +kernel
theorem d_G_requireFunction_0 : decode b_G_requireFunction 0 = .ok (.iload_n 1, 1) := by decide +kernel
theorem d_G_requireFunction_1 : decode b_G_requireFunction 1 = .ok (.ifCond .lt 11, 3) := by decide +kernel
theorem d_G_requireFunction_4 : decode b_G_requireFunction 4 = .ok (.iload_n 1, 1) := by decide +kernel
theorem d_G_requireFunction_5 : decode b_G_requireFunction 5 = .ok (.aload_n 0, 1) := by decide +kernel
theorem d_G_requireFunction_6 : decode b_G_requireFunction 6 = .ok (.getfield 23, 3) := by decide +kernel
theorem d_G_requireFunction_9 : decode b_G_requireFunction 9 = .ok (.if_icmp .lt 13, 3) := by decide +kernel
theorem d_G_requireFunction_12 : decode b_G_requireFunction 12 = .ok (.new 132, 3) := by decide +kernel
theorem d_G_requireFunction_15 : decode b_G_requireFunction 15 = .ok (.dup, 1) := by decide +kernel
theorem d_G_requireFunction_16 : decode b_G_requireFunction 16 = .ok (.ldc 134, 2) := by decide +kernel
theorem d_G_requireFunction_18 : decode b_G_requireFunction 18 = .ok (.invokespecial 136, 3) := by decide +kernel
theorem d_G_requireFunction_21 : decode b_G_requireFunction 21 = .ok (.athrow, 1) := by decide +kernel
theorem d_G_requireFunction_22 : decode b_G_requireFunction 22 = .ok (.return_, 1) := by decide +kernel
theorem d_G_requireRoom_0 : decode b_G_requireRoom 0 = .ok (.aload_n 0, 1) := by decide +kernel
theorem d_G_requireRoom_1 : decode b_G_requireRoom 1 = .ok (.getfield 23, 3) := by decide +kernel
theorem d_G_requireRoom_4 : decode b_G_requireRoom 4 = .ok (.bipush 80, 2) := by decide +kernel
theorem d_G_requireRoom_6 : decode b_G_requireRoom 6 = .ok (.if_icmp .lt 13, 3) := by decide +kernel
theorem d_G_requireRoom_9 : decode b_G_requireRoom 9 = .ok (.new 107, 3) := by decide +kernel
theorem d_G_requireRoom_12 : decode b_G_requireRoom 12 = .ok (.dup, 1) := by decide +kernel
theorem d_G_requireRoom_13 : decode b_G_requireRoom 13 = .ok (.ldc 137, 2) := by decide +kernel
theorem d_G_requireRoom_15 : decode b_G_requireRoom 15 = .ok (.invokespecial 111, 3) := by decide +kernel
theorem d_G_requireRoom_18 : decode b_G_requireRoom 18 = .ok (.athrow, 1) := by decide +kernel
theorem d_G_requireRoom_19 : decode b_G_requireRoom 19 = .ok (.return_, 1) := by decide +kernel
theorem d_G_requirePart_0 : decode b_G_requirePart 0 = .ok (.iload_n 0, 1) := by decide +kernel
theorem d_G_requirePart_1 : decode b_G_requirePart 1 = .ok (.ifCond .eq 18, 3) := by decide +kernel
theorem d_G_requirePart_4 : decode b_G_requirePart 4 = .ok (.iload_n 0, 1) := by decide +kernel
theorem d_G_requirePart_5 : decode b_G_requirePart 5 = .ok (.iconst 1, 1) := by decide +kernel
theorem d_G_requirePart_6 : decode b_G_requirePart 6 = .ok (.if_icmp .eq 13, 3) := by decide +kernel
theorem d_G_requirePart_9 : decode b_G_requirePart 9 = .ok (.new 54, 3) := by decide +kernel
theorem d_G_requirePart_12 : decode b_G_requirePart 12 = .ok (.dup, 1) := by decide +kernel
theorem d_G_requirePart_13 : decode b_G_requirePart 13 = .ok (.ldc 139, 2) := by decide +kernel
theorem d_G_requirePart_15 : decode b_G_requirePart 15 = .ok (.invokespecial 58, 3) := by decide +kernel
theorem d_G_requirePart_18 : decode b_G_requirePart 18 = .ok (.athrow, 1) := by decide +kernel
theorem d_G_requirePart_19 : decode b_G_requirePart 19 = .ok (.return_, 1) := by decide +kernel
theorem d_G_keep_0 : decode b_G_keep 0 = .ok (.aload_n 0, 1) := by decide +kernel
theorem d_G_keep_1 : decode b_G_keep 1 = .ok (.getfield 19, 3) := by decide +kernel
theorem d_G_keep_4 : decode b_G_keep 4 = .ok (.getfield 141, 3) := by decide +kernel
theorem d_G_keep_7 : decode b_G_keep 7 = .ok (.ifCond .ne 15, 3) := by decide +kernel
theorem d_G_keep_10 : decode b_G_keep 10 = .ok (.aload_n 0, 1) := by decide +kernel
theorem d_G_keep_11 : decode b_G_keep 11 = .ok (.getfield 19, 3) := by decide +kernel
theorem d_G_keep_14 : decode b_G_keep 14 = .ok (.getfield 145, 3) := by decide +kernel
theorem d_G_keep_17 : decode b_G_keep 17 = .ok (.bipush 10, 2) := by decide +kernel
theorem d_G_keep_19 : decode b_G_keep 19 = .ok (.if_icmp .le 13, 3) := by decide +kernel
theorem d_G_keep_22 : decode b_G_keep 22 = .ok (.new 107, 3) := by decide +kernel
theorem d_G_keep_25 : decode b_G_keep 25 = .ok (.dup, 1) := by decide +kernel
theorem d_G_keep_26 : decode b_G_keep 26 = .ok (.ldc 148, 2) := by decide +kernel
theorem d_G_keep_28 : decode b_G_keep 28 = .ok (.invokespecial 111, 3) := by decide +kernel
theorem d_G_keep_31 : decode b_G_keep 31 = .ok (.athrow, 1) := by decide +kernel
theorem d_G_keep_32 : decode b_G_keep 32 = .ok (.aload_n 0, 1) := by decide +kernel
theorem d_G_keep_33 : decode b_G_keep 33 = .ok (.getfield 19, 3) := by decide +kernel
theorem d_G_keep_36 : decode b_G_keep 36 = .ok (.getfield 150, 3) := by decide +kernel
theorem d_G_keep_39 : decode b_G_keep 39 = .ok (.iconst 0, 1) := by decide +kernel
theorem d_G_keep_40 : decode b_G_keep 40 = .ok (.aload_n 0, 1) := by decide +kernel
theorem d_G_keep_41 : decode b_G_keep 41 = .ok (.getfield 9, 3) := by decide +kernel
theorem d_G_keep_44 : decode b_G_keep 44 = .ok (.aload_n 0, 1) := by decide +kernel
theorem d_G_keep_45 : decode b_G_keep 45 = .ok (.getfield 23, 3) := by decide +kernel
theorem d_G_keep_48 : decode b_G_keep 48 = .ok (.iconst 0, 1) := by decide +kernel
theorem d_G_keep_49 : decode b_G_keep 49 = .ok (.invokestatic 70, 3) := by decide +kernel
theorem d_G_keep_52 : decode b_G_keep 52 = .ok (.aload_n 0, 1) := by decide +kernel
theorem d_G_keep_53 : decode b_G_keep 53 = .ok (.getfield 19, 3) := by decide +kernel
theorem d_G_keep_56 : decode b_G_keep 56 = .ok (.getfield 145, 3) := by decide +kernel
theorem d_G_keep_59 : decode b_G_keep 59 = .ok (.bipush 7, 2) := by decide +kernel
theorem d_G_keep_61 : decode b_G_keep 61 = .ok (.imul, 1) := by decide +kernel
theorem d_G_keep_62 : decode b_G_keep 62 = .ok (.invokestatic 153, 3) := by decide +kernel
theorem d_G_keep_65 : decode b_G_keep 65 = .ok (.aload_n 0, 1) := by decide +kernel
theorem d_G_keep_66 : decode b_G_keep 66 = .ok (.getfield 13, 3) := by decide +kernel
theorem d_G_keep_69 : decode b_G_keep 69 = .ok (.aload_n 0, 1) := by decide +kernel
theorem d_G_keep_70 : decode b_G_keep 70 = .ok (.getfield 23, 3) := by decide +kernel
theorem d_G_keep_73 : decode b_G_keep 73 = .ok (.aload_n 0, 1) := by decide +kernel
theorem d_G_keep_74 : decode b_G_keep 74 = .ok (.getfield 19, 3) := by decide +kernel
theorem d_G_keep_77 : decode b_G_keep 77 = .ok (.getfield 145, 3) := by decide +kernel
theorem d_G_keep_80 : decode b_G_keep 80 = .ok (.iastore, 1) := by decide +kernel
theorem d_G_keep_81 : decode b_G_keep 81 = .ok (.aload_n 0, 1) := by decide +kernel
theorem d_G_keep_82 : decode b_G_keep 82 = .ok (.dup, 1) := by decide +kernel
theorem d_G_keep_83 : decode b_G_keep 83 = .ok (.getfield 23, 3) := by decide +kernel
theorem d_G_keep_86 : decode b_G_keep 86 = .ok (.iconst 1, 1) := by decide +kernel
theorem d_G_keep_87 : decode b_G_keep 87 = .ok (.iadd, 1) := by decide +kernel
theorem d_G_keep_88 : decode b_G_keep 88 = .ok (.putfield 23, 3) := by decide +kernel
theorem d_G_keep_91 : decode b_G_keep 91 = .ok (.aload_n 0, 1) := by decide +kernel
theorem d_G_keep_92 : decode b_G_keep 92 = .ok (.getfield 23, 3) := by decide +kernel
theorem d_G_keep_95 : decode b_G_keep 95 = .ok (.iconst 1, 1) := by decide +kernel
theorem d_G_keep_96 : decode b_G_keep 96 = .ok (.isub, 1) := by decide +kernel
theorem d_G_keep_97 : decode b_G_keep 97 = .ok (.ireturn, 1) := by decide +kernel
theorem d_G_rowOf_0 : decode b_G_rowOf 0 = .ok (.iload_n 0, 1) := by decide +kernel
theorem d_G_rowOf_1 : decode b_G_rowOf 1 = .ok (.bipush 10, 2) := by decide +kernel
theorem d_G_rowOf_3 : decode b_G_rowOf 3 = .ok (.imul, 1) := by decide +kernel
theorem d_G_rowOf_4 : decode b_G_rowOf 4 = .ok (.iload_n 1, 1) := by decide +kernel
theorem d_G_rowOf_5 : decode b_G_rowOf 5 = .ok (.iadd, 1) := by decide +kernel
theorem d_G_rowOf_6 : decode b_G_rowOf 6 = .ok (.bipush 7, 2) := by decide +kernel
theorem d_G_rowOf_8 : decode b_G_rowOf 8 = .ok (.imul, 1) := by decide +kernel
theorem d_G_rowOf_9 : decode b_G_rowOf 9 = .ok (.ireturn, 1) := by decide +kernel
theorem d_G_putAll_0 : decode b_G_putAll 0 = .ok (.iconst 0, 1) := by decide +kernel
theorem d_G_putAll_1 : decode b_G_putAll 1 = .ok (.istore_n 2, 1) := by decide +kernel
theorem d_G_putAll_2 : decode b_G_putAll 2 = .ok (.iload_n 2, 1) := by decide +kernel
theorem d_G_putAll_3 : decode b_G_putAll 3 = .ok (.aload_n 0, 1) := by decide +kernel
theorem d_G_putAll_4 : decode b_G_putAll 4 = .ok (.getfield 13, 3) := by decide +kernel
theorem d_G_putAll_7 : decode b_G_putAll 7 = .ok (.iload_n 1, 1) := by decide +kernel
theorem d_G_putAll_8 : decode b_G_putAll 8 = .ok (.iaload, 1) := by decide +kernel
theorem d_G_putAll_9 : decode b_G_putAll 9 = .ok (.if_icmp .ge 32, 3) := by decide +kernel
theorem d_G_putAll_12 : decode b_G_putAll 12 = .ok (.aload_n 0, 1) := by decide +kernel
theorem d_G_putAll_13 : decode b_G_putAll 13 = .ok (.getfield 19, 3) := by decide +kernel
theorem d_G_putAll_16 : decode b_G_putAll 16 = .ok (.aload_n 0, 1) := by decide +kernel
theorem d_G_putAll_17 : decode b_G_putAll 17 = .ok (.getfield 9, 3) := by decide +kernel
theorem d_G_putAll_20 : decode b_G_putAll 20 = .ok (.iload_n 1, 1) := by decide +kernel
theorem d_G_putAll_21 : decode b_G_putAll 21 = .ok (.iload_n 2, 1) := by decide +kernel
theorem d_G_putAll_22 : decode b_G_putAll 22 = .ok (.invokestatic 70, 3) := by decide +kernel
theorem d_G_putAll_25 : decode b_G_putAll 25 = .ok (.invokevirtual 74, 3) := by decide +kernel
theorem d_G_putAll_28 : decode b_G_putAll 28 = .ok (.aload_n 0, 1) := by decide +kernel
theorem d_G_putAll_29 : decode b_G_putAll 29 = .ok (.getfield 19, 3) := by decide +kernel
theorem d_G_putAll_32 : decode b_G_putAll 32 = .ok (.invokevirtual 47, 3) := by decide +kernel
theorem d_G_putAll_35 : decode b_G_putAll 35 = .ok (.iinc 2 1, 3) := by decide +kernel
theorem d_G_putAll_38 : decode b_G_putAll 38 = .ok (.goto (-36), 3) := by decide +kernel
theorem d_G_putAll_41 : decode b_G_putAll 41 = .ok (.return_, 1) := by decide +kernel
theorem d_G_putMultiple_0 : decode b_G_putMultiple 0 = .ok (.iload_n 1, 1) := by decide +kernel
theorem d_G_putMultiple_1 : decode b_G_putMultiple 1 = .ok (.ifCond .eq 36, 3) := by decide +kernel
theorem d_G_putMultiple_4 : decode b_G_putMultiple 4 = .ok (.aload_n 0, 1) := by decide +kernel
theorem d_G_putMultiple_5 : decode b_G_putMultiple 5 = .ok (.getfield 19, 3) := by decide +kernel
theorem d_G_putMultiple_8 : decode b_G_putMultiple 8 = .ok (.invokevirtual 40, 3) := by decide +kernel
theorem d_G_putMultiple_11 : decode b_G_putMultiple 11 = .ok (.aload_n 0, 1) := by decide +kernel
theorem d_G_putMultiple_12 : decode b_G_putMultiple 12 = .ok (.getfield 19, 3) := by decide +kernel
theorem d_G_putMultiple_15 : decode b_G_putMultiple 15 = .ok (.iload_n 1, 1) := by decide +kernel
theorem d_G_putMultiple_16 : decode b_G_putMultiple 16 = .ok (.i2l, 1) := by decide +kernel
theorem d_G_putMultiple_17 : decode b_G_putMultiple 17 = .ok (.lconst 1, 1) := by decide +kernel
theorem d_G_putMultiple_18 : decode b_G_putMultiple 18 = .ok (.invokevirtual 43, 3) := by decide +kernel
theorem d_G_putMultiple_21 : decode b_G_putMultiple 21 = .ok (.aload_n 0, 1) := by decide +kernel
theorem d_G_putMultiple_22 : decode b_G_putMultiple 22 = .ok (.getfield 19, 3) := by decide +kernel
theorem d_G_putMultiple_25 : decode b_G_putMultiple 25 = .ok (.iload_n 2, 1) := by decide +kernel
theorem d_G_putMultiple_26 : decode b_G_putMultiple 26 = .ok (.iload_n 3, 1) := by decide +kernel
theorem d_G_putMultiple_27 : decode b_G_putMultiple 27 = .ok (.invokevirtual 96, 3) := by decide +kernel
theorem d_G_putMultiple_30 : decode b_G_putMultiple 30 = .ok (.aload_n 0, 1) := by decide +kernel
theorem d_G_putMultiple_31 : decode b_G_putMultiple 31 = .ok (.getfield 19, 3) := by decide +kernel
theorem d_G_putMultiple_34 : decode b_G_putMultiple 34 = .ok (.invokevirtual 47, 3) := by decide +kernel
theorem d_G_putMultiple_37 : decode b_G_putMultiple 37 = .ok (.return_, 1) := by decide +kernel
theorem d_G_putSlopePart_0 : decode b_G_putSlopePart 0 = .ok (.iload_n 2, 1) := by decide +kernel
theorem d_G_putSlopePart_1 : decode b_G_putSlopePart 1 = .ok (.ifCond .eq 61, 3) := by decide +kernel
theorem d_G_putSlopePart_4 : decode b_G_putSlopePart 4 = .ok (.aload_n 0, 1) := by decide +kernel
theorem d_G_putSlopePart_5 : decode b_G_putSlopePart 5 = .ok (.getfield 19, 3) := by decide +kernel
theorem d_G_putSlopePart_8 : decode b_G_putSlopePart 8 = .ok (.aload_n 0, 1) := by decide +kernel
theorem d_G_putSlopePart_9 : decode b_G_putSlopePart 9 = .ok (.getfield 9, 3) := by decide +kernel
theorem d_G_putSlopePart_12 : decode b_G_putSlopePart 12 = .ok (.iload_n 1, 1) := by decide +kernel
theorem d_G_putSlopePart_13 : decode b_G_putSlopePart 13 = .ok (.invokevirtual 74, 3) := by decide +kernel
theorem d_G_putSlopePart_16 : decode b_G_putSlopePart 16 = .ok (.aload_n 0, 1) := by decide +kernel
theorem d_G_putSlopePart_17 : decode b_G_putSlopePart 17 = .ok (.getfield 19, 3) := by decide +kernel
theorem d_G_putSlopePart_20 : decode b_G_putSlopePart 20 = .ok (.iload_n 2, 1) := by decide +kernel
theorem d_G_putSlopePart_21 : decode b_G_putSlopePart 21 = .ok (.i2l, 1) := by decide +kernel
theorem d_G_putSlopePart_22 : decode b_G_putSlopePart 22 = .ok (.lconst 1, 1) := by decide +kernel
theorem d_G_putSlopePart_23 : decode b_G_putSlopePart 23 = .ok (.invokevirtual 43, 3) := by decide +kernel
theorem d_G_putSlopePart_26 : decode b_G_putSlopePart 26 = .ok (.aload_n 0, 1) := by decide +kernel
theorem d_G_putSlopePart_27 : decode b_G_putSlopePart 27 = .ok (.getfield 19, 3) := by decide +kernel
theorem d_G_putSlopePart_30 : decode b_G_putSlopePart 30 = .ok (.iconst 2, 1) := by decide +kernel
theorem d_G_putSlopePart_31 : decode b_G_putSlopePart 31 = .ok (.iload_n 3, 1) := by decide +kernel
theorem d_G_putSlopePart_32 : decode b_G_putSlopePart 32 = .ok (.invokevirtual 96, 3) := by decide +kernel
theorem d_G_putSlopePart_35 : decode b_G_putSlopePart 35 = .ok (.aload_n 0, 1) := by decide +kernel
theorem d_G_putSlopePart_36 : decode b_G_putSlopePart 36 = .ok (.getfield 19, 3) := by decide +kernel
theorem d_G_putSlopePart_39 : decode b_G_putSlopePart 39 = .ok (.iconst 3, 1) := by decide +kernel
theorem d_G_putSlopePart_40 : decode b_G_putSlopePart 40 = .ok (.iload 4, 2) := by decide +kernel
theorem d_G_putSlopePart_42 : decode b_G_putSlopePart 42 = .ok (.invokevirtual 96, 3) := by decide +kernel
theorem d_G_putSlopePart_45 : decode b_G_putSlopePart 45 = .ok (.aload_n 0, 1) := by decide +kernel
theorem d_G_putSlopePart_46 : decode b_G_putSlopePart 46 = .ok (.getfield 19, 3) := by decide +kernel
theorem d_G_putSlopePart_49 : decode b_G_putSlopePart 49 = .ok (.iconst 4, 1) := by decide +kernel
theorem d_G_putSlopePart_50 : decode b_G_putSlopePart 50 = .ok (.iload 5, 2) := by decide +kernel
theorem d_G_putSlopePart_52 : decode b_G_putSlopePart 52 = .ok (.invokevirtual 96, 3) := by decide +kernel
theorem d_G_putSlopePart_55 : decode b_G_putSlopePart 55 = .ok (.aload_n 0, 1) := by decide +kernel
theorem d_G_putSlopePart_56 : decode b_G_putSlopePart 56 = .ok (.getfield 19, 3) := by decide +kernel
theorem d_G_putSlopePart_59 : decode b_G_putSlopePart 59 = .ok (.invokevirtual 47, 3) := by decide +kernel
theorem d_G_putSlopePart_62 : decode b_G_putSlopePart 62 = .ok (.return_, 1) := by decide +kernel
theorem d_G_hasLogarithm_0 : decode b_G_hasLogarithm 0 = .ok (.iload_n 1, 1) := by decide +kernel
theorem d_G_hasLogarithm_1 : decode b_G_hasLogarithm 1 = .ok (.iconst 0, 1) := by decide +kernel
theorem d_G_hasLogarithm_2 : decode b_G_hasLogarithm 2 = .ok (.invokestatic 70, 3) := by decide +kernel
theorem d_G_hasLogarithm_5 : decode b_G_hasLogarithm 5 = .ok (.istore_n 2, 1) := by decide +kernel
theorem d_G_hasLogarithm_6 : decode b_G_hasLogarithm 6 = .ok (.aload_n 0, 1) := by decide +kernel
theorem d_G_hasLogarithm_7 : decode b_G_hasLogarithm 7 = .ok (.getfield 13, 3) := by decide +kernel
theorem d_G_hasLogarithm_10 : decode b_G_hasLogarithm 10 = .ok (.iload_n 1, 1) := by decide +kernel
theorem d_G_hasLogarithm_11 : decode b_G_hasLogarithm 11 = .ok (.iaload, 1) := by decide +kernel
theorem d_G_hasLogarithm_12 : decode b_G_hasLogarithm 12 = .ok (.iconst 1, 1) := by decide +kernel
theorem d_G_hasLogarithm_13 : decode b_G_hasLogarithm 13 = .ok (.if_icmp .ne 43, 3) := by decide +kernel
theorem d_G_hasLogarithm_16 : decode b_G_hasLogarithm 16 = .ok (.aload_n 0, 1) := by decide +kernel
theorem d_G_hasLogarithm_17 : decode b_G_hasLogarithm 17 = .ok (.getfield 9, 3) := by decide +kernel
theorem d_G_hasLogarithm_20 : decode b_G_hasLogarithm 20 = .ok (.iload_n 2, 1) := by decide +kernel
theorem d_G_hasLogarithm_21 : decode b_G_hasLogarithm 21 = .ok (.iconst 5, 1) := by decide +kernel
theorem d_G_hasLogarithm_22 : decode b_G_hasLogarithm 22 = .ok (.iadd, 1) := by decide +kernel
theorem d_G_hasLogarithm_23 : decode b_G_hasLogarithm 23 = .ok (.iaload, 1) := by decide +kernel
theorem d_G_hasLogarithm_24 : decode b_G_hasLogarithm 24 = .ok (.iconst 1, 1) := by decide +kernel
theorem d_G_hasLogarithm_25 : decode b_G_hasLogarithm 25 = .ok (.if_icmp .ne 31, 3) := by decide +kernel
theorem d_G_hasLogarithm_28 : decode b_G_hasLogarithm 28 = .ok (.aload_n 0, 1) := by decide +kernel
theorem d_G_hasLogarithm_29 : decode b_G_hasLogarithm 29 = .ok (.getfield 9, 3) := by decide +kernel
theorem d_G_hasLogarithm_32 : decode b_G_hasLogarithm 32 = .ok (.iload_n 2, 1) := by decide +kernel
theorem d_G_hasLogarithm_33 : decode b_G_hasLogarithm 33 = .ok (.bipush 6, 2) := by decide +kernel
theorem d_G_hasLogarithm_35 : decode b_G_hasLogarithm 35 = .ok (.iadd, 1) := by decide +kernel
theorem d_G_hasLogarithm_36 : decode b_G_hasLogarithm 36 = .ok (.iaload, 1) := by decide +kernel
theorem d_G_hasLogarithm_37 : decode b_G_hasLogarithm 37 = .ok (.iconst 1, 1) := by decide +kernel
theorem d_G_hasLogarithm_38 : decode b_G_hasLogarithm 38 = .ok (.if_icmp .ne 18, 3) := by decide +kernel
theorem d_G_hasLogarithm_41 : decode b_G_hasLogarithm 41 = .ok (.aload_n 0, 1) := by decide +kernel
theorem d_G_hasLogarithm_42 : decode b_G_hasLogarithm 42 = .ok (.getfield 9, 3) := by decide +kernel
theorem d_G_hasLogarithm_45 : decode b_G_hasLogarithm 45 = .ok (.iload_n 2, 1) := by decide +kernel
theorem d_G_hasLogarithm_46 : decode b_G_hasLogarithm 46 = .ok (.iconst 4, 1) := by decide +kernel
theorem d_G_hasLogarithm_47 : decode b_G_hasLogarithm 47 = .ok (.iadd, 1) := by decide +kernel
theorem d_G_hasLogarithm_48 : decode b_G_hasLogarithm 48 = .ok (.iaload, 1) := by decide +kernel
theorem d_G_hasLogarithm_49 : decode b_G_hasLogarithm 49 = .ok (.ifCond .ne 7, 3) := by decide +kernel
theorem d_G_hasLogarithm_52 : decode b_G_hasLogarithm 52 = .ok (.iconst 1, 1) := by decide +kernel
theorem d_G_hasLogarithm_53 : decode b_G_hasLogarithm 53 = .ok (.goto 4, 3) := by decide +kernel
theorem d_G_hasLogarithm_56 : decode b_G_hasLogarithm 56 = .ok (.iconst 0, 1) := by decide +kernel
theorem d_G_hasLogarithm_57 : decode b_G_hasLogarithm 57 = .ok (.ireturn, 1) := by decide +kernel
theorem d_G_cellOfExponential_0 : decode b_G_cellOfExponential 0 = .ok (.aload_n 0, 1) := by decide +kernel
theorem d_G_cellOfExponential_1 : decode b_G_cellOfExponential 1 = .ok (.getfield 9, 3) := by decide +kernel
theorem d_G_cellOfExponential_4 : decode b_G_cellOfExponential 4 = .ok (.iload_n 1, 1) := by decide +kernel
theorem d_G_cellOfExponential_5 : decode b_G_cellOfExponential 5 = .ok (.iconst 5, 1) := by decide +kernel
theorem d_G_cellOfExponential_6 : decode b_G_cellOfExponential 6 = .ok (.iadd, 1) := by decide +kernel
theorem d_G_cellOfExponential_7 : decode b_G_cellOfExponential 7 = .ok (.iaload, 1) := by decide +kernel
theorem d_G_cellOfExponential_8 : decode b_G_cellOfExponential 8 = .ok (.istore_n 2, 1) := by decide +kernel
theorem d_G_cellOfExponential_9 : decode b_G_cellOfExponential 9 = .ok (.aload_n 0, 1) := by decide +kernel
theorem d_G_cellOfExponential_10 : decode b_G_cellOfExponential 10 = .ok (.getfield 9, 3) := by decide +kernel
theorem d_G_cellOfExponential_13 : decode b_G_cellOfExponential 13 = .ok (.iload_n 1, 1) := by decide +kernel
theorem d_G_cellOfExponential_14 : decode b_G_cellOfExponential 14 = .ok (.bipush 6, 2) := by decide +kernel
theorem d_G_cellOfExponential_16 : decode b_G_cellOfExponential 16 = .ok (.iadd, 1) := by decide +kernel
theorem d_G_cellOfExponential_17 : decode b_G_cellOfExponential 17 = .ok (.iaload, 1) := by decide +kernel
theorem d_G_cellOfExponential_18 : decode b_G_cellOfExponential 18 = .ok (.iconst 1, 1) := by decide +kernel
theorem d_G_cellOfExponential_19 : decode b_G_cellOfExponential 19 = .ok (.if_icmp .ne 15, 3) := by decide +kernel
theorem d_G_cellOfExponential_22 : decode b_G_cellOfExponential 22 = .ok (.iload_n 2, 1) := by decide +kernel
theorem d_G_cellOfExponential_23 : decode b_G_cellOfExponential 23 = .ok (.bipush (-99), 2) := by decide +kernel
theorem d_G_cellOfExponential_25 : decode b_G_cellOfExponential 25 = .ok (.if_icmp .lt 9, 3) := by decide +kernel
theorem d_G_cellOfExponential_28 : decode b_G_cellOfExponential 28 = .ok (.iload_n 2, 1) := by decide +kernel
theorem d_G_cellOfExponential_29 : decode b_G_cellOfExponential 29 = .ok (.bipush 99, 2) := by decide +kernel
theorem d_G_cellOfExponential_31 : decode b_G_cellOfExponential 31 = .ok (.if_icmp .le 5, 3) := by decide +kernel
theorem d_G_cellOfExponential_34 : decode b_G_cellOfExponential 34 = .ok (.iconst (-1), 1) := by decide +kernel
theorem d_G_cellOfExponential_35 : decode b_G_cellOfExponential 35 = .ok (.ireturn, 1) := by decide +kernel
theorem d_G_cellOfExponential_36 : decode b_G_cellOfExponential 36 = .ok (.aload_n 0, 1) := by decide +kernel
theorem d_G_cellOfExponential_37 : decode b_G_cellOfExponential 37 = .ok (.iload_n 1, 1) := by decide +kernel
theorem d_G_cellOfExponential_38 : decode b_G_cellOfExponential 38 = .ok (.iconst 2, 1) := by decide +kernel
theorem d_G_cellOfExponential_39 : decode b_G_cellOfExponential 39 = .ok (.iconst 0, 1) := by decide +kernel
theorem d_G_cellOfExponential_40 : decode b_G_cellOfExponential 40 = .ok (.iconst 0, 1) := by decide +kernel
theorem d_G_cellOfExponential_41 : decode b_G_cellOfExponential 41 = .ok (.invokevirtual 159, 3) := by decide +kernel
theorem d_G_cellOfExponential_44 : decode b_G_cellOfExponential 44 = .ok (.ifCond .eq 5, 3) := by decide +kernel
theorem d_G_cellOfExponential_47 : decode b_G_cellOfExponential 47 = .ok (.iconst 0, 1) := by decide +kernel
theorem d_G_cellOfExponential_48 : decode b_G_cellOfExponential 48 = .ok (.ireturn, 1) := by decide +kernel
theorem d_G_cellOfExponential_49 : decode b_G_cellOfExponential 49 = .ok (.aload_n 0, 1) := by decide +kernel
theorem d_G_cellOfExponential_50 : decode b_G_cellOfExponential 50 = .ok (.iload_n 1, 1) := by decide +kernel
theorem d_G_cellOfExponential_51 : decode b_G_cellOfExponential 51 = .ok (.iconst 1, 1) := by decide +kernel
theorem d_G_cellOfExponential_52 : decode b_G_cellOfExponential 52 = .ok (.iconst 0, 1) := by decide +kernel
theorem d_G_cellOfExponential_53 : decode b_G_cellOfExponential 53 = .ok (.iconst 0, 1) := by decide +kernel
theorem d_G_cellOfExponential_54 : decode b_G_cellOfExponential 54 = .ok (.invokevirtual 159, 3) := by decide +kernel
theorem d_G_cellOfExponential_57 : decode b_G_cellOfExponential 57 = .ok (.ifCond .eq 5, 3) := by decide +kernel
theorem d_G_cellOfExponential_60 : decode b_G_cellOfExponential 60 = .ok (.iconst 1, 1) := by decide +kernel
theorem d_G_cellOfExponential_61 : decode b_G_cellOfExponential 61 = .ok (.ireturn, 1) := by decide +kernel
theorem d_G_cellOfExponential_62 : decode b_G_cellOfExponential 62 = .ok (.aload_n 0, 1) := by decide +kernel
theorem d_G_cellOfExponential_63 : decode b_G_cellOfExponential 63 = .ok (.iload_n 1, 1) := by decide +kernel
theorem d_G_cellOfExponential_64 : decode b_G_cellOfExponential 64 = .ok (.iconst 0, 1) := by decide +kernel
theorem d_G_cellOfExponential_65 : decode b_G_cellOfExponential 65 = .ok (.iconst 1, 1) := by decide +kernel
theorem d_G_cellOfExponential_66 : decode b_G_cellOfExponential 66 = .ok (.iconst 0, 1) := by decide +kernel
theorem d_G_cellOfExponential_67 : decode b_G_cellOfExponential 67 = .ok (.invokevirtual 159, 3) := by decide +kernel
theorem d_G_cellOfExponential_70 : decode b_G_cellOfExponential 70 = .ok (.ifCond .eq 5, 3) := by decide +kernel
theorem d_G_cellOfExponential_73 : decode b_G_cellOfExponential 73 = .ok (.iconst 2, 1) := by decide +kernel
theorem d_G_cellOfExponential_74 : decode b_G_cellOfExponential 74 = .ok (.ireturn, 1) := by decide +kernel
theorem d_G_cellOfExponential_75 : decode b_G_cellOfExponential 75 = .ok (.aload_n 0, 1) := by decide +kernel
theorem d_G_cellOfExponential_76 : decode b_G_cellOfExponential 76 = .ok (.iload_n 1, 1) := by decide +kernel
theorem d_G_cellOfExponential_77 : decode b_G_cellOfExponential 77 = .ok (.iconst 0, 1) := by decide +kernel
theorem d_G_cellOfExponential_78 : decode b_G_cellOfExponential 78 = .ok (.iconst 0, 1) := by decide +kernel
theorem d_G_cellOfExponential_79 : decode b_G_cellOfExponential 79 = .ok (.iconst 1, 1) := by decide +kernel
theorem d_G_cellOfExponential_80 : decode b_G_cellOfExponential 80 = .ok (.invokevirtual 159, 3) := by decide +kernel
theorem d_G_cellOfExponential_83 : decode b_G_cellOfExponential 83 = .ok (.ifCond .eq 7, 3) := by decide +kernel
theorem d_G_cellOfExponential_86 : decode b_G_cellOfExponential 86 = .ok (.iconst 3, 1) := by decide +kernel
theorem d_G_cellOfExponential_87 : decode b_G_cellOfExponential 87 = .ok (.goto 4, 3) := by decide +kernel
theorem d_G_cellOfExponential_90 : decode b_G_cellOfExponential 90 = .ok (.iconst (-1), 1) := by decide +kernel
theorem d_G_cellOfExponential_91 : decode b_G_cellOfExponential 91 = .ok (.ireturn, 1) := by decide +kernel
theorem d_G_holds_0 : decode b_G_holds 0 = .ok (.aload_n 0, 1) := by decide +kernel
theorem d_G_holds_1 : decode b_G_holds 1 = .ok (.getfield 9, 3) := by decide +kernel
theorem d_G_holds_4 : decode b_G_holds 4 = .ok (.iload_n 1, 1) := by decide +kernel
theorem d_G_holds_5 : decode b_G_holds 5 = .ok (.iconst 0, 1) := by decide +kernel
theorem d_G_holds_6 : decode b_G_holds 6 = .ok (.iadd, 1) := by decide +kernel
theorem d_G_holds_7 : decode b_G_holds 7 = .ok (.iaload, 1) := by decide +kernel
theorem d_G_holds_8 : decode b_G_holds 8 = .ok (.ifCond .ne 55, 3) := by decide +kernel
theorem d_G_holds_11 : decode b_G_holds 11 = .ok (.aload_n 0, 1) := by decide +kernel
theorem d_G_holds_12 : decode b_G_holds 12 = .ok (.getfield 9, 3) := by decide +kernel
theorem d_G_holds_15 : decode b_G_holds 15 = .ok (.iload_n 1, 1) := by decide +kernel
theorem d_G_holds_16 : decode b_G_holds 16 = .ok (.iconst 1, 1) := by decide +kernel
theorem d_G_holds_17 : decode b_G_holds 17 = .ok (.iadd, 1) := by decide +kernel
theorem d_G_holds_18 : decode b_G_holds 18 = .ok (.iaload, 1) := by decide +kernel
theorem d_G_holds_19 : decode b_G_holds 19 = .ok (.ifCond .ne 44, 3) := by decide +kernel
theorem d_G_holds_22 : decode b_G_holds 22 = .ok (.aload_n 0, 1) := by decide +kernel
theorem d_G_holds_23 : decode b_G_holds 23 = .ok (.getfield 9, 3) := by decide +kernel
theorem d_G_holds_26 : decode b_G_holds 26 = .ok (.iload_n 1, 1) := by decide +kernel
theorem d_G_holds_27 : decode b_G_holds 27 = .ok (.iconst 2, 1) := by decide +kernel
theorem d_G_holds_28 : decode b_G_holds 28 = .ok (.iadd, 1) := by decide +kernel
theorem d_G_holds_29 : decode b_G_holds 29 = .ok (.iaload, 1) := by decide +kernel
theorem d_G_holds_30 : decode b_G_holds 30 = .ok (.iload_n 2, 1) := by decide +kernel
theorem d_G_holds_31 : decode b_G_holds 31 = .ok (.if_icmp .ne 32, 3) := by decide +kernel
theorem d_G_holds_34 : decode b_G_holds 34 = .ok (.aload_n 0, 1) := by decide +kernel
theorem d_G_holds_35 : decode b_G_holds 35 = .ok (.getfield 9, 3) := by decide +kernel
theorem d_G_holds_38 : decode b_G_holds 38 = .ok (.iload_n 1, 1) := by decide +kernel
theorem d_G_holds_39 : decode b_G_holds 39 = .ok (.iconst 3, 1) := by decide +kernel
theorem d_G_holds_40 : decode b_G_holds 40 = .ok (.iadd, 1) := by decide +kernel
theorem d_G_holds_41 : decode b_G_holds 41 = .ok (.iaload, 1) := by decide +kernel
theorem d_G_holds_42 : decode b_G_holds 42 = .ok (.iload_n 3, 1) := by decide +kernel
theorem d_G_holds_43 : decode b_G_holds 43 = .ok (.if_icmp .ne 20, 3) := by decide +kernel
theorem d_G_holds_46 : decode b_G_holds 46 = .ok (.aload_n 0, 1) := by decide +kernel
theorem d_G_holds_47 : decode b_G_holds 47 = .ok (.getfield 9, 3) := by decide +kernel
theorem d_G_holds_50 : decode b_G_holds 50 = .ok (.iload_n 1, 1) := by decide +kernel
theorem d_G_holds_51 : decode b_G_holds 51 = .ok (.iconst 4, 1) := by decide +kernel
theorem d_G_holds_52 : decode b_G_holds 52 = .ok (.iadd, 1) := by decide +kernel
theorem d_G_holds_53 : decode b_G_holds 53 = .ok (.iaload, 1) := by decide +kernel
theorem d_G_holds_54 : decode b_G_holds 54 = .ok (.iload 4, 2) := by decide +kernel
theorem d_G_holds_56 : decode b_G_holds 56 = .ok (.if_icmp .ne 7, 3) := by decide +kernel
theorem d_G_holds_59 : decode b_G_holds 59 = .ok (.iconst 1, 1) := by decide +kernel
theorem d_G_holds_60 : decode b_G_holds 60 = .ok (.goto 4, 3) := by decide +kernel
theorem d_G_holds_63 : decode b_G_holds 63 = .ok (.iconst 0, 1) := by decide +kernel
theorem d_G_holds_64 : decode b_G_holds 64 = .ok (.ireturn, 1) := by decide +kernel
theorem d_G_endOf_0 : decode b_G_endOf 0 = .ok (.iload_n 1, 1) := by decide +kernel
theorem d_G_endOf_1 : decode b_G_endOf 1 = .ok (.iconst 0, 1) := by decide +kernel
theorem d_G_endOf_2 : decode b_G_endOf 2 = .ok (.invokestatic 70, 3) := by decide +kernel
theorem d_G_endOf_5 : decode b_G_endOf 5 = .ok (.istore_n 2, 1) := by decide +kernel
theorem d_G_endOf_6 : decode b_G_endOf 6 = .ok (.aload_n 0, 1) := by decide +kernel
theorem d_G_endOf_7 : decode b_G_endOf 7 = .ok (.getfield 13, 3) := by decide +kernel
theorem d_G_endOf_10 : decode b_G_endOf 10 = .ok (.iload_n 1, 1) := by decide +kernel
theorem d_G_endOf_11 : decode b_G_endOf 11 = .ok (.iaload, 1) := by decide +kernel
theorem d_G_endOf_12 : decode b_G_endOf 12 = .ok (.ifCond .le 19, 3) := by decide +kernel
theorem d_G_endOf_15 : decode b_G_endOf 15 = .ok (.aload_n 0, 1) := by decide +kernel
theorem d_G_endOf_16 : decode b_G_endOf 16 = .ok (.iload_n 2, 1) := by decide +kernel
theorem d_G_endOf_17 : decode b_G_endOf 17 = .ok (.invokevirtual 115, 3) := by decide +kernel
theorem d_G_endOf_20 : decode b_G_endOf 20 = .ok (.ifCond .le 11, 3) := by decide +kernel
theorem d_G_endOf_23 : decode b_G_endOf 23 = .ok (.aload_n 0, 1) := by decide +kernel
theorem d_G_endOf_24 : decode b_G_endOf 24 = .ok (.iload_n 2, 1) := by decide +kernel
theorem d_G_endOf_25 : decode b_G_endOf 25 = .ok (.invokevirtual 127, 3) := by decide +kernel
theorem d_G_endOf_28 : decode b_G_endOf 28 = .ok (.goto 4, 3) := by decide +kernel
theorem d_G_endOf_31 : decode b_G_endOf 31 = .ok (.iconst 0, 1) := by decide +kernel
theorem d_G_endOf_32 : decode b_G_endOf 32 = .ok (.ireturn, 1) := by decide +kernel
theorem d_G_trendOf_0 : decode b_G_trendOf 0 = .ok (.iconst 0, 1) := by decide +kernel
theorem d_G_trendOf_1 : decode b_G_trendOf 1 = .ok (.istore_n 2, 1) := by decide +kernel
theorem d_G_trendOf_2 : decode b_G_trendOf 2 = .ok (.iload_n 2, 1) := by decide +kernel
theorem d_G_trendOf_3 : decode b_G_trendOf 3 = .ok (.iconst 5, 1) := by decide +kernel
theorem d_G_trendOf_4 : decode b_G_trendOf 4 = .ok (.if_icmp .ge 37, 3) := by decide +kernel
theorem d_G_trendOf_7 : decode b_G_trendOf 7 = .ok (.aload_n 0, 1) := by decide +kernel
theorem d_G_trendOf_8 : decode b_G_trendOf 8 = .ok (.getfield 9, 3) := by decide +kernel
theorem d_G_trendOf_11 : decode b_G_trendOf 11 = .ok (.iload_n 1, 1) := by decide +kernel
theorem d_G_trendOf_12 : decode b_G_trendOf 12 = .ok (.iload_n 2, 1) := by decide +kernel
theorem d_G_trendOf_13 : decode b_G_trendOf 13 = .ok (.iadd, 1) := by decide +kernel
theorem d_G_trendOf_14 : decode b_G_trendOf 14 = .ok (.iaload, 1) := by decide +kernel
theorem d_G_trendOf_15 : decode b_G_trendOf 15 = .ok (.ifCond .eq 20, 3) := by decide +kernel
theorem d_G_trendOf_18 : decode b_G_trendOf 18 = .ok (.aload_n 0, 1) := by decide +kernel
theorem d_G_trendOf_19 : decode b_G_trendOf 19 = .ok (.getfield 9, 3) := by decide +kernel
theorem d_G_trendOf_22 : decode b_G_trendOf 22 = .ok (.iload_n 1, 1) := by decide +kernel
theorem d_G_trendOf_23 : decode b_G_trendOf 23 = .ok (.iload_n 2, 1) := by decide +kernel
theorem d_G_trendOf_24 : decode b_G_trendOf 24 = .ok (.iadd, 1) := by decide +kernel
theorem d_G_trendOf_25 : decode b_G_trendOf 25 = .ok (.iaload, 1) := by decide +kernel
theorem d_G_trendOf_26 : decode b_G_trendOf 26 = .ok (.ifCond .le 7, 3) := by decide +kernel
theorem d_G_trendOf_29 : decode b_G_trendOf 29 = .ok (.iconst 1, 1) := by decide +kernel
theorem d_G_trendOf_30 : decode b_G_trendOf 30 = .ok (.goto 4, 3) := by decide +kernel
theorem d_G_trendOf_33 : decode b_G_trendOf 33 = .ok (.iconst (-1), 1) := by decide +kernel
theorem d_G_trendOf_34 : decode b_G_trendOf 34 = .ok (.ireturn, 1) := by decide +kernel
theorem d_G_trendOf_35 : decode b_G_trendOf 35 = .ok (.iinc 2 1, 3) := by decide +kernel
theorem d_G_trendOf_38 : decode b_G_trendOf 38 = .ok (.goto (-36), 3) := by decide +kernel
theorem d_G_trendOf_41 : decode b_G_trendOf 41 = .ok (.iconst 0, 1) := by decide +kernel
theorem d_G_trendOf_42 : decode b_G_trendOf 42 = .ok (.ireturn, 1) := by decide +kernel
theorem d_G_signOf_0 : decode b_G_signOf 0 = .ok (.aload_n 0, 1) := by decide +kernel
theorem d_G_signOf_1 : decode b_G_signOf 1 = .ok (.getfield 9, 3) := by decide +kernel
theorem d_G_signOf_4 : decode b_G_signOf 4 = .ok (.iload_n 1, 1) := by decide +kernel
theorem d_G_signOf_5 : decode b_G_signOf 5 = .ok (.iconst 5, 1) := by decide +kernel
theorem d_G_signOf_6 : decode b_G_signOf 6 = .ok (.iadd, 1) := by decide +kernel
theorem d_G_signOf_7 : decode b_G_signOf 7 = .ok (.iaload, 1) := by decide +kernel
theorem d_G_signOf_8 : decode b_G_signOf 8 = .ok (.ifCond .le 7, 3) := by decide +kernel
theorem d_G_signOf_11 : decode b_G_signOf 11 = .ok (.iconst 1, 1) := by decide +kernel
theorem d_G_signOf_12 : decode b_G_signOf 12 = .ok (.goto 4, 3) := by decide +kernel
theorem d_G_signOf_15 : decode b_G_signOf 15 = .ok (.iconst (-1), 1) := by decide +kernel
theorem d_G_signOf_16 : decode b_G_signOf 16 = .ok (.ireturn, 1) := by decide +kernel
theorem d_G_rankOf_0 : decode b_G_rankOf 0 = .ok (.aload_n 0, 1) := by decide +kernel
theorem d_G_rankOf_1 : decode b_G_rankOf 1 = .ok (.getfield 13, 3) := by decide +kernel
theorem d_G_rankOf_4 : decode b_G_rankOf 4 = .ok (.iload_n 1, 1) := by decide +kernel
theorem d_G_rankOf_5 : decode b_G_rankOf 5 = .ok (.iaload, 1) := by decide +kernel
theorem d_G_rankOf_6 : decode b_G_rankOf 6 = .ok (.ifCond .ne 18, 3) := by decide +kernel
theorem d_G_rankOf_9 : decode b_G_rankOf 9 = .ok (.aload_n 0, 1) := by decide +kernel
theorem d_G_rankOf_10 : decode b_G_rankOf 10 = .ok (.getfield 13, 3) := by decide +kernel
theorem d_G_rankOf_13 : decode b_G_rankOf 13 = .ok (.iload_n 2, 1) := by decide +kernel
theorem d_G_rankOf_14 : decode b_G_rankOf 14 = .ok (.iaload, 1) := by decide +kernel
theorem d_G_rankOf_15 : decode b_G_rankOf 15 = .ok (.ifCond .ne 7, 3) := by decide +kernel
theorem d_G_rankOf_18 : decode b_G_rankOf 18 = .ok (.iconst 0, 1) := by decide +kernel
theorem d_G_rankOf_19 : decode b_G_rankOf 19 = .ok (.goto 4, 3) := by decide +kernel
theorem d_G_rankOf_22 : decode b_G_rankOf 22 = .ok (.iconst (-1), 1) := by decide +kernel
theorem d_G_rankOf_23 : decode b_G_rankOf 23 = .ok (.ireturn, 1) := by decide +kernel
theorem d_G_rankOf_24 : decode b_G_rankOf 24 = .ok (.aload_n 0, 1) := by decide +kernel
theorem d_G_rankOf_25 : decode b_G_rankOf 25 = .ok (.getfield 13, 3) := by decide +kernel
theorem d_G_rankOf_28 : decode b_G_rankOf 28 = .ok (.iload_n 2, 1) := by decide +kernel
theorem d_G_rankOf_29 : decode b_G_rankOf 29 = .ok (.iaload, 1) := by decide +kernel
theorem d_G_rankOf_30 : decode b_G_rankOf 30 = .ok (.ifCond .ne 7, 3) := by decide +kernel
theorem d_G_rankOf_33 : decode b_G_rankOf 33 = .ok (.iconst 1, 1) := by decide +kernel
theorem d_G_rankOf_34 : decode b_G_rankOf 34 = .ok (.goto 24, 3) := by decide +kernel
theorem d_G_rankOf_37 : decode b_G_rankOf 37 = .ok (.aload_n 0, 1) := by decide +kernel
theorem d_G_rankOf_38 : decode b_G_rankOf 38 = .ok (.getfield 9, 3) := by decide +kernel
theorem d_G_rankOf_41 : decode b_G_rankOf 41 = .ok (.iload_n 1, 1) := by decide +kernel
theorem d_G_rankOf_42 : decode b_G_rankOf 42 = .ok (.iconst 0, 1) := by decide +kernel
theorem d_G_rankOf_43 : decode b_G_rankOf 43 = .ok (.invokestatic 70, 3) := by decide +kernel
theorem d_G_rankOf_46 : decode b_G_rankOf 46 = .ok (.aload_n 0, 1) := by decide +kernel
theorem d_G_rankOf_47 : decode b_G_rankOf 47 = .ok (.getfield 9, 3) := by decide +kernel
theorem d_G_rankOf_50 : decode b_G_rankOf 50 = .ok (.iload_n 2, 1) := by decide +kernel
theorem d_G_rankOf_51 : decode b_G_rankOf 51 = .ok (.iconst 0, 1) := by decide +kernel
theorem d_G_rankOf_52 : decode b_G_rankOf 52 = .ok (.invokestatic 70, 3) := by decide +kernel
theorem d_G_rankOf_55 : decode b_G_rankOf 55 = .ok (.invokestatic 163, 3) := by decide +kernel
theorem d_G_rankOf_58 : decode b_G_rankOf 58 = .ok (.ireturn, 1) := by decide +kernel
theorem d_G_rankOfTerms_0 : decode b_G_rankOfTerms 0 = .ok (.iconst 0, 1) := by decide +kernel
theorem d_G_rankOfTerms_1 : decode b_G_rankOfTerms 1 = .ok (.istore 4, 2) := by decide +kernel
theorem d_G_rankOfTerms_3 : decode b_G_rankOfTerms 3 = .ok (.iload 4, 2) := by decide +kernel
theorem d_G_rankOfTerms_5 : decode b_G_rankOfTerms 5 = .ok (.iconst 5, 1) := by decide +kernel
theorem d_G_rankOfTerms_6 : decode b_G_rankOfTerms 6 = .ok (.if_icmp .ge 45, 3) := by decide +kernel
theorem d_G_rankOfTerms_9 : decode b_G_rankOfTerms 9 = .ok (.aload_n 0, 1) := by decide +kernel
theorem d_G_rankOfTerms_10 : decode b_G_rankOfTerms 10 = .ok (.iload_n 1, 1) := by decide +kernel
theorem d_G_rankOfTerms_11 : decode b_G_rankOfTerms 11 = .ok (.iload 4, 2) := by decide +kernel
theorem d_G_rankOfTerms_13 : decode b_G_rankOfTerms 13 = .ok (.iadd, 1) := by decide +kernel
theorem d_G_rankOfTerms_14 : decode b_G_rankOfTerms 14 = .ok (.iaload, 1) := by decide +kernel
theorem d_G_rankOfTerms_15 : decode b_G_rankOfTerms 15 = .ok (.aload_n 2, 1) := by decide +kernel
theorem d_G_rankOfTerms_16 : decode b_G_rankOfTerms 16 = .ok (.iload_n 3, 1) := by decide +kernel
theorem d_G_rankOfTerms_17 : decode b_G_rankOfTerms 17 = .ok (.iload 4, 2) := by decide +kernel
theorem d_G_rankOfTerms_19 : decode b_G_rankOfTerms 19 = .ok (.iadd, 1) := by decide +kernel
theorem d_G_rankOfTerms_20 : decode b_G_rankOfTerms 20 = .ok (.iaload, 1) := by decide +kernel
theorem d_G_rankOfTerms_21 : decode b_G_rankOfTerms 21 = .ok (.if_icmp .eq 24, 3) := by decide +kernel
theorem d_G_rankOfTerms_24 : decode b_G_rankOfTerms 24 = .ok (.aload_n 0, 1) := by decide +kernel
theorem d_G_rankOfTerms_25 : decode b_G_rankOfTerms 25 = .ok (.iload_n 1, 1) := by decide +kernel
theorem d_G_rankOfTerms_26 : decode b_G_rankOfTerms 26 = .ok (.iload 4, 2) := by decide +kernel
theorem d_G_rankOfTerms_28 : decode b_G_rankOfTerms 28 = .ok (.iadd, 1) := by decide +kernel
theorem d_G_rankOfTerms_29 : decode b_G_rankOfTerms 29 = .ok (.iaload, 1) := by decide +kernel
theorem d_G_rankOfTerms_30 : decode b_G_rankOfTerms 30 = .ok (.aload_n 2, 1) := by decide +kernel
theorem d_G_rankOfTerms_31 : decode b_G_rankOfTerms 31 = .ok (.iload_n 3, 1) := by decide +kernel
theorem d_G_rankOfTerms_32 : decode b_G_rankOfTerms 32 = .ok (.iload 4, 2) := by decide +kernel
theorem d_G_rankOfTerms_34 : decode b_G_rankOfTerms 34 = .ok (.iadd, 1) := by decide +kernel
theorem d_G_rankOfTerms_35 : decode b_G_rankOfTerms 35 = .ok (.iaload, 1) := by decide +kernel
theorem d_G_rankOfTerms_36 : decode b_G_rankOfTerms 36 = .ok (.if_icmp .le 7, 3) := by decide +kernel
theorem d_G_rankOfTerms_39 : decode b_G_rankOfTerms 39 = .ok (.iconst 1, 1) := by decide +kernel
theorem d_G_rankOfTerms_40 : decode b_G_rankOfTerms 40 = .ok (.goto 4, 3) := by decide +kernel
theorem d_G_rankOfTerms_43 : decode b_G_rankOfTerms 43 = .ok (.iconst (-1), 1) := by decide +kernel
theorem d_G_rankOfTerms_44 : decode b_G_rankOfTerms 44 = .ok (.ireturn, 1) := by decide +kernel
theorem d_G_rankOfTerms_45 : decode b_G_rankOfTerms 45 = .ok (.iinc 4 1, 3) := by decide +kernel
theorem d_G_rankOfTerms_48 : decode b_G_rankOfTerms 48 = .ok (.goto (-45), 3) := by decide +kernel
theorem d_G_rankOfTerms_51 : decode b_G_rankOfTerms 51 = .ok (.iconst 0, 1) := by decide +kernel
theorem d_G_rankOfTerms_52 : decode b_G_rankOfTerms 52 = .ok (.ireturn, 1) := by decide +kernel
theorem d_G_divisorOf_0 : decode b_G_divisorOf 0 = .ok (.lload_n 0, 1) := by decide +kernel
theorem d_G_divisorOf_1 : decode b_G_divisorOf 1 = .ok (.invokestatic 167, 3) := by decide +kernel
theorem d_G_divisorOf_4 : decode b_G_divisorOf 4 = .ok (.lstore 4, 2) := by decide +kernel
theorem d_G_divisorOf_6 : decode b_G_divisorOf 6 = .ok (.lload_n 2, 1) := by decide +kernel
theorem d_G_divisorOf_7 : decode b_G_divisorOf 7 = .ok (.invokestatic 167, 3) := by decide +kernel
theorem d_G_divisorOf_10 : decode b_G_divisorOf 10 = .ok (.lstore 6, 2) := by decide +kernel
theorem d_G_divisorOf_12 : decode b_G_divisorOf 12 = .ok (.iconst 0, 1) := by decide +kernel
theorem d_G_divisorOf_13 : decode b_G_divisorOf 13 = .ok (.istore 8, 2) := by decide +kernel
theorem d_G_divisorOf_15 : decode b_G_divisorOf 15 = .ok (.iload 8, 2) := by decide +kernel
theorem d_G_divisorOf_17 : decode b_G_divisorOf 17 = .ok (.sipush 200, 3) := by decide +kernel
theorem d_G_divisorOf_20 : decode b_G_divisorOf 20 = .ok (.if_icmp .ge 31, 3) := by decide +kernel
theorem d_G_divisorOf_23 : decode b_G_divisorOf 23 = .ok (.lload 6, 2) := by decide +kernel
theorem d_G_divisorOf_25 : decode b_G_divisorOf 25 = .ok (.lconst 0, 1) := by decide +kernel
theorem d_G_divisorOf_26 : decode b_G_divisorOf 26 = .ok (.lcmp, 1) := by decide +kernel
theorem d_G_divisorOf_27 : decode b_G_divisorOf 27 = .ok (.ifCond .eq 24, 3) := by decide +kernel
theorem d_G_divisorOf_30 : decode b_G_divisorOf 30 = .ok (.lload 4, 2) := by decide +kernel
theorem d_G_divisorOf_32 : decode b_G_divisorOf 32 = .ok (.lload 6, 2) := by decide +kernel
theorem d_G_divisorOf_34 : decode b_G_divisorOf 34 = .ok (.lrem, 1) := by decide +kernel
theorem d_G_divisorOf_35 : decode b_G_divisorOf 35 = .ok (.lstore 9, 2) := by decide +kernel
theorem d_G_divisorOf_37 : decode b_G_divisorOf 37 = .ok (.lload 6, 2) := by decide +kernel
theorem d_G_divisorOf_39 : decode b_G_divisorOf 39 = .ok (.lstore 4, 2) := by decide +kernel
theorem d_G_divisorOf_41 : decode b_G_divisorOf 41 = .ok (.lload 9, 2) := by decide +kernel
theorem d_G_divisorOf_43 : decode b_G_divisorOf 43 = .ok (.lstore 6, 2) := by decide +kernel
theorem d_G_divisorOf_45 : decode b_G_divisorOf 45 = .ok (.iinc 8 1, 3) := by decide +kernel
theorem d_G_divisorOf_48 : decode b_G_divisorOf 48 = .ok (.goto (-33), 3) := by decide +kernel
theorem d_G_divisorOf_51 : decode b_G_divisorOf 51 = .ok (.lload 4, 2) := by decide +kernel
theorem d_G_divisorOf_53 : decode b_G_divisorOf 53 = .ok (.lconst 0, 1) := by decide +kernel
theorem d_G_divisorOf_54 : decode b_G_divisorOf 54 = .ok (.lcmp, 1) := by decide +kernel
theorem d_G_divisorOf_55 : decode b_G_divisorOf 55 = .ok (.ifCond .ne 5, 3) := by decide +kernel
theorem d_G_divisorOf_58 : decode b_G_divisorOf 58 = .ok (.lconst 1, 1) := by decide +kernel
theorem d_G_divisorOf_59 : decode b_G_divisorOf 59 = .ok (.lreturn, 1) := by decide +kernel
theorem d_G_divisorOf_60 : decode b_G_divisorOf 60 = .ok (.lload_n 2, 1) := by decide +kernel
theorem d_G_divisorOf_61 : decode b_G_divisorOf 61 = .ok (.lconst 0, 1) := by decide +kernel
theorem d_G_divisorOf_62 : decode b_G_divisorOf 62 = .ok (.lcmp, 1) := by decide +kernel
theorem d_G_divisorOf_63 : decode b_G_divisorOf 63 = .ok (.ifCond .ge 9, 3) := by decide +kernel
theorem d_G_divisorOf_66 : decode b_G_divisorOf 66 = .ok (.lload 4, 2) := by decide +kernel
theorem d_G_divisorOf_68 : decode b_G_divisorOf 68 = .ok (.lneg, 1) := by decide +kernel
theorem d_G_divisorOf_69 : decode b_G_divisorOf 69 = .ok (.goto 5, 3) := by decide +kernel
theorem d_G_divisorOf_72 : decode b_G_divisorOf 72 = .ok (.lload 4, 2) := by decide +kernel
theorem d_G_divisorOf_74 : decode b_G_divisorOf 74 = .ok (.lreturn, 1) := by decide +kernel

theorem d_L_number_0 : decode b_L_number 0 = .ok (.aload_n 3, 1) := by decide +kernel
theorem d_L_number_1 : decode b_L_number 1 = .ok (.iconst 0, 1) := by decide +kernel
theorem d_L_number_2 : decode b_L_number 2 = .ok (.aload_n 0, 1) := by decide +kernel
theorem d_L_number_3 : decode b_L_number 3 = .ok (.iload_n 1, 1) := by decide +kernel
theorem d_L_number_4 : decode b_L_number 4 = .ok (.iload_n 2, 1) := by decide +kernel
theorem d_L_number_5 : decode b_L_number 5 = .ok (.invokevirtual 7, 3) := by decide +kernel
theorem d_L_number_8 : decode b_L_number 8 = .ok (.i2l, 1) := by decide +kernel
theorem d_L_number_9 : decode b_L_number 9 = .ok (.lastore, 1) := by decide +kernel
theorem d_L_number_10 : decode b_L_number 10 = .ok (.goto 11, 3) := by decide +kernel
theorem d_L_number_13 : decode b_L_number 13 = .ok (.astore 4, 2) := by decide +kernel
theorem d_L_number_15 : decode b_L_number 15 = .ok (.iconst 1, 1) := by decide +kernel
theorem d_L_number_16 : decode b_L_number 16 = .ok (.ireturn, 1) := by decide +kernel
theorem d_L_number_17 : decode b_L_number 17 = .ok (.astore 4, 2) := by decide +kernel
theorem d_L_number_19 : decode b_L_number 19 = .ok (.iconst 2, 1) := by decide +kernel
theorem d_L_number_20 : decode b_L_number 20 = .ok (.ireturn, 1) := by decide +kernel
theorem d_L_number_21 : decode b_L_number 21 = .ok (.iconst 0, 1) := by decide +kernel
theorem d_L_number_22 : decode b_L_number 22 = .ok (.ireturn, 1) := by decide +kernel
theorem d_L_letter_0 : decode b_L_letter 0 = .ok (.aload_n 2, 1) := by decide +kernel
theorem d_L_letter_1 : decode b_L_letter 1 = .ok (.iconst 0, 1) := by decide +kernel
theorem d_L_letter_2 : decode b_L_letter 2 = .ok (.aload_n 0, 1) := by decide +kernel
theorem d_L_letter_3 : decode b_L_letter 3 = .ok (.iload_n 1, 1) := by decide +kernel
theorem d_L_letter_4 : decode b_L_letter 4 = .ok (.invokevirtual 17, 3) := by decide +kernel
theorem d_L_letter_7 : decode b_L_letter 7 = .ok (.i2l, 1) := by decide +kernel
theorem d_L_letter_8 : decode b_L_letter 8 = .ok (.lastore, 1) := by decide +kernel
theorem d_L_letter_9 : decode b_L_letter 9 = .ok (.goto 9, 3) := by decide +kernel
theorem d_L_letter_12 : decode b_L_letter 12 = .ok (.astore_n 3, 1) := by decide +kernel
theorem d_L_letter_13 : decode b_L_letter 13 = .ok (.iconst 1, 1) := by decide +kernel
theorem d_L_letter_14 : decode b_L_letter 14 = .ok (.ireturn, 1) := by decide +kernel
theorem d_L_letter_15 : decode b_L_letter 15 = .ok (.astore_n 3, 1) := by decide +kernel
theorem d_L_letter_16 : decode b_L_letter 16 = .ok (.iconst 2, 1) := by decide +kernel
theorem d_L_letter_17 : decode b_L_letter 17 = .ok (.ireturn, 1) := by decide +kernel
theorem d_L_letter_18 : decode b_L_letter 18 = .ok (.iconst 0, 1) := by decide +kernel
theorem d_L_letter_19 : decode b_L_letter 19 = .ok (.ireturn, 1) := by decide +kernel
theorem d_L_add_0 : decode b_L_add 0 = .ok (.aload_n 3, 1) := by decide +kernel
theorem d_L_add_1 : decode b_L_add 1 = .ok (.iconst 0, 1) := by decide +kernel
theorem d_L_add_2 : decode b_L_add 2 = .ok (.aload_n 0, 1) := by decide +kernel
theorem d_L_add_3 : decode b_L_add 3 = .ok (.iload_n 1, 1) := by decide +kernel
theorem d_L_add_4 : decode b_L_add 4 = .ok (.iload_n 2, 1) := by decide +kernel
theorem d_L_add_5 : decode b_L_add 5 = .ok (.invokevirtual 23, 3) := by decide +kernel
theorem d_L_add_8 : decode b_L_add 8 = .ok (.i2l, 1) := by decide +kernel
theorem d_L_add_9 : decode b_L_add 9 = .ok (.lastore, 1) := by decide +kernel
theorem d_L_add_10 : decode b_L_add 10 = .ok (.goto 11, 3) := by decide +kernel
theorem d_L_add_13 : decode b_L_add 13 = .ok (.astore 4, 2) := by decide +kernel
theorem d_L_add_15 : decode b_L_add 15 = .ok (.iconst 1, 1) := by decide +kernel
theorem d_L_add_16 : decode b_L_add 16 = .ok (.ireturn, 1) := by decide +kernel
theorem d_L_add_17 : decode b_L_add 17 = .ok (.astore 4, 2) := by decide +kernel
theorem d_L_add_19 : decode b_L_add 19 = .ok (.iconst 2, 1) := by decide +kernel
theorem d_L_add_20 : decode b_L_add 20 = .ok (.ireturn, 1) := by decide +kernel
theorem d_L_add_21 : decode b_L_add 21 = .ok (.iconst 0, 1) := by decide +kernel
theorem d_L_add_22 : decode b_L_add 22 = .ok (.ireturn, 1) := by decide +kernel
theorem d_L_times_0 : decode b_L_times 0 = .ok (.aload_n 3, 1) := by decide +kernel
theorem d_L_times_1 : decode b_L_times 1 = .ok (.iconst 0, 1) := by decide +kernel
theorem d_L_times_2 : decode b_L_times 2 = .ok (.aload_n 0, 1) := by decide +kernel
theorem d_L_times_3 : decode b_L_times 3 = .ok (.iload_n 1, 1) := by decide +kernel
theorem d_L_times_4 : decode b_L_times 4 = .ok (.iload_n 2, 1) := by decide +kernel
theorem d_L_times_5 : decode b_L_times 5 = .ok (.invokevirtual 28, 3) := by decide +kernel
theorem d_L_times_8 : decode b_L_times 8 = .ok (.i2l, 1) := by decide +kernel
theorem d_L_times_9 : decode b_L_times 9 = .ok (.lastore, 1) := by decide +kernel
theorem d_L_times_10 : decode b_L_times 10 = .ok (.goto 11, 3) := by decide +kernel
theorem d_L_times_13 : decode b_L_times 13 = .ok (.astore 4, 2) := by decide +kernel
theorem d_L_times_15 : decode b_L_times 15 = .ok (.iconst 1, 1) := by decide +kernel
theorem d_L_times_16 : decode b_L_times 16 = .ok (.ireturn, 1) := by decide +kernel
theorem d_L_times_17 : decode b_L_times 17 = .ok (.astore 4, 2) := by decide +kernel
theorem d_L_times_19 : decode b_L_times 19 = .ok (.iconst 2, 1) := by decide +kernel
theorem d_L_times_20 : decode b_L_times 20 = .ok (.ireturn, 1) := by decide +kernel
theorem d_L_times_21 : decode b_L_times 21 = .ok (.iconst 0, 1) := by decide +kernel
theorem d_L_times_22 : decode b_L_times 22 = .ok (.ireturn, 1) := by decide +kernel
theorem d_L_over_0 : decode b_L_over 0 = .ok (.aload_n 3, 1) := by decide +kernel
theorem d_L_over_1 : decode b_L_over 1 = .ok (.iconst 0, 1) := by decide +kernel
theorem d_L_over_2 : decode b_L_over 2 = .ok (.aload_n 0, 1) := by decide +kernel
theorem d_L_over_3 : decode b_L_over 3 = .ok (.iload_n 1, 1) := by decide +kernel
theorem d_L_over_4 : decode b_L_over 4 = .ok (.iload_n 2, 1) := by decide +kernel
theorem d_L_over_5 : decode b_L_over 5 = .ok (.invokevirtual 31, 3) := by decide +kernel
theorem d_L_over_8 : decode b_L_over 8 = .ok (.i2l, 1) := by decide +kernel
theorem d_L_over_9 : decode b_L_over 9 = .ok (.lastore, 1) := by decide +kernel
theorem d_L_over_10 : decode b_L_over 10 = .ok (.goto 11, 3) := by decide +kernel
theorem d_L_over_13 : decode b_L_over 13 = .ok (.astore 4, 2) := by decide +kernel
theorem d_L_over_15 : decode b_L_over 15 = .ok (.iconst 1, 1) := by decide +kernel
theorem d_L_over_16 : decode b_L_over 16 = .ok (.ireturn, 1) := by decide +kernel
theorem d_L_over_17 : decode b_L_over 17 = .ok (.astore 4, 2) := by decide +kernel
theorem d_L_over_19 : decode b_L_over 19 = .ok (.iconst 2, 1) := by decide +kernel
theorem d_L_over_20 : decode b_L_over 20 = .ok (.ireturn, 1) := by decide +kernel
theorem d_L_over_21 : decode b_L_over 21 = .ok (.iconst 0, 1) := by decide +kernel
theorem d_L_over_22 : decode b_L_over 22 = .ok (.ireturn, 1) := by decide +kernel
theorem d_L_derive_0 : decode b_L_derive 0 = .ok (.aload_n 2, 1) := by decide +kernel
theorem d_L_derive_1 : decode b_L_derive 1 = .ok (.iconst 0, 1) := by decide +kernel
theorem d_L_derive_2 : decode b_L_derive 2 = .ok (.aload_n 0, 1) := by decide +kernel
theorem d_L_derive_3 : decode b_L_derive 3 = .ok (.iload_n 1, 1) := by decide +kernel
theorem d_L_derive_4 : decode b_L_derive 4 = .ok (.invokevirtual 34, 3) := by decide +kernel
theorem d_L_derive_7 : decode b_L_derive 7 = .ok (.i2l, 1) := by decide +kernel
theorem d_L_derive_8 : decode b_L_derive 8 = .ok (.lastore, 1) := by decide +kernel
theorem d_L_derive_9 : decode b_L_derive 9 = .ok (.goto 9, 3) := by decide +kernel
theorem d_L_derive_12 : decode b_L_derive 12 = .ok (.astore_n 3, 1) := by decide +kernel
theorem d_L_derive_13 : decode b_L_derive 13 = .ok (.iconst 1, 1) := by decide +kernel
theorem d_L_derive_14 : decode b_L_derive 14 = .ok (.ireturn, 1) := by decide +kernel
theorem d_L_derive_15 : decode b_L_derive 15 = .ok (.astore_n 3, 1) := by decide +kernel
theorem d_L_derive_16 : decode b_L_derive 16 = .ok (.iconst 2, 1) := by decide +kernel
theorem d_L_derive_17 : decode b_L_derive 17 = .ok (.ireturn, 1) := by decide +kernel
theorem d_L_derive_18 : decode b_L_derive 18 = .ok (.iconst 0, 1) := by decide +kernel
theorem d_L_derive_19 : decode b_L_derive 19 = .ok (.ireturn, 1) := by decide +kernel
theorem d_L_logarithm_0 : decode b_L_logarithm 0 = .ok (.aload_n 2, 1) := by decide +kernel
theorem d_L_logarithm_1 : decode b_L_logarithm 1 = .ok (.iconst 0, 1) := by decide +kernel
theorem d_L_logarithm_2 : decode b_L_logarithm 2 = .ok (.aload_n 0, 1) := by decide +kernel
theorem d_L_logarithm_3 : decode b_L_logarithm 3 = .ok (.iload_n 1, 1) := by decide +kernel
theorem d_L_logarithm_4 : decode b_L_logarithm 4 = .ok (.invokevirtual 37, 3) := by decide +kernel
theorem d_L_logarithm_7 : decode b_L_logarithm 7 = .ok (.i2l, 1) := by decide +kernel
theorem d_L_logarithm_8 : decode b_L_logarithm 8 = .ok (.lastore, 1) := by decide +kernel
theorem d_L_logarithm_9 : decode b_L_logarithm 9 = .ok (.goto 9, 3) := by decide +kernel
theorem d_L_logarithm_12 : decode b_L_logarithm 12 = .ok (.astore_n 3, 1) := by decide +kernel
theorem d_L_logarithm_13 : decode b_L_logarithm 13 = .ok (.iconst 1, 1) := by decide +kernel
theorem d_L_logarithm_14 : decode b_L_logarithm 14 = .ok (.ireturn, 1) := by decide +kernel
theorem d_L_logarithm_15 : decode b_L_logarithm 15 = .ok (.astore_n 3, 1) := by decide +kernel
theorem d_L_logarithm_16 : decode b_L_logarithm 16 = .ok (.iconst 2, 1) := by decide +kernel
theorem d_L_logarithm_17 : decode b_L_logarithm 17 = .ok (.ireturn, 1) := by decide +kernel
theorem d_L_logarithm_18 : decode b_L_logarithm 18 = .ok (.iconst 0, 1) := by decide +kernel
theorem d_L_logarithm_19 : decode b_L_logarithm 19 = .ok (.ireturn, 1) := by decide +kernel
theorem d_L_exponential_0 : decode b_L_exponential 0 = .ok (.aload_n 2, 1) := by decide +kernel
theorem d_L_exponential_1 : decode b_L_exponential 1 = .ok (.iconst 0, 1) := by decide +kernel
theorem d_L_exponential_2 : decode b_L_exponential 2 = .ok (.aload_n 0, 1) := by decide +kernel
theorem d_L_exponential_3 : decode b_L_exponential 3 = .ok (.iload_n 1, 1) := by decide +kernel
theorem d_L_exponential_4 : decode b_L_exponential 4 = .ok (.invokevirtual 40, 3) := by decide +kernel
theorem d_L_exponential_7 : decode b_L_exponential 7 = .ok (.i2l, 1) := by decide +kernel
theorem d_L_exponential_8 : decode b_L_exponential 8 = .ok (.lastore, 1) := by decide +kernel
theorem d_L_exponential_9 : decode b_L_exponential 9 = .ok (.goto 9, 3) := by decide +kernel
theorem d_L_exponential_12 : decode b_L_exponential 12 = .ok (.astore_n 3, 1) := by decide +kernel
theorem d_L_exponential_13 : decode b_L_exponential 13 = .ok (.iconst 1, 1) := by decide +kernel
theorem d_L_exponential_14 : decode b_L_exponential 14 = .ok (.ireturn, 1) := by decide +kernel
theorem d_L_exponential_15 : decode b_L_exponential 15 = .ok (.astore_n 3, 1) := by decide +kernel
theorem d_L_exponential_16 : decode b_L_exponential 16 = .ok (.iconst 2, 1) := by decide +kernel
theorem d_L_exponential_17 : decode b_L_exponential 17 = .ok (.ireturn, 1) := by decide +kernel
theorem d_L_exponential_18 : decode b_L_exponential 18 = .ok (.iconst 0, 1) := by decide +kernel
theorem d_L_exponential_19 : decode b_L_exponential 19 = .ok (.ireturn, 1) := by decide +kernel
theorem d_L_terms_0 : decode b_L_terms 0 = .ok (.aload_n 2, 1) := by decide +kernel
theorem d_L_terms_1 : decode b_L_terms 1 = .ok (.iconst 0, 1) := by decide +kernel
theorem d_L_terms_2 : decode b_L_terms 2 = .ok (.aload_n 0, 1) := by decide +kernel
theorem d_L_terms_3 : decode b_L_terms 3 = .ok (.iload_n 1, 1) := by decide +kernel
theorem d_L_terms_4 : decode b_L_terms 4 = .ok (.invokevirtual 43, 3) := by decide +kernel
theorem d_L_terms_7 : decode b_L_terms 7 = .ok (.i2l, 1) := by decide +kernel
theorem d_L_terms_8 : decode b_L_terms 8 = .ok (.lastore, 1) := by decide +kernel
theorem d_L_terms_9 : decode b_L_terms 9 = .ok (.goto 6, 3) := by decide +kernel
theorem d_L_terms_12 : decode b_L_terms 12 = .ok (.astore_n 3, 1) := by decide +kernel
theorem d_L_terms_13 : decode b_L_terms 13 = .ok (.iconst 1, 1) := by decide +kernel
theorem d_L_terms_14 : decode b_L_terms 14 = .ok (.ireturn, 1) := by decide +kernel
theorem d_L_terms_15 : decode b_L_terms 15 = .ok (.iconst 0, 1) := by decide +kernel
theorem d_L_terms_16 : decode b_L_terms 16 = .ok (.ireturn, 1) := by decide +kernel
theorem d_L_term_0 : decode b_L_term 0 = .ok (.aload 4, 2) := by decide +kernel
theorem d_L_term_2 : decode b_L_term 2 = .ok (.iconst 0, 1) := by decide +kernel
theorem d_L_term_3 : decode b_L_term 3 = .ok (.aload_n 0, 1) := by decide +kernel
theorem d_L_term_4 : decode b_L_term 4 = .ok (.iload_n 1, 1) := by decide +kernel
theorem d_L_term_5 : decode b_L_term 5 = .ok (.iload_n 2, 1) := by decide +kernel
theorem d_L_term_6 : decode b_L_term 6 = .ok (.iload_n 3, 1) := by decide +kernel
theorem d_L_term_7 : decode b_L_term 7 = .ok (.invokevirtual 46, 3) := by decide +kernel
theorem d_L_term_10 : decode b_L_term 10 = .ok (.i2l, 1) := by decide +kernel
theorem d_L_term_11 : decode b_L_term 11 = .ok (.lastore, 1) := by decide +kernel
theorem d_L_term_12 : decode b_L_term 12 = .ok (.goto 11, 3) := by decide +kernel
theorem d_L_term_15 : decode b_L_term 15 = .ok (.astore 5, 2) := by decide +kernel
theorem d_L_term_17 : decode b_L_term 17 = .ok (.iconst 1, 1) := by decide +kernel
theorem d_L_term_18 : decode b_L_term 18 = .ok (.ireturn, 1) := by decide +kernel
theorem d_L_term_19 : decode b_L_term 19 = .ok (.astore 5, 2) := by decide +kernel
theorem d_L_term_21 : decode b_L_term 21 = .ok (.iconst 2, 1) := by decide +kernel
theorem d_L_term_22 : decode b_L_term 22 = .ok (.ireturn, 1) := by decide +kernel
theorem d_L_term_23 : decode b_L_term 23 = .ok (.iconst 0, 1) := by decide +kernel
theorem d_L_term_24 : decode b_L_term 24 = .ok (.ireturn, 1) := by decide +kernel
theorem d_L_limit_0 : decode b_L_limit 0 = .ok (.aload_n 2, 1) := by decide +kernel
theorem d_L_limit_1 : decode b_L_limit 1 = .ok (.iconst 0, 1) := by decide +kernel
theorem d_L_limit_2 : decode b_L_limit 2 = .ok (.aload_n 0, 1) := by decide +kernel
theorem d_L_limit_3 : decode b_L_limit 3 = .ok (.iload_n 1, 1) := by decide +kernel
theorem d_L_limit_4 : decode b_L_limit 4 = .ok (.invokevirtual 50, 3) := by decide +kernel
theorem d_L_limit_7 : decode b_L_limit 7 = .ok (.i2l, 1) := by decide +kernel
theorem d_L_limit_8 : decode b_L_limit 8 = .ok (.lastore, 1) := by decide +kernel
theorem d_L_limit_9 : decode b_L_limit 9 = .ok (.goto 6, 3) := by decide +kernel
theorem d_L_limit_12 : decode b_L_limit 12 = .ok (.astore_n 3, 1) := by decide +kernel
theorem d_L_limit_13 : decode b_L_limit 13 = .ok (.iconst 1, 1) := by decide +kernel
theorem d_L_limit_14 : decode b_L_limit 14 = .ok (.ireturn, 1) := by decide +kernel
theorem d_L_limit_15 : decode b_L_limit 15 = .ok (.iconst 0, 1) := by decide +kernel
theorem d_L_limit_16 : decode b_L_limit 16 = .ok (.ireturn, 1) := by decide +kernel
theorem d_L_value_0 : decode b_L_value 0 = .ok (.aload_n 3, 1) := by decide +kernel
theorem d_L_value_1 : decode b_L_value 1 = .ok (.iconst 0, 1) := by decide +kernel
theorem d_L_value_2 : decode b_L_value 2 = .ok (.aload_n 0, 1) := by decide +kernel
theorem d_L_value_3 : decode b_L_value 3 = .ok (.iload_n 1, 1) := by decide +kernel
theorem d_L_value_4 : decode b_L_value 4 = .ok (.iload_n 2, 1) := by decide +kernel
theorem d_L_value_5 : decode b_L_value 5 = .ok (.invokevirtual 53, 3) := by decide +kernel
theorem d_L_value_8 : decode b_L_value 8 = .ok (.i2l, 1) := by decide +kernel
theorem d_L_value_9 : decode b_L_value 9 = .ok (.lastore, 1) := by decide +kernel
theorem d_L_value_10 : decode b_L_value 10 = .ok (.goto 15, 3) := by decide +kernel
theorem d_L_value_13 : decode b_L_value 13 = .ok (.astore 4, 2) := by decide +kernel
theorem d_L_value_15 : decode b_L_value 15 = .ok (.iconst 1, 1) := by decide +kernel
theorem d_L_value_16 : decode b_L_value 16 = .ok (.ireturn, 1) := by decide +kernel
theorem d_L_value_17 : decode b_L_value 17 = .ok (.astore 4, 2) := by decide +kernel
theorem d_L_value_19 : decode b_L_value 19 = .ok (.iconst 2, 1) := by decide +kernel
theorem d_L_value_20 : decode b_L_value 20 = .ok (.ireturn, 1) := by decide +kernel
theorem d_L_value_21 : decode b_L_value 21 = .ok (.astore 4, 2) := by decide +kernel
theorem d_L_value_23 : decode b_L_value 23 = .ok (.iconst 3, 1) := by decide +kernel
theorem d_L_value_24 : decode b_L_value 24 = .ok (.ireturn, 1) := by decide +kernel
theorem d_L_value_25 : decode b_L_value 25 = .ok (.iconst 0, 1) := by decide +kernel
theorem d_L_value_26 : decode b_L_value 26 = .ok (.ireturn, 1) := by decide +kernel
theorem d_L_compare_0 : decode b_L_compare 0 = .ok (.aload_n 3, 1) := by decide +kernel
theorem d_L_compare_1 : decode b_L_compare 1 = .ok (.iconst 0, 1) := by decide +kernel
theorem d_L_compare_2 : decode b_L_compare 2 = .ok (.aload_n 0, 1) := by decide +kernel
theorem d_L_compare_3 : decode b_L_compare 3 = .ok (.iload_n 1, 1) := by decide +kernel
theorem d_L_compare_4 : decode b_L_compare 4 = .ok (.iload_n 2, 1) := by decide +kernel
theorem d_L_compare_5 : decode b_L_compare 5 = .ok (.invokevirtual 56, 3) := by decide +kernel
theorem d_L_compare_8 : decode b_L_compare 8 = .ok (.i2l, 1) := by decide +kernel
theorem d_L_compare_9 : decode b_L_compare 9 = .ok (.lastore, 1) := by decide +kernel
theorem d_L_compare_10 : decode b_L_compare 10 = .ok (.goto 7, 3) := by decide +kernel
theorem d_L_compare_13 : decode b_L_compare 13 = .ok (.astore 4, 2) := by decide +kernel
theorem d_L_compare_15 : decode b_L_compare 15 = .ok (.iconst 1, 1) := by decide +kernel
theorem d_L_compare_16 : decode b_L_compare 16 = .ok (.ireturn, 1) := by decide +kernel
theorem d_L_compare_17 : decode b_L_compare 17 = .ok (.iconst 0, 1) := by decide +kernel
theorem d_L_compare_18 : decode b_L_compare 18 = .ok (.ireturn, 1) := by decide +kernel
theorem d_L_ratio_0 : decode b_L_ratio 0 = .ok (.aload 4, 2) := by decide +kernel
theorem d_L_ratio_2 : decode b_L_ratio 2 = .ok (.iconst 0, 1) := by decide +kernel
theorem d_L_ratio_3 : decode b_L_ratio 3 = .ok (.aload_n 0, 1) := by decide +kernel
theorem d_L_ratio_4 : decode b_L_ratio 4 = .ok (.iload_n 1, 1) := by decide +kernel
theorem d_L_ratio_5 : decode b_L_ratio 5 = .ok (.iload_n 2, 1) := by decide +kernel
theorem d_L_ratio_6 : decode b_L_ratio 6 = .ok (.iload_n 3, 1) := by decide +kernel
theorem d_L_ratio_7 : decode b_L_ratio 7 = .ok (.invokevirtual 59, 3) := by decide +kernel
theorem d_L_ratio_10 : decode b_L_ratio 10 = .ok (.lastore, 1) := by decide +kernel
theorem d_L_ratio_11 : decode b_L_ratio 11 = .ok (.goto 15, 3) := by decide +kernel
theorem d_L_ratio_14 : decode b_L_ratio 14 = .ok (.astore 5, 2) := by decide +kernel
theorem d_L_ratio_16 : decode b_L_ratio 16 = .ok (.iconst 1, 1) := by decide +kernel
theorem d_L_ratio_17 : decode b_L_ratio 17 = .ok (.ireturn, 1) := by decide +kernel
theorem d_L_ratio_18 : decode b_L_ratio 18 = .ok (.astore 5, 2) := by decide +kernel
theorem d_L_ratio_20 : decode b_L_ratio 20 = .ok (.iconst 2, 1) := by decide +kernel
theorem d_L_ratio_21 : decode b_L_ratio 21 = .ok (.ireturn, 1) := by decide +kernel
theorem d_L_ratio_22 : decode b_L_ratio 22 = .ok (.astore 5, 2) := by decide +kernel
theorem d_L_ratio_24 : decode b_L_ratio 24 = .ok (.iconst 3, 1) := by decide +kernel
theorem d_L_ratio_25 : decode b_L_ratio 25 = .ok (.ireturn, 1) := by decide +kernel
theorem d_L_ratio_26 : decode b_L_ratio 26 = .ok (.iconst 0, 1) := by decide +kernel
theorem d_L_ratio_27 : decode b_L_ratio 27 = .ok (.ireturn, 1) := by decide +kernel
theorem d_L_sign_0 : decode b_L_sign 0 = .ok (.aload_n 2, 1) := by decide +kernel
theorem d_L_sign_1 : decode b_L_sign 1 = .ok (.iconst 0, 1) := by decide +kernel
theorem d_L_sign_2 : decode b_L_sign 2 = .ok (.aload_n 0, 1) := by decide +kernel
theorem d_L_sign_3 : decode b_L_sign 3 = .ok (.iload_n 1, 1) := by decide +kernel
theorem d_L_sign_4 : decode b_L_sign 4 = .ok (.invokevirtual 63, 3) := by decide +kernel
theorem d_L_sign_7 : decode b_L_sign 7 = .ok (.i2l, 1) := by decide +kernel
theorem d_L_sign_8 : decode b_L_sign 8 = .ok (.lastore, 1) := by decide +kernel
theorem d_L_sign_9 : decode b_L_sign 9 = .ok (.goto 6, 3) := by decide +kernel
theorem d_L_sign_12 : decode b_L_sign 12 = .ok (.astore_n 3, 1) := by decide +kernel
theorem d_L_sign_13 : decode b_L_sign 13 = .ok (.iconst 1, 1) := by decide +kernel
theorem d_L_sign_14 : decode b_L_sign 14 = .ok (.ireturn, 1) := by decide +kernel
theorem d_L_sign_15 : decode b_L_sign 15 = .ok (.iconst 0, 1) := by decide +kernel
theorem d_L_sign_16 : decode b_L_sign 16 = .ok (.ireturn, 1) := by decide +kernel
theorem d_L_same_0 : decode b_L_same 0 = .ok (.aload_n 3, 1) := by decide +kernel
theorem d_L_same_1 : decode b_L_same 1 = .ok (.iconst 0, 1) := by decide +kernel
theorem d_L_same_2 : decode b_L_same 2 = .ok (.aload_n 0, 1) := by decide +kernel
theorem d_L_same_3 : decode b_L_same 3 = .ok (.iload_n 1, 1) := by decide +kernel
theorem d_L_same_4 : decode b_L_same 4 = .ok (.iload_n 2, 1) := by decide +kernel
theorem d_L_same_5 : decode b_L_same 5 = .ok (.invokevirtual 66, 3) := by decide +kernel
theorem d_L_same_8 : decode b_L_same 8 = .ok (.ifCond .eq 7, 3) := by decide +kernel
theorem d_L_same_11 : decode b_L_same 11 = .ok (.lconst 1, 1) := by decide +kernel
theorem d_L_same_12 : decode b_L_same 12 = .ok (.goto 4, 3) := by decide +kernel
theorem d_L_same_15 : decode b_L_same 15 = .ok (.lconst 0, 1) := by decide +kernel
theorem d_L_same_16 : decode b_L_same 16 = .ok (.lastore, 1) := by decide +kernel
theorem d_L_same_17 : decode b_L_same 17 = .ok (.goto 7, 3) := by decide +kernel
theorem d_L_same_20 : decode b_L_same 20 = .ok (.astore 4, 2) := by decide +kernel
theorem d_L_same_22 : decode b_L_same 22 = .ok (.iconst 1, 1) := by decide +kernel
theorem d_L_same_23 : decode b_L_same 23 = .ok (.ireturn, 1) := by decide +kernel
theorem d_L_same_24 : decode b_L_same 24 = .ok (.iconst 0, 1) := by decide +kernel
theorem d_L_same_25 : decode b_L_same 25 = .ok (.ireturn, 1) := by decide +kernel
theorem d_L_fastest_0 : decode b_L_fastest 0 = .ok (.aload_n 2, 1) := by decide +kernel
theorem d_L_fastest_1 : decode b_L_fastest 1 = .ok (.iconst 0, 1) := by decide +kernel
theorem d_L_fastest_2 : decode b_L_fastest 2 = .ok (.aload_n 0, 1) := by decide +kernel
theorem d_L_fastest_3 : decode b_L_fastest 3 = .ok (.iload_n 1, 1) := by decide +kernel
theorem d_L_fastest_4 : decode b_L_fastest 4 = .ok (.invokevirtual 70, 3) := by decide +kernel
theorem d_L_fastest_7 : decode b_L_fastest 7 = .ok (.i2l, 1) := by decide +kernel
theorem d_L_fastest_8 : decode b_L_fastest 8 = .ok (.lastore, 1) := by decide +kernel
theorem d_L_fastest_9 : decode b_L_fastest 9 = .ok (.goto 6, 3) := by decide +kernel
theorem d_L_fastest_12 : decode b_L_fastest 12 = .ok (.astore_n 3, 1) := by decide +kernel
theorem d_L_fastest_13 : decode b_L_fastest 13 = .ok (.iconst 1, 1) := by decide +kernel
theorem d_L_fastest_14 : decode b_L_fastest 14 = .ok (.ireturn, 1) := by decide +kernel
theorem d_L_fastest_15 : decode b_L_fastest 15 = .ok (.iconst 0, 1) := by decide +kernel
theorem d_L_fastest_16 : decode b_L_fastest 16 = .ok (.ireturn, 1) := by decide +kernel
theorem d_L_law_0 : decode b_L_law 0 = .ok (.new 8, 3) := by decide +kernel
theorem d_L_law_3 : decode b_L_law 3 = .ok (.dup, 1) := by decide +kernel
theorem d_L_law_4 : decode b_L_law 4 = .ok (.invokespecial 73, 3) := by decide +kernel
theorem d_L_law_7 : decode b_L_law 7 = .ok (.astore_n 1, 1) := by decide +kernel
theorem d_L_law_8 : decode b_L_law 8 = .ok (.new 74, 3) := by decide +kernel
theorem d_L_law_11 : decode b_L_law 11 = .ok (.dup, 1) := by decide +kernel
theorem d_L_law_12 : decode b_L_law 12 = .ok (.invokespecial 76, 3) := by decide +kernel
theorem d_L_law_15 : decode b_L_law 15 = .ok (.astore_n 2, 1) := by decide +kernel
theorem d_L_law_16 : decode b_L_law 16 = .ok (.iconst 1, 1) := by decide +kernel
theorem d_L_law_17 : decode b_L_law 17 = .ok (.newarray .long, 2) := by decide +kernel
theorem d_L_law_19 : decode b_L_law 19 = .ok (.astore_n 3, 1) := by decide +kernel
theorem d_L_law_20 : decode b_L_law 20 = .ok (.iconst 0, 1) := by decide +kernel
theorem d_L_law_21 : decode b_L_law 21 = .ok (.istore 4, 2) := by decide +kernel
theorem d_L_law_23 : decode b_L_law 23 = .ok (.iload 4, 2) := by decide +kernel
theorem d_L_law_25 : decode b_L_law 25 = .ok (.aload_n 0, 1) := by decide +kernel
theorem d_L_law_26 : decode b_L_law 26 = .ok (.arraylength, 1) := by decide +kernel
theorem d_L_law_27 : decode b_L_law 27 = .ok (.iconst 4, 1) := by decide +kernel
theorem d_L_law_28 : decode b_L_law 28 = .ok (.isub, 1) := by decide +kernel
theorem d_L_law_29 : decode b_L_law 29 = .ok (.if_icmp .gt 1204, 3) := by decide +kernel
theorem d_L_law_32 : decode b_L_law 32 = .ok (.aload_n 0, 1) := by decide +kernel
theorem d_L_law_33 : decode b_L_law 33 = .ok (.iload 4, 2) := by decide +kernel
theorem d_L_law_35 : decode b_L_law 35 = .ok (.iaload, 1) := by decide +kernel
theorem d_L_law_36 : decode b_L_law 36 = .ok (.bipush 31, 2) := by decide +kernel
theorem d_L_law_38 : decode b_L_law 38 = .ok (.iand, 1) := by decide +kernel
theorem d_L_law_39 : decode b_L_law 39 = .ok (.tableswitch 1188 0 17 #[85, 153, 209, 277, 345, 413, 469, 525, 581, 637, 717, 773, 841, 909, 988, 1044, 1119, 1175], 85) := by decide +kernel
theorem d_L_law_124 : decode b_L_law 124 = .ok (.aload_n 1, 1) := by decide +kernel
theorem d_L_law_125 : decode b_L_law 125 = .ok (.aload_n 0, 1) := by decide +kernel
theorem d_L_law_126 : decode b_L_law 126 = .ok (.iload 4, 2) := by decide +kernel
theorem d_L_law_128 : decode b_L_law 128 = .ok (.iconst 1, 1) := by decide +kernel
theorem d_L_law_129 : decode b_L_law 129 = .ok (.iadd, 1) := by decide +kernel
theorem d_L_law_130 : decode b_L_law 130 = .ok (.iaload, 1) := by decide +kernel
theorem d_L_law_131 : decode b_L_law 131 = .ok (.aload_n 0, 1) := by decide +kernel
theorem d_L_law_132 : decode b_L_law 132 = .ok (.iload 4, 2) := by decide +kernel
theorem d_L_law_134 : decode b_L_law 134 = .ok (.iconst 2, 1) := by decide +kernel
theorem d_L_law_135 : decode b_L_law 135 = .ok (.iadd, 1) := by decide +kernel
theorem d_L_law_136 : decode b_L_law 136 = .ok (.iaload, 1) := by decide +kernel
theorem d_L_law_137 : decode b_L_law 137 = .ok (.aload_n 3, 1) := by decide +kernel
theorem d_L_law_138 : decode b_L_law 138 = .ok (.invokestatic 77, 3) := by decide +kernel
theorem d_L_law_141 : decode b_L_law 141 = .ok (.istore 5, 2) := by decide +kernel
theorem d_L_law_143 : decode b_L_law 143 = .ok (.aload_n 2, 1) := by decide +kernel
theorem d_L_law_144 : decode b_L_law 144 = .ok (.aload_n 0, 1) := by decide +kernel
theorem d_L_law_145 : decode b_L_law 145 = .ok (.iload 4, 2) := by decide +kernel
theorem d_L_law_147 : decode b_L_law 147 = .ok (.iconst 1, 1) := by decide +kernel
theorem d_L_law_148 : decode b_L_law 148 = .ok (.iadd, 1) := by decide +kernel
theorem d_L_law_149 : decode b_L_law 149 = .ok (.iaload, 1) := by decide +kernel
theorem d_L_law_150 : decode b_L_law 150 = .ok (.aload_n 0, 1) := by decide +kernel
theorem d_L_law_151 : decode b_L_law 151 = .ok (.iload 4, 2) := by decide +kernel
theorem d_L_law_153 : decode b_L_law 153 = .ok (.iconst 2, 1) := by decide +kernel
theorem d_L_law_154 : decode b_L_law 154 = .ok (.iadd, 1) := by decide +kernel
theorem d_L_law_155 : decode b_L_law 155 = .ok (.iaload, 1) := by decide +kernel
theorem d_L_law_156 : decode b_L_law 156 = .ok (.invokevirtual 82, 3) := by decide +kernel
theorem d_L_law_159 : decode b_L_law 159 = .ok (.istore 6, 2) := by decide +kernel
theorem d_L_law_161 : decode b_L_law 161 = .ok (.aload_n 2, 1) := by decide +kernel
theorem d_L_law_162 : decode b_L_law 162 = .ok (.invokevirtual 83, 3) := by decide +kernel
theorem d_L_law_165 : decode b_L_law 165 = .ok (.iload 5, 2) := by decide +kernel
theorem d_L_law_167 : decode b_L_law 167 = .ok (.if_icmp .eq 5, 3) := by decide +kernel
theorem d_L_law_170 : decode b_L_law 170 = .ok (.iconst 0, 1) := by decide +kernel
theorem d_L_law_171 : decode b_L_law 171 = .ok (.ireturn, 1) := by decide +kernel
theorem d_L_law_172 : decode b_L_law 172 = .ok (.iload 5, 2) := by decide +kernel
theorem d_L_law_174 : decode b_L_law 174 = .ok (.ifCond .ne 15, 3) := by decide +kernel
theorem d_L_law_177 : decode b_L_law 177 = .ok (.aload_n 3, 1) := by decide +kernel
theorem d_L_law_178 : decode b_L_law 178 = .ok (.iconst 0, 1) := by decide +kernel
theorem d_L_law_179 : decode b_L_law 179 = .ok (.laload, 1) := by decide +kernel
theorem d_L_law_180 : decode b_L_law 180 = .ok (.iload 6, 2) := by decide +kernel
theorem d_L_law_182 : decode b_L_law 182 = .ok (.i2l, 1) := by decide +kernel
theorem d_L_law_183 : decode b_L_law 183 = .ok (.lcmp, 1) := by decide +kernel
theorem d_L_law_184 : decode b_L_law 184 = .ok (.ifCond .eq 5, 3) := by decide +kernel
theorem d_L_law_187 : decode b_L_law 187 = .ok (.iconst 0, 1) := by decide +kernel
theorem d_L_law_188 : decode b_L_law 188 = .ok (.ireturn, 1) := by decide +kernel
theorem d_L_law_189 : decode b_L_law 189 = .ok (.goto 1038, 3) := by decide +kernel
theorem d_L_law_192 : decode b_L_law 192 = .ok (.aload_n 1, 1) := by decide +kernel
theorem d_L_law_193 : decode b_L_law 193 = .ok (.aload_n 0, 1) := by decide +kernel
theorem d_L_law_194 : decode b_L_law 194 = .ok (.iload 4, 2) := by decide +kernel
theorem d_L_law_196 : decode b_L_law 196 = .ok (.iconst 1, 1) := by decide +kernel
theorem d_L_law_197 : decode b_L_law 197 = .ok (.iadd, 1) := by decide +kernel
theorem d_L_law_198 : decode b_L_law 198 = .ok (.iaload, 1) := by decide +kernel
theorem d_L_law_199 : decode b_L_law 199 = .ok (.aload_n 3, 1) := by decide +kernel
theorem d_L_law_200 : decode b_L_law 200 = .ok (.invokestatic 87, 3) := by decide +kernel
theorem d_L_law_203 : decode b_L_law 203 = .ok (.istore 5, 2) := by decide +kernel
theorem d_L_law_205 : decode b_L_law 205 = .ok (.aload_n 2, 1) := by decide +kernel
theorem d_L_law_206 : decode b_L_law 206 = .ok (.aload_n 0, 1) := by decide +kernel
theorem d_L_law_207 : decode b_L_law 207 = .ok (.iload 4, 2) := by decide +kernel
theorem d_L_law_209 : decode b_L_law 209 = .ok (.iconst 1, 1) := by decide +kernel
theorem d_L_law_210 : decode b_L_law 210 = .ok (.iadd, 1) := by decide +kernel
theorem d_L_law_211 : decode b_L_law 211 = .ok (.iaload, 1) := by decide +kernel
theorem d_L_law_212 : decode b_L_law 212 = .ok (.invokevirtual 90, 3) := by decide +kernel
theorem d_L_law_215 : decode b_L_law 215 = .ok (.istore 6, 2) := by decide +kernel
theorem d_L_law_217 : decode b_L_law 217 = .ok (.aload_n 2, 1) := by decide +kernel
theorem d_L_law_218 : decode b_L_law 218 = .ok (.invokevirtual 83, 3) := by decide +kernel
theorem d_L_law_221 : decode b_L_law 221 = .ok (.iload 5, 2) := by decide +kernel
theorem d_L_law_223 : decode b_L_law 223 = .ok (.if_icmp .eq 5, 3) := by decide +kernel
theorem d_L_law_226 : decode b_L_law 226 = .ok (.iconst 0, 1) := by decide +kernel
theorem d_L_law_227 : decode b_L_law 227 = .ok (.ireturn, 1) := by decide +kernel
theorem d_L_law_228 : decode b_L_law 228 = .ok (.iload 5, 2) := by decide +kernel
theorem d_L_law_230 : decode b_L_law 230 = .ok (.ifCond .ne 15, 3) := by decide +kernel
theorem d_L_law_233 : decode b_L_law 233 = .ok (.aload_n 3, 1) := by decide +kernel
theorem d_L_law_234 : decode b_L_law 234 = .ok (.iconst 0, 1) := by decide +kernel
theorem d_L_law_235 : decode b_L_law 235 = .ok (.laload, 1) := by decide +kernel
theorem d_L_law_236 : decode b_L_law 236 = .ok (.iload 6, 2) := by decide +kernel
theorem d_L_law_238 : decode b_L_law 238 = .ok (.i2l, 1) := by decide +kernel
theorem d_L_law_239 : decode b_L_law 239 = .ok (.lcmp, 1) := by decide +kernel
theorem d_L_law_240 : decode b_L_law 240 = .ok (.ifCond .eq 5, 3) := by decide +kernel
theorem d_L_law_243 : decode b_L_law 243 = .ok (.iconst 0, 1) := by decide +kernel
theorem d_L_law_244 : decode b_L_law 244 = .ok (.ireturn, 1) := by decide +kernel
theorem d_L_law_245 : decode b_L_law 245 = .ok (.goto 982, 3) := by decide +kernel
theorem d_L_law_248 : decode b_L_law 248 = .ok (.aload_n 1, 1) := by decide +kernel
theorem d_L_law_249 : decode b_L_law 249 = .ok (.aload_n 0, 1) := by decide +kernel
theorem d_L_law_250 : decode b_L_law 250 = .ok (.iload 4, 2) := by decide +kernel
theorem d_L_law_252 : decode b_L_law 252 = .ok (.iconst 1, 1) := by decide +kernel
theorem d_L_law_253 : decode b_L_law 253 = .ok (.iadd, 1) := by decide +kernel
theorem d_L_law_254 : decode b_L_law 254 = .ok (.iaload, 1) := by decide +kernel
theorem d_L_law_255 : decode b_L_law 255 = .ok (.aload_n 0, 1) := by decide +kernel
theorem d_L_law_256 : decode b_L_law 256 = .ok (.iload 4, 2) := by decide +kernel
theorem d_L_law_258 : decode b_L_law 258 = .ok (.iconst 2, 1) := by decide +kernel
theorem d_L_law_259 : decode b_L_law 259 = .ok (.iadd, 1) := by decide +kernel
theorem d_L_law_260 : decode b_L_law 260 = .ok (.iaload, 1) := by decide +kernel
theorem d_L_law_261 : decode b_L_law 261 = .ok (.aload_n 3, 1) := by decide +kernel
theorem d_L_law_262 : decode b_L_law 262 = .ok (.invokestatic 91, 3) := by decide +kernel
theorem d_L_law_265 : decode b_L_law 265 = .ok (.istore 5, 2) := by decide +kernel
theorem d_L_law_267 : decode b_L_law 267 = .ok (.aload_n 2, 1) := by decide +kernel
theorem d_L_law_268 : decode b_L_law 268 = .ok (.aload_n 0, 1) := by decide +kernel
theorem d_L_law_269 : decode b_L_law 269 = .ok (.iload 4, 2) := by decide +kernel
theorem d_L_law_271 : decode b_L_law 271 = .ok (.iconst 1, 1) := by decide +kernel
theorem d_L_law_272 : decode b_L_law 272 = .ok (.iadd, 1) := by decide +kernel
theorem d_L_law_273 : decode b_L_law 273 = .ok (.iaload, 1) := by decide +kernel
theorem d_L_law_274 : decode b_L_law 274 = .ok (.aload_n 0, 1) := by decide +kernel
theorem d_L_law_275 : decode b_L_law 275 = .ok (.iload 4, 2) := by decide +kernel
theorem d_L_law_277 : decode b_L_law 277 = .ok (.iconst 2, 1) := by decide +kernel
theorem d_L_law_278 : decode b_L_law 278 = .ok (.iadd, 1) := by decide +kernel
theorem d_L_law_279 : decode b_L_law 279 = .ok (.iaload, 1) := by decide +kernel
theorem d_L_law_280 : decode b_L_law 280 = .ok (.invokevirtual 93, 3) := by decide +kernel
theorem d_L_law_283 : decode b_L_law 283 = .ok (.istore 6, 2) := by decide +kernel
theorem d_L_law_285 : decode b_L_law 285 = .ok (.aload_n 2, 1) := by decide +kernel
theorem d_L_law_286 : decode b_L_law 286 = .ok (.invokevirtual 83, 3) := by decide +kernel
theorem d_L_law_289 : decode b_L_law 289 = .ok (.iload 5, 2) := by decide +kernel
theorem d_L_law_291 : decode b_L_law 291 = .ok (.if_icmp .eq 5, 3) := by decide +kernel
theorem d_L_law_294 : decode b_L_law 294 = .ok (.iconst 0, 1) := by decide +kernel
theorem d_L_law_295 : decode b_L_law 295 = .ok (.ireturn, 1) := by decide +kernel
theorem d_L_law_296 : decode b_L_law 296 = .ok (.iload 5, 2) := by decide +kernel
theorem d_L_law_298 : decode b_L_law 298 = .ok (.ifCond .ne 15, 3) := by decide +kernel
theorem d_L_law_301 : decode b_L_law 301 = .ok (.aload_n 3, 1) := by decide +kernel
theorem d_L_law_302 : decode b_L_law 302 = .ok (.iconst 0, 1) := by decide +kernel
theorem d_L_law_303 : decode b_L_law 303 = .ok (.laload, 1) := by decide +kernel
theorem d_L_law_304 : decode b_L_law 304 = .ok (.iload 6, 2) := by decide +kernel
theorem d_L_law_306 : decode b_L_law 306 = .ok (.i2l, 1) := by decide +kernel
theorem d_L_law_307 : decode b_L_law 307 = .ok (.lcmp, 1) := by decide +kernel
theorem d_L_law_308 : decode b_L_law 308 = .ok (.ifCond .eq 5, 3) := by decide +kernel
theorem d_L_law_311 : decode b_L_law 311 = .ok (.iconst 0, 1) := by decide +kernel
theorem d_L_law_312 : decode b_L_law 312 = .ok (.ireturn, 1) := by decide +kernel
theorem d_L_law_313 : decode b_L_law 313 = .ok (.goto 914, 3) := by decide +kernel
theorem d_L_law_316 : decode b_L_law 316 = .ok (.aload_n 1, 1) := by decide +kernel
theorem d_L_law_317 : decode b_L_law 317 = .ok (.aload_n 0, 1) := by decide +kernel
theorem d_L_law_318 : decode b_L_law 318 = .ok (.iload 4, 2) := by decide +kernel
theorem d_L_law_320 : decode b_L_law 320 = .ok (.iconst 1, 1) := by decide +kernel
theorem d_L_law_321 : decode b_L_law 321 = .ok (.iadd, 1) := by decide +kernel
theorem d_L_law_322 : decode b_L_law 322 = .ok (.iaload, 1) := by decide +kernel
theorem d_L_law_323 : decode b_L_law 323 = .ok (.aload_n 0, 1) := by decide +kernel
theorem d_L_law_324 : decode b_L_law 324 = .ok (.iload 4, 2) := by decide +kernel
theorem d_L_law_326 : decode b_L_law 326 = .ok (.iconst 2, 1) := by decide +kernel
theorem d_L_law_327 : decode b_L_law 327 = .ok (.iadd, 1) := by decide +kernel
theorem d_L_law_328 : decode b_L_law 328 = .ok (.iaload, 1) := by decide +kernel
theorem d_L_law_329 : decode b_L_law 329 = .ok (.aload_n 3, 1) := by decide +kernel
theorem d_L_law_330 : decode b_L_law 330 = .ok (.invokestatic 94, 3) := by decide +kernel
theorem d_L_law_333 : decode b_L_law 333 = .ok (.istore 5, 2) := by decide +kernel
theorem d_L_law_335 : decode b_L_law 335 = .ok (.aload_n 2, 1) := by decide +kernel
theorem d_L_law_336 : decode b_L_law 336 = .ok (.aload_n 0, 1) := by decide +kernel
theorem d_L_law_337 : decode b_L_law 337 = .ok (.iload 4, 2) := by decide +kernel
theorem d_L_law_339 : decode b_L_law 339 = .ok (.iconst 1, 1) := by decide +kernel
theorem d_L_law_340 : decode b_L_law 340 = .ok (.iadd, 1) := by decide +kernel
theorem d_L_law_341 : decode b_L_law 341 = .ok (.iaload, 1) := by decide +kernel
theorem d_L_law_342 : decode b_L_law 342 = .ok (.aload_n 0, 1) := by decide +kernel
theorem d_L_law_343 : decode b_L_law 343 = .ok (.iload 4, 2) := by decide +kernel
theorem d_L_law_345 : decode b_L_law 345 = .ok (.iconst 2, 1) := by decide +kernel
theorem d_L_law_346 : decode b_L_law 346 = .ok (.iadd, 1) := by decide +kernel
theorem d_L_law_347 : decode b_L_law 347 = .ok (.iaload, 1) := by decide +kernel
theorem d_L_law_348 : decode b_L_law 348 = .ok (.invokevirtual 96, 3) := by decide +kernel
theorem d_L_law_351 : decode b_L_law 351 = .ok (.istore 6, 2) := by decide +kernel
theorem d_L_law_353 : decode b_L_law 353 = .ok (.aload_n 2, 1) := by decide +kernel
theorem d_L_law_354 : decode b_L_law 354 = .ok (.invokevirtual 83, 3) := by decide +kernel
theorem d_L_law_357 : decode b_L_law 357 = .ok (.iload 5, 2) := by decide +kernel
theorem d_L_law_359 : decode b_L_law 359 = .ok (.if_icmp .eq 5, 3) := by decide +kernel
theorem d_L_law_362 : decode b_L_law 362 = .ok (.iconst 0, 1) := by decide +kernel
theorem d_L_law_363 : decode b_L_law 363 = .ok (.ireturn, 1) := by decide +kernel
theorem d_L_law_364 : decode b_L_law 364 = .ok (.iload 5, 2) := by decide +kernel
theorem d_L_law_366 : decode b_L_law 366 = .ok (.ifCond .ne 15, 3) := by decide +kernel
theorem d_L_law_369 : decode b_L_law 369 = .ok (.aload_n 3, 1) := by decide +kernel
theorem d_L_law_370 : decode b_L_law 370 = .ok (.iconst 0, 1) := by decide +kernel
theorem d_L_law_371 : decode b_L_law 371 = .ok (.laload, 1) := by decide +kernel
theorem d_L_law_372 : decode b_L_law 372 = .ok (.iload 6, 2) := by decide +kernel
theorem d_L_law_374 : decode b_L_law 374 = .ok (.i2l, 1) := by decide +kernel
theorem d_L_law_375 : decode b_L_law 375 = .ok (.lcmp, 1) := by decide +kernel
theorem d_L_law_376 : decode b_L_law 376 = .ok (.ifCond .eq 5, 3) := by decide +kernel
theorem d_L_law_379 : decode b_L_law 379 = .ok (.iconst 0, 1) := by decide +kernel
theorem d_L_law_380 : decode b_L_law 380 = .ok (.ireturn, 1) := by decide +kernel
theorem d_L_law_381 : decode b_L_law 381 = .ok (.goto 846, 3) := by decide +kernel
theorem d_L_law_384 : decode b_L_law 384 = .ok (.aload_n 1, 1) := by decide +kernel
theorem d_L_law_385 : decode b_L_law 385 = .ok (.aload_n 0, 1) := by decide +kernel
theorem d_L_law_386 : decode b_L_law 386 = .ok (.iload 4, 2) := by decide +kernel
theorem d_L_law_388 : decode b_L_law 388 = .ok (.iconst 1, 1) := by decide +kernel
theorem d_L_law_389 : decode b_L_law 389 = .ok (.iadd, 1) := by decide +kernel
theorem d_L_law_390 : decode b_L_law 390 = .ok (.iaload, 1) := by decide +kernel
theorem d_L_law_391 : decode b_L_law 391 = .ok (.aload_n 0, 1) := by decide +kernel
theorem d_L_law_392 : decode b_L_law 392 = .ok (.iload 4, 2) := by decide +kernel
theorem d_L_law_394 : decode b_L_law 394 = .ok (.iconst 2, 1) := by decide +kernel
theorem d_L_law_395 : decode b_L_law 395 = .ok (.iadd, 1) := by decide +kernel
theorem d_L_law_396 : decode b_L_law 396 = .ok (.iaload, 1) := by decide +kernel
theorem d_L_law_397 : decode b_L_law 397 = .ok (.aload_n 3, 1) := by decide +kernel
theorem d_L_law_398 : decode b_L_law 398 = .ok (.invokestatic 97, 3) := by decide +kernel
theorem d_L_law_401 : decode b_L_law 401 = .ok (.istore 5, 2) := by decide +kernel
theorem d_L_law_403 : decode b_L_law 403 = .ok (.aload_n 2, 1) := by decide +kernel
theorem d_L_law_404 : decode b_L_law 404 = .ok (.aload_n 0, 1) := by decide +kernel
theorem d_L_law_405 : decode b_L_law 405 = .ok (.iload 4, 2) := by decide +kernel
theorem d_L_law_407 : decode b_L_law 407 = .ok (.iconst 1, 1) := by decide +kernel
theorem d_L_law_408 : decode b_L_law 408 = .ok (.iadd, 1) := by decide +kernel
theorem d_L_law_409 : decode b_L_law 409 = .ok (.iaload, 1) := by decide +kernel
theorem d_L_law_410 : decode b_L_law 410 = .ok (.aload_n 0, 1) := by decide +kernel
theorem d_L_law_411 : decode b_L_law 411 = .ok (.iload 4, 2) := by decide +kernel
theorem d_L_law_413 : decode b_L_law 413 = .ok (.iconst 2, 1) := by decide +kernel
theorem d_L_law_414 : decode b_L_law 414 = .ok (.iadd, 1) := by decide +kernel
theorem d_L_law_415 : decode b_L_law 415 = .ok (.iaload, 1) := by decide +kernel
theorem d_L_law_416 : decode b_L_law 416 = .ok (.invokevirtual 99, 3) := by decide +kernel
theorem d_L_law_419 : decode b_L_law 419 = .ok (.istore 6, 2) := by decide +kernel
theorem d_L_law_421 : decode b_L_law 421 = .ok (.aload_n 2, 1) := by decide +kernel
theorem d_L_law_422 : decode b_L_law 422 = .ok (.invokevirtual 83, 3) := by decide +kernel
theorem d_L_law_425 : decode b_L_law 425 = .ok (.iload 5, 2) := by decide +kernel
theorem d_L_law_427 : decode b_L_law 427 = .ok (.if_icmp .eq 5, 3) := by decide +kernel
theorem d_L_law_430 : decode b_L_law 430 = .ok (.iconst 0, 1) := by decide +kernel
theorem d_L_law_431 : decode b_L_law 431 = .ok (.ireturn, 1) := by decide +kernel
theorem d_L_law_432 : decode b_L_law 432 = .ok (.iload 5, 2) := by decide +kernel
theorem d_L_law_434 : decode b_L_law 434 = .ok (.ifCond .ne 15, 3) := by decide +kernel
theorem d_L_law_437 : decode b_L_law 437 = .ok (.aload_n 3, 1) := by decide +kernel
theorem d_L_law_438 : decode b_L_law 438 = .ok (.iconst 0, 1) := by decide +kernel
theorem d_L_law_439 : decode b_L_law 439 = .ok (.laload, 1) := by decide +kernel
theorem d_L_law_440 : decode b_L_law 440 = .ok (.iload 6, 2) := by decide +kernel
theorem d_L_law_442 : decode b_L_law 442 = .ok (.i2l, 1) := by decide +kernel
theorem d_L_law_443 : decode b_L_law 443 = .ok (.lcmp, 1) := by decide +kernel
theorem d_L_law_444 : decode b_L_law 444 = .ok (.ifCond .eq 5, 3) := by decide +kernel
theorem d_L_law_447 : decode b_L_law 447 = .ok (.iconst 0, 1) := by decide +kernel
theorem d_L_law_448 : decode b_L_law 448 = .ok (.ireturn, 1) := by decide +kernel
theorem d_L_law_449 : decode b_L_law 449 = .ok (.goto 778, 3) := by decide +kernel
theorem d_L_law_452 : decode b_L_law 452 = .ok (.aload_n 1, 1) := by decide +kernel
theorem d_L_law_453 : decode b_L_law 453 = .ok (.aload_n 0, 1) := by decide +kernel
theorem d_L_law_454 : decode b_L_law 454 = .ok (.iload 4, 2) := by decide +kernel
theorem d_L_law_456 : decode b_L_law 456 = .ok (.iconst 1, 1) := by decide +kernel
theorem d_L_law_457 : decode b_L_law 457 = .ok (.iadd, 1) := by decide +kernel
theorem d_L_law_458 : decode b_L_law 458 = .ok (.iaload, 1) := by decide +kernel
theorem d_L_law_459 : decode b_L_law 459 = .ok (.aload_n 3, 1) := by decide +kernel
theorem d_L_law_460 : decode b_L_law 460 = .ok (.invokestatic 100, 3) := by decide +kernel
theorem d_L_law_463 : decode b_L_law 463 = .ok (.istore 5, 2) := by decide +kernel
theorem d_L_law_465 : decode b_L_law 465 = .ok (.aload_n 2, 1) := by decide +kernel
theorem d_L_law_466 : decode b_L_law 466 = .ok (.aload_n 0, 1) := by decide +kernel
theorem d_L_law_467 : decode b_L_law 467 = .ok (.iload 4, 2) := by decide +kernel
theorem d_L_law_469 : decode b_L_law 469 = .ok (.iconst 1, 1) := by decide +kernel
theorem d_L_law_470 : decode b_L_law 470 = .ok (.iadd, 1) := by decide +kernel
theorem d_L_law_471 : decode b_L_law 471 = .ok (.iaload, 1) := by decide +kernel
theorem d_L_law_472 : decode b_L_law 472 = .ok (.invokevirtual 102, 3) := by decide +kernel
theorem d_L_law_475 : decode b_L_law 475 = .ok (.istore 6, 2) := by decide +kernel
theorem d_L_law_477 : decode b_L_law 477 = .ok (.aload_n 2, 1) := by decide +kernel
theorem d_L_law_478 : decode b_L_law 478 = .ok (.invokevirtual 83, 3) := by decide +kernel
theorem d_L_law_481 : decode b_L_law 481 = .ok (.iload 5, 2) := by decide +kernel
theorem d_L_law_483 : decode b_L_law 483 = .ok (.if_icmp .eq 5, 3) := by decide +kernel
theorem d_L_law_486 : decode b_L_law 486 = .ok (.iconst 0, 1) := by decide +kernel
theorem d_L_law_487 : decode b_L_law 487 = .ok (.ireturn, 1) := by decide +kernel
theorem d_L_law_488 : decode b_L_law 488 = .ok (.iload 5, 2) := by decide +kernel
theorem d_L_law_490 : decode b_L_law 490 = .ok (.ifCond .ne 15, 3) := by decide +kernel
theorem d_L_law_493 : decode b_L_law 493 = .ok (.aload_n 3, 1) := by decide +kernel
theorem d_L_law_494 : decode b_L_law 494 = .ok (.iconst 0, 1) := by decide +kernel
theorem d_L_law_495 : decode b_L_law 495 = .ok (.laload, 1) := by decide +kernel
theorem d_L_law_496 : decode b_L_law 496 = .ok (.iload 6, 2) := by decide +kernel
theorem d_L_law_498 : decode b_L_law 498 = .ok (.i2l, 1) := by decide +kernel
theorem d_L_law_499 : decode b_L_law 499 = .ok (.lcmp, 1) := by decide +kernel
theorem d_L_law_500 : decode b_L_law 500 = .ok (.ifCond .eq 5, 3) := by decide +kernel
theorem d_L_law_503 : decode b_L_law 503 = .ok (.iconst 0, 1) := by decide +kernel
theorem d_L_law_504 : decode b_L_law 504 = .ok (.ireturn, 1) := by decide +kernel
theorem d_L_law_505 : decode b_L_law 505 = .ok (.goto 722, 3) := by decide +kernel
theorem d_L_law_508 : decode b_L_law 508 = .ok (.aload_n 1, 1) := by decide +kernel
theorem d_L_law_509 : decode b_L_law 509 = .ok (.aload_n 0, 1) := by decide +kernel
theorem d_L_law_510 : decode b_L_law 510 = .ok (.iload 4, 2) := by decide +kernel
theorem d_L_law_512 : decode b_L_law 512 = .ok (.iconst 1, 1) := by decide +kernel
theorem d_L_law_513 : decode b_L_law 513 = .ok (.iadd, 1) := by decide +kernel
theorem d_L_law_514 : decode b_L_law 514 = .ok (.iaload, 1) := by decide +kernel
theorem d_L_law_515 : decode b_L_law 515 = .ok (.aload_n 3, 1) := by decide +kernel
theorem d_L_law_516 : decode b_L_law 516 = .ok (.invokestatic 103, 3) := by decide +kernel
theorem d_L_law_519 : decode b_L_law 519 = .ok (.istore 5, 2) := by decide +kernel
theorem d_L_law_521 : decode b_L_law 521 = .ok (.aload_n 2, 1) := by decide +kernel
theorem d_L_law_522 : decode b_L_law 522 = .ok (.aload_n 0, 1) := by decide +kernel
theorem d_L_law_523 : decode b_L_law 523 = .ok (.iload 4, 2) := by decide +kernel
theorem d_L_law_525 : decode b_L_law 525 = .ok (.iconst 1, 1) := by decide +kernel
theorem d_L_law_526 : decode b_L_law 526 = .ok (.iadd, 1) := by decide +kernel
theorem d_L_law_527 : decode b_L_law 527 = .ok (.iaload, 1) := by decide +kernel
theorem d_L_law_528 : decode b_L_law 528 = .ok (.invokevirtual 105, 3) := by decide +kernel
theorem d_L_law_531 : decode b_L_law 531 = .ok (.istore 6, 2) := by decide +kernel
theorem d_L_law_533 : decode b_L_law 533 = .ok (.aload_n 2, 1) := by decide +kernel
theorem d_L_law_534 : decode b_L_law 534 = .ok (.invokevirtual 83, 3) := by decide +kernel
theorem d_L_law_537 : decode b_L_law 537 = .ok (.iload 5, 2) := by decide +kernel
theorem d_L_law_539 : decode b_L_law 539 = .ok (.if_icmp .eq 5, 3) := by decide +kernel
theorem d_L_law_542 : decode b_L_law 542 = .ok (.iconst 0, 1) := by decide +kernel
theorem d_L_law_543 : decode b_L_law 543 = .ok (.ireturn, 1) := by decide +kernel
theorem d_L_law_544 : decode b_L_law 544 = .ok (.iload 5, 2) := by decide +kernel
theorem d_L_law_546 : decode b_L_law 546 = .ok (.ifCond .ne 15, 3) := by decide +kernel
theorem d_L_law_549 : decode b_L_law 549 = .ok (.aload_n 3, 1) := by decide +kernel
theorem d_L_law_550 : decode b_L_law 550 = .ok (.iconst 0, 1) := by decide +kernel
theorem d_L_law_551 : decode b_L_law 551 = .ok (.laload, 1) := by decide +kernel
theorem d_L_law_552 : decode b_L_law 552 = .ok (.iload 6, 2) := by decide +kernel
theorem d_L_law_554 : decode b_L_law 554 = .ok (.i2l, 1) := by decide +kernel
theorem d_L_law_555 : decode b_L_law 555 = .ok (.lcmp, 1) := by decide +kernel
theorem d_L_law_556 : decode b_L_law 556 = .ok (.ifCond .eq 5, 3) := by decide +kernel
theorem d_L_law_559 : decode b_L_law 559 = .ok (.iconst 0, 1) := by decide +kernel
theorem d_L_law_560 : decode b_L_law 560 = .ok (.ireturn, 1) := by decide +kernel
theorem d_L_law_561 : decode b_L_law 561 = .ok (.goto 666, 3) := by decide +kernel
theorem d_L_law_564 : decode b_L_law 564 = .ok (.aload_n 1, 1) := by decide +kernel
theorem d_L_law_565 : decode b_L_law 565 = .ok (.aload_n 0, 1) := by decide +kernel
theorem d_L_law_566 : decode b_L_law 566 = .ok (.iload 4, 2) := by decide +kernel
theorem d_L_law_568 : decode b_L_law 568 = .ok (.iconst 1, 1) := by decide +kernel
theorem d_L_law_569 : decode b_L_law 569 = .ok (.iadd, 1) := by decide +kernel
theorem d_L_law_570 : decode b_L_law 570 = .ok (.iaload, 1) := by decide +kernel
theorem d_L_law_571 : decode b_L_law 571 = .ok (.aload_n 3, 1) := by decide +kernel
theorem d_L_law_572 : decode b_L_law 572 = .ok (.invokestatic 106, 3) := by decide +kernel
theorem d_L_law_575 : decode b_L_law 575 = .ok (.istore 5, 2) := by decide +kernel
theorem d_L_law_577 : decode b_L_law 577 = .ok (.aload_n 2, 1) := by decide +kernel
theorem d_L_law_578 : decode b_L_law 578 = .ok (.aload_n 0, 1) := by decide +kernel
theorem d_L_law_579 : decode b_L_law 579 = .ok (.iload 4, 2) := by decide +kernel
theorem d_L_law_581 : decode b_L_law 581 = .ok (.iconst 1, 1) := by decide +kernel
theorem d_L_law_582 : decode b_L_law 582 = .ok (.iadd, 1) := by decide +kernel
theorem d_L_law_583 : decode b_L_law 583 = .ok (.iaload, 1) := by decide +kernel
theorem d_L_law_584 : decode b_L_law 584 = .ok (.invokevirtual 108, 3) := by decide +kernel
theorem d_L_law_587 : decode b_L_law 587 = .ok (.istore 6, 2) := by decide +kernel
theorem d_L_law_589 : decode b_L_law 589 = .ok (.aload_n 2, 1) := by decide +kernel
theorem d_L_law_590 : decode b_L_law 590 = .ok (.invokevirtual 83, 3) := by decide +kernel
theorem d_L_law_593 : decode b_L_law 593 = .ok (.iload 5, 2) := by decide +kernel
theorem d_L_law_595 : decode b_L_law 595 = .ok (.if_icmp .eq 5, 3) := by decide +kernel
theorem d_L_law_598 : decode b_L_law 598 = .ok (.iconst 0, 1) := by decide +kernel
theorem d_L_law_599 : decode b_L_law 599 = .ok (.ireturn, 1) := by decide +kernel
theorem d_L_law_600 : decode b_L_law 600 = .ok (.iload 5, 2) := by decide +kernel
theorem d_L_law_602 : decode b_L_law 602 = .ok (.ifCond .ne 15, 3) := by decide +kernel
theorem d_L_law_605 : decode b_L_law 605 = .ok (.aload_n 3, 1) := by decide +kernel
theorem d_L_law_606 : decode b_L_law 606 = .ok (.iconst 0, 1) := by decide +kernel
theorem d_L_law_607 : decode b_L_law 607 = .ok (.laload, 1) := by decide +kernel
theorem d_L_law_608 : decode b_L_law 608 = .ok (.iload 6, 2) := by decide +kernel
theorem d_L_law_610 : decode b_L_law 610 = .ok (.i2l, 1) := by decide +kernel
theorem d_L_law_611 : decode b_L_law 611 = .ok (.lcmp, 1) := by decide +kernel
theorem d_L_law_612 : decode b_L_law 612 = .ok (.ifCond .eq 5, 3) := by decide +kernel
theorem d_L_law_615 : decode b_L_law 615 = .ok (.iconst 0, 1) := by decide +kernel
theorem d_L_law_616 : decode b_L_law 616 = .ok (.ireturn, 1) := by decide +kernel
theorem d_L_law_617 : decode b_L_law 617 = .ok (.goto 610, 3) := by decide +kernel
theorem d_L_law_620 : decode b_L_law 620 = .ok (.aload_n 1, 1) := by decide +kernel
theorem d_L_law_621 : decode b_L_law 621 = .ok (.aload_n 0, 1) := by decide +kernel
theorem d_L_law_622 : decode b_L_law 622 = .ok (.iload 4, 2) := by decide +kernel
theorem d_L_law_624 : decode b_L_law 624 = .ok (.iconst 1, 1) := by decide +kernel
theorem d_L_law_625 : decode b_L_law 625 = .ok (.iadd, 1) := by decide +kernel
theorem d_L_law_626 : decode b_L_law 626 = .ok (.iaload, 1) := by decide +kernel
theorem d_L_law_627 : decode b_L_law 627 = .ok (.aload_n 3, 1) := by decide +kernel
theorem d_L_law_628 : decode b_L_law 628 = .ok (.invokestatic 109, 3) := by decide +kernel
theorem d_L_law_631 : decode b_L_law 631 = .ok (.istore 5, 2) := by decide +kernel
theorem d_L_law_633 : decode b_L_law 633 = .ok (.aload_n 2, 1) := by decide +kernel
theorem d_L_law_634 : decode b_L_law 634 = .ok (.aload_n 0, 1) := by decide +kernel
theorem d_L_law_635 : decode b_L_law 635 = .ok (.iload 4, 2) := by decide +kernel
theorem d_L_law_637 : decode b_L_law 637 = .ok (.iconst 1, 1) := by decide +kernel
theorem d_L_law_638 : decode b_L_law 638 = .ok (.iadd, 1) := by decide +kernel
theorem d_L_law_639 : decode b_L_law 639 = .ok (.iaload, 1) := by decide +kernel
theorem d_L_law_640 : decode b_L_law 640 = .ok (.invokevirtual 111, 3) := by decide +kernel
theorem d_L_law_643 : decode b_L_law 643 = .ok (.istore 6, 2) := by decide +kernel
theorem d_L_law_645 : decode b_L_law 645 = .ok (.aload_n 2, 1) := by decide +kernel
theorem d_L_law_646 : decode b_L_law 646 = .ok (.invokevirtual 83, 3) := by decide +kernel
theorem d_L_law_649 : decode b_L_law 649 = .ok (.iload 5, 2) := by decide +kernel
theorem d_L_law_651 : decode b_L_law 651 = .ok (.if_icmp .eq 5, 3) := by decide +kernel
theorem d_L_law_654 : decode b_L_law 654 = .ok (.iconst 0, 1) := by decide +kernel
theorem d_L_law_655 : decode b_L_law 655 = .ok (.ireturn, 1) := by decide +kernel
theorem d_L_law_656 : decode b_L_law 656 = .ok (.iload 5, 2) := by decide +kernel
theorem d_L_law_658 : decode b_L_law 658 = .ok (.ifCond .ne 15, 3) := by decide +kernel
theorem d_L_law_661 : decode b_L_law 661 = .ok (.aload_n 3, 1) := by decide +kernel
theorem d_L_law_662 : decode b_L_law 662 = .ok (.iconst 0, 1) := by decide +kernel
theorem d_L_law_663 : decode b_L_law 663 = .ok (.laload, 1) := by decide +kernel
theorem d_L_law_664 : decode b_L_law 664 = .ok (.iload 6, 2) := by decide +kernel
theorem d_L_law_666 : decode b_L_law 666 = .ok (.i2l, 1) := by decide +kernel
theorem d_L_law_667 : decode b_L_law 667 = .ok (.lcmp, 1) := by decide +kernel
theorem d_L_law_668 : decode b_L_law 668 = .ok (.ifCond .eq 5, 3) := by decide +kernel
theorem d_L_law_671 : decode b_L_law 671 = .ok (.iconst 0, 1) := by decide +kernel
theorem d_L_law_672 : decode b_L_law 672 = .ok (.ireturn, 1) := by decide +kernel
theorem d_L_law_673 : decode b_L_law 673 = .ok (.goto 554, 3) := by decide +kernel
theorem d_L_law_676 : decode b_L_law 676 = .ok (.aload_n 1, 1) := by decide +kernel
theorem d_L_law_677 : decode b_L_law 677 = .ok (.aload_n 0, 1) := by decide +kernel
theorem d_L_law_678 : decode b_L_law 678 = .ok (.iload 4, 2) := by decide +kernel
theorem d_L_law_680 : decode b_L_law 680 = .ok (.iconst 1, 1) := by decide +kernel
theorem d_L_law_681 : decode b_L_law 681 = .ok (.iadd, 1) := by decide +kernel
theorem d_L_law_682 : decode b_L_law 682 = .ok (.iaload, 1) := by decide +kernel
theorem d_L_law_683 : decode b_L_law 683 = .ok (.aload_n 0, 1) := by decide +kernel
theorem d_L_law_684 : decode b_L_law 684 = .ok (.iload 4, 2) := by decide +kernel
theorem d_L_law_686 : decode b_L_law 686 = .ok (.iconst 2, 1) := by decide +kernel
theorem d_L_law_687 : decode b_L_law 687 = .ok (.iadd, 1) := by decide +kernel
theorem d_L_law_688 : decode b_L_law 688 = .ok (.iaload, 1) := by decide +kernel
theorem d_L_law_689 : decode b_L_law 689 = .ok (.aload_n 0, 1) := by decide +kernel
theorem d_L_law_690 : decode b_L_law 690 = .ok (.iload 4, 2) := by decide +kernel
theorem d_L_law_692 : decode b_L_law 692 = .ok (.iconst 3, 1) := by decide +kernel
theorem d_L_law_693 : decode b_L_law 693 = .ok (.iadd, 1) := by decide +kernel
theorem d_L_law_694 : decode b_L_law 694 = .ok (.iaload, 1) := by decide +kernel
theorem d_L_law_695 : decode b_L_law 695 = .ok (.aload_n 3, 1) := by decide +kernel
theorem d_L_law_696 : decode b_L_law 696 = .ok (.invokestatic 112, 3) := by decide +kernel
theorem d_L_law_699 : decode b_L_law 699 = .ok (.istore 5, 2) := by decide +kernel
theorem d_L_law_701 : decode b_L_law 701 = .ok (.aload_n 2, 1) := by decide +kernel
theorem d_L_law_702 : decode b_L_law 702 = .ok (.aload_n 0, 1) := by decide +kernel
theorem d_L_law_703 : decode b_L_law 703 = .ok (.iload 4, 2) := by decide +kernel
theorem d_L_law_705 : decode b_L_law 705 = .ok (.iconst 1, 1) := by decide +kernel
theorem d_L_law_706 : decode b_L_law 706 = .ok (.iadd, 1) := by decide +kernel
theorem d_L_law_707 : decode b_L_law 707 = .ok (.iaload, 1) := by decide +kernel
theorem d_L_law_708 : decode b_L_law 708 = .ok (.aload_n 0, 1) := by decide +kernel
theorem d_L_law_709 : decode b_L_law 709 = .ok (.iload 4, 2) := by decide +kernel
theorem d_L_law_711 : decode b_L_law 711 = .ok (.iconst 2, 1) := by decide +kernel
theorem d_L_law_712 : decode b_L_law 712 = .ok (.iadd, 1) := by decide +kernel
theorem d_L_law_713 : decode b_L_law 713 = .ok (.iaload, 1) := by decide +kernel
theorem d_L_law_714 : decode b_L_law 714 = .ok (.aload_n 0, 1) := by decide +kernel
theorem d_L_law_715 : decode b_L_law 715 = .ok (.iload 4, 2) := by decide +kernel
theorem d_L_law_717 : decode b_L_law 717 = .ok (.iconst 3, 1) := by decide +kernel
theorem d_L_law_718 : decode b_L_law 718 = .ok (.iadd, 1) := by decide +kernel
theorem d_L_law_719 : decode b_L_law 719 = .ok (.iaload, 1) := by decide +kernel
theorem d_L_law_720 : decode b_L_law 720 = .ok (.invokevirtual 115, 3) := by decide +kernel
theorem d_L_law_723 : decode b_L_law 723 = .ok (.istore 6, 2) := by decide +kernel
theorem d_L_law_725 : decode b_L_law 725 = .ok (.aload_n 2, 1) := by decide +kernel
theorem d_L_law_726 : decode b_L_law 726 = .ok (.invokevirtual 83, 3) := by decide +kernel
theorem d_L_law_729 : decode b_L_law 729 = .ok (.iload 5, 2) := by decide +kernel
theorem d_L_law_731 : decode b_L_law 731 = .ok (.if_icmp .eq 5, 3) := by decide +kernel
theorem d_L_law_734 : decode b_L_law 734 = .ok (.iconst 0, 1) := by decide +kernel
theorem d_L_law_735 : decode b_L_law 735 = .ok (.ireturn, 1) := by decide +kernel
theorem d_L_law_736 : decode b_L_law 736 = .ok (.iload 5, 2) := by decide +kernel
theorem d_L_law_738 : decode b_L_law 738 = .ok (.ifCond .ne 15, 3) := by decide +kernel
theorem d_L_law_741 : decode b_L_law 741 = .ok (.aload_n 3, 1) := by decide +kernel
theorem d_L_law_742 : decode b_L_law 742 = .ok (.iconst 0, 1) := by decide +kernel
theorem d_L_law_743 : decode b_L_law 743 = .ok (.laload, 1) := by decide +kernel
theorem d_L_law_744 : decode b_L_law 744 = .ok (.iload 6, 2) := by decide +kernel
theorem d_L_law_746 : decode b_L_law 746 = .ok (.i2l, 1) := by decide +kernel
theorem d_L_law_747 : decode b_L_law 747 = .ok (.lcmp, 1) := by decide +kernel
theorem d_L_law_748 : decode b_L_law 748 = .ok (.ifCond .eq 5, 3) := by decide +kernel
theorem d_L_law_751 : decode b_L_law 751 = .ok (.iconst 0, 1) := by decide +kernel
theorem d_L_law_752 : decode b_L_law 752 = .ok (.ireturn, 1) := by decide +kernel
theorem d_L_law_753 : decode b_L_law 753 = .ok (.goto 474, 3) := by decide +kernel
theorem d_L_law_756 : decode b_L_law 756 = .ok (.aload_n 1, 1) := by decide +kernel
theorem d_L_law_757 : decode b_L_law 757 = .ok (.aload_n 0, 1) := by decide +kernel
theorem d_L_law_758 : decode b_L_law 758 = .ok (.iload 4, 2) := by decide +kernel
theorem d_L_law_760 : decode b_L_law 760 = .ok (.iconst 1, 1) := by decide +kernel
theorem d_L_law_761 : decode b_L_law 761 = .ok (.iadd, 1) := by decide +kernel
theorem d_L_law_762 : decode b_L_law 762 = .ok (.iaload, 1) := by decide +kernel
theorem d_L_law_763 : decode b_L_law 763 = .ok (.aload_n 3, 1) := by decide +kernel
theorem d_L_law_764 : decode b_L_law 764 = .ok (.invokestatic 116, 3) := by decide +kernel
theorem d_L_law_767 : decode b_L_law 767 = .ok (.istore 5, 2) := by decide +kernel
theorem d_L_law_769 : decode b_L_law 769 = .ok (.aload_n 2, 1) := by decide +kernel
theorem d_L_law_770 : decode b_L_law 770 = .ok (.aload_n 0, 1) := by decide +kernel
theorem d_L_law_771 : decode b_L_law 771 = .ok (.iload 4, 2) := by decide +kernel
theorem d_L_law_773 : decode b_L_law 773 = .ok (.iconst 1, 1) := by decide +kernel
theorem d_L_law_774 : decode b_L_law 774 = .ok (.iadd, 1) := by decide +kernel
theorem d_L_law_775 : decode b_L_law 775 = .ok (.iaload, 1) := by decide +kernel
theorem d_L_law_776 : decode b_L_law 776 = .ok (.invokevirtual 118, 3) := by decide +kernel
theorem d_L_law_779 : decode b_L_law 779 = .ok (.istore 6, 2) := by decide +kernel
theorem d_L_law_781 : decode b_L_law 781 = .ok (.aload_n 2, 1) := by decide +kernel
theorem d_L_law_782 : decode b_L_law 782 = .ok (.invokevirtual 83, 3) := by decide +kernel
theorem d_L_law_785 : decode b_L_law 785 = .ok (.iload 5, 2) := by decide +kernel
theorem d_L_law_787 : decode b_L_law 787 = .ok (.if_icmp .eq 5, 3) := by decide +kernel
theorem d_L_law_790 : decode b_L_law 790 = .ok (.iconst 0, 1) := by decide +kernel
theorem d_L_law_791 : decode b_L_law 791 = .ok (.ireturn, 1) := by decide +kernel
theorem d_L_law_792 : decode b_L_law 792 = .ok (.iload 5, 2) := by decide +kernel
theorem d_L_law_794 : decode b_L_law 794 = .ok (.ifCond .ne 15, 3) := by decide +kernel
theorem d_L_law_797 : decode b_L_law 797 = .ok (.aload_n 3, 1) := by decide +kernel
theorem d_L_law_798 : decode b_L_law 798 = .ok (.iconst 0, 1) := by decide +kernel
theorem d_L_law_799 : decode b_L_law 799 = .ok (.laload, 1) := by decide +kernel
theorem d_L_law_800 : decode b_L_law 800 = .ok (.iload 6, 2) := by decide +kernel
theorem d_L_law_802 : decode b_L_law 802 = .ok (.i2l, 1) := by decide +kernel
theorem d_L_law_803 : decode b_L_law 803 = .ok (.lcmp, 1) := by decide +kernel
theorem d_L_law_804 : decode b_L_law 804 = .ok (.ifCond .eq 5, 3) := by decide +kernel
theorem d_L_law_807 : decode b_L_law 807 = .ok (.iconst 0, 1) := by decide +kernel
theorem d_L_law_808 : decode b_L_law 808 = .ok (.ireturn, 1) := by decide +kernel
theorem d_L_law_809 : decode b_L_law 809 = .ok (.goto 418, 3) := by decide +kernel
theorem d_L_law_812 : decode b_L_law 812 = .ok (.aload_n 1, 1) := by decide +kernel
theorem d_L_law_813 : decode b_L_law 813 = .ok (.aload_n 0, 1) := by decide +kernel
theorem d_L_law_814 : decode b_L_law 814 = .ok (.iload 4, 2) := by decide +kernel
theorem d_L_law_816 : decode b_L_law 816 = .ok (.iconst 1, 1) := by decide +kernel
theorem d_L_law_817 : decode b_L_law 817 = .ok (.iadd, 1) := by decide +kernel
theorem d_L_law_818 : decode b_L_law 818 = .ok (.iaload, 1) := by decide +kernel
theorem d_L_law_819 : decode b_L_law 819 = .ok (.aload_n 0, 1) := by decide +kernel
theorem d_L_law_820 : decode b_L_law 820 = .ok (.iload 4, 2) := by decide +kernel
theorem d_L_law_822 : decode b_L_law 822 = .ok (.iconst 2, 1) := by decide +kernel
theorem d_L_law_823 : decode b_L_law 823 = .ok (.iadd, 1) := by decide +kernel
theorem d_L_law_824 : decode b_L_law 824 = .ok (.iaload, 1) := by decide +kernel
theorem d_L_law_825 : decode b_L_law 825 = .ok (.aload_n 3, 1) := by decide +kernel
theorem d_L_law_826 : decode b_L_law 826 = .ok (.invokestatic 119, 3) := by decide +kernel
theorem d_L_law_829 : decode b_L_law 829 = .ok (.istore 5, 2) := by decide +kernel
theorem d_L_law_831 : decode b_L_law 831 = .ok (.aload_n 2, 1) := by decide +kernel
theorem d_L_law_832 : decode b_L_law 832 = .ok (.aload_n 0, 1) := by decide +kernel
theorem d_L_law_833 : decode b_L_law 833 = .ok (.iload 4, 2) := by decide +kernel
theorem d_L_law_835 : decode b_L_law 835 = .ok (.iconst 1, 1) := by decide +kernel
theorem d_L_law_836 : decode b_L_law 836 = .ok (.iadd, 1) := by decide +kernel
theorem d_L_law_837 : decode b_L_law 837 = .ok (.iaload, 1) := by decide +kernel
theorem d_L_law_838 : decode b_L_law 838 = .ok (.aload_n 0, 1) := by decide +kernel
theorem d_L_law_839 : decode b_L_law 839 = .ok (.iload 4, 2) := by decide +kernel
theorem d_L_law_841 : decode b_L_law 841 = .ok (.iconst 2, 1) := by decide +kernel
theorem d_L_law_842 : decode b_L_law 842 = .ok (.iadd, 1) := by decide +kernel
theorem d_L_law_843 : decode b_L_law 843 = .ok (.iaload, 1) := by decide +kernel
theorem d_L_law_844 : decode b_L_law 844 = .ok (.invokevirtual 121, 3) := by decide +kernel
theorem d_L_law_847 : decode b_L_law 847 = .ok (.istore 6, 2) := by decide +kernel
theorem d_L_law_849 : decode b_L_law 849 = .ok (.aload_n 2, 1) := by decide +kernel
theorem d_L_law_850 : decode b_L_law 850 = .ok (.invokevirtual 83, 3) := by decide +kernel
theorem d_L_law_853 : decode b_L_law 853 = .ok (.iload 5, 2) := by decide +kernel
theorem d_L_law_855 : decode b_L_law 855 = .ok (.if_icmp .eq 5, 3) := by decide +kernel
theorem d_L_law_858 : decode b_L_law 858 = .ok (.iconst 0, 1) := by decide +kernel
theorem d_L_law_859 : decode b_L_law 859 = .ok (.ireturn, 1) := by decide +kernel
theorem d_L_law_860 : decode b_L_law 860 = .ok (.iload 5, 2) := by decide +kernel
theorem d_L_law_862 : decode b_L_law 862 = .ok (.ifCond .ne 15, 3) := by decide +kernel
theorem d_L_law_865 : decode b_L_law 865 = .ok (.aload_n 3, 1) := by decide +kernel
theorem d_L_law_866 : decode b_L_law 866 = .ok (.iconst 0, 1) := by decide +kernel
theorem d_L_law_867 : decode b_L_law 867 = .ok (.laload, 1) := by decide +kernel
theorem d_L_law_868 : decode b_L_law 868 = .ok (.iload 6, 2) := by decide +kernel
theorem d_L_law_870 : decode b_L_law 870 = .ok (.i2l, 1) := by decide +kernel
theorem d_L_law_871 : decode b_L_law 871 = .ok (.lcmp, 1) := by decide +kernel
theorem d_L_law_872 : decode b_L_law 872 = .ok (.ifCond .eq 5, 3) := by decide +kernel
theorem d_L_law_875 : decode b_L_law 875 = .ok (.iconst 0, 1) := by decide +kernel
theorem d_L_law_876 : decode b_L_law 876 = .ok (.ireturn, 1) := by decide +kernel
theorem d_L_law_877 : decode b_L_law 877 = .ok (.goto 350, 3) := by decide +kernel
theorem d_L_law_880 : decode b_L_law 880 = .ok (.aload_n 1, 1) := by decide +kernel
theorem d_L_law_881 : decode b_L_law 881 = .ok (.aload_n 0, 1) := by decide +kernel
theorem d_L_law_882 : decode b_L_law 882 = .ok (.iload 4, 2) := by decide +kernel
theorem d_L_law_884 : decode b_L_law 884 = .ok (.iconst 1, 1) := by decide +kernel
theorem d_L_law_885 : decode b_L_law 885 = .ok (.iadd, 1) := by decide +kernel
theorem d_L_law_886 : decode b_L_law 886 = .ok (.iaload, 1) := by decide +kernel
theorem d_L_law_887 : decode b_L_law 887 = .ok (.aload_n 0, 1) := by decide +kernel
theorem d_L_law_888 : decode b_L_law 888 = .ok (.iload 4, 2) := by decide +kernel
theorem d_L_law_890 : decode b_L_law 890 = .ok (.iconst 2, 1) := by decide +kernel
theorem d_L_law_891 : decode b_L_law 891 = .ok (.iadd, 1) := by decide +kernel
theorem d_L_law_892 : decode b_L_law 892 = .ok (.iaload, 1) := by decide +kernel
theorem d_L_law_893 : decode b_L_law 893 = .ok (.aload_n 3, 1) := by decide +kernel
theorem d_L_law_894 : decode b_L_law 894 = .ok (.invokestatic 122, 3) := by decide +kernel
theorem d_L_law_897 : decode b_L_law 897 = .ok (.istore 5, 2) := by decide +kernel
theorem d_L_law_899 : decode b_L_law 899 = .ok (.aload_n 2, 1) := by decide +kernel
theorem d_L_law_900 : decode b_L_law 900 = .ok (.aload_n 0, 1) := by decide +kernel
theorem d_L_law_901 : decode b_L_law 901 = .ok (.iload 4, 2) := by decide +kernel
theorem d_L_law_903 : decode b_L_law 903 = .ok (.iconst 1, 1) := by decide +kernel
theorem d_L_law_904 : decode b_L_law 904 = .ok (.iadd, 1) := by decide +kernel
theorem d_L_law_905 : decode b_L_law 905 = .ok (.iaload, 1) := by decide +kernel
theorem d_L_law_906 : decode b_L_law 906 = .ok (.aload_n 0, 1) := by decide +kernel
theorem d_L_law_907 : decode b_L_law 907 = .ok (.iload 4, 2) := by decide +kernel
theorem d_L_law_909 : decode b_L_law 909 = .ok (.iconst 2, 1) := by decide +kernel
theorem d_L_law_910 : decode b_L_law 910 = .ok (.iadd, 1) := by decide +kernel
theorem d_L_law_911 : decode b_L_law 911 = .ok (.iaload, 1) := by decide +kernel
theorem d_L_law_912 : decode b_L_law 912 = .ok (.invokevirtual 124, 3) := by decide +kernel
theorem d_L_law_915 : decode b_L_law 915 = .ok (.istore 6, 2) := by decide +kernel
theorem d_L_law_917 : decode b_L_law 917 = .ok (.aload_n 2, 1) := by decide +kernel
theorem d_L_law_918 : decode b_L_law 918 = .ok (.invokevirtual 83, 3) := by decide +kernel
theorem d_L_law_921 : decode b_L_law 921 = .ok (.iload 5, 2) := by decide +kernel
theorem d_L_law_923 : decode b_L_law 923 = .ok (.if_icmp .eq 5, 3) := by decide +kernel
theorem d_L_law_926 : decode b_L_law 926 = .ok (.iconst 0, 1) := by decide +kernel
theorem d_L_law_927 : decode b_L_law 927 = .ok (.ireturn, 1) := by decide +kernel
theorem d_L_law_928 : decode b_L_law 928 = .ok (.iload 5, 2) := by decide +kernel
theorem d_L_law_930 : decode b_L_law 930 = .ok (.ifCond .ne 15, 3) := by decide +kernel
theorem d_L_law_933 : decode b_L_law 933 = .ok (.aload_n 3, 1) := by decide +kernel
theorem d_L_law_934 : decode b_L_law 934 = .ok (.iconst 0, 1) := by decide +kernel
theorem d_L_law_935 : decode b_L_law 935 = .ok (.laload, 1) := by decide +kernel
theorem d_L_law_936 : decode b_L_law 936 = .ok (.iload 6, 2) := by decide +kernel
theorem d_L_law_938 : decode b_L_law 938 = .ok (.i2l, 1) := by decide +kernel
theorem d_L_law_939 : decode b_L_law 939 = .ok (.lcmp, 1) := by decide +kernel
theorem d_L_law_940 : decode b_L_law 940 = .ok (.ifCond .eq 5, 3) := by decide +kernel
theorem d_L_law_943 : decode b_L_law 943 = .ok (.iconst 0, 1) := by decide +kernel
theorem d_L_law_944 : decode b_L_law 944 = .ok (.ireturn, 1) := by decide +kernel
theorem d_L_law_945 : decode b_L_law 945 = .ok (.goto 282, 3) := by decide +kernel
theorem d_L_law_948 : decode b_L_law 948 = .ok (.aload_n 1, 1) := by decide +kernel
theorem d_L_law_949 : decode b_L_law 949 = .ok (.aload_n 0, 1) := by decide +kernel
theorem d_L_law_950 : decode b_L_law 950 = .ok (.iload 4, 2) := by decide +kernel
theorem d_L_law_952 : decode b_L_law 952 = .ok (.iconst 1, 1) := by decide +kernel
theorem d_L_law_953 : decode b_L_law 953 = .ok (.iadd, 1) := by decide +kernel
theorem d_L_law_954 : decode b_L_law 954 = .ok (.iaload, 1) := by decide +kernel
theorem d_L_law_955 : decode b_L_law 955 = .ok (.aload_n 0, 1) := by decide +kernel
theorem d_L_law_956 : decode b_L_law 956 = .ok (.iload 4, 2) := by decide +kernel
theorem d_L_law_958 : decode b_L_law 958 = .ok (.iconst 2, 1) := by decide +kernel
theorem d_L_law_959 : decode b_L_law 959 = .ok (.iadd, 1) := by decide +kernel
theorem d_L_law_960 : decode b_L_law 960 = .ok (.iaload, 1) := by decide +kernel
theorem d_L_law_961 : decode b_L_law 961 = .ok (.aload_n 0, 1) := by decide +kernel
theorem d_L_law_962 : decode b_L_law 962 = .ok (.iload 4, 2) := by decide +kernel
theorem d_L_law_964 : decode b_L_law 964 = .ok (.iconst 3, 1) := by decide +kernel
theorem d_L_law_965 : decode b_L_law 965 = .ok (.iadd, 1) := by decide +kernel
theorem d_L_law_966 : decode b_L_law 966 = .ok (.iaload, 1) := by decide +kernel
theorem d_L_law_967 : decode b_L_law 967 = .ok (.aload_n 3, 1) := by decide +kernel
theorem d_L_law_968 : decode b_L_law 968 = .ok (.invokestatic 125, 3) := by decide +kernel
theorem d_L_law_971 : decode b_L_law 971 = .ok (.istore 5, 2) := by decide +kernel
theorem d_L_law_973 : decode b_L_law 973 = .ok (.aload_n 2, 1) := by decide +kernel
theorem d_L_law_974 : decode b_L_law 974 = .ok (.aload_n 0, 1) := by decide +kernel
theorem d_L_law_975 : decode b_L_law 975 = .ok (.iload 4, 2) := by decide +kernel
theorem d_L_law_977 : decode b_L_law 977 = .ok (.iconst 1, 1) := by decide +kernel
theorem d_L_law_978 : decode b_L_law 978 = .ok (.iadd, 1) := by decide +kernel
theorem d_L_law_979 : decode b_L_law 979 = .ok (.iaload, 1) := by decide +kernel
theorem d_L_law_980 : decode b_L_law 980 = .ok (.aload_n 0, 1) := by decide +kernel
theorem d_L_law_981 : decode b_L_law 981 = .ok (.iload 4, 2) := by decide +kernel
theorem d_L_law_983 : decode b_L_law 983 = .ok (.iconst 2, 1) := by decide +kernel
theorem d_L_law_984 : decode b_L_law 984 = .ok (.iadd, 1) := by decide +kernel
theorem d_L_law_985 : decode b_L_law 985 = .ok (.iaload, 1) := by decide +kernel
theorem d_L_law_986 : decode b_L_law 986 = .ok (.aload_n 0, 1) := by decide +kernel
theorem d_L_law_987 : decode b_L_law 987 = .ok (.iload 4, 2) := by decide +kernel
theorem d_L_law_989 : decode b_L_law 989 = .ok (.iconst 3, 1) := by decide +kernel
theorem d_L_law_990 : decode b_L_law 990 = .ok (.iadd, 1) := by decide +kernel
theorem d_L_law_991 : decode b_L_law 991 = .ok (.iaload, 1) := by decide +kernel
theorem d_L_law_992 : decode b_L_law 992 = .ok (.invokevirtual 127, 3) := by decide +kernel
theorem d_L_law_995 : decode b_L_law 995 = .ok (.lstore 6, 2) := by decide +kernel
theorem d_L_law_997 : decode b_L_law 997 = .ok (.aload_n 2, 1) := by decide +kernel
theorem d_L_law_998 : decode b_L_law 998 = .ok (.invokevirtual 83, 3) := by decide +kernel
theorem d_L_law_1001 : decode b_L_law 1001 = .ok (.iload 5, 2) := by decide +kernel
theorem d_L_law_1003 : decode b_L_law 1003 = .ok (.if_icmp .eq 5, 3) := by decide +kernel
theorem d_L_law_1006 : decode b_L_law 1006 = .ok (.iconst 0, 1) := by decide +kernel
theorem d_L_law_1007 : decode b_L_law 1007 = .ok (.ireturn, 1) := by decide +kernel
theorem d_L_law_1008 : decode b_L_law 1008 = .ok (.iload 5, 2) := by decide +kernel
theorem d_L_law_1010 : decode b_L_law 1010 = .ok (.ifCond .ne 14, 3) := by decide +kernel
theorem d_L_law_1013 : decode b_L_law 1013 = .ok (.aload_n 3, 1) := by decide +kernel
theorem d_L_law_1014 : decode b_L_law 1014 = .ok (.iconst 0, 1) := by decide +kernel
theorem d_L_law_1015 : decode b_L_law 1015 = .ok (.laload, 1) := by decide +kernel
theorem d_L_law_1016 : decode b_L_law 1016 = .ok (.lload 6, 2) := by decide +kernel
theorem d_L_law_1018 : decode b_L_law 1018 = .ok (.lcmp, 1) := by decide +kernel
theorem d_L_law_1019 : decode b_L_law 1019 = .ok (.ifCond .eq 5, 3) := by decide +kernel
theorem d_L_law_1022 : decode b_L_law 1022 = .ok (.iconst 0, 1) := by decide +kernel
theorem d_L_law_1023 : decode b_L_law 1023 = .ok (.ireturn, 1) := by decide +kernel
theorem d_L_law_1024 : decode b_L_law 1024 = .ok (.goto 203, 3) := by decide +kernel
theorem d_L_law_1027 : decode b_L_law 1027 = .ok (.aload_n 1, 1) := by decide +kernel
theorem d_L_law_1028 : decode b_L_law 1028 = .ok (.aload_n 0, 1) := by decide +kernel
theorem d_L_law_1029 : decode b_L_law 1029 = .ok (.iload 4, 2) := by decide +kernel
theorem d_L_law_1031 : decode b_L_law 1031 = .ok (.iconst 1, 1) := by decide +kernel
theorem d_L_law_1032 : decode b_L_law 1032 = .ok (.iadd, 1) := by decide +kernel
theorem d_L_law_1033 : decode b_L_law 1033 = .ok (.iaload, 1) := by decide +kernel
theorem d_L_law_1034 : decode b_L_law 1034 = .ok (.aload_n 3, 1) := by decide +kernel
theorem d_L_law_1035 : decode b_L_law 1035 = .ok (.invokestatic 128, 3) := by decide +kernel
theorem d_L_law_1038 : decode b_L_law 1038 = .ok (.istore 5, 2) := by decide +kernel
theorem d_L_law_1040 : decode b_L_law 1040 = .ok (.aload_n 2, 1) := by decide +kernel
theorem d_L_law_1041 : decode b_L_law 1041 = .ok (.aload_n 0, 1) := by decide +kernel
theorem d_L_law_1042 : decode b_L_law 1042 = .ok (.iload 4, 2) := by decide +kernel
theorem d_L_law_1044 : decode b_L_law 1044 = .ok (.iconst 1, 1) := by decide +kernel
theorem d_L_law_1045 : decode b_L_law 1045 = .ok (.iadd, 1) := by decide +kernel
theorem d_L_law_1046 : decode b_L_law 1046 = .ok (.iaload, 1) := by decide +kernel
theorem d_L_law_1047 : decode b_L_law 1047 = .ok (.invokevirtual 130, 3) := by decide +kernel
theorem d_L_law_1050 : decode b_L_law 1050 = .ok (.istore 6, 2) := by decide +kernel
theorem d_L_law_1052 : decode b_L_law 1052 = .ok (.aload_n 2, 1) := by decide +kernel
theorem d_L_law_1053 : decode b_L_law 1053 = .ok (.invokevirtual 83, 3) := by decide +kernel
theorem d_L_law_1056 : decode b_L_law 1056 = .ok (.iload 5, 2) := by decide +kernel
theorem d_L_law_1058 : decode b_L_law 1058 = .ok (.if_icmp .eq 5, 3) := by decide +kernel
theorem d_L_law_1061 : decode b_L_law 1061 = .ok (.iconst 0, 1) := by decide +kernel
theorem d_L_law_1062 : decode b_L_law 1062 = .ok (.ireturn, 1) := by decide +kernel
theorem d_L_law_1063 : decode b_L_law 1063 = .ok (.iload 5, 2) := by decide +kernel
theorem d_L_law_1065 : decode b_L_law 1065 = .ok (.ifCond .ne 15, 3) := by decide +kernel
theorem d_L_law_1068 : decode b_L_law 1068 = .ok (.aload_n 3, 1) := by decide +kernel
theorem d_L_law_1069 : decode b_L_law 1069 = .ok (.iconst 0, 1) := by decide +kernel
theorem d_L_law_1070 : decode b_L_law 1070 = .ok (.laload, 1) := by decide +kernel
theorem d_L_law_1071 : decode b_L_law 1071 = .ok (.iload 6, 2) := by decide +kernel
theorem d_L_law_1073 : decode b_L_law 1073 = .ok (.i2l, 1) := by decide +kernel
theorem d_L_law_1074 : decode b_L_law 1074 = .ok (.lcmp, 1) := by decide +kernel
theorem d_L_law_1075 : decode b_L_law 1075 = .ok (.ifCond .eq 5, 3) := by decide +kernel
theorem d_L_law_1078 : decode b_L_law 1078 = .ok (.iconst 0, 1) := by decide +kernel
theorem d_L_law_1079 : decode b_L_law 1079 = .ok (.ireturn, 1) := by decide +kernel
theorem d_L_law_1080 : decode b_L_law 1080 = .ok (.goto 147, 3) := by decide +kernel
theorem d_L_law_1083 : decode b_L_law 1083 = .ok (.aload_n 1, 1) := by decide +kernel
theorem d_L_law_1084 : decode b_L_law 1084 = .ok (.aload_n 0, 1) := by decide +kernel
theorem d_L_law_1085 : decode b_L_law 1085 = .ok (.iload 4, 2) := by decide +kernel
theorem d_L_law_1087 : decode b_L_law 1087 = .ok (.iconst 1, 1) := by decide +kernel
theorem d_L_law_1088 : decode b_L_law 1088 = .ok (.iadd, 1) := by decide +kernel
theorem d_L_law_1089 : decode b_L_law 1089 = .ok (.iaload, 1) := by decide +kernel
theorem d_L_law_1090 : decode b_L_law 1090 = .ok (.aload_n 0, 1) := by decide +kernel
theorem d_L_law_1091 : decode b_L_law 1091 = .ok (.iload 4, 2) := by decide +kernel
theorem d_L_law_1093 : decode b_L_law 1093 = .ok (.iconst 2, 1) := by decide +kernel
theorem d_L_law_1094 : decode b_L_law 1094 = .ok (.iadd, 1) := by decide +kernel
theorem d_L_law_1095 : decode b_L_law 1095 = .ok (.iaload, 1) := by decide +kernel
theorem d_L_law_1096 : decode b_L_law 1096 = .ok (.aload_n 3, 1) := by decide +kernel
theorem d_L_law_1097 : decode b_L_law 1097 = .ok (.invokestatic 131, 3) := by decide +kernel
theorem d_L_law_1100 : decode b_L_law 1100 = .ok (.istore 5, 2) := by decide +kernel
theorem d_L_law_1102 : decode b_L_law 1102 = .ok (.aload_n 2, 1) := by decide +kernel
theorem d_L_law_1103 : decode b_L_law 1103 = .ok (.aload_n 0, 1) := by decide +kernel
theorem d_L_law_1104 : decode b_L_law 1104 = .ok (.iload 4, 2) := by decide +kernel
theorem d_L_law_1106 : decode b_L_law 1106 = .ok (.iconst 1, 1) := by decide +kernel
theorem d_L_law_1107 : decode b_L_law 1107 = .ok (.iadd, 1) := by decide +kernel
theorem d_L_law_1108 : decode b_L_law 1108 = .ok (.iaload, 1) := by decide +kernel
theorem d_L_law_1109 : decode b_L_law 1109 = .ok (.aload_n 0, 1) := by decide +kernel
theorem d_L_law_1110 : decode b_L_law 1110 = .ok (.iload 4, 2) := by decide +kernel
theorem d_L_law_1112 : decode b_L_law 1112 = .ok (.iconst 2, 1) := by decide +kernel
theorem d_L_law_1113 : decode b_L_law 1113 = .ok (.iadd, 1) := by decide +kernel
theorem d_L_law_1114 : decode b_L_law 1114 = .ok (.iaload, 1) := by decide +kernel
theorem d_L_law_1115 : decode b_L_law 1115 = .ok (.invokevirtual 133, 3) := by decide +kernel
theorem d_L_law_1118 : decode b_L_law 1118 = .ok (.istore 6, 2) := by decide +kernel
theorem d_L_law_1120 : decode b_L_law 1120 = .ok (.aload_n 2, 1) := by decide +kernel
theorem d_L_law_1121 : decode b_L_law 1121 = .ok (.invokevirtual 83, 3) := by decide +kernel
theorem d_L_law_1124 : decode b_L_law 1124 = .ok (.iload 5, 2) := by decide +kernel
theorem d_L_law_1126 : decode b_L_law 1126 = .ok (.if_icmp .eq 5, 3) := by decide +kernel
theorem d_L_law_1129 : decode b_L_law 1129 = .ok (.iconst 0, 1) := by decide +kernel
theorem d_L_law_1130 : decode b_L_law 1130 = .ok (.ireturn, 1) := by decide +kernel
theorem d_L_law_1131 : decode b_L_law 1131 = .ok (.iload 5, 2) := by decide +kernel
theorem d_L_law_1133 : decode b_L_law 1133 = .ok (.ifCond .ne 22, 3) := by decide +kernel
theorem d_L_law_1136 : decode b_L_law 1136 = .ok (.aload_n 3, 1) := by decide +kernel
theorem d_L_law_1137 : decode b_L_law 1137 = .ok (.iconst 0, 1) := by decide +kernel
theorem d_L_law_1138 : decode b_L_law 1138 = .ok (.laload, 1) := by decide +kernel
theorem d_L_law_1139 : decode b_L_law 1139 = .ok (.iload 6, 2) := by decide +kernel
theorem d_L_law_1141 : decode b_L_law 1141 = .ok (.ifCond .eq 7, 3) := by decide +kernel
theorem d_L_law_1144 : decode b_L_law 1144 = .ok (.lconst 1, 1) := by decide +kernel
theorem d_L_law_1145 : decode b_L_law 1145 = .ok (.goto 4, 3) := by decide +kernel
theorem d_L_law_1148 : decode b_L_law 1148 = .ok (.lconst 0, 1) := by decide +kernel
theorem d_L_law_1149 : decode b_L_law 1149 = .ok (.lcmp, 1) := by decide +kernel
theorem d_L_law_1150 : decode b_L_law 1150 = .ok (.ifCond .eq 5, 3) := by decide +kernel
theorem d_L_law_1153 : decode b_L_law 1153 = .ok (.iconst 0, 1) := by decide +kernel
theorem d_L_law_1154 : decode b_L_law 1154 = .ok (.ireturn, 1) := by decide +kernel
theorem d_L_law_1155 : decode b_L_law 1155 = .ok (.goto 72, 3) := by decide +kernel
theorem d_L_law_1158 : decode b_L_law 1158 = .ok (.aload_n 1, 1) := by decide +kernel
theorem d_L_law_1159 : decode b_L_law 1159 = .ok (.aload_n 0, 1) := by decide +kernel
theorem d_L_law_1160 : decode b_L_law 1160 = .ok (.iload 4, 2) := by decide +kernel
theorem d_L_law_1162 : decode b_L_law 1162 = .ok (.iconst 1, 1) := by decide +kernel
theorem d_L_law_1163 : decode b_L_law 1163 = .ok (.iadd, 1) := by decide +kernel
theorem d_L_law_1164 : decode b_L_law 1164 = .ok (.iaload, 1) := by decide +kernel
theorem d_L_law_1165 : decode b_L_law 1165 = .ok (.aload_n 3, 1) := by decide +kernel
theorem d_L_law_1166 : decode b_L_law 1166 = .ok (.invokestatic 134, 3) := by decide +kernel
theorem d_L_law_1169 : decode b_L_law 1169 = .ok (.istore 5, 2) := by decide +kernel
theorem d_L_law_1171 : decode b_L_law 1171 = .ok (.aload_n 2, 1) := by decide +kernel
theorem d_L_law_1172 : decode b_L_law 1172 = .ok (.aload_n 0, 1) := by decide +kernel
theorem d_L_law_1173 : decode b_L_law 1173 = .ok (.iload 4, 2) := by decide +kernel
theorem d_L_law_1175 : decode b_L_law 1175 = .ok (.iconst 1, 1) := by decide +kernel
theorem d_L_law_1176 : decode b_L_law 1176 = .ok (.iadd, 1) := by decide +kernel
theorem d_L_law_1177 : decode b_L_law 1177 = .ok (.iaload, 1) := by decide +kernel
theorem d_L_law_1178 : decode b_L_law 1178 = .ok (.invokevirtual 136, 3) := by decide +kernel
theorem d_L_law_1181 : decode b_L_law 1181 = .ok (.istore 6, 2) := by decide +kernel
theorem d_L_law_1183 : decode b_L_law 1183 = .ok (.aload_n 2, 1) := by decide +kernel
theorem d_L_law_1184 : decode b_L_law 1184 = .ok (.invokevirtual 83, 3) := by decide +kernel
theorem d_L_law_1187 : decode b_L_law 1187 = .ok (.iload 5, 2) := by decide +kernel
theorem d_L_law_1189 : decode b_L_law 1189 = .ok (.if_icmp .eq 5, 3) := by decide +kernel
theorem d_L_law_1192 : decode b_L_law 1192 = .ok (.iconst 0, 1) := by decide +kernel
theorem d_L_law_1193 : decode b_L_law 1193 = .ok (.ireturn, 1) := by decide +kernel
theorem d_L_law_1194 : decode b_L_law 1194 = .ok (.iload 5, 2) := by decide +kernel
theorem d_L_law_1196 : decode b_L_law 1196 = .ok (.ifCond .ne 15, 3) := by decide +kernel
theorem d_L_law_1199 : decode b_L_law 1199 = .ok (.aload_n 3, 1) := by decide +kernel
theorem d_L_law_1200 : decode b_L_law 1200 = .ok (.iconst 0, 1) := by decide +kernel
theorem d_L_law_1201 : decode b_L_law 1201 = .ok (.laload, 1) := by decide +kernel
theorem d_L_law_1202 : decode b_L_law 1202 = .ok (.iload 6, 2) := by decide +kernel
theorem d_L_law_1204 : decode b_L_law 1204 = .ok (.i2l, 1) := by decide +kernel
theorem d_L_law_1205 : decode b_L_law 1205 = .ok (.lcmp, 1) := by decide +kernel
theorem d_L_law_1206 : decode b_L_law 1206 = .ok (.ifCond .eq 5, 3) := by decide +kernel
theorem d_L_law_1209 : decode b_L_law 1209 = .ok (.iconst 0, 1) := by decide +kernel
theorem d_L_law_1210 : decode b_L_law 1210 = .ok (.ireturn, 1) := by decide +kernel
theorem d_L_law_1211 : decode b_L_law 1211 = .ok (.goto 16, 3) := by decide +kernel
theorem d_L_law_1214 : decode b_L_law 1214 = .ok (.aload_n 1, 1) := by decide +kernel
theorem d_L_law_1215 : decode b_L_law 1215 = .ok (.invokevirtual 137, 3) := by decide +kernel
theorem d_L_law_1218 : decode b_L_law 1218 = .ok (.aload_n 2, 1) := by decide +kernel
theorem d_L_law_1219 : decode b_L_law 1219 = .ok (.invokevirtual 140, 3) := by decide +kernel
theorem d_L_law_1222 : decode b_L_law 1222 = .ok (.if_icmp .eq 5, 3) := by decide +kernel
theorem d_L_law_1225 : decode b_L_law 1225 = .ok (.iconst 0, 1) := by decide +kernel
theorem d_L_law_1226 : decode b_L_law 1226 = .ok (.ireturn, 1) := by decide +kernel
theorem d_L_law_1227 : decode b_L_law 1227 = .ok (.iinc 4 4, 3) := by decide +kernel
theorem d_L_law_1230 : decode b_L_law 1230 = .ok (.goto (-1207), 3) := by decide +kernel
theorem d_L_law_1233 : decode b_L_law 1233 = .ok (.iconst 1, 1) := by decide +kernel
theorem d_L_law_1234 : decode b_L_law 1234 = .ok (.ireturn, 1) := by decide +kernel

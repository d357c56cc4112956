theorem dX9_init_0 : decode cX9_init 0 = .ok (.aload_n 0, 1) := by decide +kernel
theorem dX9_init_1 : decode cX9_init 1 = .ok (.invokespecial 1, 3) := by decide +kernel
theorem dX9_init_4 : decode cX9_init 4 = .ok (.aload_n 0, 1) := by decide +kernel
theorem dX9_init_5 : decode cX9_init 5 = .ok (.sipush 516, 3) := by decide +kernel
theorem dX9_init_8 : decode cX9_init 8 = .ok (.newarray .int, 2) := by decide +kernel
theorem dX9_init_10 : decode cX9_init 10 = .ok (.putfield 7, 3) := by decide +kernel
theorem dX9_init_13 : decode cX9_init 13 = .ok (.aload_n 0, 1) := by decide +kernel
theorem dX9_init_14 : decode cX9_init 14 = .ok (.sipush 516, 3) := by decide +kernel
theorem dX9_init_17 : decode cX9_init 17 = .ok (.newarray .int, 2) := by decide +kernel
theorem dX9_init_19 : decode cX9_init 19 = .ok (.putfield 13, 3) := by decide +kernel
theorem dX9_init_22 : decode cX9_init 22 = .ok (.aload_n 0, 1) := by decide +kernel
theorem dX9_init_23 : decode cX9_init 23 = .ok (.sipush 516, 3) := by decide +kernel
theorem dX9_init_26 : decode cX9_init 26 = .ok (.newarray .int, 2) := by decide +kernel
theorem dX9_init_28 : decode cX9_init 28 = .ok (.putfield 16, 3) := by decide +kernel
theorem dX9_init_31 : decode cX9_init 31 = .ok (.aload_n 0, 1) := by decide +kernel
theorem dX9_init_32 : decode cX9_init 32 = .ok (.bipush 7, 2) := by decide +kernel
theorem dX9_init_34 : decode cX9_init 34 = .ok (.newarray .int, 2) := by decide +kernel
theorem dX9_init_36 : decode cX9_init 36 = .ok (.putfield 19, 3) := by decide +kernel
theorem dX9_init_39 : decode cX9_init 39 = .ok (.aload_n 0, 1) := by decide +kernel
theorem dX9_init_40 : decode cX9_init 40 = .ok (.bipush 124, 2) := by decide +kernel
theorem dX9_init_42 : decode cX9_init 42 = .ok (.newarray .int, 2) := by decide +kernel
theorem dX9_init_44 : decode cX9_init 44 = .ok (.putfield 22, 3) := by decide +kernel
theorem dX9_init_47 : decode cX9_init 47 = .ok (.aload_n 0, 1) := by decide +kernel
theorem dX9_init_48 : decode cX9_init 48 = .ok (.sipush 128, 3) := by decide +kernel
theorem dX9_init_51 : decode cX9_init 51 = .ok (.newarray .int, 2) := by decide +kernel
theorem dX9_init_53 : decode cX9_init 53 = .ok (.putfield 25, 3) := by decide +kernel
theorem dX9_init_56 : decode cX9_init 56 = .ok (.aload_n 0, 1) := by decide +kernel
theorem dX9_init_57 : decode cX9_init 57 = .ok (.bipush 64, 2) := by decide +kernel
theorem dX9_init_59 : decode cX9_init 59 = .ok (.newarray .int, 2) := by decide +kernel
theorem dX9_init_61 : decode cX9_init 61 = .ok (.putfield 28, 3) := by decide +kernel
theorem dX9_init_64 : decode cX9_init 64 = .ok (.aload_n 0, 1) := by decide +kernel
theorem dX9_init_65 : decode cX9_init 65 = .ok (.bipush 30, 2) := by decide +kernel
theorem dX9_init_67 : decode cX9_init 67 = .ok (.newarray .int, 2) := by decide +kernel
theorem dX9_init_69 : decode cX9_init 69 = .ok (.putfield 31, 3) := by decide +kernel
theorem dX9_init_72 : decode cX9_init 72 = .ok (.aload_n 0, 1) := by decide +kernel
theorem dX9_init_73 : decode cX9_init 73 = .ok (.iconst 4, 1) := by decide +kernel
theorem dX9_init_74 : decode cX9_init 74 = .ok (.newarray .int, 2) := by decide +kernel
theorem dX9_init_76 : decode cX9_init 76 = .ok (.putfield 34, 3) := by decide +kernel
theorem dX9_init_79 : decode cX9_init 79 = .ok (.aload_n 0, 1) := by decide +kernel
theorem dX9_init_80 : decode cX9_init 80 = .ok (.iconst 4, 1) := by decide +kernel
theorem dX9_init_81 : decode cX9_init 81 = .ok (.newarray .int, 2) := by decide +kernel
theorem dX9_init_83 : decode cX9_init 83 = .ok (.putfield 37, 3) := by decide +kernel
theorem dX9_init_86 : decode cX9_init 86 = .ok (.aload_n 0, 1) := by decide +kernel
theorem dX9_init_87 : decode cX9_init 87 = .ok (.bipush 96, 2) := by decide +kernel
theorem dX9_init_89 : decode cX9_init 89 = .ok (.newarray .int, 2) := by decide +kernel
theorem dX9_init_91 : decode cX9_init 91 = .ok (.putfield 40, 3) := by decide +kernel
theorem dX9_init_94 : decode cX9_init 94 = .ok (.aload_n 0, 1) := by decide +kernel
theorem dX9_init_95 : decode cX9_init 95 = .ok (.bipush 24, 2) := by decide +kernel
theorem dX9_init_97 : decode cX9_init 97 = .ok (.newarray .int, 2) := by decide +kernel
theorem dX9_init_99 : decode cX9_init 99 = .ok (.putfield 43, 3) := by decide +kernel
theorem dX9_init_102 : decode cX9_init 102 = .ok (.aload_n 0, 1) := by decide +kernel
theorem dX9_init_103 : decode cX9_init 103 = .ok (.getfield 7, 3) := by decide +kernel
theorem dX9_init_106 : decode cX9_init 106 = .ok (.bipush 8, 2) := by decide +kernel
theorem dX9_init_108 : decode cX9_init 108 = .ok (.iconst 1, 1) := by decide +kernel
theorem dX9_init_109 : decode cX9_init 109 = .ok (.iastore, 1) := by decide +kernel
theorem dX9_init_110 : decode cX9_init 110 = .ok (.iconst 0, 1) := by decide +kernel
theorem dX9_init_111 : decode cX9_init 111 = .ok (.istore_n 1, 1) := by decide +kernel
theorem dX9_init_112 : decode cX9_init 112 = .ok (.iload_n 1, 1) := by decide +kernel
theorem dX9_init_113 : decode cX9_init 113 = .ok (.bipush 6, 2) := by decide +kernel
theorem dX9_init_115 : decode cX9_init 115 = .ok (.if_icmp .ge 19, 3) := by decide +kernel
theorem dX9_init_118 : decode cX9_init 118 = .ok (.aload_n 0, 1) := by decide +kernel
theorem dX9_init_119 : decode cX9_init 119 = .ok (.getfield 7, 3) := by decide +kernel
theorem dX9_init_122 : decode cX9_init 122 = .ok (.bipush 10, 2) := by decide +kernel
theorem dX9_init_124 : decode cX9_init 124 = .ok (.iload_n 1, 1) := by decide +kernel
theorem dX9_init_125 : decode cX9_init 125 = .ok (.iadd, 1) := by decide +kernel
theorem dX9_init_126 : decode cX9_init 126 = .ok (.iconst 5, 1) := by decide +kernel
theorem dX9_init_127 : decode cX9_init 127 = .ok (.iastore, 1) := by decide +kernel
theorem dX9_init_128 : decode cX9_init 128 = .ok (.iinc 1 1, 3) := by decide +kernel
theorem dX9_init_131 : decode cX9_init 131 = .ok (.goto (-19), 3) := by decide +kernel
theorem dX9_init_134 : decode cX9_init 134 = .ok (.return_, 1) := by decide +kernel
theorem dX9_error_0 : decode cX9_error 0 = .ok (.aload_n 0, 1) := by decide +kernel
theorem dX9_error_1 : decode cX9_error 1 = .ok (.getfield 19, 3) := by decide +kernel
theorem dX9_error_4 : decode cX9_error 4 = .ok (.iload_n 1, 1) := by decide +kernel
theorem dX9_error_5 : decode cX9_error 5 = .ok (.dup2, 1) := by decide +kernel
theorem dX9_error_6 : decode cX9_error 6 = .ok (.iaload, 1) := by decide +kernel
theorem dX9_error_7 : decode cX9_error 7 = .ok (.iconst 1, 1) := by decide +kernel
theorem dX9_error_8 : decode cX9_error 8 = .ok (.iadd, 1) := by decide +kernel
theorem dX9_error_9 : decode cX9_error 9 = .ok (.iastore, 1) := by decide +kernel
theorem dX9_error_10 : decode cX9_error 10 = .ok (.ldc 46, 2) := by decide +kernel
theorem dX9_error_12 : decode cX9_error 12 = .ok (.iload_n 1, 1) := by decide +kernel
theorem dX9_error_13 : decode cX9_error 13 = .ok (.isub, 1) := by decide +kernel
theorem dX9_error_14 : decode cX9_error 14 = .ok (.ireturn, 1) := by decide +kernel
theorem dX9_in_0 : decode cX9_in 0 = .ok (.iload_n 0, 1) := by decide +kernel
theorem dX9_in_1 : decode cX9_in 1 = .ok (.iload_n 1, 1) := by decide +kernel
theorem dX9_in_2 : decode cX9_in 2 = .ok (.if_icmp .lt 12, 3) := by decide +kernel
theorem dX9_in_5 : decode cX9_in 5 = .ok (.iload_n 0, 1) := by decide +kernel
theorem dX9_in_6 : decode cX9_in 6 = .ok (.iload_n 2, 1) := by decide +kernel
theorem dX9_in_7 : decode cX9_in 7 = .ok (.if_icmp .gt 7, 3) := by decide +kernel
theorem dX9_in_10 : decode cX9_in 10 = .ok (.iconst 1, 1) := by decide +kernel
theorem dX9_in_11 : decode cX9_in 11 = .ok (.goto 4, 3) := by decide +kernel
theorem dX9_in_14 : decode cX9_in 14 = .ok (.iconst 0, 1) := by decide +kernel
theorem dX9_in_15 : decode cX9_in 15 = .ok (.ireturn, 1) := by decide +kernel
theorem dX9_held_0 : decode cX9_held 0 = .ok (.iload_n 0, 1) := by decide +kernel
theorem dX9_held_1 : decode cX9_held 1 = .ok (.iload_n 1, 1) := by decide +kernel
theorem dX9_held_2 : decode cX9_held 2 = .ok (.if_icmp .ge 7, 3) := by decide +kernel
theorem dX9_held_5 : decode cX9_held 5 = .ok (.iload_n 1, 1) := by decide +kernel
theorem dX9_held_6 : decode cX9_held 6 = .ok (.goto 13, 3) := by decide +kernel
theorem dX9_held_9 : decode cX9_held 9 = .ok (.iload_n 0, 1) := by decide +kernel
theorem dX9_held_10 : decode cX9_held 10 = .ok (.iload_n 2, 1) := by decide +kernel
theorem dX9_held_11 : decode cX9_held 11 = .ok (.if_icmp .le 7, 3) := by decide +kernel
theorem dX9_held_14 : decode cX9_held 14 = .ok (.iload_n 2, 1) := by decide +kernel
theorem dX9_held_15 : decode cX9_held 15 = .ok (.goto 4, 3) := by decide +kernel
theorem dX9_held_18 : decode cX9_held 18 = .ok (.iload_n 0, 1) := by decide +kernel
theorem dX9_held_19 : decode cX9_held 19 = .ok (.ireturn, 1) := by decide +kernel
theorem dX9_carry_0 : decode cX9_carry 0 = .ok (.iconst 0, 1) := by decide +kernel
theorem dX9_carry_1 : decode cX9_carry 1 = .ok (.istore_n 2, 1) := by decide +kernel
theorem dX9_carry_2 : decode cX9_carry 2 = .ok (.iload_n 2, 1) := by decide +kernel
theorem dX9_carry_3 : decode cX9_carry 3 = .ok (.sipush 516, 3) := by decide +kernel
theorem dX9_carry_6 : decode cX9_carry 6 = .ok (.if_icmp .ge 15, 3) := by decide +kernel
theorem dX9_carry_9 : decode cX9_carry 9 = .ok (.aload_n 1, 1) := by decide +kernel
theorem dX9_carry_10 : decode cX9_carry 10 = .ok (.iload_n 2, 1) := by decide +kernel
theorem dX9_carry_11 : decode cX9_carry 11 = .ok (.aload_n 0, 1) := by decide +kernel
theorem dX9_carry_12 : decode cX9_carry 12 = .ok (.iload_n 2, 1) := by decide +kernel
theorem dX9_carry_13 : decode cX9_carry 13 = .ok (.iaload, 1) := by decide +kernel
theorem dX9_carry_14 : decode cX9_carry 14 = .ok (.iastore, 1) := by decide +kernel
theorem dX9_carry_15 : decode cX9_carry 15 = .ok (.iinc 2 1, 3) := by decide +kernel
theorem dX9_carry_18 : decode cX9_carry 18 = .ok (.goto (-16), 3) := by decide +kernel
theorem dX9_carry_21 : decode cX9_carry 21 = .ok (.return_, 1) := by decide +kernel
theorem dX9_isShop_0 : decode cX9_isShop 0 = .ok (.iload_n 1, 1) := by decide +kernel
theorem dX9_isShop_1 : decode cX9_isShop 1 = .ok (.iconst 0, 1) := by decide +kernel
theorem dX9_isShop_2 : decode cX9_isShop 2 = .ok (.aload_n 0, 1) := by decide +kernel
theorem dX9_isShop_3 : decode cX9_isShop 3 = .ok (.getfield 7, 3) := by decide +kernel
theorem dX9_isShop_6 : decode cX9_isShop 6 = .ok (.iconst 0, 1) := by decide +kernel
theorem dX9_isShop_7 : decode cX9_isShop 7 = .ok (.iaload, 1) := by decide +kernel
theorem dX9_isShop_8 : decode cX9_isShop 8 = .ok (.iconst 1, 1) := by decide +kernel
theorem dX9_isShop_9 : decode cX9_isShop 9 = .ok (.isub, 1) := by decide +kernel
theorem dX9_isShop_10 : decode cX9_isShop 10 = .ok (.invokestatic 47, 3) := by decide +kernel
theorem dX9_isShop_13 : decode cX9_isShop 13 = .ok (.ireturn, 1) := by decide +kernel
theorem dX9_isGood_0 : decode cX9_isGood 0 = .ok (.iload_n 0, 1) := by decide +kernel
theorem dX9_isGood_1 : decode cX9_isGood 1 = .ok (.iconst 0, 1) := by decide +kernel
theorem dX9_isGood_2 : decode cX9_isGood 2 = .ok (.iconst 5, 1) := by decide +kernel
theorem dX9_isGood_3 : decode cX9_isGood 3 = .ok (.invokestatic 47, 3) := by decide +kernel
theorem dX9_isGood_6 : decode cX9_isGood 6 = .ok (.ireturn, 1) := by decide +kernel
theorem dX9_isCustomer_0 : decode cX9_isCustomer 0 = .ok (.iload_n 1, 1) := by decide +kernel
theorem dX9_isCustomer_1 : decode cX9_isCustomer 1 = .ok (.iconst 0, 1) := by decide +kernel
theorem dX9_isCustomer_2 : decode cX9_isCustomer 2 = .ok (.aload_n 0, 1) := by decide +kernel
theorem dX9_isCustomer_3 : decode cX9_isCustomer 3 = .ok (.getfield 7, 3) := by decide +kernel
theorem dX9_isCustomer_6 : decode cX9_isCustomer 6 = .ok (.iconst 1, 1) := by decide +kernel
theorem dX9_isCustomer_7 : decode cX9_isCustomer 7 = .ok (.iaload, 1) := by decide +kernel
theorem dX9_isCustomer_8 : decode cX9_isCustomer 8 = .ok (.iconst 1, 1) := by decide +kernel
theorem dX9_isCustomer_9 : decode cX9_isCustomer 9 = .ok (.isub, 1) := by decide +kernel
theorem dX9_isCustomer_10 : decode cX9_isCustomer 10 = .ok (.invokestatic 47, 3) := by decide +kernel
theorem dX9_isCustomer_13 : decode cX9_isCustomer 13 = .ok (.ireturn, 1) := by decide +kernel
theorem dX9_its_0 : decode cX9_its 0 = .ok (.aload_n 0, 1) := by decide +kernel
theorem dX9_its_1 : decode cX9_its 1 = .ok (.getfield 7, 3) := by decide +kernel
theorem dX9_its_4 : decode cX9_its 4 = .ok (.bipush 16, 2) := by decide +kernel
theorem dX9_its_6 : decode cX9_its 6 = .ok (.bipush 21, 2) := by decide +kernel
theorem dX9_its_8 : decode cX9_its 8 = .ok (.iload_n 1, 1) := by decide +kernel
theorem dX9_its_9 : decode cX9_its 9 = .ok (.imul, 1) := by decide +kernel
theorem dX9_its_10 : decode cX9_its 10 = .ok (.iadd, 1) := by decide +kernel
theorem dX9_its_11 : decode cX9_its 11 = .ok (.iload_n 2, 1) := by decide +kernel
theorem dX9_its_12 : decode cX9_its 12 = .ok (.iadd, 1) := by decide +kernel
theorem dX9_its_13 : decode cX9_its 13 = .ok (.iaload, 1) := by decide +kernel
theorem dX9_its_14 : decode cX9_its 14 = .ok (.ireturn, 1) := by decide +kernel
theorem dX9_lays1_0 : decode cX9_lays1 0 = .ok (.aload_n 0, 1) := by decide +kernel
theorem dX9_lays1_1 : decode cX9_lays1 1 = .ok (.getfield 7, 3) := by decide +kernel
theorem dX9_lays1_4 : decode cX9_lays1 4 = .ok (.bipush 16, 2) := by decide +kernel
theorem dX9_lays1_6 : decode cX9_lays1 6 = .ok (.bipush 21, 2) := by decide +kernel
theorem dX9_lays1_8 : decode cX9_lays1 8 = .ok (.iload_n 1, 1) := by decide +kernel
theorem dX9_lays1_9 : decode cX9_lays1 9 = .ok (.imul, 1) := by decide +kernel
theorem dX9_lays1_10 : decode cX9_lays1 10 = .ok (.iadd, 1) := by decide +kernel
theorem dX9_lays1_11 : decode cX9_lays1 11 = .ok (.iload_n 2, 1) := by decide +kernel
theorem dX9_lays1_12 : decode cX9_lays1 12 = .ok (.iadd, 1) := by decide +kernel
theorem dX9_lays1_13 : decode cX9_lays1 13 = .ok (.iload_n 3, 1) := by decide +kernel
theorem dX9_lays1_14 : decode cX9_lays1 14 = .ok (.iastore, 1) := by decide +kernel
theorem dX9_lays1_15 : decode cX9_lays1 15 = .ok (.return_, 1) := by decide +kernel
theorem dX9_of_0 : decode cX9_of 0 = .ok (.aload_n 0, 1) := by decide +kernel
theorem dX9_of_1 : decode cX9_of 1 = .ok (.getfield 7, 3) := by decide +kernel
theorem dX9_of_4 : decode cX9_of 4 = .ok (.sipush 142, 3) := by decide +kernel
theorem dX9_of_7 : decode cX9_of 7 = .ok (.iconst 4, 1) := by decide +kernel
theorem dX9_of_8 : decode cX9_of 8 = .ok (.iload_n 1, 1) := by decide +kernel
theorem dX9_of_9 : decode cX9_of 9 = .ok (.imul, 1) := by decide +kernel
theorem dX9_of_10 : decode cX9_of 10 = .ok (.iadd, 1) := by decide +kernel
theorem dX9_of_11 : decode cX9_of 11 = .ok (.iload_n 2, 1) := by decide +kernel
theorem dX9_of_12 : decode cX9_of 12 = .ok (.iadd, 1) := by decide +kernel
theorem dX9_of_13 : decode cX9_of 13 = .ok (.iaload, 1) := by decide +kernel
theorem dX9_of_14 : decode cX9_of 14 = .ok (.ireturn, 1) := by decide +kernel
theorem dX9_left_0 : decode cX9_left 0 = .ok (.iload_n 1, 1) := by decide +kernel
theorem dX9_left_1 : decode cX9_left 1 = .ok (.iconst (-1), 1) := by decide +kernel
theorem dX9_left_2 : decode cX9_left 2 = .ok (.if_icmp .ne 7, 3) := by decide +kernel
theorem dX9_left_5 : decode cX9_left 5 = .ok (.iconst (-1), 1) := by decide +kernel
theorem dX9_left_6 : decode cX9_left 6 = .ok (.goto 35, 3) := by decide +kernel
theorem dX9_left_9 : decode cX9_left 9 = .ok (.iload_n 1, 1) := by decide +kernel
theorem dX9_left_10 : decode cX9_left 10 = .ok (.ifCond .le 9, 3) := by decide +kernel
theorem dX9_left_13 : decode cX9_left 13 = .ok (.iload_n 1, 1) := by decide +kernel
theorem dX9_left_14 : decode cX9_left 14 = .ok (.iconst 1, 1) := by decide +kernel
theorem dX9_left_15 : decode cX9_left 15 = .ok (.isub, 1) := by decide +kernel
theorem dX9_left_16 : decode cX9_left 16 = .ok (.goto 25, 3) := by decide +kernel
theorem dX9_left_19 : decode cX9_left 19 = .ok (.aload_n 0, 1) := by decide +kernel
theorem dX9_left_20 : decode cX9_left 20 = .ok (.getfield 7, 3) := by decide +kernel
theorem dX9_left_23 : decode cX9_left 23 = .ok (.iconst 4, 1) := by decide +kernel
theorem dX9_left_24 : decode cX9_left 24 = .ok (.iaload, 1) := by decide +kernel
theorem dX9_left_25 : decode cX9_left 25 = .ok (.iconst 1, 1) := by decide +kernel
theorem dX9_left_26 : decode cX9_left 26 = .ok (.if_icmp .ne 14, 3) := by decide +kernel
theorem dX9_left_29 : decode cX9_left 29 = .ok (.aload_n 0, 1) := by decide +kernel
theorem dX9_left_30 : decode cX9_left 30 = .ok (.getfield 7, 3) := by decide +kernel
theorem dX9_left_33 : decode cX9_left 33 = .ok (.iconst 0, 1) := by decide +kernel
theorem dX9_left_34 : decode cX9_left 34 = .ok (.iaload, 1) := by decide +kernel
theorem dX9_left_35 : decode cX9_left 35 = .ok (.iconst 1, 1) := by decide +kernel
theorem dX9_left_36 : decode cX9_left 36 = .ok (.isub, 1) := by decide +kernel
theorem dX9_left_37 : decode cX9_left 37 = .ok (.goto 4, 3) := by decide +kernel
theorem dX9_left_40 : decode cX9_left 40 = .ok (.iconst (-1), 1) := by decide +kernel
theorem dX9_left_41 : decode cX9_left 41 = .ok (.ireturn, 1) := by decide +kernel
theorem dX9_lacks1_0 : decode cX9_lacks1 0 = .ok (.iload_n 1, 1) := by decide +kernel
theorem dX9_lacks1_1 : decode cX9_lacks1 1 = .ok (.iconst (-1), 1) := by decide +kernel
theorem dX9_lacks1_2 : decode cX9_lacks1 2 = .ok (.if_icmp .eq 14, 3) := by decide +kernel
theorem dX9_lacks1_5 : decode cX9_lacks1 5 = .ok (.aload_n 0, 1) := by decide +kernel
theorem dX9_lacks1_6 : decode cX9_lacks1 6 = .ok (.iload_n 1, 1) := by decide +kernel
theorem dX9_lacks1_7 : decode cX9_lacks1 7 = .ok (.iload_n 3, 1) := by decide +kernel
theorem dX9_lacks1_8 : decode cX9_lacks1 8 = .ok (.iload_n 2, 1) := by decide +kernel
theorem dX9_lacks1_9 : decode cX9_lacks1 9 = .ok (.iadd, 1) := by decide +kernel
theorem dX9_lacks1_10 : decode cX9_lacks1 10 = .ok (.invokevirtual 51, 3) := by decide +kernel
theorem dX9_lacks1_13 : decode cX9_lacks1 13 = .ok (.ifCond .ne 7, 3) := by decide +kernel
theorem dX9_lacks1_16 : decode cX9_lacks1 16 = .ok (.iconst 1, 1) := by decide +kernel
theorem dX9_lacks1_17 : decode cX9_lacks1 17 = .ok (.goto 4, 3) := by decide +kernel
theorem dX9_lacks1_20 : decode cX9_lacks1 20 = .ok (.iconst 0, 1) := by decide +kernel
theorem dX9_lacks1_21 : decode cX9_lacks1 21 = .ok (.ireturn, 1) := by decide +kernel
theorem dX9_may_0 : decode cX9_may 0 = .ok (.aload_n 0, 1) := by decide +kernel
theorem dX9_may_1 : decode cX9_may 1 = .ok (.iload_n 1, 1) := by decide +kernel
theorem dX9_may_2 : decode cX9_may 2 = .ok (.invokevirtual 55, 3) := by decide +kernel
theorem dX9_may_5 : decode cX9_may 5 = .ok (.istore_n 3, 1) := by decide +kernel
theorem dX9_may_6 : decode cX9_may 6 = .ok (.aload_n 0, 1) := by decide +kernel
theorem dX9_may_7 : decode cX9_may 7 = .ok (.iload_n 1, 1) := by decide +kernel
theorem dX9_may_8 : decode cX9_may 8 = .ok (.bipush 9, 2) := by decide +kernel
theorem dX9_may_10 : decode cX9_may 10 = .ok (.iload_n 2, 1) := by decide +kernel
theorem dX9_may_11 : decode cX9_may 11 = .ok (.iadd, 1) := by decide +kernel
theorem dX9_may_12 : decode cX9_may 12 = .ok (.invokevirtual 51, 3) := by decide +kernel
theorem dX9_may_15 : decode cX9_may 15 = .ok (.ifCond .le 18, 3) := by decide +kernel
theorem dX9_may_18 : decode cX9_may 18 = .ok (.aload_n 0, 1) := by decide +kernel
theorem dX9_may_19 : decode cX9_may 19 = .ok (.iload_n 3, 1) := by decide +kernel
theorem dX9_may_20 : decode cX9_may 20 = .ok (.iload_n 2, 1) := by decide +kernel
theorem dX9_may_21 : decode cX9_may 21 = .ok (.bipush 9, 2) := by decide +kernel
theorem dX9_may_23 : decode cX9_may 23 = .ok (.invokevirtual 59, 3) := by decide +kernel
theorem dX9_may_26 : decode cX9_may 26 = .ok (.ifCond .eq 7, 3) := by decide +kernel
theorem dX9_may_29 : decode cX9_may 29 = .ok (.iconst 1, 1) := by decide +kernel
theorem dX9_may_30 : decode cX9_may 30 = .ok (.goto 4, 3) := by decide +kernel
theorem dX9_may_33 : decode cX9_may 33 = .ok (.iconst 0, 1) := by decide +kernel
theorem dX9_may_34 : decode cX9_may 34 = .ok (.istore 4, 2) := by decide +kernel
theorem dX9_may_36 : decode cX9_may 36 = .ok (.aload_n 0, 1) := by decide +kernel
theorem dX9_may_37 : decode cX9_may 37 = .ok (.getfield 7, 3) := by decide +kernel
theorem dX9_may_40 : decode cX9_may 40 = .ok (.iconst 5, 1) := by decide +kernel
theorem dX9_may_41 : decode cX9_may 41 = .ok (.iaload, 1) := by decide +kernel
theorem dX9_may_42 : decode cX9_may 42 = .ok (.iconst 1, 1) := by decide +kernel
theorem dX9_may_43 : decode cX9_may 43 = .ok (.if_icmp .ne 30, 3) := by decide +kernel
theorem dX9_may_46 : decode cX9_may 46 = .ok (.iload 4, 2) := by decide +kernel
theorem dX9_may_48 : decode cX9_may 48 = .ok (.ifCond .eq 22, 3) := by decide +kernel
theorem dX9_may_51 : decode cX9_may 51 = .ok (.aload_n 0, 1) := by decide +kernel
theorem dX9_may_52 : decode cX9_may 52 = .ok (.aload_n 0, 1) := by decide +kernel
theorem dX9_may_53 : decode cX9_may 53 = .ok (.iload_n 3, 1) := by decide +kernel
theorem dX9_may_54 : decode cX9_may 54 = .ok (.invokevirtual 55, 3) := by decide +kernel
theorem dX9_may_57 : decode cX9_may 57 = .ok (.iload_n 2, 1) := by decide +kernel
theorem dX9_may_58 : decode cX9_may 58 = .ok (.bipush 9, 2) := by decide +kernel
theorem dX9_may_60 : decode cX9_may 60 = .ok (.invokevirtual 59, 3) := by decide +kernel
theorem dX9_may_63 : decode cX9_may 63 = .ok (.ifCond .eq 7, 3) := by decide +kernel
theorem dX9_may_66 : decode cX9_may 66 = .ok (.iconst 1, 1) := by decide +kernel
theorem dX9_may_67 : decode cX9_may 67 = .ok (.goto 4, 3) := by decide +kernel
theorem dX9_may_70 : decode cX9_may 70 = .ok (.iconst 0, 1) := by decide +kernel
theorem dX9_may_71 : decode cX9_may 71 = .ok (.istore 4, 2) := by decide +kernel
theorem dX9_may_73 : decode cX9_may 73 = .ok (.aload_n 0, 1) := by decide +kernel
theorem dX9_may_74 : decode cX9_may 74 = .ok (.getfield 7, 3) := by decide +kernel
theorem dX9_may_77 : decode cX9_may 77 = .ok (.iconst 5, 1) := by decide +kernel
theorem dX9_may_78 : decode cX9_may 78 = .ok (.iaload, 1) := by decide +kernel
theorem dX9_may_79 : decode cX9_may 79 = .ok (.iconst 2, 1) := by decide +kernel
theorem dX9_may_80 : decode cX9_may 80 = .ok (.if_icmp .ne 26, 3) := by decide +kernel
theorem dX9_may_83 : decode cX9_may 83 = .ok (.iload 4, 2) := by decide +kernel
theorem dX9_may_85 : decode cX9_may 85 = .ok (.ifCond .eq 18, 3) := by decide +kernel
theorem dX9_may_88 : decode cX9_may 88 = .ok (.aload_n 0, 1) := by decide +kernel
theorem dX9_may_89 : decode cX9_may 89 = .ok (.iload_n 3, 1) := by decide +kernel
theorem dX9_may_90 : decode cX9_may 90 = .ok (.iload_n 2, 1) := by decide +kernel
theorem dX9_may_91 : decode cX9_may 91 = .ok (.bipush 15, 2) := by decide +kernel
theorem dX9_may_93 : decode cX9_may 93 = .ok (.invokevirtual 59, 3) := by decide +kernel
theorem dX9_may_96 : decode cX9_may 96 = .ok (.ifCond .eq 7, 3) := by decide +kernel
theorem dX9_may_99 : decode cX9_may 99 = .ok (.iconst 1, 1) := by decide +kernel
theorem dX9_may_100 : decode cX9_may 100 = .ok (.goto 4, 3) := by decide +kernel
theorem dX9_may_103 : decode cX9_may 103 = .ok (.iconst 0, 1) := by decide +kernel
theorem dX9_may_104 : decode cX9_may 104 = .ok (.istore 4, 2) := by decide +kernel
theorem dX9_may_106 : decode cX9_may 106 = .ok (.iload 4, 2) := by decide +kernel
theorem dX9_may_108 : decode cX9_may 108 = .ok (.ireturn, 1) := by decide +kernel
theorem dX9_maySell_0 : decode cX9_maySell 0 = .ok (.iconst 0, 1) := by decide +kernel
theorem dX9_maySell_1 : decode cX9_maySell 1 = .ok (.istore_n 2, 1) := by decide +kernel
theorem dX9_maySell_2 : decode cX9_maySell 2 = .ok (.iconst 0, 1) := by decide +kernel
theorem dX9_maySell_3 : decode cX9_maySell 3 = .ok (.istore_n 3, 1) := by decide +kernel
theorem dX9_maySell_4 : decode cX9_maySell 4 = .ok (.iload_n 3, 1) := by decide +kernel
theorem dX9_maySell_5 : decode cX9_maySell 5 = .ok (.bipush 6, 2) := by decide +kernel
theorem dX9_maySell_7 : decode cX9_maySell 7 = .ok (.if_icmp .ge 28, 3) := by decide +kernel
theorem dX9_maySell_10 : decode cX9_maySell 10 = .ok (.iload_n 2, 1) := by decide +kernel
theorem dX9_maySell_11 : decode cX9_maySell 11 = .ok (.aload_n 0, 1) := by decide +kernel
theorem dX9_maySell_12 : decode cX9_maySell 12 = .ok (.iload_n 1, 1) := by decide +kernel
theorem dX9_maySell_13 : decode cX9_maySell 13 = .ok (.iload_n 3, 1) := by decide +kernel
theorem dX9_maySell_14 : decode cX9_maySell 14 = .ok (.invokevirtual 62, 3) := by decide +kernel
theorem dX9_maySell_17 : decode cX9_maySell 17 = .ok (.ifCond .eq 9, 3) := by decide +kernel
theorem dX9_maySell_20 : decode cX9_maySell 20 = .ok (.iconst 1, 1) := by decide +kernel
theorem dX9_maySell_21 : decode cX9_maySell 21 = .ok (.iload_n 3, 1) := by decide +kernel
theorem dX9_maySell_22 : decode cX9_maySell 22 = .ok (.ishl, 1) := by decide +kernel
theorem dX9_maySell_23 : decode cX9_maySell 23 = .ok (.goto 4, 3) := by decide +kernel
theorem dX9_maySell_26 : decode cX9_maySell 26 = .ok (.iconst 0, 1) := by decide +kernel
theorem dX9_maySell_27 : decode cX9_maySell 27 = .ok (.ior, 1) := by decide +kernel
theorem dX9_maySell_28 : decode cX9_maySell 28 = .ok (.istore_n 2, 1) := by decide +kernel
theorem dX9_maySell_29 : decode cX9_maySell 29 = .ok (.iinc 3 1, 3) := by decide +kernel
theorem dX9_maySell_32 : decode cX9_maySell 32 = .ok (.goto (-28), 3) := by decide +kernel
theorem dX9_maySell_35 : decode cX9_maySell 35 = .ok (.iload_n 2, 1) := by decide +kernel
theorem dX9_maySell_36 : decode cX9_maySell 36 = .ok (.ireturn, 1) := by decide +kernel
theorem dX9_cost_0 : decode cX9_cost 0 = .ok (.iload_n 1, 1) := by decide +kernel
theorem dX9_cost_1 : decode cX9_cost 1 = .ok (.invokestatic 66, 3) := by decide +kernel
theorem dX9_cost_4 : decode cX9_cost 4 = .ok (.ifCond .eq 13, 3) := by decide +kernel
theorem dX9_cost_7 : decode cX9_cost 7 = .ok (.iload_n 2, 1) := by decide +kernel
theorem dX9_cost_8 : decode cX9_cost 8 = .ok (.iconst 0, 1) := by decide +kernel
theorem dX9_cost_9 : decode cX9_cost 9 = .ok (.bipush 99, 2) := by decide +kernel
theorem dX9_cost_11 : decode cX9_cost 11 = .ok (.invokestatic 47, 3) := by decide +kernel
theorem dX9_cost_14 : decode cX9_cost 14 = .ok (.ifCond .ne 9, 3) := by decide +kernel
theorem dX9_cost_17 : decode cX9_cost 17 = .ok (.aload_n 0, 1) := by decide +kernel
theorem dX9_cost_18 : decode cX9_cost 18 = .ok (.iconst 1, 1) := by decide +kernel
theorem dX9_cost_19 : decode cX9_cost 19 = .ok (.invokevirtual 70, 3) := by decide +kernel
theorem dX9_cost_22 : decode cX9_cost 22 = .ok (.ireturn, 1) := by decide +kernel
theorem dX9_cost_23 : decode cX9_cost 23 = .ok (.aload_n 0, 1) := by decide +kernel
theorem dX9_cost_24 : decode cX9_cost 24 = .ok (.getfield 7, 3) := by decide +kernel
theorem dX9_cost_27 : decode cX9_cost 27 = .ok (.bipush 10, 2) := by decide +kernel
theorem dX9_cost_29 : decode cX9_cost 29 = .ok (.iload_n 1, 1) := by decide +kernel
theorem dX9_cost_30 : decode cX9_cost 30 = .ok (.iadd, 1) := by decide +kernel
theorem dX9_cost_31 : decode cX9_cost 31 = .ok (.iaload, 1) := by decide +kernel
theorem dX9_cost_32 : decode cX9_cost 32 = .ok (.istore_n 3, 1) := by decide +kernel
theorem dX9_cost_33 : decode cX9_cost 33 = .ok (.aload_n 0, 1) := by decide +kernel
theorem dX9_cost_34 : decode cX9_cost 34 = .ok (.getfield 7, 3) := by decide +kernel
theorem dX9_cost_37 : decode cX9_cost 37 = .ok (.bipush 10, 2) := by decide +kernel
theorem dX9_cost_39 : decode cX9_cost 39 = .ok (.iload_n 1, 1) := by decide +kernel
theorem dX9_cost_40 : decode cX9_cost 40 = .ok (.iadd, 1) := by decide +kernel
theorem dX9_cost_41 : decode cX9_cost 41 = .ok (.iload_n 2, 1) := by decide +kernel
theorem dX9_cost_42 : decode cX9_cost 42 = .ok (.iastore, 1) := by decide +kernel
theorem dX9_cost_43 : decode cX9_cost 43 = .ok (.iload_n 3, 1) := by decide +kernel
theorem dX9_cost_44 : decode cX9_cost 44 = .ok (.ireturn, 1) := by decide +kernel
theorem dX9_rule_0 : decode cX9_rule 0 = .ok (.iload_n 1, 1) := by decide +kernel
theorem dX9_rule_1 : decode cX9_rule 1 = .ok (.iconst 0, 1) := by decide +kernel
theorem dX9_rule_2 : decode cX9_rule 2 = .ok (.iconst 1, 1) := by decide +kernel
theorem dX9_rule_3 : decode cX9_rule 3 = .ok (.invokestatic 47, 3) := by decide +kernel
theorem dX9_rule_6 : decode cX9_rule 6 = .ok (.ifCond .eq 20, 3) := by decide +kernel
theorem dX9_rule_9 : decode cX9_rule 9 = .ok (.iload_n 2, 1) := by decide +kernel
theorem dX9_rule_10 : decode cX9_rule 10 = .ok (.iconst 0, 1) := by decide +kernel
theorem dX9_rule_11 : decode cX9_rule 11 = .ok (.iload_n 1, 1) := by decide +kernel
theorem dX9_rule_12 : decode cX9_rule 12 = .ok (.ifCond .ne 7, 3) := by decide +kernel
theorem dX9_rule_15 : decode cX9_rule 15 = .ok (.iconst 1, 1) := by decide +kernel
theorem dX9_rule_16 : decode cX9_rule 16 = .ok (.goto 4, 3) := by decide +kernel
theorem dX9_rule_19 : decode cX9_rule 19 = .ok (.iconst 2, 1) := by decide +kernel
theorem dX9_rule_20 : decode cX9_rule 20 = .ok (.invokestatic 47, 3) := by decide +kernel
theorem dX9_rule_23 : decode cX9_rule 23 = .ok (.ifCond .ne 9, 3) := by decide +kernel
theorem dX9_rule_26 : decode cX9_rule 26 = .ok (.aload_n 0, 1) := by decide +kernel
theorem dX9_rule_27 : decode cX9_rule 27 = .ok (.iconst 1, 1) := by decide +kernel
theorem dX9_rule_28 : decode cX9_rule 28 = .ok (.invokevirtual 70, 3) := by decide +kernel
theorem dX9_rule_31 : decode cX9_rule 31 = .ok (.ireturn, 1) := by decide +kernel
theorem dX9_rule_32 : decode cX9_rule 32 = .ok (.aload_n 0, 1) := by decide +kernel
theorem dX9_rule_33 : decode cX9_rule 33 = .ok (.getfield 7, 3) := by decide +kernel
theorem dX9_rule_36 : decode cX9_rule 36 = .ok (.iconst 4, 1) := by decide +kernel
theorem dX9_rule_37 : decode cX9_rule 37 = .ok (.iload_n 1, 1) := by decide +kernel
theorem dX9_rule_38 : decode cX9_rule 38 = .ok (.iadd, 1) := by decide +kernel
theorem dX9_rule_39 : decode cX9_rule 39 = .ok (.iaload, 1) := by decide +kernel
theorem dX9_rule_40 : decode cX9_rule 40 = .ok (.istore_n 3, 1) := by decide +kernel
theorem dX9_rule_41 : decode cX9_rule 41 = .ok (.aload_n 0, 1) := by decide +kernel
theorem dX9_rule_42 : decode cX9_rule 42 = .ok (.getfield 7, 3) := by decide +kernel
theorem dX9_rule_45 : decode cX9_rule 45 = .ok (.iconst 4, 1) := by decide +kernel
theorem dX9_rule_46 : decode cX9_rule 46 = .ok (.iload_n 1, 1) := by decide +kernel
theorem dX9_rule_47 : decode cX9_rule 47 = .ok (.iadd, 1) := by decide +kernel
theorem dX9_rule_48 : decode cX9_rule 48 = .ok (.iload_n 2, 1) := by decide +kernel
theorem dX9_rule_49 : decode cX9_rule 49 = .ok (.iastore, 1) := by decide +kernel
theorem dX9_rule_50 : decode cX9_rule 50 = .ok (.iload_n 3, 1) := by decide +kernel
theorem dX9_rule_51 : decode cX9_rule 51 = .ok (.ireturn, 1) := by decide +kernel
theorem dX9_shop_0 : decode cX9_shop 0 = .ok (.iload_n 1, 1) := by decide +kernel
theorem dX9_shop_1 : decode cX9_shop 1 = .ok (.iconst 0, 1) := by decide +kernel
theorem dX9_shop_2 : decode cX9_shop 2 = .ok (.bipush 69, 2) := by decide +kernel
theorem dX9_shop_4 : decode cX9_shop 4 = .ok (.invokestatic 47, 3) := by decide +kernel
theorem dX9_shop_7 : decode cX9_shop 7 = .ok (.ifCond .ne 9, 3) := by decide +kernel
theorem dX9_shop_10 : decode cX9_shop 10 = .ok (.aload_n 0, 1) := by decide +kernel
theorem dX9_shop_11 : decode cX9_shop 11 = .ok (.iconst 1, 1) := by decide +kernel
theorem dX9_shop_12 : decode cX9_shop 12 = .ok (.invokevirtual 70, 3) := by decide +kernel
theorem dX9_shop_15 : decode cX9_shop 15 = .ok (.ireturn, 1) := by decide +kernel
theorem dX9_shop_16 : decode cX9_shop 16 = .ok (.aload_n 0, 1) := by decide +kernel
theorem dX9_shop_17 : decode cX9_shop 17 = .ok (.getfield 7, 3) := by decide +kernel
theorem dX9_shop_20 : decode cX9_shop 20 = .ok (.iconst 0, 1) := by decide +kernel
theorem dX9_shop_21 : decode cX9_shop 21 = .ok (.iaload, 1) := by decide +kernel
theorem dX9_shop_22 : decode cX9_shop 22 = .ok (.bipush 6, 2) := by decide +kernel
theorem dX9_shop_24 : decode cX9_shop 24 = .ok (.if_icmp .ne 9, 3) := by decide +kernel
theorem dX9_shop_27 : decode cX9_shop 27 = .ok (.aload_n 0, 1) := by decide +kernel
theorem dX9_shop_28 : decode cX9_shop 28 = .ok (.iconst 4, 1) := by decide +kernel
theorem dX9_shop_29 : decode cX9_shop 29 = .ok (.invokevirtual 70, 3) := by decide +kernel
theorem dX9_shop_32 : decode cX9_shop 32 = .ok (.ireturn, 1) := by decide +kernel
theorem dX9_shop_33 : decode cX9_shop 33 = .ok (.aload_n 0, 1) := by decide +kernel
theorem dX9_shop_34 : decode cX9_shop 34 = .ok (.getfield 7, 3) := by decide +kernel
theorem dX9_shop_37 : decode cX9_shop 37 = .ok (.iconst 0, 1) := by decide +kernel
theorem dX9_shop_38 : decode cX9_shop 38 = .ok (.iaload, 1) := by decide +kernel
theorem dX9_shop_39 : decode cX9_shop 39 = .ok (.istore_n 2, 1) := by decide +kernel
theorem dX9_shop_40 : decode cX9_shop 40 = .ok (.iconst 0, 1) := by decide +kernel
theorem dX9_shop_41 : decode cX9_shop 41 = .ok (.istore_n 3, 1) := by decide +kernel
theorem dX9_shop_42 : decode cX9_shop 42 = .ok (.iload_n 3, 1) := by decide +kernel
theorem dX9_shop_43 : decode cX9_shop 43 = .ok (.bipush 21, 2) := by decide +kernel
theorem dX9_shop_45 : decode cX9_shop 45 = .ok (.if_icmp .ge 16, 3) := by decide +kernel
theorem dX9_shop_48 : decode cX9_shop 48 = .ok (.aload_n 0, 1) := by decide +kernel
theorem dX9_shop_49 : decode cX9_shop 49 = .ok (.iload_n 2, 1) := by decide +kernel
theorem dX9_shop_50 : decode cX9_shop 50 = .ok (.iload_n 3, 1) := by decide +kernel
theorem dX9_shop_51 : decode cX9_shop 51 = .ok (.iconst 0, 1) := by decide +kernel
theorem dX9_shop_52 : decode cX9_shop 52 = .ok (.invokevirtual 73, 3) := by decide +kernel
theorem dX9_shop_55 : decode cX9_shop 55 = .ok (.iinc 3 1, 3) := by decide +kernel
theorem dX9_shop_58 : decode cX9_shop 58 = .ok (.goto (-16), 3) := by decide +kernel
theorem dX9_shop_61 : decode cX9_shop 61 = .ok (.aload_n 0, 1) := by decide +kernel
theorem dX9_shop_62 : decode cX9_shop 62 = .ok (.iload_n 2, 1) := by decide +kernel
theorem dX9_shop_63 : decode cX9_shop 63 = .ok (.iconst 0, 1) := by decide +kernel
theorem dX9_shop_64 : decode cX9_shop 64 = .ok (.iload_n 1, 1) := by decide +kernel
theorem dX9_shop_65 : decode cX9_shop 65 = .ok (.bipush 10, 2) := by decide +kernel
theorem dX9_shop_67 : decode cX9_shop 67 = .ok (.idiv, 1) := by decide +kernel
theorem dX9_shop_68 : decode cX9_shop 68 = .ok (.invokevirtual 73, 3) := by decide +kernel
theorem dX9_shop_71 : decode cX9_shop 71 = .ok (.aload_n 0, 1) := by decide +kernel
theorem dX9_shop_72 : decode cX9_shop 72 = .ok (.iload_n 2, 1) := by decide +kernel
theorem dX9_shop_73 : decode cX9_shop 73 = .ok (.iconst 1, 1) := by decide +kernel
theorem dX9_shop_74 : decode cX9_shop 74 = .ok (.iload_n 1, 1) := by decide +kernel
theorem dX9_shop_75 : decode cX9_shop 75 = .ok (.bipush 10, 2) := by decide +kernel
theorem dX9_shop_77 : decode cX9_shop 77 = .ok (.irem, 1) := by decide +kernel
theorem dX9_shop_78 : decode cX9_shop 78 = .ok (.invokevirtual 73, 3) := by decide +kernel
theorem dX9_shop_81 : decode cX9_shop 81 = .ok (.aload_n 0, 1) := by decide +kernel
theorem dX9_shop_82 : decode cX9_shop 82 = .ok (.getfield 7, 3) := by decide +kernel
theorem dX9_shop_85 : decode cX9_shop 85 = .ok (.iconst 0, 1) := by decide +kernel
theorem dX9_shop_86 : decode cX9_shop 86 = .ok (.dup2, 1) := by decide +kernel
theorem dX9_shop_87 : decode cX9_shop 87 = .ok (.iaload, 1) := by decide +kernel
theorem dX9_shop_88 : decode cX9_shop 88 = .ok (.iconst 1, 1) := by decide +kernel
theorem dX9_shop_89 : decode cX9_shop 89 = .ok (.iadd, 1) := by decide +kernel
theorem dX9_shop_90 : decode cX9_shop 90 = .ok (.iastore, 1) := by decide +kernel
theorem dX9_shop_91 : decode cX9_shop 91 = .ok (.iload_n 2, 1) := by decide +kernel
theorem dX9_shop_92 : decode cX9_shop 92 = .ok (.ireturn, 1) := by decide +kernel
theorem dX9_toldShop_0 : decode cX9_toldShop 0 = .ok (.iload_n 2, 1) := by decide +kernel
theorem dX9_toldShop_1 : decode cX9_toldShop 1 = .ok (.bipush 15, 2) := by decide +kernel
theorem dX9_toldShop_3 : decode cX9_toldShop 3 = .ok (.if_icmp .ne 11, 3) := by decide +kernel
theorem dX9_toldShop_6 : decode cX9_toldShop 6 = .ok (.aload_n 0, 1) := by decide +kernel
theorem dX9_toldShop_7 : decode cX9_toldShop 7 = .ok (.iload_n 1, 1) := by decide +kernel
theorem dX9_toldShop_8 : decode cX9_toldShop 8 = .ok (.invokevirtual 77, 3) := by decide +kernel
theorem dX9_toldShop_11 : decode cX9_toldShop 11 = .ok (.goto 9, 3) := by decide +kernel
theorem dX9_toldShop_14 : decode cX9_toldShop 14 = .ok (.aload_n 0, 1) := by decide +kernel
theorem dX9_toldShop_15 : decode cX9_toldShop 15 = .ok (.iload_n 1, 1) := by decide +kernel
theorem dX9_toldShop_16 : decode cX9_toldShop 16 = .ok (.iload_n 2, 1) := by decide +kernel
theorem dX9_toldShop_17 : decode cX9_toldShop 17 = .ok (.invokevirtual 51, 3) := by decide +kernel
theorem dX9_toldShop_20 : decode cX9_toldShop 20 = .ok (.ireturn, 1) := by decide +kernel
theorem dX9_shopIs_0 : decode cX9_shopIs 0 = .ok (.aload_n 0, 1) := by decide +kernel
theorem dX9_shopIs_1 : decode cX9_shopIs 1 = .ok (.iload_n 1, 1) := by decide +kernel
theorem dX9_shopIs_2 : decode cX9_shopIs 2 = .ok (.invokevirtual 80, 3) := by decide +kernel
theorem dX9_shopIs_5 : decode cX9_shopIs 5 = .ok (.ifCond .eq 22, 3) := by decide +kernel
theorem dX9_shopIs_8 : decode cX9_shopIs 8 = .ok (.iload_n 2, 1) := by decide +kernel
theorem dX9_shopIs_9 : decode cX9_shopIs 9 = .ok (.iconst 0, 1) := by decide +kernel
theorem dX9_shopIs_10 : decode cX9_shopIs 10 = .ok (.bipush 15, 2) := by decide +kernel
theorem dX9_shopIs_12 : decode cX9_shopIs 12 = .ok (.invokestatic 47, 3) := by decide +kernel
theorem dX9_shopIs_15 : decode cX9_shopIs 15 = .ok (.ifCond .eq 12, 3) := by decide +kernel
theorem dX9_shopIs_18 : decode cX9_shopIs 18 = .ok (.aload_n 0, 1) := by decide +kernel
theorem dX9_shopIs_19 : decode cX9_shopIs 19 = .ok (.iload_n 1, 1) := by decide +kernel
theorem dX9_shopIs_20 : decode cX9_shopIs 20 = .ok (.iload_n 2, 1) := by decide +kernel
theorem dX9_shopIs_21 : decode cX9_shopIs 21 = .ok (.invokevirtual 83, 3) := by decide +kernel
theorem dX9_shopIs_24 : decode cX9_shopIs 24 = .ok (.goto 8, 3) := by decide +kernel
theorem dX9_shopIs_27 : decode cX9_shopIs 27 = .ok (.aload_n 0, 1) := by decide +kernel
theorem dX9_shopIs_28 : decode cX9_shopIs 28 = .ok (.iconst 1, 1) := by decide +kernel
theorem dX9_shopIs_29 : decode cX9_shopIs 29 = .ok (.invokevirtual 70, 3) := by decide +kernel
theorem dX9_shopIs_32 : decode cX9_shopIs 32 = .ok (.ireturn, 1) := by decide +kernel
theorem dX9_isUnder_0 : decode cX9_isUnder 0 = .ok (.iload_n 1, 1) := by decide +kernel
theorem dX9_isUnder_1 : decode cX9_isUnder 1 = .ok (.ifCond .eq 28, 3) := by decide +kernel
theorem dX9_isUnder_4 : decode cX9_isUnder 4 = .ok (.iload_n 0, 1) := by decide +kernel
theorem dX9_isUnder_5 : decode cX9_isUnder 5 = .ok (.iload_n 1, 1) := by decide +kernel
theorem dX9_isUnder_6 : decode cX9_isUnder 6 = .ok (.if_icmp .eq 23, 3) := by decide +kernel
theorem dX9_isUnder_9 : decode cX9_isUnder 9 = .ok (.iload_n 1, 1) := by decide +kernel
theorem dX9_isUnder_10 : decode cX9_isUnder 10 = .ok (.iconst 1, 1) := by decide +kernel
theorem dX9_isUnder_11 : decode cX9_isUnder 11 = .ok (.if_icmp .ne 8, 3) := by decide +kernel
theorem dX9_isUnder_14 : decode cX9_isUnder 14 = .ok (.iload_n 0, 1) := by decide +kernel
theorem dX9_isUnder_15 : decode cX9_isUnder 15 = .ok (.iconst 4, 1) := by decide +kernel
theorem dX9_isUnder_16 : decode cX9_isUnder 16 = .ok (.if_icmp .eq 13, 3) := by decide +kernel
theorem dX9_isUnder_19 : decode cX9_isUnder 19 = .ok (.iload_n 1, 1) := by decide +kernel
theorem dX9_isUnder_20 : decode cX9_isUnder 20 = .ok (.iconst 2, 1) := by decide +kernel
theorem dX9_isUnder_21 : decode cX9_isUnder 21 = .ok (.if_icmp .ne 12, 3) := by decide +kernel
theorem dX9_isUnder_24 : decode cX9_isUnder 24 = .ok (.iload_n 0, 1) := by decide +kernel
theorem dX9_isUnder_25 : decode cX9_isUnder 25 = .ok (.iconst 5, 1) := by decide +kernel
theorem dX9_isUnder_26 : decode cX9_isUnder 26 = .ok (.if_icmp .ne 7, 3) := by decide +kernel
theorem dX9_isUnder_29 : decode cX9_isUnder 29 = .ok (.iconst 1, 1) := by decide +kernel
theorem dX9_isUnder_30 : decode cX9_isUnder 30 = .ok (.goto 4, 3) := by decide +kernel
theorem dX9_isUnder_33 : decode cX9_isUnder 33 = .ok (.iconst 0, 1) := by decide +kernel
theorem dX9_isUnder_34 : decode cX9_isUnder 34 = .ok (.ireturn, 1) := by decide +kernel
theorem dX9_as_0 : decode cX9_as 0 = .ok (.aload_n 0, 1) := by decide +kernel
theorem dX9_as_1 : decode cX9_as 1 = .ok (.iload_n 1, 1) := by decide +kernel
theorem dX9_as_2 : decode cX9_as 2 = .ok (.invokevirtual 80, 3) := by decide +kernel
theorem dX9_as_5 : decode cX9_as 5 = .ok (.ifCond .eq 13, 3) := by decide +kernel
theorem dX9_as_8 : decode cX9_as 8 = .ok (.iload_n 2, 1) := by decide +kernel
theorem dX9_as_9 : decode cX9_as 9 = .ok (.iconst 0, 1) := by decide +kernel
theorem dX9_as_10 : decode cX9_as 10 = .ok (.bipush 6, 2) := by decide +kernel
theorem dX9_as_12 : decode cX9_as 12 = .ok (.invokestatic 47, 3) := by decide +kernel
theorem dX9_as_15 : decode cX9_as 15 = .ok (.ifCond .ne 9, 3) := by decide +kernel
theorem dX9_as_18 : decode cX9_as 18 = .ok (.aload_n 0, 1) := by decide +kernel
theorem dX9_as_19 : decode cX9_as 19 = .ok (.iconst 1, 1) := by decide +kernel
theorem dX9_as_20 : decode cX9_as 20 = .ok (.invokevirtual 70, 3) := by decide +kernel
theorem dX9_as_23 : decode cX9_as 23 = .ok (.ireturn, 1) := by decide +kernel
theorem dX9_as_24 : decode cX9_as 24 = .ok (.aload_n 0, 1) := by decide +kernel
theorem dX9_as_25 : decode cX9_as 25 = .ok (.iload_n 1, 1) := by decide +kernel
theorem dX9_as_26 : decode cX9_as 26 = .ok (.iconst 0, 1) := by decide +kernel
theorem dX9_as_27 : decode cX9_as 27 = .ok (.invokevirtual 51, 3) := by decide +kernel
theorem dX9_as_30 : decode cX9_as 30 = .ok (.iload_n 2, 1) := by decide +kernel
theorem dX9_as_31 : decode cX9_as 31 = .ok (.invokestatic 86, 3) := by decide +kernel
theorem dX9_as_34 : decode cX9_as 34 = .ok (.ifCond .eq 12, 3) := by decide +kernel
theorem dX9_as_37 : decode cX9_as 37 = .ok (.aload_n 0, 1) := by decide +kernel
theorem dX9_as_38 : decode cX9_as 38 = .ok (.iload_n 1, 1) := by decide +kernel
theorem dX9_as_39 : decode cX9_as 39 = .ok (.iconst 2, 1) := by decide +kernel
theorem dX9_as_40 : decode cX9_as 40 = .ok (.invokevirtual 51, 3) := by decide +kernel
theorem dX9_as_43 : decode cX9_as 43 = .ok (.goto 8, 3) := by decide +kernel
theorem dX9_as_46 : decode cX9_as 46 = .ok (.aload_n 0, 1) := by decide +kernel
theorem dX9_as_47 : decode cX9_as 47 = .ok (.iconst 5, 1) := by decide +kernel
theorem dX9_as_48 : decode cX9_as 48 = .ok (.invokevirtual 70, 3) := by decide +kernel
theorem dX9_as_51 : decode cX9_as 51 = .ok (.ireturn, 1) := by decide +kernel
theorem dX9_set_0 : decode cX9_set 0 = .ok (.iload_n 2, 1) := by decide +kernel
theorem dX9_set_1 : decode cX9_set 1 = .ok (.ifCond .ne 8, 3) := by decide +kernel
theorem dX9_set_4 : decode cX9_set 4 = .ok (.bipush 6, 2) := by decide +kernel
theorem dX9_set_6 : decode cX9_set 6 = .ok (.goto 16, 3) := by decide +kernel
theorem dX9_set_9 : decode cX9_set 9 = .ok (.iload_n 2, 1) := by decide +kernel
theorem dX9_set_10 : decode cX9_set 10 = .ok (.bipush 9, 2) := by decide +kernel
theorem dX9_set_12 : decode cX9_set 12 = .ok (.if_icmp .ge 8, 3) := by decide +kernel
theorem dX9_set_15 : decode cX9_set 15 = .ok (.bipush 9, 2) := by decide +kernel
theorem dX9_set_17 : decode cX9_set 17 = .ok (.goto 5, 3) := by decide +kernel
theorem dX9_set_20 : decode cX9_set 20 = .ok (.bipush 99, 2) := by decide +kernel
theorem dX9_set_22 : decode cX9_set 22 = .ok (.istore 4, 2) := by decide +kernel
theorem dX9_set_24 : decode cX9_set 24 = .ok (.aload_n 0, 1) := by decide +kernel
theorem dX9_set_25 : decode cX9_set 25 = .ok (.iload_n 1, 1) := by decide +kernel
theorem dX9_set_26 : decode cX9_set 26 = .ok (.invokevirtual 80, 3) := by decide +kernel
theorem dX9_set_29 : decode cX9_set 29 = .ok (.ifCond .eq 28, 3) := by decide +kernel
theorem dX9_set_32 : decode cX9_set 32 = .ok (.iload_n 2, 1) := by decide +kernel
theorem dX9_set_33 : decode cX9_set 33 = .ok (.iconst 0, 1) := by decide +kernel
theorem dX9_set_34 : decode cX9_set 34 = .ok (.bipush 14, 2) := by decide +kernel
theorem dX9_set_36 : decode cX9_set 36 = .ok (.invokestatic 47, 3) := by decide +kernel
theorem dX9_set_39 : decode cX9_set 39 = .ok (.ifCond .eq 18, 3) := by decide +kernel
theorem dX9_set_42 : decode cX9_set 42 = .ok (.iload_n 2, 1) := by decide +kernel
theorem dX9_set_43 : decode cX9_set 43 = .ok (.iconst 2, 1) := by decide +kernel
theorem dX9_set_44 : decode cX9_set 44 = .ok (.if_icmp .eq 13, 3) := by decide +kernel
theorem dX9_set_47 : decode cX9_set 47 = .ok (.iload_n 3, 1) := by decide +kernel
theorem dX9_set_48 : decode cX9_set 48 = .ok (.iconst 0, 1) := by decide +kernel
theorem dX9_set_49 : decode cX9_set 49 = .ok (.iload 4, 2) := by decide +kernel
theorem dX9_set_51 : decode cX9_set 51 = .ok (.invokestatic 47, 3) := by decide +kernel
theorem dX9_set_54 : decode cX9_set 54 = .ok (.ifCond .ne 9, 3) := by decide +kernel
theorem dX9_set_57 : decode cX9_set 57 = .ok (.aload_n 0, 1) := by decide +kernel
theorem dX9_set_58 : decode cX9_set 58 = .ok (.iconst 1, 1) := by decide +kernel
theorem dX9_set_59 : decode cX9_set 59 = .ok (.invokevirtual 70, 3) := by decide +kernel
theorem dX9_set_62 : decode cX9_set 62 = .ok (.ireturn, 1) := by decide +kernel
theorem dX9_set_63 : decode cX9_set 63 = .ok (.aload_n 0, 1) := by decide +kernel
theorem dX9_set_64 : decode cX9_set 64 = .ok (.iload_n 1, 1) := by decide +kernel
theorem dX9_set_65 : decode cX9_set 65 = .ok (.iload_n 2, 1) := by decide +kernel
theorem dX9_set_66 : decode cX9_set 66 = .ok (.invokevirtual 51, 3) := by decide +kernel
theorem dX9_set_69 : decode cX9_set 69 = .ok (.istore 5, 2) := by decide +kernel
theorem dX9_set_71 : decode cX9_set 71 = .ok (.aload_n 0, 1) := by decide +kernel
theorem dX9_set_72 : decode cX9_set 72 = .ok (.iload_n 1, 1) := by decide +kernel
theorem dX9_set_73 : decode cX9_set 73 = .ok (.iload_n 2, 1) := by decide +kernel
theorem dX9_set_74 : decode cX9_set 74 = .ok (.iload_n 3, 1) := by decide +kernel
theorem dX9_set_75 : decode cX9_set 75 = .ok (.invokevirtual 73, 3) := by decide +kernel
theorem dX9_set_78 : decode cX9_set 78 = .ok (.iload 5, 2) := by decide +kernel
theorem dX9_set_80 : decode cX9_set 80 = .ok (.ireturn, 1) := by decide +kernel
theorem dX9_isCustomer1_0 : decode cX9_isCustomer1 0 = .ok (.iload_n 0, 1) := by decide +kernel
theorem dX9_isCustomer1_1 : decode cX9_isCustomer1 1 = .ok (.iconst 0, 1) := by decide +kernel
theorem dX9_isCustomer1_2 : decode cX9_isCustomer1 2 = .ok (.bipush 63, 2) := by decide +kernel
theorem dX9_isCustomer1_4 : decode cX9_isCustomer1 4 = .ok (.invokestatic 47, 3) := by decide +kernel
theorem dX9_isCustomer1_7 : decode cX9_isCustomer1 7 = .ok (.ifCond .eq 37, 3) := by decide +kernel
theorem dX9_isCustomer1_10 : decode cX9_isCustomer1 10 = .ok (.iload_n 1, 1) := by decide +kernel
theorem dX9_isCustomer1_11 : decode cX9_isCustomer1 11 = .ok (.bipush 10, 2) := by decide +kernel
theorem dX9_isCustomer1_13 : decode cX9_isCustomer1 13 = .ok (.bipush 121, 2) := by decide +kernel
theorem dX9_isCustomer1_15 : decode cX9_isCustomer1 15 = .ok (.invokestatic 47, 3) := by decide +kernel
theorem dX9_isCustomer1_18 : decode cX9_isCustomer1 18 = .ok (.ifCond .eq 26, 3) := by decide +kernel
theorem dX9_isCustomer1_21 : decode cX9_isCustomer1 21 = .ok (.iload_n 1, 1) := by decide +kernel
theorem dX9_isCustomer1_22 : decode cX9_isCustomer1 22 = .ok (.bipush 10, 2) := by decide +kernel
theorem dX9_isCustomer1_24 : decode cX9_isCustomer1 24 = .ok (.irem, 1) := by decide +kernel
theorem dX9_isCustomer1_25 : decode cX9_isCustomer1 25 = .ok (.iconst 1, 1) := by decide +kernel
theorem dX9_isCustomer1_26 : decode cX9_isCustomer1 26 = .ok (.if_icmp .gt 18, 3) := by decide +kernel
theorem dX9_isCustomer1_29 : decode cX9_isCustomer1 29 = .ok (.iload_n 2, 1) := by decide +kernel
theorem dX9_isCustomer1_30 : decode cX9_isCustomer1 30 = .ok (.iconst 0, 1) := by decide +kernel
theorem dX9_isCustomer1_31 : decode cX9_isCustomer1 31 = .ok (.sipush 999, 3) := by decide +kernel
theorem dX9_isCustomer1_34 : decode cX9_isCustomer1 34 = .ok (.invokestatic 47, 3) := by decide +kernel
theorem dX9_isCustomer1_37 : decode cX9_isCustomer1 37 = .ok (.ifCond .eq 7, 3) := by decide +kernel
theorem dX9_isCustomer1_40 : decode cX9_isCustomer1 40 = .ok (.iconst 1, 1) := by decide +kernel
theorem dX9_isCustomer1_41 : decode cX9_isCustomer1 41 = .ok (.goto 4, 3) := by decide +kernel
theorem dX9_isCustomer1_44 : decode cX9_isCustomer1 44 = .ok (.iconst 0, 1) := by decide +kernel
theorem dX9_isCustomer1_45 : decode cX9_isCustomer1 45 = .ok (.ireturn, 1) := by decide +kernel
theorem dX9_addCustomer_0 : decode cX9_addCustomer 0 = .ok (.sipush 142, 3) := by decide +kernel
theorem dX9_addCustomer_3 : decode cX9_addCustomer 3 = .ok (.iconst 4, 1) := by decide +kernel
theorem dX9_addCustomer_4 : decode cX9_addCustomer 4 = .ok (.aload_n 0, 1) := by decide +kernel
theorem dX9_addCustomer_5 : decode cX9_addCustomer 5 = .ok (.getfield 7, 3) := by decide +kernel
theorem dX9_addCustomer_8 : decode cX9_addCustomer 8 = .ok (.iconst 1, 1) := by decide +kernel
theorem dX9_addCustomer_9 : decode cX9_addCustomer 9 = .ok (.iaload, 1) := by decide +kernel
theorem dX9_addCustomer_10 : decode cX9_addCustomer 10 = .ok (.imul, 1) := by decide +kernel
theorem dX9_addCustomer_11 : decode cX9_addCustomer 11 = .ok (.iadd, 1) := by decide +kernel
theorem dX9_addCustomer_12 : decode cX9_addCustomer 12 = .ok (.istore 4, 2) := by decide +kernel
theorem dX9_addCustomer_14 : decode cX9_addCustomer 14 = .ok (.aload_n 0, 1) := by decide +kernel
theorem dX9_addCustomer_15 : decode cX9_addCustomer 15 = .ok (.getfield 7, 3) := by decide +kernel
theorem dX9_addCustomer_18 : decode cX9_addCustomer 18 = .ok (.iload 4, 2) := by decide +kernel
theorem dX9_addCustomer_20 : decode cX9_addCustomer 20 = .ok (.iload_n 1, 1) := by decide +kernel
theorem dX9_addCustomer_21 : decode cX9_addCustomer 21 = .ok (.iastore, 1) := by decide +kernel
theorem dX9_addCustomer_22 : decode cX9_addCustomer 22 = .ok (.aload_n 0, 1) := by decide +kernel
theorem dX9_addCustomer_23 : decode cX9_addCustomer 23 = .ok (.getfield 7, 3) := by decide +kernel
theorem dX9_addCustomer_26 : decode cX9_addCustomer 26 = .ok (.iload 4, 2) := by decide +kernel
theorem dX9_addCustomer_28 : decode cX9_addCustomer 28 = .ok (.iconst 1, 1) := by decide +kernel
theorem dX9_addCustomer_29 : decode cX9_addCustomer 29 = .ok (.iadd, 1) := by decide +kernel
theorem dX9_addCustomer_30 : decode cX9_addCustomer 30 = .ok (.iload_n 2, 1) := by decide +kernel
theorem dX9_addCustomer_31 : decode cX9_addCustomer 31 = .ok (.bipush 10, 2) := by decide +kernel
theorem dX9_addCustomer_33 : decode cX9_addCustomer 33 = .ok (.idiv, 1) := by decide +kernel
theorem dX9_addCustomer_34 : decode cX9_addCustomer 34 = .ok (.iastore, 1) := by decide +kernel
theorem dX9_addCustomer_35 : decode cX9_addCustomer 35 = .ok (.aload_n 0, 1) := by decide +kernel
theorem dX9_addCustomer_36 : decode cX9_addCustomer 36 = .ok (.getfield 7, 3) := by decide +kernel
theorem dX9_addCustomer_39 : decode cX9_addCustomer 39 = .ok (.iload 4, 2) := by decide +kernel
theorem dX9_addCustomer_41 : decode cX9_addCustomer 41 = .ok (.iconst 2, 1) := by decide +kernel
theorem dX9_addCustomer_42 : decode cX9_addCustomer 42 = .ok (.iadd, 1) := by decide +kernel
theorem dX9_addCustomer_43 : decode cX9_addCustomer 43 = .ok (.iload_n 2, 1) := by decide +kernel
theorem dX9_addCustomer_44 : decode cX9_addCustomer 44 = .ok (.bipush 10, 2) := by decide +kernel
theorem dX9_addCustomer_46 : decode cX9_addCustomer 46 = .ok (.irem, 1) := by decide +kernel
theorem dX9_addCustomer_47 : decode cX9_addCustomer 47 = .ok (.iastore, 1) := by decide +kernel
theorem dX9_addCustomer_48 : decode cX9_addCustomer 48 = .ok (.aload_n 0, 1) := by decide +kernel
theorem dX9_addCustomer_49 : decode cX9_addCustomer 49 = .ok (.getfield 7, 3) := by decide +kernel
theorem dX9_addCustomer_52 : decode cX9_addCustomer 52 = .ok (.iload 4, 2) := by decide +kernel
theorem dX9_addCustomer_54 : decode cX9_addCustomer 54 = .ok (.iconst 3, 1) := by decide +kernel
theorem dX9_addCustomer_55 : decode cX9_addCustomer 55 = .ok (.iadd, 1) := by decide +kernel
theorem dX9_addCustomer_56 : decode cX9_addCustomer 56 = .ok (.iload_n 3, 1) := by decide +kernel
theorem dX9_addCustomer_57 : decode cX9_addCustomer 57 = .ok (.iastore, 1) := by decide +kernel
theorem dX9_addCustomer_58 : decode cX9_addCustomer 58 = .ok (.aload_n 0, 1) := by decide +kernel
theorem dX9_addCustomer_59 : decode cX9_addCustomer 59 = .ok (.getfield 7, 3) := by decide +kernel
theorem dX9_addCustomer_62 : decode cX9_addCustomer 62 = .ok (.iconst 1, 1) := by decide +kernel
theorem dX9_addCustomer_63 : decode cX9_addCustomer 63 = .ok (.dup2, 1) := by decide +kernel
theorem dX9_addCustomer_64 : decode cX9_addCustomer 64 = .ok (.iaload, 1) := by decide +kernel
theorem dX9_addCustomer_65 : decode cX9_addCustomer 65 = .ok (.iconst 1, 1) := by decide +kernel
theorem dX9_addCustomer_66 : decode cX9_addCustomer 66 = .ok (.iadd, 1) := by decide +kernel
theorem dX9_addCustomer_67 : decode cX9_addCustomer 67 = .ok (.iastore, 1) := by decide +kernel
theorem dX9_addCustomer_68 : decode cX9_addCustomer 68 = .ok (.return_, 1) := by decide +kernel
theorem dX9_customer_0 : decode cX9_customer 0 = .ok (.iload_n 1, 1) := by decide +kernel
theorem dX9_customer_1 : decode cX9_customer 1 = .ok (.iload_n 2, 1) := by decide +kernel
theorem dX9_customer_2 : decode cX9_customer 2 = .ok (.iload_n 3, 1) := by decide +kernel
theorem dX9_customer_3 : decode cX9_customer 3 = .ok (.invokestatic 89, 3) := by decide +kernel
theorem dX9_customer_6 : decode cX9_customer 6 = .ok (.ifCond .ne 9, 3) := by decide +kernel
theorem dX9_customer_9 : decode cX9_customer 9 = .ok (.aload_n 0, 1) := by decide +kernel
theorem dX9_customer_10 : decode cX9_customer 10 = .ok (.iconst 1, 1) := by decide +kernel
theorem dX9_customer_11 : decode cX9_customer 11 = .ok (.invokevirtual 70, 3) := by decide +kernel
theorem dX9_customer_14 : decode cX9_customer 14 = .ok (.ireturn, 1) := by decide +kernel
theorem dX9_customer_15 : decode cX9_customer 15 = .ok (.aload_n 0, 1) := by decide +kernel
theorem dX9_customer_16 : decode cX9_customer 16 = .ok (.getfield 7, 3) := by decide +kernel
theorem dX9_customer_19 : decode cX9_customer 19 = .ok (.iconst 1, 1) := by decide +kernel
theorem dX9_customer_20 : decode cX9_customer 20 = .ok (.iaload, 1) := by decide +kernel
theorem dX9_customer_21 : decode cX9_customer 21 = .ok (.bipush 10, 2) := by decide +kernel
theorem dX9_customer_23 : decode cX9_customer 23 = .ok (.if_icmp .ne 9, 3) := by decide +kernel
theorem dX9_customer_26 : decode cX9_customer 26 = .ok (.aload_n 0, 1) := by decide +kernel
theorem dX9_customer_27 : decode cX9_customer 27 = .ok (.iconst 4, 1) := by decide +kernel
theorem dX9_customer_28 : decode cX9_customer 28 = .ok (.invokevirtual 70, 3) := by decide +kernel
theorem dX9_customer_31 : decode cX9_customer 31 = .ok (.ireturn, 1) := by decide +kernel
theorem dX9_customer_32 : decode cX9_customer 32 = .ok (.aload_n 0, 1) := by decide +kernel
theorem dX9_customer_33 : decode cX9_customer 33 = .ok (.iload_n 1, 1) := by decide +kernel
theorem dX9_customer_34 : decode cX9_customer 34 = .ok (.iload_n 2, 1) := by decide +kernel
theorem dX9_customer_35 : decode cX9_customer 35 = .ok (.iload_n 3, 1) := by decide +kernel
theorem dX9_customer_36 : decode cX9_customer 36 = .ok (.invokevirtual 92, 3) := by decide +kernel
theorem dX9_customer_39 : decode cX9_customer 39 = .ok (.aload_n 0, 1) := by decide +kernel
theorem dX9_customer_40 : decode cX9_customer 40 = .ok (.getfield 7, 3) := by decide +kernel
theorem dX9_customer_43 : decode cX9_customer 43 = .ok (.iconst 1, 1) := by decide +kernel
theorem dX9_customer_44 : decode cX9_customer 44 = .ok (.iaload, 1) := by decide +kernel
theorem dX9_customer_45 : decode cX9_customer 45 = .ok (.iconst 1, 1) := by decide +kernel
theorem dX9_customer_46 : decode cX9_customer 46 = .ok (.isub, 1) := by decide +kernel
theorem dX9_customer_47 : decode cX9_customer 47 = .ok (.ireturn, 1) := by decide +kernel
theorem dX9_customerIs_0 : decode cX9_customerIs 0 = .ok (.aload_n 0, 1) := by decide +kernel
theorem dX9_customerIs_1 : decode cX9_customerIs 1 = .ok (.iload_n 1, 1) := by decide +kernel
theorem dX9_customerIs_2 : decode cX9_customerIs 2 = .ok (.invokevirtual 95, 3) := by decide +kernel
theorem dX9_customerIs_5 : decode cX9_customerIs 5 = .ok (.ifCond .eq 21, 3) := by decide +kernel
theorem dX9_customerIs_8 : decode cX9_customerIs 8 = .ok (.iload_n 2, 1) := by decide +kernel
theorem dX9_customerIs_9 : decode cX9_customerIs 9 = .ok (.iconst 0, 1) := by decide +kernel
theorem dX9_customerIs_10 : decode cX9_customerIs 10 = .ok (.iconst 3, 1) := by decide +kernel
theorem dX9_customerIs_11 : decode cX9_customerIs 11 = .ok (.invokestatic 47, 3) := by decide +kernel
theorem dX9_customerIs_14 : decode cX9_customerIs 14 = .ok (.ifCond .eq 12, 3) := by decide +kernel
theorem dX9_customerIs_17 : decode cX9_customerIs 17 = .ok (.aload_n 0, 1) := by decide +kernel
theorem dX9_customerIs_18 : decode cX9_customerIs 18 = .ok (.iload_n 1, 1) := by decide +kernel
theorem dX9_customerIs_19 : decode cX9_customerIs 19 = .ok (.iload_n 2, 1) := by decide +kernel
theorem dX9_customerIs_20 : decode cX9_customerIs 20 = .ok (.invokevirtual 98, 3) := by decide +kernel
theorem dX9_customerIs_23 : decode cX9_customerIs 23 = .ok (.goto 8, 3) := by decide +kernel
theorem dX9_customerIs_26 : decode cX9_customerIs 26 = .ok (.aload_n 0, 1) := by decide +kernel
theorem dX9_customerIs_27 : decode cX9_customerIs 27 = .ok (.iconst 1, 1) := by decide +kernel
theorem dX9_customerIs_28 : decode cX9_customerIs 28 = .ok (.invokevirtual 70, 3) := by decide +kernel
theorem dX9_customerIs_31 : decode cX9_customerIs 31 = .ok (.ireturn, 1) := by decide +kernel
theorem dX9_leave_0 : decode cX9_leave 0 = .ok (.aload_n 0, 1) := by decide +kernel
theorem dX9_leave_1 : decode cX9_leave 1 = .ok (.getfield 7, 3) := by decide +kernel
theorem dX9_leave_4 : decode cX9_leave 4 = .ok (.iconst 1, 1) := by decide +kernel
theorem dX9_leave_5 : decode cX9_leave 5 = .ok (.iaload, 1) := by decide +kernel
theorem dX9_leave_6 : decode cX9_leave 6 = .ok (.ifCond .ne 9, 3) := by decide +kernel
theorem dX9_leave_9 : decode cX9_leave 9 = .ok (.aload_n 0, 1) := by decide +kernel
theorem dX9_leave_10 : decode cX9_leave 10 = .ok (.iconst 3, 1) := by decide +kernel
theorem dX9_leave_11 : decode cX9_leave 11 = .ok (.invokevirtual 70, 3) := by decide +kernel
theorem dX9_leave_14 : decode cX9_leave 14 = .ok (.ireturn, 1) := by decide +kernel
theorem dX9_leave_15 : decode cX9_leave 15 = .ok (.aload_n 0, 1) := by decide +kernel
theorem dX9_leave_16 : decode cX9_leave 16 = .ok (.getfield 7, 3) := by decide +kernel
theorem dX9_leave_19 : decode cX9_leave 19 = .ok (.iconst 1, 1) := by decide +kernel
theorem dX9_leave_20 : decode cX9_leave 20 = .ok (.dup2, 1) := by decide +kernel
theorem dX9_leave_21 : decode cX9_leave 21 = .ok (.iaload, 1) := by decide +kernel
theorem dX9_leave_22 : decode cX9_leave 22 = .ok (.iconst 1, 1) := by decide +kernel
theorem dX9_leave_23 : decode cX9_leave 23 = .ok (.isub, 1) := by decide +kernel
theorem dX9_leave_24 : decode cX9_leave 24 = .ok (.iastore, 1) := by decide +kernel
theorem dX9_leave_25 : decode cX9_leave 25 = .ok (.aload_n 0, 1) := by decide +kernel
theorem dX9_leave_26 : decode cX9_leave 26 = .ok (.getfield 7, 3) := by decide +kernel
theorem dX9_leave_29 : decode cX9_leave 29 = .ok (.iconst 1, 1) := by decide +kernel
theorem dX9_leave_30 : decode cX9_leave 30 = .ok (.iaload, 1) := by decide +kernel
theorem dX9_leave_31 : decode cX9_leave 31 = .ok (.ireturn, 1) := by decide +kernel
theorem dX9_feed_0 : decode cX9_feed 0 = .ok (.iload_n 3, 1) := by decide +kernel
theorem dX9_feed_1 : decode cX9_feed 1 = .ok (.iconst 1, 1) := by decide +kernel
theorem dX9_feed_2 : decode cX9_feed 2 = .ok (.bipush 8, 2) := by decide +kernel
theorem dX9_feed_4 : decode cX9_feed 4 = .ok (.invokestatic 47, 3) := by decide +kernel
theorem dX9_feed_7 : decode cX9_feed 7 = .ok (.ifCond .ne 9, 3) := by decide +kernel
theorem dX9_feed_10 : decode cX9_feed 10 = .ok (.aload_n 0, 1) := by decide +kernel
theorem dX9_feed_11 : decode cX9_feed 11 = .ok (.iconst 1, 1) := by decide +kernel
theorem dX9_feed_12 : decode cX9_feed 12 = .ok (.invokevirtual 70, 3) := by decide +kernel
theorem dX9_feed_15 : decode cX9_feed 15 = .ok (.ireturn, 1) := by decide +kernel
theorem dX9_feed_16 : decode cX9_feed 16 = .ok (.aload_n 0, 1) := by decide +kernel
theorem dX9_feed_17 : decode cX9_feed 17 = .ok (.getfield 7, 3) := by decide +kernel
theorem dX9_feed_20 : decode cX9_feed 20 = .ok (.bipush 6, 2) := by decide +kernel
theorem dX9_feed_22 : decode cX9_feed 22 = .ok (.iaload, 1) := by decide +kernel
theorem dX9_feed_23 : decode cX9_feed 23 = .ok (.iload_n 3, 1) := by decide +kernel
theorem dX9_feed_24 : decode cX9_feed 24 = .ok (.iadd, 1) := by decide +kernel
theorem dX9_feed_25 : decode cX9_feed 25 = .ok (.bipush 60, 2) := by decide +kernel
theorem dX9_feed_27 : decode cX9_feed 27 = .ok (.if_icmp .le 9, 3) := by decide +kernel
theorem dX9_feed_30 : decode cX9_feed 30 = .ok (.aload_n 0, 1) := by decide +kernel
theorem dX9_feed_31 : decode cX9_feed 31 = .ok (.iconst 4, 1) := by decide +kernel
theorem dX9_feed_32 : decode cX9_feed 32 = .ok (.invokevirtual 70, 3) := by decide +kernel
theorem dX9_feed_35 : decode cX9_feed 35 = .ok (.ireturn, 1) := by decide +kernel
theorem dX9_feed_36 : decode cX9_feed 36 = .ok (.iconst 0, 1) := by decide +kernel
theorem dX9_feed_37 : decode cX9_feed 37 = .ok (.istore 4, 2) := by decide +kernel
theorem dX9_feed_39 : decode cX9_feed 39 = .ok (.iload 4, 2) := by decide +kernel
theorem dX9_feed_41 : decode cX9_feed 41 = .ok (.iload_n 3, 1) := by decide +kernel
theorem dX9_feed_42 : decode cX9_feed 42 = .ok (.if_icmp .ge 48, 3) := by decide +kernel
theorem dX9_feed_45 : decode cX9_feed 45 = .ok (.aload_n 0, 1) := by decide +kernel
theorem dX9_feed_46 : decode cX9_feed 46 = .ok (.getfield 7, 3) := by decide +kernel
theorem dX9_feed_49 : decode cX9_feed 49 = .ok (.sipush 432, 3) := by decide +kernel
theorem dX9_feed_52 : decode cX9_feed 52 = .ok (.aload_n 0, 1) := by decide +kernel
theorem dX9_feed_53 : decode cX9_feed 53 = .ok (.getfield 7, 3) := by decide +kernel
theorem dX9_feed_56 : decode cX9_feed 56 = .ok (.bipush 6, 2) := by decide +kernel
theorem dX9_feed_58 : decode cX9_feed 58 = .ok (.iaload, 1) := by decide +kernel
theorem dX9_feed_59 : decode cX9_feed 59 = .ok (.iadd, 1) := by decide +kernel
theorem dX9_feed_60 : decode cX9_feed 60 = .ok (.lload_n 1, 1) := by decide +kernel
theorem dX9_feed_61 : decode cX9_feed 61 = .ok (.bipush 8, 2) := by decide +kernel
theorem dX9_feed_63 : decode cX9_feed 63 = .ok (.iload 4, 2) := by decide +kernel
theorem dX9_feed_65 : decode cX9_feed 65 = .ok (.imul, 1) := by decide +kernel
theorem dX9_feed_66 : decode cX9_feed 66 = .ok (.lshr, 1) := by decide +kernel
theorem dX9_feed_67 : decode cX9_feed 67 = .ok (.ldc2_w 101, 3) := by decide +kernel
theorem dX9_feed_70 : decode cX9_feed 70 = .ok (.land, 1) := by decide +kernel
theorem dX9_feed_71 : decode cX9_feed 71 = .ok (.l2i, 1) := by decide +kernel
theorem dX9_feed_72 : decode cX9_feed 72 = .ok (.iastore, 1) := by decide +kernel
theorem dX9_feed_73 : decode cX9_feed 73 = .ok (.aload_n 0, 1) := by decide +kernel
theorem dX9_feed_74 : decode cX9_feed 74 = .ok (.getfield 7, 3) := by decide +kernel
theorem dX9_feed_77 : decode cX9_feed 77 = .ok (.bipush 6, 2) := by decide +kernel
theorem dX9_feed_79 : decode cX9_feed 79 = .ok (.dup2, 1) := by decide +kernel
theorem dX9_feed_80 : decode cX9_feed 80 = .ok (.iaload, 1) := by decide +kernel
theorem dX9_feed_81 : decode cX9_feed 81 = .ok (.iconst 1, 1) := by decide +kernel
theorem dX9_feed_82 : decode cX9_feed 82 = .ok (.iadd, 1) := by decide +kernel
theorem dX9_feed_83 : decode cX9_feed 83 = .ok (.iastore, 1) := by decide +kernel
theorem dX9_feed_84 : decode cX9_feed 84 = .ok (.iinc 4 1, 3) := by decide +kernel
theorem dX9_feed_87 : decode cX9_feed 87 = .ok (.goto (-48), 3) := by decide +kernel
theorem dX9_feed_90 : decode cX9_feed 90 = .ok (.aload_n 0, 1) := by decide +kernel
theorem dX9_feed_91 : decode cX9_feed 91 = .ok (.getfield 7, 3) := by decide +kernel
theorem dX9_feed_94 : decode cX9_feed 94 = .ok (.bipush 6, 2) := by decide +kernel
theorem dX9_feed_96 : decode cX9_feed 96 = .ok (.iaload, 1) := by decide +kernel
theorem dX9_feed_97 : decode cX9_feed 97 = .ok (.ireturn, 1) := by decide +kernel
theorem dX9_look_0 : decode cX9_look 0 = .ok (.aload_n 0, 1) := by decide +kernel
theorem dX9_look_1 : decode cX9_look 1 = .ok (.getfield 103, 3) := by decide +kernel
theorem dX9_look_4 : decode cX9_look 4 = .ok (.aload_n 0, 1) := by decide +kernel
theorem dX9_look_5 : decode cX9_look 5 = .ok (.getfield 7, 3) := by decide +kernel
theorem dX9_look_8 : decode cX9_look 8 = .ok (.bipush 6, 2) := by decide +kernel
theorem dX9_look_10 : decode cX9_look 10 = .ok (.iaload, 1) := by decide +kernel
theorem dX9_look_11 : decode cX9_look 11 = .ok (.if_icmp .ge 19, 3) := by decide +kernel
theorem dX9_look_14 : decode cX9_look 14 = .ok (.aload_n 0, 1) := by decide +kernel
theorem dX9_look_15 : decode cX9_look 15 = .ok (.getfield 7, 3) := by decide +kernel
theorem dX9_look_18 : decode cX9_look 18 = .ok (.sipush 432, 3) := by decide +kernel
theorem dX9_look_21 : decode cX9_look 21 = .ok (.aload_n 0, 1) := by decide +kernel
theorem dX9_look_22 : decode cX9_look 22 = .ok (.getfield 103, 3) := by decide +kernel
theorem dX9_look_25 : decode cX9_look 25 = .ok (.iadd, 1) := by decide +kernel
theorem dX9_look_26 : decode cX9_look 26 = .ok (.iaload, 1) := by decide +kernel
theorem dX9_look_27 : decode cX9_look 27 = .ok (.goto 4, 3) := by decide +kernel
theorem dX9_look_30 : decode cX9_look 30 = .ok (.iconst (-1), 1) := by decide +kernel
theorem dX9_look_31 : decode cX9_look 31 = .ok (.ireturn, 1) := by decide +kernel
theorem dX9_isName_0 : decode cX9_isName 0 = .ok (.iload_n 1, 1) := by decide +kernel
theorem dX9_isName_1 : decode cX9_isName 1 = .ok (.bipush 109, 2) := by decide +kernel
theorem dX9_isName_3 : decode cX9_isName 3 = .ok (.if_icmp .ne 5, 3) := by decide +kernel
theorem dX9_isName_6 : decode cX9_isName 6 = .ok (.iconst 1, 1) := by decide +kernel
theorem dX9_isName_7 : decode cX9_isName 7 = .ok (.ireturn, 1) := by decide +kernel
theorem dX9_isName_8 : decode cX9_isName 8 = .ok (.aload_n 0, 1) := by decide +kernel
theorem dX9_isName_9 : decode cX9_isName 9 = .ok (.getfield 107, 3) := by decide +kernel
theorem dX9_isName_12 : decode cX9_isName 12 = .ok (.ifCond .ne 29, 3) := by decide +kernel
theorem dX9_isName_15 : decode cX9_isName 15 = .ok (.iload_n 1, 1) := by decide +kernel
theorem dX9_isName_16 : decode cX9_isName 16 = .ok (.bipush 107, 2) := by decide +kernel
theorem dX9_isName_18 : decode cX9_isName 18 = .ok (.if_icmp .eq 15, 3) := by decide +kernel
theorem dX9_isName_21 : decode cX9_isName 21 = .ok (.iload_n 1, 1) := by decide +kernel
theorem dX9_isName_22 : decode cX9_isName 22 = .ok (.bipush 108, 2) := by decide +kernel
theorem dX9_isName_24 : decode cX9_isName 24 = .ok (.if_icmp .eq 9, 3) := by decide +kernel
theorem dX9_isName_27 : decode cX9_isName 27 = .ok (.iload_n 1, 1) := by decide +kernel
theorem dX9_isName_28 : decode cX9_isName 28 = .ok (.bipush 103, 2) := by decide +kernel
theorem dX9_isName_30 : decode cX9_isName 30 = .ok (.if_icmp .ne 7, 3) := by decide +kernel
theorem dX9_isName_33 : decode cX9_isName 33 = .ok (.iconst 1, 1) := by decide +kernel
theorem dX9_isName_34 : decode cX9_isName 34 = .ok (.goto 30, 3) := by decide +kernel
theorem dX9_isName_37 : decode cX9_isName 37 = .ok (.iconst 0, 1) := by decide +kernel
theorem dX9_isName_38 : decode cX9_isName 38 = .ok (.goto 26, 3) := by decide +kernel
theorem dX9_isName_41 : decode cX9_isName 41 = .ok (.iload_n 1, 1) := by decide +kernel
theorem dX9_isName_42 : decode cX9_isName 42 = .ok (.bipush 99, 2) := by decide +kernel
theorem dX9_isName_44 : decode cX9_isName 44 = .ok (.if_icmp .eq 15, 3) := by decide +kernel
theorem dX9_isName_47 : decode cX9_isName 47 = .ok (.iload_n 1, 1) := by decide +kernel
theorem dX9_isName_48 : decode cX9_isName 48 = .ok (.bipush 115, 2) := by decide +kernel
theorem dX9_isName_50 : decode cX9_isName 50 = .ok (.if_icmp .eq 9, 3) := by decide +kernel
theorem dX9_isName_53 : decode cX9_isName 53 = .ok (.iload_n 1, 1) := by decide +kernel
theorem dX9_isName_54 : decode cX9_isName 54 = .ok (.bipush 100, 2) := by decide +kernel
theorem dX9_isName_56 : decode cX9_isName 56 = .ok (.if_icmp .ne 7, 3) := by decide +kernel
theorem dX9_isName_59 : decode cX9_isName 59 = .ok (.iconst 1, 1) := by decide +kernel
theorem dX9_isName_60 : decode cX9_isName 60 = .ok (.goto 4, 3) := by decide +kernel
theorem dX9_isName_63 : decode cX9_isName 63 = .ok (.iconst 0, 1) := by decide +kernel
theorem dX9_isName_64 : decode cX9_isName 64 = .ok (.ireturn, 1) := by decide +kernel
theorem dX9_lays_0 : decode cX9_lays 0 = .ok (.aload_n 0, 1) := by decide +kernel
theorem dX9_lays_1 : decode cX9_lays 1 = .ok (.getfield 22, 3) := by decide +kernel
theorem dX9_lays_4 : decode cX9_lays 4 = .ok (.iconst 2, 1) := by decide +kernel
theorem dX9_lays_5 : decode cX9_lays 5 = .ok (.aload_n 0, 1) := by decide +kernel
theorem dX9_lays_6 : decode cX9_lays 6 = .ok (.getfield 110, 3) := by decide +kernel
theorem dX9_lays_9 : decode cX9_lays 9 = .ok (.imul, 1) := by decide +kernel
theorem dX9_lays_10 : decode cX9_lays 10 = .ok (.iload_n 1, 1) := by decide +kernel
theorem dX9_lays_11 : decode cX9_lays 11 = .ok (.iastore, 1) := by decide +kernel
theorem dX9_lays_12 : decode cX9_lays 12 = .ok (.aload_n 0, 1) := by decide +kernel
theorem dX9_lays_13 : decode cX9_lays 13 = .ok (.getfield 22, 3) := by decide +kernel
theorem dX9_lays_16 : decode cX9_lays 16 = .ok (.iconst 2, 1) := by decide +kernel
theorem dX9_lays_17 : decode cX9_lays 17 = .ok (.aload_n 0, 1) := by decide +kernel
theorem dX9_lays_18 : decode cX9_lays 18 = .ok (.getfield 110, 3) := by decide +kernel
theorem dX9_lays_21 : decode cX9_lays 21 = .ok (.imul, 1) := by decide +kernel
theorem dX9_lays_22 : decode cX9_lays 22 = .ok (.iconst 1, 1) := by decide +kernel
theorem dX9_lays_23 : decode cX9_lays 23 = .ok (.iadd, 1) := by decide +kernel
theorem dX9_lays_24 : decode cX9_lays 24 = .ok (.iload_n 2, 1) := by decide +kernel
theorem dX9_lays_25 : decode cX9_lays 25 = .ok (.iastore, 1) := by decide +kernel
theorem dX9_lays_26 : decode cX9_lays 26 = .ok (.aload_n 0, 1) := by decide +kernel
theorem dX9_lays_27 : decode cX9_lays 27 = .ok (.dup, 1) := by decide +kernel
theorem dX9_lays_28 : decode cX9_lays 28 = .ok (.getfield 110, 3) := by decide +kernel
theorem dX9_lays_31 : decode cX9_lays 31 = .ok (.iconst 1, 1) := by decide +kernel
theorem dX9_lays_32 : decode cX9_lays 32 = .ok (.iadd, 1) := by decide +kernel
theorem dX9_lays_33 : decode cX9_lays 33 = .ok (.putfield 110, 3) := by decide +kernel
theorem dX9_lays_36 : decode cX9_lays 36 = .ok (.return_, 1) := by decide +kernel
theorem dX9_whole_0 : decode cX9_whole 0 = .ok (.aload_n 0, 1) := by decide +kernel
theorem dX9_whole_1 : decode cX9_whole 1 = .ok (.invokevirtual 113, 3) := by decide +kernel
theorem dX9_whole_4 : decode cX9_whole 4 = .ok (.ifCond .ne 5, 3) := by decide +kernel
theorem dX9_whole_7 : decode cX9_whole 7 = .ok (.iconst 0, 1) := by decide +kernel
theorem dX9_whole_8 : decode cX9_whole 8 = .ok (.ireturn, 1) := by decide +kernel
theorem dX9_whole_9 : decode cX9_whole 9 = .ok (.aload_n 0, 1) := by decide +kernel
theorem dX9_whole_10 : decode cX9_whole 10 = .ok (.invokevirtual 117, 3) := by decide +kernel
theorem dX9_whole_13 : decode cX9_whole 13 = .ok (.bipush 124, 2) := by decide +kernel
theorem dX9_whole_15 : decode cX9_whole 15 = .ok (.if_icmp .ne 32, 3) := by decide +kernel
theorem dX9_whole_18 : decode cX9_whole 18 = .ok (.aload_n 0, 1) := by decide +kernel
theorem dX9_whole_19 : decode cX9_whole 19 = .ok (.dup, 1) := by decide +kernel
theorem dX9_whole_20 : decode cX9_whole 20 = .ok (.getfield 103, 3) := by decide +kernel
theorem dX9_whole_23 : decode cX9_whole 23 = .ok (.iconst 1, 1) := by decide +kernel
theorem dX9_whole_24 : decode cX9_whole 24 = .ok (.iadd, 1) := by decide +kernel
theorem dX9_whole_25 : decode cX9_whole 25 = .ok (.putfield 103, 3) := by decide +kernel
theorem dX9_whole_28 : decode cX9_whole 28 = .ok (.aload_n 0, 1) := by decide +kernel
theorem dX9_whole_29 : decode cX9_whole 29 = .ok (.invokevirtual 113, 3) := by decide +kernel
theorem dX9_whole_32 : decode cX9_whole 32 = .ok (.ifCond .ne 5, 3) := by decide +kernel
theorem dX9_whole_35 : decode cX9_whole 35 = .ok (.iconst 0, 1) := by decide +kernel
theorem dX9_whole_36 : decode cX9_whole 36 = .ok (.ireturn, 1) := by decide +kernel
theorem dX9_whole_37 : decode cX9_whole 37 = .ok (.aload_n 0, 1) := by decide +kernel
theorem dX9_whole_38 : decode cX9_whole 38 = .ok (.iconst 3, 1) := by decide +kernel
theorem dX9_whole_39 : decode cX9_whole 39 = .ok (.bipush 124, 2) := by decide +kernel
theorem dX9_whole_41 : decode cX9_whole 41 = .ok (.invokevirtual 121, 3) := by decide +kernel
theorem dX9_whole_44 : decode cX9_whole 44 = .ok (.goto (-35), 3) := by decide +kernel
theorem dX9_whole_47 : decode cX9_whole 47 = .ok (.iconst 1, 1) := by decide +kernel
theorem dX9_whole_48 : decode cX9_whole 48 = .ok (.ireturn, 1) := by decide +kernel
theorem dX9_both_0 : decode cX9_both 0 = .ok (.aload_n 0, 1) := by decide +kernel
theorem dX9_both_1 : decode cX9_both 1 = .ok (.invokevirtual 125, 3) := by decide +kernel
theorem dX9_both_4 : decode cX9_both 4 = .ok (.ifCond .ne 5, 3) := by decide +kernel
theorem dX9_both_7 : decode cX9_both 7 = .ok (.iconst 0, 1) := by decide +kernel
theorem dX9_both_8 : decode cX9_both 8 = .ok (.ireturn, 1) := by decide +kernel
theorem dX9_both_9 : decode cX9_both 9 = .ok (.aload_n 0, 1) := by decide +kernel
theorem dX9_both_10 : decode cX9_both 10 = .ok (.invokevirtual 117, 3) := by decide +kernel
theorem dX9_both_13 : decode cX9_both 13 = .ok (.bipush 38, 2) := by decide +kernel
theorem dX9_both_15 : decode cX9_both 15 = .ok (.if_icmp .ne 32, 3) := by decide +kernel
theorem dX9_both_18 : decode cX9_both 18 = .ok (.aload_n 0, 1) := by decide +kernel
theorem dX9_both_19 : decode cX9_both 19 = .ok (.dup, 1) := by decide +kernel
theorem dX9_both_20 : decode cX9_both 20 = .ok (.getfield 103, 3) := by decide +kernel
theorem dX9_both_23 : decode cX9_both 23 = .ok (.iconst 1, 1) := by decide +kernel
theorem dX9_both_24 : decode cX9_both 24 = .ok (.iadd, 1) := by decide +kernel
theorem dX9_both_25 : decode cX9_both 25 = .ok (.putfield 103, 3) := by decide +kernel
theorem dX9_both_28 : decode cX9_both 28 = .ok (.aload_n 0, 1) := by decide +kernel
theorem dX9_both_29 : decode cX9_both 29 = .ok (.invokevirtual 125, 3) := by decide +kernel
theorem dX9_both_32 : decode cX9_both 32 = .ok (.ifCond .ne 5, 3) := by decide +kernel
theorem dX9_both_35 : decode cX9_both 35 = .ok (.iconst 0, 1) := by decide +kernel
theorem dX9_both_36 : decode cX9_both 36 = .ok (.ireturn, 1) := by decide +kernel
theorem dX9_both_37 : decode cX9_both 37 = .ok (.aload_n 0, 1) := by decide +kernel
theorem dX9_both_38 : decode cX9_both 38 = .ok (.iconst 3, 1) := by decide +kernel
theorem dX9_both_39 : decode cX9_both 39 = .ok (.bipush 38, 2) := by decide +kernel
theorem dX9_both_41 : decode cX9_both 41 = .ok (.invokevirtual 121, 3) := by decide +kernel
theorem dX9_both_44 : decode cX9_both 44 = .ok (.goto (-35), 3) := by decide +kernel
theorem dX9_both_47 : decode cX9_both 47 = .ok (.iconst 1, 1) := by decide +kernel
theorem dX9_both_48 : decode cX9_both 48 = .ok (.ireturn, 1) := by decide +kernel
theorem dX9_compared_0 : decode cX9_compared 0 = .ok (.aload_n 0, 1) := by decide +kernel
theorem dX9_compared_1 : decode cX9_compared 1 = .ok (.invokevirtual 128, 3) := by decide +kernel
theorem dX9_compared_4 : decode cX9_compared 4 = .ok (.ifCond .ne 5, 3) := by decide +kernel
theorem dX9_compared_7 : decode cX9_compared 7 = .ok (.iconst 0, 1) := by decide +kernel
theorem dX9_compared_8 : decode cX9_compared 8 = .ok (.ireturn, 1) := by decide +kernel
theorem dX9_compared_9 : decode cX9_compared 9 = .ok (.aload_n 0, 1) := by decide +kernel
theorem dX9_compared_10 : decode cX9_compared 10 = .ok (.invokevirtual 117, 3) := by decide +kernel
theorem dX9_compared_13 : decode cX9_compared 13 = .ok (.istore_n 1, 1) := by decide +kernel
theorem dX9_compared_14 : decode cX9_compared 14 = .ok (.iload_n 1, 1) := by decide +kernel
theorem dX9_compared_15 : decode cX9_compared 15 = .ok (.bipush 60, 2) := by decide +kernel
theorem dX9_compared_17 : decode cX9_compared 17 = .ok (.if_icmp .eq 17, 3) := by decide +kernel
theorem dX9_compared_20 : decode cX9_compared 20 = .ok (.iload_n 1, 1) := by decide +kernel
theorem dX9_compared_21 : decode cX9_compared 21 = .ok (.bipush 61, 2) := by decide +kernel
theorem dX9_compared_23 : decode cX9_compared 23 = .ok (.if_icmp .eq 11, 3) := by decide +kernel
theorem dX9_compared_26 : decode cX9_compared 26 = .ok (.iload_n 1, 1) := by decide +kernel
theorem dX9_compared_27 : decode cX9_compared 27 = .ok (.bipush 62, 2) := by decide +kernel
theorem dX9_compared_29 : decode cX9_compared 29 = .ok (.if_icmp .eq 5, 3) := by decide +kernel
theorem dX9_compared_32 : decode cX9_compared 32 = .ok (.iconst 1, 1) := by decide +kernel
theorem dX9_compared_33 : decode cX9_compared 33 = .ok (.ireturn, 1) := by decide +kernel
theorem dX9_compared_34 : decode cX9_compared 34 = .ok (.aload_n 0, 1) := by decide +kernel
theorem dX9_compared_35 : decode cX9_compared 35 = .ok (.dup, 1) := by decide +kernel
theorem dX9_compared_36 : decode cX9_compared 36 = .ok (.getfield 103, 3) := by decide +kernel
theorem dX9_compared_39 : decode cX9_compared 39 = .ok (.iconst 1, 1) := by decide +kernel
theorem dX9_compared_40 : decode cX9_compared 40 = .ok (.iadd, 1) := by decide +kernel
theorem dX9_compared_41 : decode cX9_compared 41 = .ok (.putfield 103, 3) := by decide +kernel
theorem dX9_compared_44 : decode cX9_compared 44 = .ok (.aload_n 0, 1) := by decide +kernel
theorem dX9_compared_45 : decode cX9_compared 45 = .ok (.invokevirtual 128, 3) := by decide +kernel
theorem dX9_compared_48 : decode cX9_compared 48 = .ok (.ifCond .ne 5, 3) := by decide +kernel
theorem dX9_compared_51 : decode cX9_compared 51 = .ok (.iconst 0, 1) := by decide +kernel
theorem dX9_compared_52 : decode cX9_compared 52 = .ok (.ireturn, 1) := by decide +kernel
theorem dX9_compared_53 : decode cX9_compared 53 = .ok (.aload_n 0, 1) := by decide +kernel
theorem dX9_compared_54 : decode cX9_compared 54 = .ok (.iconst 3, 1) := by decide +kernel
theorem dX9_compared_55 : decode cX9_compared 55 = .ok (.iload_n 1, 1) := by decide +kernel
theorem dX9_compared_56 : decode cX9_compared 56 = .ok (.invokevirtual 121, 3) := by decide +kernel
theorem dX9_compared_59 : decode cX9_compared 59 = .ok (.iconst 1, 1) := by decide +kernel
theorem dX9_compared_60 : decode cX9_compared 60 = .ok (.ireturn, 1) := by decide +kernel
theorem dX9_sum_0 : decode cX9_sum 0 = .ok (.aload_n 0, 1) := by decide +kernel
theorem dX9_sum_1 : decode cX9_sum 1 = .ok (.invokevirtual 131, 3) := by decide +kernel
theorem dX9_sum_4 : decode cX9_sum 4 = .ok (.ifCond .ne 5, 3) := by decide +kernel
theorem dX9_sum_7 : decode cX9_sum 7 = .ok (.iconst 0, 1) := by decide +kernel
theorem dX9_sum_8 : decode cX9_sum 8 = .ok (.ireturn, 1) := by decide +kernel
theorem dX9_sum_9 : decode cX9_sum 9 = .ok (.aload_n 0, 1) := by decide +kernel
theorem dX9_sum_10 : decode cX9_sum 10 = .ok (.invokevirtual 117, 3) := by decide +kernel
theorem dX9_sum_13 : decode cX9_sum 13 = .ok (.bipush 43, 2) := by decide +kernel
theorem dX9_sum_15 : decode cX9_sum 15 = .ok (.if_icmp .eq 12, 3) := by decide +kernel
theorem dX9_sum_18 : decode cX9_sum 18 = .ok (.aload_n 0, 1) := by decide +kernel
theorem dX9_sum_19 : decode cX9_sum 19 = .ok (.invokevirtual 117, 3) := by decide +kernel
theorem dX9_sum_22 : decode cX9_sum 22 = .ok (.bipush 45, 2) := by decide +kernel
theorem dX9_sum_24 : decode cX9_sum 24 = .ok (.if_icmp .ne 36, 3) := by decide +kernel
theorem dX9_sum_27 : decode cX9_sum 27 = .ok (.aload_n 0, 1) := by decide +kernel
theorem dX9_sum_28 : decode cX9_sum 28 = .ok (.invokevirtual 117, 3) := by decide +kernel
theorem dX9_sum_31 : decode cX9_sum 31 = .ok (.istore_n 1, 1) := by decide +kernel
theorem dX9_sum_32 : decode cX9_sum 32 = .ok (.aload_n 0, 1) := by decide +kernel
theorem dX9_sum_33 : decode cX9_sum 33 = .ok (.dup, 1) := by decide +kernel
theorem dX9_sum_34 : decode cX9_sum 34 = .ok (.getfield 103, 3) := by decide +kernel
theorem dX9_sum_37 : decode cX9_sum 37 = .ok (.iconst 1, 1) := by decide +kernel
theorem dX9_sum_38 : decode cX9_sum 38 = .ok (.iadd, 1) := by decide +kernel
theorem dX9_sum_39 : decode cX9_sum 39 = .ok (.putfield 103, 3) := by decide +kernel
theorem dX9_sum_42 : decode cX9_sum 42 = .ok (.aload_n 0, 1) := by decide +kernel
theorem dX9_sum_43 : decode cX9_sum 43 = .ok (.invokevirtual 131, 3) := by decide +kernel
theorem dX9_sum_46 : decode cX9_sum 46 = .ok (.ifCond .ne 5, 3) := by decide +kernel
theorem dX9_sum_49 : decode cX9_sum 49 = .ok (.iconst 0, 1) := by decide +kernel
theorem dX9_sum_50 : decode cX9_sum 50 = .ok (.ireturn, 1) := by decide +kernel
theorem dX9_sum_51 : decode cX9_sum 51 = .ok (.aload_n 0, 1) := by decide +kernel
theorem dX9_sum_52 : decode cX9_sum 52 = .ok (.iconst 3, 1) := by decide +kernel
theorem dX9_sum_53 : decode cX9_sum 53 = .ok (.iload_n 1, 1) := by decide +kernel
theorem dX9_sum_54 : decode cX9_sum 54 = .ok (.invokevirtual 121, 3) := by decide +kernel
theorem dX9_sum_57 : decode cX9_sum 57 = .ok (.goto (-48), 3) := by decide +kernel
theorem dX9_sum_60 : decode cX9_sum 60 = .ok (.iconst 1, 1) := by decide +kernel
theorem dX9_sum_61 : decode cX9_sum 61 = .ok (.ireturn, 1) := by decide +kernel
theorem dX9_product_0 : decode cX9_product 0 = .ok (.aload_n 0, 1) := by decide +kernel
theorem dX9_product_1 : decode cX9_product 1 = .ok (.invokevirtual 134, 3) := by decide +kernel
theorem dX9_product_4 : decode cX9_product 4 = .ok (.ifCond .ne 5, 3) := by decide +kernel
theorem dX9_product_7 : decode cX9_product 7 = .ok (.iconst 0, 1) := by decide +kernel
theorem dX9_product_8 : decode cX9_product 8 = .ok (.ireturn, 1) := by decide +kernel
theorem dX9_product_9 : decode cX9_product 9 = .ok (.aload_n 0, 1) := by decide +kernel
theorem dX9_product_10 : decode cX9_product 10 = .ok (.invokevirtual 117, 3) := by decide +kernel
theorem dX9_product_13 : decode cX9_product 13 = .ok (.bipush 42, 2) := by decide +kernel
theorem dX9_product_15 : decode cX9_product 15 = .ok (.if_icmp .eq 21, 3) := by decide +kernel
theorem dX9_product_18 : decode cX9_product 18 = .ok (.aload_n 0, 1) := by decide +kernel
theorem dX9_product_19 : decode cX9_product 19 = .ok (.invokevirtual 117, 3) := by decide +kernel
theorem dX9_product_22 : decode cX9_product 22 = .ok (.bipush 47, 2) := by decide +kernel
theorem dX9_product_24 : decode cX9_product 24 = .ok (.if_icmp .eq 12, 3) := by decide +kernel
theorem dX9_product_27 : decode cX9_product 27 = .ok (.aload_n 0, 1) := by decide +kernel
theorem dX9_product_28 : decode cX9_product 28 = .ok (.invokevirtual 117, 3) := by decide +kernel
theorem dX9_product_31 : decode cX9_product 31 = .ok (.bipush 37, 2) := by decide +kernel
theorem dX9_product_33 : decode cX9_product 33 = .ok (.if_icmp .ne 36, 3) := by decide +kernel
theorem dX9_product_36 : decode cX9_product 36 = .ok (.aload_n 0, 1) := by decide +kernel
theorem dX9_product_37 : decode cX9_product 37 = .ok (.invokevirtual 117, 3) := by decide +kernel
theorem dX9_product_40 : decode cX9_product 40 = .ok (.istore_n 1, 1) := by decide +kernel
theorem dX9_product_41 : decode cX9_product 41 = .ok (.aload_n 0, 1) := by decide +kernel
theorem dX9_product_42 : decode cX9_product 42 = .ok (.dup, 1) := by decide +kernel
theorem dX9_product_43 : decode cX9_product 43 = .ok (.getfield 103, 3) := by decide +kernel
theorem dX9_product_46 : decode cX9_product 46 = .ok (.iconst 1, 1) := by decide +kernel
theorem dX9_product_47 : decode cX9_product 47 = .ok (.iadd, 1) := by decide +kernel
theorem dX9_product_48 : decode cX9_product 48 = .ok (.putfield 103, 3) := by decide +kernel
theorem dX9_product_51 : decode cX9_product 51 = .ok (.aload_n 0, 1) := by decide +kernel
theorem dX9_product_52 : decode cX9_product 52 = .ok (.invokevirtual 134, 3) := by decide +kernel
theorem dX9_product_55 : decode cX9_product 55 = .ok (.ifCond .ne 5, 3) := by decide +kernel
theorem dX9_product_58 : decode cX9_product 58 = .ok (.iconst 0, 1) := by decide +kernel
theorem dX9_product_59 : decode cX9_product 59 = .ok (.ireturn, 1) := by decide +kernel
theorem dX9_product_60 : decode cX9_product 60 = .ok (.aload_n 0, 1) := by decide +kernel
theorem dX9_product_61 : decode cX9_product 61 = .ok (.iconst 3, 1) := by decide +kernel
theorem dX9_product_62 : decode cX9_product 62 = .ok (.iload_n 1, 1) := by decide +kernel
theorem dX9_product_63 : decode cX9_product 63 = .ok (.invokevirtual 121, 3) := by decide +kernel
theorem dX9_product_66 : decode cX9_product 66 = .ok (.goto (-57), 3) := by decide +kernel
theorem dX9_product_69 : decode cX9_product 69 = .ok (.iconst 1, 1) := by decide +kernel
theorem dX9_product_70 : decode cX9_product 70 = .ok (.ireturn, 1) := by decide +kernel
theorem dX9_opens_0 : decode cX9_opens 0 = .ok (.aload_n 0, 1) := by decide +kernel
theorem dX9_opens_1 : decode cX9_opens 1 = .ok (.getfield 137, 3) := by decide +kernel
theorem dX9_opens_4 : decode cX9_opens 4 = .ok (.iconst 5, 1) := by decide +kernel
theorem dX9_opens_5 : decode cX9_opens 5 = .ok (.if_icmp .ne 5, 3) := by decide +kernel
theorem dX9_opens_8 : decode cX9_opens 8 = .ok (.iconst 0, 1) := by decide +kernel
theorem dX9_opens_9 : decode cX9_opens 9 = .ok (.ireturn, 1) := by decide +kernel
theorem dX9_opens_10 : decode cX9_opens 10 = .ok (.aload_n 0, 1) := by decide +kernel
theorem dX9_opens_11 : decode cX9_opens 11 = .ok (.dup, 1) := by decide +kernel
theorem dX9_opens_12 : decode cX9_opens 12 = .ok (.getfield 137, 3) := by decide +kernel
theorem dX9_opens_15 : decode cX9_opens 15 = .ok (.iconst 1, 1) := by decide +kernel
theorem dX9_opens_16 : decode cX9_opens 16 = .ok (.iadd, 1) := by decide +kernel
theorem dX9_opens_17 : decode cX9_opens 17 = .ok (.putfield 137, 3) := by decide +kernel
theorem dX9_opens_20 : decode cX9_opens 20 = .ok (.aload_n 0, 1) := by decide +kernel
theorem dX9_opens_21 : decode cX9_opens 21 = .ok (.dup, 1) := by decide +kernel
theorem dX9_opens_22 : decode cX9_opens 22 = .ok (.getfield 103, 3) := by decide +kernel
theorem dX9_opens_25 : decode cX9_opens 25 = .ok (.iconst 1, 1) := by decide +kernel
theorem dX9_opens_26 : decode cX9_opens 26 = .ok (.iadd, 1) := by decide +kernel
theorem dX9_opens_27 : decode cX9_opens 27 = .ok (.putfield 103, 3) := by decide +kernel
theorem dX9_opens_30 : decode cX9_opens 30 = .ok (.iconst 1, 1) := by decide +kernel
theorem dX9_opens_31 : decode cX9_opens 31 = .ok (.ireturn, 1) := by decide +kernel
theorem dX9_one_0 : decode cX9_one 0 = .ok (.aload_n 0, 1) := by decide +kernel
theorem dX9_one_1 : decode cX9_one 1 = .ok (.invokevirtual 117, 3) := by decide +kernel
theorem dX9_one_4 : decode cX9_one 4 = .ok (.istore_n 1, 1) := by decide +kernel
theorem dX9_one_5 : decode cX9_one 5 = .ok (.aload_n 0, 1) := by decide +kernel
theorem dX9_one_6 : decode cX9_one 6 = .ok (.iload_n 1, 1) := by decide +kernel
theorem dX9_one_7 : decode cX9_one 7 = .ok (.invokevirtual 140, 3) := by decide +kernel
theorem dX9_one_10 : decode cX9_one 10 = .ok (.ifCond .eq 21, 3) := by decide +kernel
theorem dX9_one_13 : decode cX9_one 13 = .ok (.aload_n 0, 1) := by decide +kernel
theorem dX9_one_14 : decode cX9_one 14 = .ok (.dup, 1) := by decide +kernel
theorem dX9_one_15 : decode cX9_one 15 = .ok (.getfield 103, 3) := by decide +kernel
theorem dX9_one_18 : decode cX9_one 18 = .ok (.iconst 1, 1) := by decide +kernel
theorem dX9_one_19 : decode cX9_one 19 = .ok (.iadd, 1) := by decide +kernel
theorem dX9_one_20 : decode cX9_one 20 = .ok (.putfield 103, 3) := by decide +kernel
theorem dX9_one_23 : decode cX9_one 23 = .ok (.aload_n 0, 1) := by decide +kernel
theorem dX9_one_24 : decode cX9_one 24 = .ok (.iconst 1, 1) := by decide +kernel
theorem dX9_one_25 : decode cX9_one 25 = .ok (.iload_n 1, 1) := by decide +kernel
theorem dX9_one_26 : decode cX9_one 26 = .ok (.invokevirtual 121, 3) := by decide +kernel
theorem dX9_one_29 : decode cX9_one 29 = .ok (.iconst 1, 1) := by decide +kernel
theorem dX9_one_30 : decode cX9_one 30 = .ok (.ireturn, 1) := by decide +kernel
theorem dX9_one_31 : decode cX9_one 31 = .ok (.iload_n 1, 1) := by decide +kernel
theorem dX9_one_32 : decode cX9_one 32 = .ok (.bipush 48, 2) := by decide +kernel
theorem dX9_one_34 : decode cX9_one 34 = .ok (.bipush 57, 2) := by decide +kernel
theorem dX9_one_36 : decode cX9_one 36 = .ok (.invokestatic 47, 3) := by decide +kernel
theorem dX9_one_39 : decode cX9_one 39 = .ok (.ifCond .eq 63, 3) := by decide +kernel
theorem dX9_one_42 : decode cX9_one 42 = .ok (.iconst 0, 1) := by decide +kernel
theorem dX9_one_43 : decode cX9_one 43 = .ok (.istore_n 2, 1) := by decide +kernel
theorem dX9_one_44 : decode cX9_one 44 = .ok (.iconst 0, 1) := by decide +kernel
theorem dX9_one_45 : decode cX9_one 45 = .ok (.istore_n 3, 1) := by decide +kernel
theorem dX9_one_46 : decode cX9_one 46 = .ok (.iload_n 3, 1) := by decide +kernel
theorem dX9_one_47 : decode cX9_one 47 = .ok (.iconst 4, 1) := by decide +kernel
theorem dX9_one_48 : decode cX9_one 48 = .ok (.if_icmp .ge 46, 3) := by decide +kernel
theorem dX9_one_51 : decode cX9_one 51 = .ok (.aload_n 0, 1) := by decide +kernel
theorem dX9_one_52 : decode cX9_one 52 = .ok (.invokevirtual 117, 3) := by decide +kernel
theorem dX9_one_55 : decode cX9_one 55 = .ok (.bipush 48, 2) := by decide +kernel
theorem dX9_one_57 : decode cX9_one 57 = .ok (.bipush 57, 2) := by decide +kernel
theorem dX9_one_59 : decode cX9_one 59 = .ok (.invokestatic 47, 3) := by decide +kernel
theorem dX9_one_62 : decode cX9_one 62 = .ok (.ifCond .eq 32, 3) := by decide +kernel
theorem dX9_one_65 : decode cX9_one 65 = .ok (.bipush 10, 2) := by decide +kernel
theorem dX9_one_67 : decode cX9_one 67 = .ok (.iload_n 2, 1) := by decide +kernel
theorem dX9_one_68 : decode cX9_one 68 = .ok (.imul, 1) := by decide +kernel
theorem dX9_one_69 : decode cX9_one 69 = .ok (.aload_n 0, 1) := by decide +kernel
theorem dX9_one_70 : decode cX9_one 70 = .ok (.invokevirtual 117, 3) := by decide +kernel
theorem dX9_one_73 : decode cX9_one 73 = .ok (.iadd, 1) := by decide +kernel
theorem dX9_one_74 : decode cX9_one 74 = .ok (.bipush 48, 2) := by decide +kernel
theorem dX9_one_76 : decode cX9_one 76 = .ok (.isub, 1) := by decide +kernel
theorem dX9_one_77 : decode cX9_one 77 = .ok (.istore_n 2, 1) := by decide +kernel
theorem dX9_one_78 : decode cX9_one 78 = .ok (.aload_n 0, 1) := by decide +kernel
theorem dX9_one_79 : decode cX9_one 79 = .ok (.dup, 1) := by decide +kernel
theorem dX9_one_80 : decode cX9_one 80 = .ok (.getfield 103, 3) := by decide +kernel
theorem dX9_one_83 : decode cX9_one 83 = .ok (.iconst 1, 1) := by decide +kernel
theorem dX9_one_84 : decode cX9_one 84 = .ok (.iadd, 1) := by decide +kernel
theorem dX9_one_85 : decode cX9_one 85 = .ok (.putfield 103, 3) := by decide +kernel
theorem dX9_one_88 : decode cX9_one 88 = .ok (.iinc 3 1, 3) := by decide +kernel
theorem dX9_one_91 : decode cX9_one 91 = .ok (.goto (-45), 3) := by decide +kernel
theorem dX9_one_94 : decode cX9_one 94 = .ok (.aload_n 0, 1) := by decide +kernel
theorem dX9_one_95 : decode cX9_one 95 = .ok (.iconst 0, 1) := by decide +kernel
theorem dX9_one_96 : decode cX9_one 96 = .ok (.iload_n 2, 1) := by decide +kernel
theorem dX9_one_97 : decode cX9_one 97 = .ok (.invokevirtual 121, 3) := by decide +kernel
theorem dX9_one_100 : decode cX9_one 100 = .ok (.iconst 1, 1) := by decide +kernel
theorem dX9_one_101 : decode cX9_one 101 = .ok (.ireturn, 1) := by decide +kernel
theorem dX9_one_102 : decode cX9_one 102 = .ok (.iload_n 1, 1) := by decide +kernel
theorem dX9_one_103 : decode cX9_one 103 = .ok (.bipush 33, 2) := by decide +kernel
theorem dX9_one_105 : decode cX9_one 105 = .ok (.if_icmp .ne 37, 3) := by decide +kernel
theorem dX9_one_108 : decode cX9_one 108 = .ok (.aload_n 0, 1) := by decide +kernel
theorem dX9_one_109 : decode cX9_one 109 = .ok (.invokevirtual 143, 3) := by decide +kernel
theorem dX9_one_112 : decode cX9_one 112 = .ok (.ifCond .eq 10, 3) := by decide +kernel
theorem dX9_one_115 : decode cX9_one 115 = .ok (.aload_n 0, 1) := by decide +kernel
theorem dX9_one_116 : decode cX9_one 116 = .ok (.invokevirtual 134, 3) := by decide +kernel
theorem dX9_one_119 : decode cX9_one 119 = .ok (.ifCond .ne 5, 3) := by decide +kernel
theorem dX9_one_122 : decode cX9_one 122 = .ok (.iconst 0, 1) := by decide +kernel
theorem dX9_one_123 : decode cX9_one 123 = .ok (.ireturn, 1) := by decide +kernel
theorem dX9_one_124 : decode cX9_one 124 = .ok (.aload_n 0, 1) := by decide +kernel
theorem dX9_one_125 : decode cX9_one 125 = .ok (.dup, 1) := by decide +kernel
theorem dX9_one_126 : decode cX9_one 126 = .ok (.getfield 137, 3) := by decide +kernel
theorem dX9_one_129 : decode cX9_one 129 = .ok (.iconst 1, 1) := by decide +kernel
theorem dX9_one_130 : decode cX9_one 130 = .ok (.isub, 1) := by decide +kernel
theorem dX9_one_131 : decode cX9_one 131 = .ok (.putfield 137, 3) := by decide +kernel
theorem dX9_one_134 : decode cX9_one 134 = .ok (.aload_n 0, 1) := by decide +kernel
theorem dX9_one_135 : decode cX9_one 135 = .ok (.iconst 2, 1) := by decide +kernel
theorem dX9_one_136 : decode cX9_one 136 = .ok (.iconst 0, 1) := by decide +kernel
theorem dX9_one_137 : decode cX9_one 137 = .ok (.invokevirtual 121, 3) := by decide +kernel
theorem dX9_one_140 : decode cX9_one 140 = .ok (.iconst 1, 1) := by decide +kernel
theorem dX9_one_141 : decode cX9_one 141 = .ok (.ireturn, 1) := by decide +kernel
theorem dX9_one_142 : decode cX9_one 142 = .ok (.iload_n 1, 1) := by decide +kernel
theorem dX9_one_143 : decode cX9_one 143 = .ok (.bipush 40, 2) := by decide +kernel
theorem dX9_one_145 : decode cX9_one 145 = .ok (.if_icmp .ne 26, 3) := by decide +kernel
theorem dX9_one_148 : decode cX9_one 148 = .ok (.aload_n 0, 1) := by decide +kernel
theorem dX9_one_149 : decode cX9_one 149 = .ok (.invokevirtual 143, 3) := by decide +kernel
theorem dX9_one_152 : decode cX9_one 152 = .ok (.ifCond .eq 19, 3) := by decide +kernel
theorem dX9_one_155 : decode cX9_one 155 = .ok (.aload_n 0, 1) := by decide +kernel
theorem dX9_one_156 : decode cX9_one 156 = .ok (.invokevirtual 146, 3) := by decide +kernel
theorem dX9_one_159 : decode cX9_one 159 = .ok (.ifCond .eq 12, 3) := by decide +kernel
theorem dX9_one_162 : decode cX9_one 162 = .ok (.aload_n 0, 1) := by decide +kernel
theorem dX9_one_163 : decode cX9_one 163 = .ok (.invokevirtual 117, 3) := by decide +kernel
theorem dX9_one_166 : decode cX9_one 166 = .ok (.bipush 41, 2) := by decide +kernel
theorem dX9_one_168 : decode cX9_one 168 = .ok (.if_icmp .eq 5, 3) := by decide +kernel
theorem dX9_one_171 : decode cX9_one 171 = .ok (.iconst 0, 1) := by decide +kernel
theorem dX9_one_172 : decode cX9_one 172 = .ok (.ireturn, 1) := by decide +kernel
theorem dX9_one_173 : decode cX9_one 173 = .ok (.aload_n 0, 1) := by decide +kernel
theorem dX9_one_174 : decode cX9_one 174 = .ok (.dup, 1) := by decide +kernel
theorem dX9_one_175 : decode cX9_one 175 = .ok (.getfield 103, 3) := by decide +kernel
theorem dX9_one_178 : decode cX9_one 178 = .ok (.iconst 1, 1) := by decide +kernel
theorem dX9_one_179 : decode cX9_one 179 = .ok (.iadd, 1) := by decide +kernel
theorem dX9_one_180 : decode cX9_one 180 = .ok (.putfield 103, 3) := by decide +kernel
theorem dX9_one_183 : decode cX9_one 183 = .ok (.aload_n 0, 1) := by decide +kernel
theorem dX9_one_184 : decode cX9_one 184 = .ok (.dup, 1) := by decide +kernel
theorem dX9_one_185 : decode cX9_one 185 = .ok (.getfield 137, 3) := by decide +kernel
theorem dX9_one_188 : decode cX9_one 188 = .ok (.iconst 1, 1) := by decide +kernel
theorem dX9_one_189 : decode cX9_one 189 = .ok (.isub, 1) := by decide +kernel
theorem dX9_one_190 : decode cX9_one 190 = .ok (.putfield 137, 3) := by decide +kernel
theorem dX9_one_193 : decode cX9_one 193 = .ok (.iconst 1, 1) := by decide +kernel
theorem dX9_one_194 : decode cX9_one 194 = .ok (.ireturn, 1) := by decide +kernel
theorem dX9_hasText_0 : decode cX9_hasText 0 = .ok (.aload_n 0, 1) := by decide +kernel
theorem dX9_hasText_1 : decode cX9_hasText 1 = .ok (.getfield 7, 3) := by decide +kernel
theorem dX9_hasText_4 : decode cX9_hasText 4 = .ok (.sipush 182, 3) := by decide +kernel
theorem dX9_hasText_7 : decode cX9_hasText 7 = .ok (.bipush 125, 2) := by decide +kernel
theorem dX9_hasText_9 : decode cX9_hasText 9 = .ok (.iload_n 1, 1) := by decide +kernel
theorem dX9_hasText_10 : decode cX9_hasText 10 = .ok (.imul, 1) := by decide +kernel
theorem dX9_hasText_11 : decode cX9_hasText 11 = .ok (.iadd, 1) := by decide +kernel
theorem dX9_hasText_12 : decode cX9_hasText 12 = .ok (.iaload, 1) := by decide +kernel
theorem dX9_hasText_13 : decode cX9_hasText 13 = .ok (.ifCond .le 7, 3) := by decide +kernel
theorem dX9_hasText_16 : decode cX9_hasText 16 = .ok (.iconst 1, 1) := by decide +kernel
theorem dX9_hasText_17 : decode cX9_hasText 17 = .ok (.goto 4, 3) := by decide +kernel
theorem dX9_hasText_20 : decode cX9_hasText 20 = .ok (.iconst 0, 1) := by decide +kernel
theorem dX9_hasText_21 : decode cX9_hasText 21 = .ok (.ireturn, 1) := by decide +kernel
theorem dX9_text_0 : decode cX9_text 0 = .ok (.iload_n 1, 1) := by decide +kernel
theorem dX9_text_1 : decode cX9_text 1 = .ok (.iconst 0, 1) := by decide +kernel
theorem dX9_text_2 : decode cX9_text 2 = .ok (.iconst 1, 1) := by decide +kernel
theorem dX9_text_3 : decode cX9_text 3 = .ok (.invokestatic 47, 3) := by decide +kernel
theorem dX9_text_6 : decode cX9_text 6 = .ok (.ifCond .ne 9, 3) := by decide +kernel
theorem dX9_text_9 : decode cX9_text 9 = .ok (.aload_n 0, 1) := by decide +kernel
theorem dX9_text_10 : decode cX9_text 10 = .ok (.iconst 1, 1) := by decide +kernel
theorem dX9_text_11 : decode cX9_text 11 = .ok (.invokevirtual 70, 3) := by decide +kernel
theorem dX9_text_14 : decode cX9_text 14 = .ok (.ireturn, 1) := by decide +kernel
theorem dX9_text_15 : decode cX9_text 15 = .ok (.aload_n 0, 1) := by decide +kernel
theorem dX9_text_16 : decode cX9_text 16 = .ok (.iload_n 1, 1) := by decide +kernel
theorem dX9_text_17 : decode cX9_text 17 = .ok (.putfield 107, 3) := by decide +kernel
theorem dX9_text_20 : decode cX9_text 20 = .ok (.aload_n 0, 1) := by decide +kernel
theorem dX9_text_21 : decode cX9_text 21 = .ok (.iconst 0, 1) := by decide +kernel
theorem dX9_text_22 : decode cX9_text 22 = .ok (.putfield 103, 3) := by decide +kernel
theorem dX9_text_25 : decode cX9_text 25 = .ok (.aload_n 0, 1) := by decide +kernel
theorem dX9_text_26 : decode cX9_text 26 = .ok (.iconst 0, 1) := by decide +kernel
theorem dX9_text_27 : decode cX9_text 27 = .ok (.putfield 137, 3) := by decide +kernel
theorem dX9_text_30 : decode cX9_text 30 = .ok (.aload_n 0, 1) := by decide +kernel
theorem dX9_text_31 : decode cX9_text 31 = .ok (.iconst 0, 1) := by decide +kernel
theorem dX9_text_32 : decode cX9_text 32 = .ok (.putfield 110, 3) := by decide +kernel
theorem dX9_text_35 : decode cX9_text 35 = .ok (.aload_n 0, 1) := by decide +kernel
theorem dX9_text_36 : decode cX9_text 36 = .ok (.invokevirtual 146, 3) := by decide +kernel
theorem dX9_text_39 : decode cX9_text 39 = .ok (.ifCond .eq 21, 3) := by decide +kernel
theorem dX9_text_42 : decode cX9_text 42 = .ok (.aload_n 0, 1) := by decide +kernel
theorem dX9_text_43 : decode cX9_text 43 = .ok (.getfield 103, 3) := by decide +kernel
theorem dX9_text_46 : decode cX9_text 46 = .ok (.aload_n 0, 1) := by decide +kernel
theorem dX9_text_47 : decode cX9_text 47 = .ok (.getfield 7, 3) := by decide +kernel
theorem dX9_text_50 : decode cX9_text 50 = .ok (.bipush 6, 2) := by decide +kernel
theorem dX9_text_52 : decode cX9_text 52 = .ok (.iaload, 1) := by decide +kernel
theorem dX9_text_53 : decode cX9_text 53 = .ok (.if_icmp .ne 7, 3) := by decide +kernel
theorem dX9_text_56 : decode cX9_text 56 = .ok (.iconst 1, 1) := by decide +kernel
theorem dX9_text_57 : decode cX9_text 57 = .ok (.goto 4, 3) := by decide +kernel
theorem dX9_text_60 : decode cX9_text 60 = .ok (.iconst 0, 1) := by decide +kernel
theorem dX9_text_61 : decode cX9_text 61 = .ok (.istore_n 2, 1) := by decide +kernel
theorem dX9_text_62 : decode cX9_text 62 = .ok (.aload_n 0, 1) := by decide +kernel
theorem dX9_text_63 : decode cX9_text 63 = .ok (.getfield 7, 3) := by decide +kernel
theorem dX9_text_66 : decode cX9_text 66 = .ok (.bipush 6, 2) := by decide +kernel
theorem dX9_text_68 : decode cX9_text 68 = .ok (.iconst 0, 1) := by decide +kernel
theorem dX9_text_69 : decode cX9_text 69 = .ok (.iastore, 1) := by decide +kernel
theorem dX9_text_70 : decode cX9_text 70 = .ok (.iload_n 2, 1) := by decide +kernel
theorem dX9_text_71 : decode cX9_text 71 = .ok (.ifCond .ne 11, 3) := by decide +kernel
theorem dX9_text_74 : decode cX9_text 74 = .ok (.bipush (-10), 2) := by decide +kernel
theorem dX9_text_76 : decode cX9_text 76 = .ok (.aload_n 0, 1) := by decide +kernel
theorem dX9_text_77 : decode cX9_text 77 = .ok (.getfield 103, 3) := by decide +kernel
theorem dX9_text_80 : decode cX9_text 80 = .ok (.isub, 1) := by decide +kernel
theorem dX9_text_81 : decode cX9_text 81 = .ok (.ireturn, 1) := by decide +kernel
theorem dX9_text_82 : decode cX9_text 82 = .ok (.sipush 182, 3) := by decide +kernel
theorem dX9_text_85 : decode cX9_text 85 = .ok (.bipush 125, 2) := by decide +kernel
theorem dX9_text_87 : decode cX9_text 87 = .ok (.iload_n 1, 1) := by decide +kernel
theorem dX9_text_88 : decode cX9_text 88 = .ok (.imul, 1) := by decide +kernel
theorem dX9_text_89 : decode cX9_text 89 = .ok (.iadd, 1) := by decide +kernel
theorem dX9_text_90 : decode cX9_text 90 = .ok (.istore_n 3, 1) := by decide +kernel
theorem dX9_text_91 : decode cX9_text 91 = .ok (.aload_n 0, 1) := by decide +kernel
theorem dX9_text_92 : decode cX9_text 92 = .ok (.getfield 7, 3) := by decide +kernel
theorem dX9_text_95 : decode cX9_text 95 = .ok (.iload_n 3, 1) := by decide +kernel
theorem dX9_text_96 : decode cX9_text 96 = .ok (.aload_n 0, 1) := by decide +kernel
theorem dX9_text_97 : decode cX9_text 97 = .ok (.getfield 110, 3) := by decide +kernel
theorem dX9_text_100 : decode cX9_text 100 = .ok (.iastore, 1) := by decide +kernel
theorem dX9_text_101 : decode cX9_text 101 = .ok (.iconst 0, 1) := by decide +kernel
theorem dX9_text_102 : decode cX9_text 102 = .ok (.istore 4, 2) := by decide +kernel
theorem dX9_text_104 : decode cX9_text 104 = .ok (.iload 4, 2) := by decide +kernel
theorem dX9_text_106 : decode cX9_text 106 = .ok (.iconst 2, 1) := by decide +kernel
theorem dX9_text_107 : decode cX9_text 107 = .ok (.aload_n 0, 1) := by decide +kernel
theorem dX9_text_108 : decode cX9_text 108 = .ok (.getfield 110, 3) := by decide +kernel
theorem dX9_text_111 : decode cX9_text 111 = .ok (.imul, 1) := by decide +kernel
theorem dX9_text_112 : decode cX9_text 112 = .ok (.if_icmp .ge 27, 3) := by decide +kernel
theorem dX9_text_115 : decode cX9_text 115 = .ok (.aload_n 0, 1) := by decide +kernel
theorem dX9_text_116 : decode cX9_text 116 = .ok (.getfield 7, 3) := by decide +kernel
theorem dX9_text_119 : decode cX9_text 119 = .ok (.iload_n 3, 1) := by decide +kernel
theorem dX9_text_120 : decode cX9_text 120 = .ok (.iconst 1, 1) := by decide +kernel
theorem dX9_text_121 : decode cX9_text 121 = .ok (.iadd, 1) := by decide +kernel
theorem dX9_text_122 : decode cX9_text 122 = .ok (.iload 4, 2) := by decide +kernel
theorem dX9_text_124 : decode cX9_text 124 = .ok (.iadd, 1) := by decide +kernel
theorem dX9_text_125 : decode cX9_text 125 = .ok (.aload_n 0, 1) := by decide +kernel
theorem dX9_text_126 : decode cX9_text 126 = .ok (.getfield 22, 3) := by decide +kernel
theorem dX9_text_129 : decode cX9_text 129 = .ok (.iload 4, 2) := by decide +kernel
theorem dX9_text_131 : decode cX9_text 131 = .ok (.iaload, 1) := by decide +kernel
theorem dX9_text_132 : decode cX9_text 132 = .ok (.iastore, 1) := by decide +kernel
theorem dX9_text_133 : decode cX9_text 133 = .ok (.iinc 4 1, 3) := by decide +kernel
theorem dX9_text_136 : decode cX9_text 136 = .ok (.goto (-32), 3) := by decide +kernel
theorem dX9_text_139 : decode cX9_text 139 = .ok (.iconst 1, 1) := by decide +kernel
theorem dX9_text_140 : decode cX9_text 140 = .ok (.ireturn, 1) := by decide +kernel
theorem dX9_untell_0 : decode cX9_untell 0 = .ok (.iload_n 1, 1) := by decide +kernel
theorem dX9_untell_1 : decode cX9_untell 1 = .ok (.iconst 0, 1) := by decide +kernel
theorem dX9_untell_2 : decode cX9_untell 2 = .ok (.iconst 1, 1) := by decide +kernel
theorem dX9_untell_3 : decode cX9_untell 3 = .ok (.invokestatic 47, 3) := by decide +kernel
theorem dX9_untell_6 : decode cX9_untell 6 = .ok (.ifCond .ne 9, 3) := by decide +kernel
theorem dX9_untell_9 : decode cX9_untell 9 = .ok (.aload_n 0, 1) := by decide +kernel
theorem dX9_untell_10 : decode cX9_untell 10 = .ok (.iconst 1, 1) := by decide +kernel
theorem dX9_untell_11 : decode cX9_untell 11 = .ok (.invokevirtual 70, 3) := by decide +kernel
theorem dX9_untell_14 : decode cX9_untell 14 = .ok (.ireturn, 1) := by decide +kernel
theorem dX9_untell_15 : decode cX9_untell 15 = .ok (.aload_n 0, 1) := by decide +kernel
theorem dX9_untell_16 : decode cX9_untell 16 = .ok (.iload_n 1, 1) := by decide +kernel
theorem dX9_untell_17 : decode cX9_untell 17 = .ok (.invokevirtual 149, 3) := by decide +kernel
theorem dX9_untell_20 : decode cX9_untell 20 = .ok (.ifCond .eq 7, 3) := by decide +kernel
theorem dX9_untell_23 : decode cX9_untell 23 = .ok (.iconst 1, 1) := by decide +kernel
theorem dX9_untell_24 : decode cX9_untell 24 = .ok (.goto 4, 3) := by decide +kernel
theorem dX9_untell_27 : decode cX9_untell 27 = .ok (.iconst 0, 1) := by decide +kernel
theorem dX9_untell_28 : decode cX9_untell 28 = .ok (.istore_n 2, 1) := by decide +kernel
theorem dX9_untell_29 : decode cX9_untell 29 = .ok (.aload_n 0, 1) := by decide +kernel
theorem dX9_untell_30 : decode cX9_untell 30 = .ok (.getfield 7, 3) := by decide +kernel
theorem dX9_untell_33 : decode cX9_untell 33 = .ok (.sipush 182, 3) := by decide +kernel
theorem dX9_untell_36 : decode cX9_untell 36 = .ok (.bipush 125, 2) := by decide +kernel
theorem dX9_untell_38 : decode cX9_untell 38 = .ok (.iload_n 1, 1) := by decide +kernel
theorem dX9_untell_39 : decode cX9_untell 39 = .ok (.imul, 1) := by decide +kernel
theorem dX9_untell_40 : decode cX9_untell 40 = .ok (.iadd, 1) := by decide +kernel
theorem dX9_untell_41 : decode cX9_untell 41 = .ok (.iconst 0, 1) := by decide +kernel
theorem dX9_untell_42 : decode cX9_untell 42 = .ok (.iastore, 1) := by decide +kernel
theorem dX9_untell_43 : decode cX9_untell 43 = .ok (.iload_n 2, 1) := by decide +kernel
theorem dX9_untell_44 : decode cX9_untell 44 = .ok (.ireturn, 1) := by decide +kernel
theorem dX9_joined_0 : decode cX9_joined 0 = .ok (.iload_n 0, 1) := by decide +kernel
theorem dX9_joined_1 : decode cX9_joined 1 = .ok (.tableswitch 217 37 62 #[153, 203, 217, 217, 217, 127, 119, 217, 123, 217, 131, 217, 217, 217, 217, 217, 217, 217, 217, 217, 217, 217, 217, 170, 192, 181], 119) := by decide +kernel
theorem dX9_joined_120 : decode cX9_joined 120 = .ok (.iload_n 1, 1) := by decide +kernel
theorem dX9_joined_121 : decode cX9_joined 121 = .ok (.iload_n 2, 1) := by decide +kernel
theorem dX9_joined_122 : decode cX9_joined 122 = .ok (.iadd, 1) := by decide +kernel
theorem dX9_joined_123 : decode cX9_joined 123 = .ok (.ireturn, 1) := by decide +kernel
theorem dX9_joined_124 : decode cX9_joined 124 = .ok (.iload_n 1, 1) := by decide +kernel
theorem dX9_joined_125 : decode cX9_joined 125 = .ok (.iload_n 2, 1) := by decide +kernel
theorem dX9_joined_126 : decode cX9_joined 126 = .ok (.isub, 1) := by decide +kernel
theorem dX9_joined_127 : decode cX9_joined 127 = .ok (.ireturn, 1) := by decide +kernel
theorem dX9_joined_128 : decode cX9_joined 128 = .ok (.iload_n 1, 1) := by decide +kernel
theorem dX9_joined_129 : decode cX9_joined 129 = .ok (.iload_n 2, 1) := by decide +kernel
theorem dX9_joined_130 : decode cX9_joined 130 = .ok (.imul, 1) := by decide +kernel
theorem dX9_joined_131 : decode cX9_joined 131 = .ok (.ireturn, 1) := by decide +kernel
theorem dX9_joined_132 : decode cX9_joined 132 = .ok (.iload_n 2, 1) := by decide +kernel
theorem dX9_joined_133 : decode cX9_joined 133 = .ok (.ifCond .ne 7, 3) := by decide +kernel
theorem dX9_joined_136 : decode cX9_joined 136 = .ok (.iconst 0, 1) := by decide +kernel
theorem dX9_joined_137 : decode cX9_joined 137 = .ok (.goto 16, 3) := by decide +kernel
theorem dX9_joined_140 : decode cX9_joined 140 = .ok (.iload_n 2, 1) := by decide +kernel
theorem dX9_joined_141 : decode cX9_joined 141 = .ok (.iconst (-1), 1) := by decide +kernel
theorem dX9_joined_142 : decode cX9_joined 142 = .ok (.if_icmp .ne 8, 3) := by decide +kernel
theorem dX9_joined_145 : decode cX9_joined 145 = .ok (.iload_n 1, 1) := by decide +kernel
theorem dX9_joined_146 : decode cX9_joined 146 = .ok (.ineg, 1) := by decide +kernel
theorem dX9_joined_147 : decode cX9_joined 147 = .ok (.goto 6, 3) := by decide +kernel
theorem dX9_joined_150 : decode cX9_joined 150 = .ok (.iload_n 1, 1) := by decide +kernel
theorem dX9_joined_151 : decode cX9_joined 151 = .ok (.iload_n 2, 1) := by decide +kernel
theorem dX9_joined_152 : decode cX9_joined 152 = .ok (.idiv, 1) := by decide +kernel
theorem dX9_joined_153 : decode cX9_joined 153 = .ok (.ireturn, 1) := by decide +kernel
theorem dX9_joined_154 : decode cX9_joined 154 = .ok (.iload_n 2, 1) := by decide +kernel
theorem dX9_joined_155 : decode cX9_joined 155 = .ok (.ifCond .eq 8, 3) := by decide +kernel
theorem dX9_joined_158 : decode cX9_joined 158 = .ok (.iload_n 2, 1) := by decide +kernel
theorem dX9_joined_159 : decode cX9_joined 159 = .ok (.iconst (-1), 1) := by decide +kernel
theorem dX9_joined_160 : decode cX9_joined 160 = .ok (.if_icmp .ne 7, 3) := by decide +kernel
theorem dX9_joined_163 : decode cX9_joined 163 = .ok (.iconst 0, 1) := by decide +kernel
theorem dX9_joined_164 : decode cX9_joined 164 = .ok (.goto 6, 3) := by decide +kernel
theorem dX9_joined_167 : decode cX9_joined 167 = .ok (.iload_n 1, 1) := by decide +kernel
theorem dX9_joined_168 : decode cX9_joined 168 = .ok (.iload_n 2, 1) := by decide +kernel
theorem dX9_joined_169 : decode cX9_joined 169 = .ok (.irem, 1) := by decide +kernel
theorem dX9_joined_170 : decode cX9_joined 170 = .ok (.ireturn, 1) := by decide +kernel
theorem dX9_joined_171 : decode cX9_joined 171 = .ok (.iload_n 1, 1) := by decide +kernel
theorem dX9_joined_172 : decode cX9_joined 172 = .ok (.iload_n 2, 1) := by decide +kernel
theorem dX9_joined_173 : decode cX9_joined 173 = .ok (.if_icmp .ge 7, 3) := by decide +kernel
theorem dX9_joined_176 : decode cX9_joined 176 = .ok (.iconst 1, 1) := by decide +kernel
theorem dX9_joined_177 : decode cX9_joined 177 = .ok (.goto 4, 3) := by decide +kernel
theorem dX9_joined_180 : decode cX9_joined 180 = .ok (.iconst 0, 1) := by decide +kernel
theorem dX9_joined_181 : decode cX9_joined 181 = .ok (.ireturn, 1) := by decide +kernel
theorem dX9_joined_182 : decode cX9_joined 182 = .ok (.iload_n 1, 1) := by decide +kernel
theorem dX9_joined_183 : decode cX9_joined 183 = .ok (.iload_n 2, 1) := by decide +kernel
theorem dX9_joined_184 : decode cX9_joined 184 = .ok (.if_icmp .le 7, 3) := by decide +kernel
theorem dX9_joined_187 : decode cX9_joined 187 = .ok (.iconst 1, 1) := by decide +kernel
theorem dX9_joined_188 : decode cX9_joined 188 = .ok (.goto 4, 3) := by decide +kernel
theorem dX9_joined_191 : decode cX9_joined 191 = .ok (.iconst 0, 1) := by decide +kernel
theorem dX9_joined_192 : decode cX9_joined 192 = .ok (.ireturn, 1) := by decide +kernel
theorem dX9_joined_193 : decode cX9_joined 193 = .ok (.iload_n 1, 1) := by decide +kernel
theorem dX9_joined_194 : decode cX9_joined 194 = .ok (.iload_n 2, 1) := by decide +kernel
theorem dX9_joined_195 : decode cX9_joined 195 = .ok (.if_icmp .ne 7, 3) := by decide +kernel
theorem dX9_joined_198 : decode cX9_joined 198 = .ok (.iconst 1, 1) := by decide +kernel
theorem dX9_joined_199 : decode cX9_joined 199 = .ok (.goto 4, 3) := by decide +kernel
theorem dX9_joined_202 : decode cX9_joined 202 = .ok (.iconst 0, 1) := by decide +kernel
theorem dX9_joined_203 : decode cX9_joined 203 = .ok (.ireturn, 1) := by decide +kernel
theorem dX9_joined_204 : decode cX9_joined 204 = .ok (.iload_n 1, 1) := by decide +kernel
theorem dX9_joined_205 : decode cX9_joined 205 = .ok (.ifCond .eq 11, 3) := by decide +kernel
theorem dX9_joined_208 : decode cX9_joined 208 = .ok (.iload_n 2, 1) := by decide +kernel
theorem dX9_joined_209 : decode cX9_joined 209 = .ok (.ifCond .eq 7, 3) := by decide +kernel
theorem dX9_joined_212 : decode cX9_joined 212 = .ok (.iconst 1, 1) := by decide +kernel
theorem dX9_joined_213 : decode cX9_joined 213 = .ok (.goto 4, 3) := by decide +kernel
theorem dX9_joined_216 : decode cX9_joined 216 = .ok (.iconst 0, 1) := by decide +kernel
theorem dX9_joined_217 : decode cX9_joined 217 = .ok (.ireturn, 1) := by decide +kernel
theorem dX9_joined_218 : decode cX9_joined 218 = .ok (.iload_n 1, 1) := by decide +kernel
theorem dX9_joined_219 : decode cX9_joined 219 = .ok (.ifCond .ne 7, 3) := by decide +kernel
theorem dX9_joined_222 : decode cX9_joined 222 = .ok (.iload_n 2, 1) := by decide +kernel
theorem dX9_joined_223 : decode cX9_joined 223 = .ok (.ifCond .eq 7, 3) := by decide +kernel
theorem dX9_joined_226 : decode cX9_joined 226 = .ok (.iconst 1, 1) := by decide +kernel
theorem dX9_joined_227 : decode cX9_joined 227 = .ok (.goto 4, 3) := by decide +kernel
theorem dX9_joined_230 : decode cX9_joined 230 = .ok (.iconst 0, 1) := by decide +kernel
theorem dX9_joined_231 : decode cX9_joined 231 = .ok (.ireturn, 1) := by decide +kernel
theorem dX9_worked_0 : decode cX9_worked 0 = .ok (.sipush 182, 3) := by decide +kernel
theorem dX9_worked_3 : decode cX9_worked 3 = .ok (.bipush 125, 2) := by decide +kernel
theorem dX9_worked_5 : decode cX9_worked 5 = .ok (.iload_n 1, 1) := by decide +kernel
theorem dX9_worked_6 : decode cX9_worked 6 = .ok (.imul, 1) := by decide +kernel
theorem dX9_worked_7 : decode cX9_worked 7 = .ok (.iadd, 1) := by decide +kernel
theorem dX9_worked_8 : decode cX9_worked 8 = .ok (.istore_n 2, 1) := by decide +kernel
theorem dX9_worked_9 : decode cX9_worked 9 = .ok (.iconst 0, 1) := by decide +kernel
theorem dX9_worked_10 : decode cX9_worked 10 = .ok (.istore_n 3, 1) := by decide +kernel
theorem dX9_worked_11 : decode cX9_worked 11 = .ok (.iconst 0, 1) := by decide +kernel
theorem dX9_worked_12 : decode cX9_worked 12 = .ok (.istore 4, 2) := by decide +kernel
theorem dX9_worked_14 : decode cX9_worked 14 = .ok (.iload 4, 2) := by decide +kernel
theorem dX9_worked_16 : decode cX9_worked 16 = .ok (.aload_n 0, 1) := by decide +kernel
theorem dX9_worked_17 : decode cX9_worked 17 = .ok (.getfield 7, 3) := by decide +kernel
theorem dX9_worked_20 : decode cX9_worked 20 = .ok (.iload_n 2, 1) := by decide +kernel
theorem dX9_worked_21 : decode cX9_worked 21 = .ok (.iaload, 1) := by decide +kernel
theorem dX9_worked_22 : decode cX9_worked 22 = .ok (.if_icmp .ge 142, 3) := by decide +kernel
theorem dX9_worked_25 : decode cX9_worked 25 = .ok (.aload_n 0, 1) := by decide +kernel
theorem dX9_worked_26 : decode cX9_worked 26 = .ok (.getfield 7, 3) := by decide +kernel
theorem dX9_worked_29 : decode cX9_worked 29 = .ok (.iload_n 2, 1) := by decide +kernel
theorem dX9_worked_30 : decode cX9_worked 30 = .ok (.iconst 1, 1) := by decide +kernel
theorem dX9_worked_31 : decode cX9_worked 31 = .ok (.iadd, 1) := by decide +kernel
theorem dX9_worked_32 : decode cX9_worked 32 = .ok (.iconst 2, 1) := by decide +kernel
theorem dX9_worked_33 : decode cX9_worked 33 = .ok (.iload 4, 2) := by decide +kernel
theorem dX9_worked_35 : decode cX9_worked 35 = .ok (.imul, 1) := by decide +kernel
theorem dX9_worked_36 : decode cX9_worked 36 = .ok (.iadd, 1) := by decide +kernel
theorem dX9_worked_37 : decode cX9_worked 37 = .ok (.iaload, 1) := by decide +kernel
theorem dX9_worked_38 : decode cX9_worked 38 = .ok (.istore 5, 2) := by decide +kernel
theorem dX9_worked_40 : decode cX9_worked 40 = .ok (.aload_n 0, 1) := by decide +kernel
theorem dX9_worked_41 : decode cX9_worked 41 = .ok (.getfield 7, 3) := by decide +kernel
theorem dX9_worked_44 : decode cX9_worked 44 = .ok (.iload_n 2, 1) := by decide +kernel
theorem dX9_worked_45 : decode cX9_worked 45 = .ok (.iconst 2, 1) := by decide +kernel
theorem dX9_worked_46 : decode cX9_worked 46 = .ok (.iadd, 1) := by decide +kernel
theorem dX9_worked_47 : decode cX9_worked 47 = .ok (.iconst 2, 1) := by decide +kernel
theorem dX9_worked_48 : decode cX9_worked 48 = .ok (.iload 4, 2) := by decide +kernel
theorem dX9_worked_50 : decode cX9_worked 50 = .ok (.imul, 1) := by decide +kernel
theorem dX9_worked_51 : decode cX9_worked 51 = .ok (.iadd, 1) := by decide +kernel
theorem dX9_worked_52 : decode cX9_worked 52 = .ok (.iaload, 1) := by decide +kernel
theorem dX9_worked_53 : decode cX9_worked 53 = .ok (.istore 6, 2) := by decide +kernel
theorem dX9_worked_55 : decode cX9_worked 55 = .ok (.iload 5, 2) := by decide +kernel
theorem dX9_worked_57 : decode cX9_worked 57 = .ok (.ifCond .eq 9, 3) := by decide +kernel
theorem dX9_worked_60 : decode cX9_worked 60 = .ok (.iload 5, 2) := by decide +kernel
theorem dX9_worked_62 : decode cX9_worked 62 = .ok (.iconst 1, 1) := by decide +kernel
theorem dX9_worked_63 : decode cX9_worked 63 = .ok (.if_icmp .ne 32, 3) := by decide +kernel
theorem dX9_worked_66 : decode cX9_worked 66 = .ok (.aload_n 0, 1) := by decide +kernel
theorem dX9_worked_67 : decode cX9_worked 67 = .ok (.getfield 28, 3) := by decide +kernel
theorem dX9_worked_70 : decode cX9_worked 70 = .ok (.iload_n 3, 1) := by decide +kernel
theorem dX9_worked_71 : decode cX9_worked 71 = .ok (.iload 5, 2) := by decide +kernel
theorem dX9_worked_73 : decode cX9_worked 73 = .ok (.ifCond .ne 8, 3) := by decide +kernel
theorem dX9_worked_76 : decode cX9_worked 76 = .ok (.iload 6, 2) := by decide +kernel
theorem dX9_worked_78 : decode cX9_worked 78 = .ok (.goto 10, 3) := by decide +kernel
theorem dX9_worked_81 : decode cX9_worked 81 = .ok (.aload_n 0, 1) := by decide +kernel
theorem dX9_worked_82 : decode cX9_worked 82 = .ok (.getfield 25, 3) := by decide +kernel
theorem dX9_worked_85 : decode cX9_worked 85 = .ok (.iload 6, 2) := by decide +kernel
theorem dX9_worked_87 : decode cX9_worked 87 = .ok (.iaload, 1) := by decide +kernel
theorem dX9_worked_88 : decode cX9_worked 88 = .ok (.iastore, 1) := by decide +kernel
theorem dX9_worked_89 : decode cX9_worked 89 = .ok (.iinc 3 1, 3) := by decide +kernel
theorem dX9_worked_92 : decode cX9_worked 92 = .ok (.goto 66, 3) := by decide +kernel
theorem dX9_worked_95 : decode cX9_worked 95 = .ok (.iload 5, 2) := by decide +kernel
theorem dX9_worked_97 : decode cX9_worked 97 = .ok (.iconst 2, 1) := by decide +kernel
theorem dX9_worked_98 : decode cX9_worked 98 = .ok (.if_icmp .ne 30, 3) := by decide +kernel
theorem dX9_worked_101 : decode cX9_worked 101 = .ok (.aload_n 0, 1) := by decide +kernel
theorem dX9_worked_102 : decode cX9_worked 102 = .ok (.getfield 28, 3) := by decide +kernel
theorem dX9_worked_105 : decode cX9_worked 105 = .ok (.iload_n 3, 1) := by decide +kernel
theorem dX9_worked_106 : decode cX9_worked 106 = .ok (.iconst 1, 1) := by decide +kernel
theorem dX9_worked_107 : decode cX9_worked 107 = .ok (.isub, 1) := by decide +kernel
theorem dX9_worked_108 : decode cX9_worked 108 = .ok (.aload_n 0, 1) := by decide +kernel
theorem dX9_worked_109 : decode cX9_worked 109 = .ok (.getfield 28, 3) := by decide +kernel
theorem dX9_worked_112 : decode cX9_worked 112 = .ok (.iload_n 3, 1) := by decide +kernel
theorem dX9_worked_113 : decode cX9_worked 113 = .ok (.iconst 1, 1) := by decide +kernel
theorem dX9_worked_114 : decode cX9_worked 114 = .ok (.isub, 1) := by decide +kernel
theorem dX9_worked_115 : decode cX9_worked 115 = .ok (.iaload, 1) := by decide +kernel
theorem dX9_worked_116 : decode cX9_worked 116 = .ok (.ifCond .ne 7, 3) := by decide +kernel
theorem dX9_worked_119 : decode cX9_worked 119 = .ok (.iconst 1, 1) := by decide +kernel
theorem dX9_worked_120 : decode cX9_worked 120 = .ok (.goto 4, 3) := by decide +kernel
theorem dX9_worked_123 : decode cX9_worked 123 = .ok (.iconst 0, 1) := by decide +kernel
theorem dX9_worked_124 : decode cX9_worked 124 = .ok (.iastore, 1) := by decide +kernel
theorem dX9_worked_125 : decode cX9_worked 125 = .ok (.goto 33, 3) := by decide +kernel
theorem dX9_worked_128 : decode cX9_worked 128 = .ok (.iinc 3 (-1), 3) := by decide +kernel
theorem dX9_worked_131 : decode cX9_worked 131 = .ok (.aload_n 0, 1) := by decide +kernel
theorem dX9_worked_132 : decode cX9_worked 132 = .ok (.getfield 28, 3) := by decide +kernel
theorem dX9_worked_135 : decode cX9_worked 135 = .ok (.iload_n 3, 1) := by decide +kernel
theorem dX9_worked_136 : decode cX9_worked 136 = .ok (.iconst 1, 1) := by decide +kernel
theorem dX9_worked_137 : decode cX9_worked 137 = .ok (.isub, 1) := by decide +kernel
theorem dX9_worked_138 : decode cX9_worked 138 = .ok (.iload 6, 2) := by decide +kernel
theorem dX9_worked_140 : decode cX9_worked 140 = .ok (.aload_n 0, 1) := by decide +kernel
theorem dX9_worked_141 : decode cX9_worked 141 = .ok (.getfield 28, 3) := by decide +kernel
theorem dX9_worked_144 : decode cX9_worked 144 = .ok (.iload_n 3, 1) := by decide +kernel
theorem dX9_worked_145 : decode cX9_worked 145 = .ok (.iconst 1, 1) := by decide +kernel
theorem dX9_worked_146 : decode cX9_worked 146 = .ok (.isub, 1) := by decide +kernel
theorem dX9_worked_147 : decode cX9_worked 147 = .ok (.iaload, 1) := by decide +kernel
theorem dX9_worked_148 : decode cX9_worked 148 = .ok (.aload_n 0, 1) := by decide +kernel
theorem dX9_worked_149 : decode cX9_worked 149 = .ok (.getfield 28, 3) := by decide +kernel
theorem dX9_worked_152 : decode cX9_worked 152 = .ok (.iload_n 3, 1) := by decide +kernel
theorem dX9_worked_153 : decode cX9_worked 153 = .ok (.iaload, 1) := by decide +kernel
theorem dX9_worked_154 : decode cX9_worked 154 = .ok (.invokestatic 152, 3) := by decide +kernel
theorem dX9_worked_157 : decode cX9_worked 157 = .ok (.iastore, 1) := by decide +kernel
theorem dX9_worked_158 : decode cX9_worked 158 = .ok (.iinc 4 1, 3) := by decide +kernel
theorem dX9_worked_161 : decode cX9_worked 161 = .ok (.goto (-147), 3) := by decide +kernel
theorem dX9_worked_164 : decode cX9_worked 164 = .ok (.aload_n 0, 1) := by decide +kernel
theorem dX9_worked_165 : decode cX9_worked 165 = .ok (.getfield 28, 3) := by decide +kernel
theorem dX9_worked_168 : decode cX9_worked 168 = .ok (.iconst 0, 1) := by decide +kernel
theorem dX9_worked_169 : decode cX9_worked 169 = .ok (.iaload, 1) := by decide +kernel
theorem dX9_worked_170 : decode cX9_worked 170 = .ok (.ireturn, 1) := by decide +kernel
theorem dX9_fillsTold_0 : decode cX9_fillsTold 0 = .ok (.aload_n 0, 1) := by decide +kernel
theorem dX9_fillsTold_1 : decode cX9_fillsTold 1 = .ok (.iconst 0, 1) := by decide +kernel
theorem dX9_fillsTold_2 : decode cX9_fillsTold 2 = .ok (.invokevirtual 149, 3) := by decide +kernel
theorem dX9_fillsTold_5 : decode cX9_fillsTold 5 = .ok (.ifCond .ne 12, 3) := by decide +kernel
theorem dX9_fillsTold_8 : decode cX9_fillsTold 8 = .ok (.aload_n 0, 1) := by decide +kernel
theorem dX9_fillsTold_9 : decode cX9_fillsTold 9 = .ok (.iload_n 1, 1) := by decide +kernel
theorem dX9_fillsTold_10 : decode cX9_fillsTold 10 = .ok (.iconst 3, 1) := by decide +kernel
theorem dX9_fillsTold_11 : decode cX9_fillsTold 11 = .ok (.iload_n 2, 1) := by decide +kernel
theorem dX9_fillsTold_12 : decode cX9_fillsTold 12 = .ok (.iadd, 1) := by decide +kernel
theorem dX9_fillsTold_13 : decode cX9_fillsTold 13 = .ok (.invokevirtual 51, 3) := by decide +kernel
theorem dX9_fillsTold_16 : decode cX9_fillsTold 16 = .ok (.ireturn, 1) := by decide +kernel
theorem dX9_fillsTold_17 : decode cX9_fillsTold 17 = .ok (.aload_n 0, 1) := by decide +kernel
theorem dX9_fillsTold_18 : decode cX9_fillsTold 18 = .ok (.iload_n 1, 1) := by decide +kernel
theorem dX9_fillsTold_19 : decode cX9_fillsTold 19 = .ok (.invokevirtual 55, 3) := by decide +kernel
theorem dX9_fillsTold_22 : decode cX9_fillsTold 22 = .ok (.istore_n 3, 1) := by decide +kernel
theorem dX9_fillsTold_23 : decode cX9_fillsTold 23 = .ok (.aload_n 0, 1) := by decide +kernel
theorem dX9_fillsTold_24 : decode cX9_fillsTold 24 = .ok (.getfield 25, 3) := by decide +kernel
theorem dX9_fillsTold_27 : decode cX9_fillsTold 27 = .ok (.bipush 107, 2) := by decide +kernel
theorem dX9_fillsTold_29 : decode cX9_fillsTold 29 = .ok (.aload_n 0, 1) := by decide +kernel
theorem dX9_fillsTold_30 : decode cX9_fillsTold 30 = .ok (.iload_n 1, 1) := by decide +kernel
theorem dX9_fillsTold_31 : decode cX9_fillsTold 31 = .ok (.iconst 3, 1) := by decide +kernel
theorem dX9_fillsTold_32 : decode cX9_fillsTold 32 = .ok (.iload_n 2, 1) := by decide +kernel
theorem dX9_fillsTold_33 : decode cX9_fillsTold 33 = .ok (.iadd, 1) := by decide +kernel
theorem dX9_fillsTold_34 : decode cX9_fillsTold 34 = .ok (.invokevirtual 51, 3) := by decide +kernel
theorem dX9_fillsTold_37 : decode cX9_fillsTold 37 = .ok (.iastore, 1) := by decide +kernel
theorem dX9_fillsTold_38 : decode cX9_fillsTold 38 = .ok (.aload_n 0, 1) := by decide +kernel
theorem dX9_fillsTold_39 : decode cX9_fillsTold 39 = .ok (.getfield 25, 3) := by decide +kernel
theorem dX9_fillsTold_42 : decode cX9_fillsTold 42 = .ok (.bipush 108, 2) := by decide +kernel
theorem dX9_fillsTold_44 : decode cX9_fillsTold 44 = .ok (.iload_n 3, 1) := by decide +kernel
theorem dX9_fillsTold_45 : decode cX9_fillsTold 45 = .ok (.iconst (-1), 1) := by decide +kernel
theorem dX9_fillsTold_46 : decode cX9_fillsTold 46 = .ok (.if_icmp .ne 7, 3) := by decide +kernel
theorem dX9_fillsTold_49 : decode cX9_fillsTold 49 = .ok (.iconst 0, 1) := by decide +kernel
theorem dX9_fillsTold_50 : decode cX9_fillsTold 50 = .ok (.goto 12, 3) := by decide +kernel
theorem dX9_fillsTold_53 : decode cX9_fillsTold 53 = .ok (.aload_n 0, 1) := by decide +kernel
theorem dX9_fillsTold_54 : decode cX9_fillsTold 54 = .ok (.iload_n 3, 1) := by decide +kernel
theorem dX9_fillsTold_55 : decode cX9_fillsTold 55 = .ok (.bipush 9, 2) := by decide +kernel
theorem dX9_fillsTold_57 : decode cX9_fillsTold 57 = .ok (.iload_n 2, 1) := by decide +kernel
theorem dX9_fillsTold_58 : decode cX9_fillsTold 58 = .ok (.iadd, 1) := by decide +kernel
theorem dX9_fillsTold_59 : decode cX9_fillsTold 59 = .ok (.invokevirtual 51, 3) := by decide +kernel
theorem dX9_fillsTold_62 : decode cX9_fillsTold 62 = .ok (.iastore, 1) := by decide +kernel
theorem dX9_fillsTold_63 : decode cX9_fillsTold 63 = .ok (.aload_n 0, 1) := by decide +kernel
theorem dX9_fillsTold_64 : decode cX9_fillsTold 64 = .ok (.getfield 25, 3) := by decide +kernel
theorem dX9_fillsTold_67 : decode cX9_fillsTold 67 = .ok (.bipush 103, 2) := by decide +kernel
theorem dX9_fillsTold_69 : decode cX9_fillsTold 69 = .ok (.iload_n 2, 1) := by decide +kernel
theorem dX9_fillsTold_70 : decode cX9_fillsTold 70 = .ok (.iastore, 1) := by decide +kernel
theorem dX9_fillsTold_71 : decode cX9_fillsTold 71 = .ok (.aload_n 0, 1) := by decide +kernel
theorem dX9_fillsTold_72 : decode cX9_fillsTold 72 = .ok (.getfield 25, 3) := by decide +kernel
theorem dX9_fillsTold_75 : decode cX9_fillsTold 75 = .ok (.bipush 109, 2) := by decide +kernel
theorem dX9_fillsTold_77 : decode cX9_fillsTold 77 = .ok (.aload_n 0, 1) := by decide +kernel
theorem dX9_fillsTold_78 : decode cX9_fillsTold 78 = .ok (.iload_n 1, 1) := by decide +kernel
theorem dX9_fillsTold_79 : decode cX9_fillsTold 79 = .ok (.iconst 1, 1) := by decide +kernel
theorem dX9_fillsTold_80 : decode cX9_fillsTold 80 = .ok (.invokevirtual 51, 3) := by decide +kernel
theorem dX9_fillsTold_83 : decode cX9_fillsTold 83 = .ok (.iastore, 1) := by decide +kernel
theorem dX9_fillsTold_84 : decode cX9_fillsTold 84 = .ok (.aload_n 0, 1) := by decide +kernel
theorem dX9_fillsTold_85 : decode cX9_fillsTold 85 = .ok (.iconst 0, 1) := by decide +kernel
theorem dX9_fillsTold_86 : decode cX9_fillsTold 86 = .ok (.invokevirtual 156, 3) := by decide +kernel
theorem dX9_fillsTold_89 : decode cX9_fillsTold 89 = .ok (.ireturn, 1) := by decide +kernel
theorem dX9_fillsOf_0 : decode cX9_fillsOf 0 = .ok (.aload_n 0, 1) := by decide +kernel
theorem dX9_fillsOf_1 : decode cX9_fillsOf 1 = .ok (.iload_n 1, 1) := by decide +kernel
theorem dX9_fillsOf_2 : decode cX9_fillsOf 2 = .ok (.iconst 3, 1) := by decide +kernel
theorem dX9_fillsOf_3 : decode cX9_fillsOf 3 = .ok (.iload_n 2, 1) := by decide +kernel
theorem dX9_fillsOf_4 : decode cX9_fillsOf 4 = .ok (.iadd, 1) := by decide +kernel
theorem dX9_fillsOf_5 : decode cX9_fillsOf 5 = .ok (.invokevirtual 51, 3) := by decide +kernel
theorem dX9_fillsOf_8 : decode cX9_fillsOf 8 = .ok (.istore_n 3, 1) := by decide +kernel
theorem dX9_fillsOf_9 : decode cX9_fillsOf 9 = .ok (.aload_n 0, 1) := by decide +kernel
theorem dX9_fillsOf_10 : decode cX9_fillsOf 10 = .ok (.aload_n 0, 1) := by decide +kernel
theorem dX9_fillsOf_11 : decode cX9_fillsOf 11 = .ok (.iload_n 1, 1) := by decide +kernel
theorem dX9_fillsOf_12 : decode cX9_fillsOf 12 = .ok (.invokevirtual 55, 3) := by decide +kernel
theorem dX9_fillsOf_15 : decode cX9_fillsOf 15 = .ok (.iload_n 2, 1) := by decide +kernel
theorem dX9_fillsOf_16 : decode cX9_fillsOf 16 = .ok (.bipush 9, 2) := by decide +kernel
theorem dX9_fillsOf_18 : decode cX9_fillsOf 18 = .ok (.invokevirtual 59, 3) := by decide +kernel
theorem dX9_fillsOf_21 : decode cX9_fillsOf 21 = .ok (.ifCond .eq 7, 3) := by decide +kernel
theorem dX9_fillsOf_24 : decode cX9_fillsOf 24 = .ok (.iload_n 3, 1) := by decide +kernel
theorem dX9_fillsOf_25 : decode cX9_fillsOf 25 = .ok (.goto 4, 3) := by decide +kernel
theorem dX9_fillsOf_28 : decode cX9_fillsOf 28 = .ok (.iconst 0, 1) := by decide +kernel
theorem dX9_fillsOf_29 : decode cX9_fillsOf 29 = .ok (.istore 4, 2) := by decide +kernel
theorem dX9_fillsOf_31 : decode cX9_fillsOf 31 = .ok (.iload_n 3, 1) := by decide +kernel
theorem dX9_fillsOf_32 : decode cX9_fillsOf 32 = .ok (.istore 5, 2) := by decide +kernel
theorem dX9_fillsOf_34 : decode cX9_fillsOf 34 = .ok (.aload_n 0, 1) := by decide +kernel
theorem dX9_fillsOf_35 : decode cX9_fillsOf 35 = .ok (.iload_n 1, 1) := by decide +kernel
theorem dX9_fillsOf_36 : decode cX9_fillsOf 36 = .ok (.iconst 0, 1) := by decide +kernel
theorem dX9_fillsOf_37 : decode cX9_fillsOf 37 = .ok (.invokevirtual 51, 3) := by decide +kernel
theorem dX9_fillsOf_40 : decode cX9_fillsOf 40 = .ok (.tableswitch 103 1 6 #[40, 47, 55, 69, 47, 92], 40) := by decide +kernel
theorem dX9_fillsOf_80 : decode cX9_fillsOf 80 = .ok (.iload 4, 2) := by decide +kernel
theorem dX9_fillsOf_82 : decode cX9_fillsOf 82 = .ok (.istore 5, 2) := by decide +kernel
theorem dX9_fillsOf_84 : decode cX9_fillsOf 84 = .ok (.goto 59, 3) := by decide +kernel
theorem dX9_fillsOf_87 : decode cX9_fillsOf 87 = .ok (.iload_n 3, 1) := by decide +kernel
theorem dX9_fillsOf_88 : decode cX9_fillsOf 88 = .ok (.iconst 2, 1) := by decide +kernel
theorem dX9_fillsOf_89 : decode cX9_fillsOf 89 = .ok (.idiv, 1) := by decide +kernel
theorem dX9_fillsOf_90 : decode cX9_fillsOf 90 = .ok (.istore 5, 2) := by decide +kernel
theorem dX9_fillsOf_92 : decode cX9_fillsOf 92 = .ok (.goto 51, 3) := by decide +kernel
theorem dX9_fillsOf_95 : decode cX9_fillsOf 95 = .ok (.iload_n 3, 1) := by decide +kernel
theorem dX9_fillsOf_96 : decode cX9_fillsOf 96 = .ok (.ifCond .le 7, 3) := by decide +kernel
theorem dX9_fillsOf_99 : decode cX9_fillsOf 99 = .ok (.iconst 1, 1) := by decide +kernel
theorem dX9_fillsOf_100 : decode cX9_fillsOf 100 = .ok (.goto 4, 3) := by decide +kernel
theorem dX9_fillsOf_103 : decode cX9_fillsOf 103 = .ok (.iconst 0, 1) := by decide +kernel
theorem dX9_fillsOf_104 : decode cX9_fillsOf 104 = .ok (.istore 5, 2) := by decide +kernel
theorem dX9_fillsOf_106 : decode cX9_fillsOf 106 = .ok (.goto 37, 3) := by decide +kernel
theorem dX9_fillsOf_109 : decode cX9_fillsOf 109 = .ok (.iload 4, 2) := by decide +kernel
theorem dX9_fillsOf_111 : decode cX9_fillsOf 111 = .ok (.ifCond .le 15, 3) := by decide +kernel
theorem dX9_fillsOf_114 : decode cX9_fillsOf 114 = .ok (.iload 4, 2) := by decide +kernel
theorem dX9_fillsOf_116 : decode cX9_fillsOf 116 = .ok (.aload_n 0, 1) := by decide +kernel
theorem dX9_fillsOf_117 : decode cX9_fillsOf 117 = .ok (.iload_n 1, 1) := by decide +kernel
theorem dX9_fillsOf_118 : decode cX9_fillsOf 118 = .ok (.iconst 1, 1) := by decide +kernel
theorem dX9_fillsOf_119 : decode cX9_fillsOf 119 = .ok (.invokevirtual 51, 3) := by decide +kernel
theorem dX9_fillsOf_122 : decode cX9_fillsOf 122 = .ok (.iadd, 1) := by decide +kernel
theorem dX9_fillsOf_123 : decode cX9_fillsOf 123 = .ok (.goto 4, 3) := by decide +kernel
theorem dX9_fillsOf_126 : decode cX9_fillsOf 126 = .ok (.iconst 0, 1) := by decide +kernel
theorem dX9_fillsOf_127 : decode cX9_fillsOf 127 = .ok (.istore 5, 2) := by decide +kernel
theorem dX9_fillsOf_129 : decode cX9_fillsOf 129 = .ok (.goto 14, 3) := by decide +kernel
theorem dX9_fillsOf_132 : decode cX9_fillsOf 132 = .ok (.aload_n 0, 1) := by decide +kernel
theorem dX9_fillsOf_133 : decode cX9_fillsOf 133 = .ok (.iload_n 1, 1) := by decide +kernel
theorem dX9_fillsOf_134 : decode cX9_fillsOf 134 = .ok (.iload_n 2, 1) := by decide +kernel
theorem dX9_fillsOf_135 : decode cX9_fillsOf 135 = .ok (.invokevirtual 159, 3) := by decide +kernel
theorem dX9_fillsOf_138 : decode cX9_fillsOf 138 = .ok (.istore 5, 2) := by decide +kernel
theorem dX9_fillsOf_140 : decode cX9_fillsOf 140 = .ok (.goto 3, 3) := by decide +kernel
theorem dX9_fillsOf_143 : decode cX9_fillsOf 143 = .ok (.iload 5, 2) := by decide +kernel
theorem dX9_fillsOf_145 : decode cX9_fillsOf 145 = .ok (.iconst 0, 1) := by decide +kernel
theorem dX9_fillsOf_146 : decode cX9_fillsOf 146 = .ok (.bipush 99, 2) := by decide +kernel
theorem dX9_fillsOf_148 : decode cX9_fillsOf 148 = .ok (.invokestatic 162, 3) := by decide +kernel
theorem dX9_fillsOf_151 : decode cX9_fillsOf 151 = .ok (.ireturn, 1) := by decide +kernel
theorem dX9_priceTold_0 : decode cX9_priceTold 0 = .ok (.aload_n 0, 1) := by decide +kernel
theorem dX9_priceTold_1 : decode cX9_priceTold 1 = .ok (.iconst 1, 1) := by decide +kernel
theorem dX9_priceTold_2 : decode cX9_priceTold 2 = .ok (.invokevirtual 149, 3) := by decide +kernel
theorem dX9_priceTold_5 : decode cX9_priceTold 5 = .ok (.ifCond .ne 15, 3) := by decide +kernel
theorem dX9_priceTold_8 : decode cX9_priceTold 8 = .ok (.iconst 2, 1) := by decide +kernel
theorem dX9_priceTold_9 : decode cX9_priceTold 9 = .ok (.aload_n 0, 1) := by decide +kernel
theorem dX9_priceTold_10 : decode cX9_priceTold 10 = .ok (.getfield 7, 3) := by decide +kernel
theorem dX9_priceTold_13 : decode cX9_priceTold 13 = .ok (.bipush 10, 2) := by decide +kernel
theorem dX9_priceTold_15 : decode cX9_priceTold 15 = .ok (.iload_n 2, 1) := by decide +kernel
theorem dX9_priceTold_16 : decode cX9_priceTold 16 = .ok (.iadd, 1) := by decide +kernel
theorem dX9_priceTold_17 : decode cX9_priceTold 17 = .ok (.iaload, 1) := by decide +kernel
theorem dX9_priceTold_18 : decode cX9_priceTold 18 = .ok (.imul, 1) := by decide +kernel
theorem dX9_priceTold_19 : decode cX9_priceTold 19 = .ok (.ireturn, 1) := by decide +kernel
theorem dX9_priceTold_20 : decode cX9_priceTold 20 = .ok (.aload_n 0, 1) := by decide +kernel
theorem dX9_priceTold_21 : decode cX9_priceTold 21 = .ok (.getfield 25, 3) := by decide +kernel
theorem dX9_priceTold_24 : decode cX9_priceTold 24 = .ok (.bipush 99, 2) := by decide +kernel
theorem dX9_priceTold_26 : decode cX9_priceTold 26 = .ok (.aload_n 0, 1) := by decide +kernel
theorem dX9_priceTold_27 : decode cX9_priceTold 27 = .ok (.getfield 7, 3) := by decide +kernel
theorem dX9_priceTold_30 : decode cX9_priceTold 30 = .ok (.bipush 10, 2) := by decide +kernel
theorem dX9_priceTold_32 : decode cX9_priceTold 32 = .ok (.iload_n 2, 1) := by decide +kernel
theorem dX9_priceTold_33 : decode cX9_priceTold 33 = .ok (.iadd, 1) := by decide +kernel
theorem dX9_priceTold_34 : decode cX9_priceTold 34 = .ok (.iaload, 1) := by decide +kernel
theorem dX9_priceTold_35 : decode cX9_priceTold 35 = .ok (.iastore, 1) := by decide +kernel
theorem dX9_priceTold_36 : decode cX9_priceTold 36 = .ok (.aload_n 0, 1) := by decide +kernel
theorem dX9_priceTold_37 : decode cX9_priceTold 37 = .ok (.getfield 25, 3) := by decide +kernel
theorem dX9_priceTold_40 : decode cX9_priceTold 40 = .ok (.bipush 115, 2) := by decide +kernel
theorem dX9_priceTold_42 : decode cX9_priceTold 42 = .ok (.aload_n 0, 1) := by decide +kernel
theorem dX9_priceTold_43 : decode cX9_priceTold 43 = .ok (.iload_n 1, 1) := by decide +kernel
theorem dX9_priceTold_44 : decode cX9_priceTold 44 = .ok (.bipush 9, 2) := by decide +kernel
theorem dX9_priceTold_46 : decode cX9_priceTold 46 = .ok (.iload_n 2, 1) := by decide +kernel
theorem dX9_priceTold_47 : decode cX9_priceTold 47 = .ok (.iadd, 1) := by decide +kernel
theorem dX9_priceTold_48 : decode cX9_priceTold 48 = .ok (.invokevirtual 51, 3) := by decide +kernel
theorem dX9_priceTold_51 : decode cX9_priceTold 51 = .ok (.iastore, 1) := by decide +kernel
theorem dX9_priceTold_52 : decode cX9_priceTold 52 = .ok (.aload_n 0, 1) := by decide +kernel
theorem dX9_priceTold_53 : decode cX9_priceTold 53 = .ok (.getfield 25, 3) := by decide +kernel
theorem dX9_priceTold_56 : decode cX9_priceTold 56 = .ok (.bipush 100, 2) := by decide +kernel
theorem dX9_priceTold_58 : decode cX9_priceTold 58 = .ok (.aload_n 0, 1) := by decide +kernel
theorem dX9_priceTold_59 : decode cX9_priceTold 59 = .ok (.getfield 7, 3) := by decide +kernel
theorem dX9_priceTold_62 : decode cX9_priceTold 62 = .ok (.iconst 2, 1) := by decide +kernel
theorem dX9_priceTold_63 : decode cX9_priceTold 63 = .ok (.iaload, 1) := by decide +kernel
theorem dX9_priceTold_64 : decode cX9_priceTold 64 = .ok (.iastore, 1) := by decide +kernel
theorem dX9_priceTold_65 : decode cX9_priceTold 65 = .ok (.aload_n 0, 1) := by decide +kernel
theorem dX9_priceTold_66 : decode cX9_priceTold 66 = .ok (.getfield 25, 3) := by decide +kernel
theorem dX9_priceTold_69 : decode cX9_priceTold 69 = .ok (.bipush 109, 2) := by decide +kernel
theorem dX9_priceTold_71 : decode cX9_priceTold 71 = .ok (.aload_n 0, 1) := by decide +kernel
theorem dX9_priceTold_72 : decode cX9_priceTold 72 = .ok (.iload_n 1, 1) := by decide +kernel
theorem dX9_priceTold_73 : decode cX9_priceTold 73 = .ok (.iconst 1, 1) := by decide +kernel
theorem dX9_priceTold_74 : decode cX9_priceTold 74 = .ok (.invokevirtual 51, 3) := by decide +kernel
theorem dX9_priceTold_77 : decode cX9_priceTold 77 = .ok (.iastore, 1) := by decide +kernel
theorem dX9_priceTold_78 : decode cX9_priceTold 78 = .ok (.aload_n 0, 1) := by decide +kernel
theorem dX9_priceTold_79 : decode cX9_priceTold 79 = .ok (.iconst 1, 1) := by decide +kernel
theorem dX9_priceTold_80 : decode cX9_priceTold 80 = .ok (.invokevirtual 156, 3) := by decide +kernel
theorem dX9_priceTold_83 : decode cX9_priceTold 83 = .ok (.ireturn, 1) := by decide +kernel
theorem dX9_priceOf_0 : decode cX9_priceOf 0 = .ok (.aload_n 0, 1) := by decide +kernel
theorem dX9_priceOf_1 : decode cX9_priceOf 1 = .ok (.getfield 7, 3) := by decide +kernel
theorem dX9_priceOf_4 : decode cX9_priceOf 4 = .ok (.bipush 10, 2) := by decide +kernel
theorem dX9_priceOf_6 : decode cX9_priceOf 6 = .ok (.iload_n 2, 1) := by decide +kernel
theorem dX9_priceOf_7 : decode cX9_priceOf 7 = .ok (.iadd, 1) := by decide +kernel
theorem dX9_priceOf_8 : decode cX9_priceOf 8 = .ok (.iaload, 1) := by decide +kernel
theorem dX9_priceOf_9 : decode cX9_priceOf 9 = .ok (.istore_n 3, 1) := by decide +kernel
theorem dX9_priceOf_10 : decode cX9_priceOf 10 = .ok (.iconst 2, 1) := by decide +kernel
theorem dX9_priceOf_11 : decode cX9_priceOf 11 = .ok (.iload_n 3, 1) := by decide +kernel
theorem dX9_priceOf_12 : decode cX9_priceOf 12 = .ok (.imul, 1) := by decide +kernel
theorem dX9_priceOf_13 : decode cX9_priceOf 13 = .ok (.istore 4, 2) := by decide +kernel
theorem dX9_priceOf_15 : decode cX9_priceOf 15 = .ok (.aload_n 0, 1) := by decide +kernel
theorem dX9_priceOf_16 : decode cX9_priceOf 16 = .ok (.iload_n 1, 1) := by decide +kernel
theorem dX9_priceOf_17 : decode cX9_priceOf 17 = .ok (.iconst 0, 1) := by decide +kernel
theorem dX9_priceOf_18 : decode cX9_priceOf 18 = .ok (.invokevirtual 51, 3) := by decide +kernel
theorem dX9_priceOf_21 : decode cX9_priceOf 21 = .ok (.tableswitch 69 2 6 #[35, 50, 50, 35, 58], 35) := by decide +kernel
theorem dX9_priceOf_56 : decode cX9_priceOf 56 = .ok (.iconst 2, 1) := by decide +kernel
theorem dX9_priceOf_57 : decode cX9_priceOf 57 = .ok (.iload_n 3, 1) := by decide +kernel
theorem dX9_priceOf_58 : decode cX9_priceOf 58 = .ok (.imul, 1) := by decide +kernel
theorem dX9_priceOf_59 : decode cX9_priceOf 59 = .ok (.aload_n 0, 1) := by decide +kernel
theorem dX9_priceOf_60 : decode cX9_priceOf 60 = .ok (.iload_n 1, 1) := by decide +kernel
theorem dX9_priceOf_61 : decode cX9_priceOf 61 = .ok (.iconst 1, 1) := by decide +kernel
theorem dX9_priceOf_62 : decode cX9_priceOf 62 = .ok (.invokevirtual 51, 3) := by decide +kernel
theorem dX9_priceOf_65 : decode cX9_priceOf 65 = .ok (.iadd, 1) := by decide +kernel
theorem dX9_priceOf_66 : decode cX9_priceOf 66 = .ok (.istore 4, 2) := by decide +kernel
theorem dX9_priceOf_68 : decode cX9_priceOf 68 = .ok (.goto 22, 3) := by decide +kernel
theorem dX9_priceOf_71 : decode cX9_priceOf 71 = .ok (.iconst 3, 1) := by decide +kernel
theorem dX9_priceOf_72 : decode cX9_priceOf 72 = .ok (.iload_n 3, 1) := by decide +kernel
theorem dX9_priceOf_73 : decode cX9_priceOf 73 = .ok (.imul, 1) := by decide +kernel
theorem dX9_priceOf_74 : decode cX9_priceOf 74 = .ok (.istore 4, 2) := by decide +kernel
theorem dX9_priceOf_76 : decode cX9_priceOf 76 = .ok (.goto 14, 3) := by decide +kernel
theorem dX9_priceOf_79 : decode cX9_priceOf 79 = .ok (.aload_n 0, 1) := by decide +kernel
theorem dX9_priceOf_80 : decode cX9_priceOf 80 = .ok (.iload_n 1, 1) := by decide +kernel
theorem dX9_priceOf_81 : decode cX9_priceOf 81 = .ok (.iload_n 2, 1) := by decide +kernel
theorem dX9_priceOf_82 : decode cX9_priceOf 82 = .ok (.invokevirtual 165, 3) := by decide +kernel
theorem dX9_priceOf_85 : decode cX9_priceOf 85 = .ok (.istore 4, 2) := by decide +kernel
theorem dX9_priceOf_87 : decode cX9_priceOf 87 = .ok (.goto 3, 3) := by decide +kernel
theorem dX9_priceOf_90 : decode cX9_priceOf 90 = .ok (.iload 4, 2) := by decide +kernel
theorem dX9_priceOf_92 : decode cX9_priceOf 92 = .ok (.iconst 0, 1) := by decide +kernel
theorem dX9_priceOf_93 : decode cX9_priceOf 93 = .ok (.sipush 999, 3) := by decide +kernel
theorem dX9_priceOf_96 : decode cX9_priceOf 96 = .ok (.invokestatic 162, 3) := by decide +kernel
theorem dX9_priceOf_99 : decode cX9_priceOf 99 = .ok (.ireturn, 1) := by decide +kernel
theorem dX9_price_0 : decode cX9_price 0 = .ok (.aload_n 0, 1) := by decide +kernel
theorem dX9_price_1 : decode cX9_price 1 = .ok (.iload_n 1, 1) := by decide +kernel
theorem dX9_price_2 : decode cX9_price 2 = .ok (.invokevirtual 80, 3) := by decide +kernel
theorem dX9_price_5 : decode cX9_price 5 = .ok (.ifCond .eq 19, 3) := by decide +kernel
theorem dX9_price_8 : decode cX9_price 8 = .ok (.iload_n 2, 1) := by decide +kernel
theorem dX9_price_9 : decode cX9_price 9 = .ok (.invokestatic 66, 3) := by decide +kernel
theorem dX9_price_12 : decode cX9_price 12 = .ok (.ifCond .eq 12, 3) := by decide +kernel
theorem dX9_price_15 : decode cX9_price 15 = .ok (.aload_n 0, 1) := by decide +kernel
theorem dX9_price_16 : decode cX9_price 16 = .ok (.iload_n 1, 1) := by decide +kernel
theorem dX9_price_17 : decode cX9_price 17 = .ok (.iload_n 2, 1) := by decide +kernel
theorem dX9_price_18 : decode cX9_price 18 = .ok (.invokevirtual 168, 3) := by decide +kernel
theorem dX9_price_21 : decode cX9_price 21 = .ok (.goto 8, 3) := by decide +kernel
theorem dX9_price_24 : decode cX9_price 24 = .ok (.aload_n 0, 1) := by decide +kernel
theorem dX9_price_25 : decode cX9_price 25 = .ok (.iconst 1, 1) := by decide +kernel
theorem dX9_price_26 : decode cX9_price 26 = .ok (.invokevirtual 70, 3) := by decide +kernel
theorem dX9_price_29 : decode cX9_price 29 = .ok (.ireturn, 1) := by decide +kernel
theorem dX9_fills_0 : decode cX9_fills 0 = .ok (.aload_n 0, 1) := by decide +kernel
theorem dX9_fills_1 : decode cX9_fills 1 = .ok (.iload_n 1, 1) := by decide +kernel
theorem dX9_fills_2 : decode cX9_fills 2 = .ok (.invokevirtual 80, 3) := by decide +kernel
theorem dX9_fills_5 : decode cX9_fills 5 = .ok (.ifCond .eq 19, 3) := by decide +kernel
theorem dX9_fills_8 : decode cX9_fills 8 = .ok (.iload_n 2, 1) := by decide +kernel
theorem dX9_fills_9 : decode cX9_fills 9 = .ok (.invokestatic 66, 3) := by decide +kernel
theorem dX9_fills_12 : decode cX9_fills 12 = .ok (.ifCond .eq 12, 3) := by decide +kernel
theorem dX9_fills_15 : decode cX9_fills 15 = .ok (.aload_n 0, 1) := by decide +kernel
theorem dX9_fills_16 : decode cX9_fills 16 = .ok (.iload_n 1, 1) := by decide +kernel
theorem dX9_fills_17 : decode cX9_fills 17 = .ok (.iload_n 2, 1) := by decide +kernel
theorem dX9_fills_18 : decode cX9_fills 18 = .ok (.invokevirtual 171, 3) := by decide +kernel
theorem dX9_fills_21 : decode cX9_fills 21 = .ok (.goto 8, 3) := by decide +kernel
theorem dX9_fills_24 : decode cX9_fills 24 = .ok (.aload_n 0, 1) := by decide +kernel
theorem dX9_fills_25 : decode cX9_fills 25 = .ok (.iconst 1, 1) := by decide +kernel
theorem dX9_fills_26 : decode cX9_fills 26 = .ok (.invokevirtual 70, 3) := by decide +kernel
theorem dX9_fills_29 : decode cX9_fills 29 = .ok (.ireturn, 1) := by decide +kernel
theorem dX9_gets_0 : decode cX9_gets 0 = .ok (.aload_n 0, 1) := by decide +kernel
theorem dX9_gets_1 : decode cX9_gets 1 = .ok (.iload_n 1, 1) := by decide +kernel
theorem dX9_gets_2 : decode cX9_gets 2 = .ok (.iconst 2, 1) := by decide +kernel
theorem dX9_gets_3 : decode cX9_gets 3 = .ok (.aload_n 0, 1) := by decide +kernel
theorem dX9_gets_4 : decode cX9_gets 4 = .ok (.iload_n 1, 1) := by decide +kernel
theorem dX9_gets_5 : decode cX9_gets 5 = .ok (.iconst 2, 1) := by decide +kernel
theorem dX9_gets_6 : decode cX9_gets 6 = .ok (.invokevirtual 51, 3) := by decide +kernel
theorem dX9_gets_9 : decode cX9_gets 9 = .ok (.iload_n 2, 1) := by decide +kernel
theorem dX9_gets_10 : decode cX9_gets 10 = .ok (.iadd, 1) := by decide +kernel
theorem dX9_gets_11 : decode cX9_gets 11 = .ok (.ldc 174, 2) := by decide +kernel
theorem dX9_gets_13 : decode cX9_gets 13 = .ok (.ldc 175, 2) := by decide +kernel
theorem dX9_gets_15 : decode cX9_gets 15 = .ok (.invokestatic 162, 3) := by decide +kernel
theorem dX9_gets_18 : decode cX9_gets 18 = .ok (.invokevirtual 73, 3) := by decide +kernel
theorem dX9_gets_21 : decode cX9_gets 21 = .ok (.return_, 1) := by decide +kernel
theorem dX9_hasOther_0 : decode cX9_hasOther 0 = .ok (.aload_n 0, 1) := by decide +kernel
theorem dX9_hasOther_1 : decode cX9_hasOther 1 = .ok (.iload_n 1, 1) := by decide +kernel
theorem dX9_hasOther_2 : decode cX9_hasOther 2 = .ok (.invokevirtual 55, 3) := by decide +kernel
theorem dX9_hasOther_5 : decode cX9_hasOther 5 = .ok (.iconst (-1), 1) := by decide +kernel
theorem dX9_hasOther_6 : decode cX9_hasOther 6 = .ok (.if_icmp .eq 16, 3) := by decide +kernel
theorem dX9_hasOther_9 : decode cX9_hasOther 9 = .ok (.aload_n 0, 1) := by decide +kernel
theorem dX9_hasOther_10 : decode cX9_hasOther 10 = .ok (.iload_n 1, 1) := by decide +kernel
theorem dX9_hasOther_11 : decode cX9_hasOther 11 = .ok (.invokevirtual 55, 3) := by decide +kernel
theorem dX9_hasOther_14 : decode cX9_hasOther 14 = .ok (.iload_n 1, 1) := by decide +kernel
theorem dX9_hasOther_15 : decode cX9_hasOther 15 = .ok (.if_icmp .eq 7, 3) := by decide +kernel
theorem dX9_hasOther_18 : decode cX9_hasOther 18 = .ok (.iconst 1, 1) := by decide +kernel
theorem dX9_hasOther_19 : decode cX9_hasOther 19 = .ok (.goto 4, 3) := by decide +kernel
theorem dX9_hasOther_22 : decode cX9_hasOther 22 = .ok (.iconst 0, 1) := by decide +kernel
theorem dX9_hasOther_23 : decode cX9_hasOther 23 = .ok (.ireturn, 1) := by decide +kernel
theorem dX9_buysOut_0 : decode cX9_buysOut 0 = .ok (.aload_n 0, 1) := by decide +kernel
theorem dX9_buysOut_1 : decode cX9_buysOut 1 = .ok (.iload_n 1, 1) := by decide +kernel
theorem dX9_buysOut_2 : decode cX9_buysOut 2 = .ok (.invokevirtual 55, 3) := by decide +kernel
theorem dX9_buysOut_5 : decode cX9_buysOut 5 = .ok (.istore_n 3, 1) := by decide +kernel
theorem dX9_buysOut_6 : decode cX9_buysOut 6 = .ok (.aload_n 0, 1) := by decide +kernel
theorem dX9_buysOut_7 : decode cX9_buysOut 7 = .ok (.iload_n 3, 1) := by decide +kernel
theorem dX9_buysOut_8 : decode cX9_buysOut 8 = .ok (.bipush 9, 2) := by decide +kernel
theorem dX9_buysOut_10 : decode cX9_buysOut 10 = .ok (.iload_n 2, 1) := by decide +kernel
theorem dX9_buysOut_11 : decode cX9_buysOut 11 = .ok (.iadd, 1) := by decide +kernel
theorem dX9_buysOut_12 : decode cX9_buysOut 12 = .ok (.invokevirtual 51, 3) := by decide +kernel
theorem dX9_buysOut_15 : decode cX9_buysOut 15 = .ok (.istore 4, 2) := by decide +kernel
theorem dX9_buysOut_17 : decode cX9_buysOut 17 = .ok (.iload 4, 2) := by decide +kernel
theorem dX9_buysOut_19 : decode cX9_buysOut 19 = .ok (.aload_n 0, 1) := by decide +kernel
theorem dX9_buysOut_20 : decode cX9_buysOut 20 = .ok (.iload_n 3, 1) := by decide +kernel
theorem dX9_buysOut_21 : decode cX9_buysOut 21 = .ok (.iload_n 2, 1) := by decide +kernel
theorem dX9_buysOut_22 : decode cX9_buysOut 22 = .ok (.invokevirtual 168, 3) := by decide +kernel
theorem dX9_buysOut_25 : decode cX9_buysOut 25 = .ok (.imul, 1) := by decide +kernel
theorem dX9_buysOut_26 : decode cX9_buysOut 26 = .ok (.istore 5, 2) := by decide +kernel
theorem dX9_buysOut_28 : decode cX9_buysOut 28 = .ok (.aload_n 0, 1) := by decide +kernel
theorem dX9_buysOut_29 : decode cX9_buysOut 29 = .ok (.iload_n 1, 1) := by decide +kernel
theorem dX9_buysOut_30 : decode cX9_buysOut 30 = .ok (.iload 5, 2) := by decide +kernel
theorem dX9_buysOut_32 : decode cX9_buysOut 32 = .ok (.ineg, 1) := by decide +kernel
theorem dX9_buysOut_33 : decode cX9_buysOut 33 = .ok (.invokevirtual 176, 3) := by decide +kernel
theorem dX9_buysOut_36 : decode cX9_buysOut 36 = .ok (.aload_n 0, 1) := by decide +kernel
theorem dX9_buysOut_37 : decode cX9_buysOut 37 = .ok (.iload_n 3, 1) := by decide +kernel
theorem dX9_buysOut_38 : decode cX9_buysOut 38 = .ok (.iload 5, 2) := by decide +kernel
theorem dX9_buysOut_40 : decode cX9_buysOut 40 = .ok (.invokevirtual 176, 3) := by decide +kernel
theorem dX9_buysOut_43 : decode cX9_buysOut 43 = .ok (.aload_n 0, 1) := by decide +kernel
theorem dX9_buysOut_44 : decode cX9_buysOut 44 = .ok (.iload_n 3, 1) := by decide +kernel
theorem dX9_buysOut_45 : decode cX9_buysOut 45 = .ok (.bipush 9, 2) := by decide +kernel
theorem dX9_buysOut_47 : decode cX9_buysOut 47 = .ok (.iload_n 2, 1) := by decide +kernel
theorem dX9_buysOut_48 : decode cX9_buysOut 48 = .ok (.iadd, 1) := by decide +kernel
theorem dX9_buysOut_49 : decode cX9_buysOut 49 = .ok (.iconst 0, 1) := by decide +kernel
theorem dX9_buysOut_50 : decode cX9_buysOut 50 = .ok (.invokevirtual 73, 3) := by decide +kernel
theorem dX9_buysOut_53 : decode cX9_buysOut 53 = .ok (.aload_n 0, 1) := by decide +kernel
theorem dX9_buysOut_54 : decode cX9_buysOut 54 = .ok (.iload_n 1, 1) := by decide +kernel
theorem dX9_buysOut_55 : decode cX9_buysOut 55 = .ok (.bipush 9, 2) := by decide +kernel
theorem dX9_buysOut_57 : decode cX9_buysOut 57 = .ok (.iload_n 2, 1) := by decide +kernel
theorem dX9_buysOut_58 : decode cX9_buysOut 58 = .ok (.iadd, 1) := by decide +kernel
theorem dX9_buysOut_59 : decode cX9_buysOut 59 = .ok (.aload_n 0, 1) := by decide +kernel
theorem dX9_buysOut_60 : decode cX9_buysOut 60 = .ok (.iload_n 1, 1) := by decide +kernel
theorem dX9_buysOut_61 : decode cX9_buysOut 61 = .ok (.bipush 9, 2) := by decide +kernel
theorem dX9_buysOut_63 : decode cX9_buysOut 63 = .ok (.iload_n 2, 1) := by decide +kernel
theorem dX9_buysOut_64 : decode cX9_buysOut 64 = .ok (.iadd, 1) := by decide +kernel
theorem dX9_buysOut_65 : decode cX9_buysOut 65 = .ok (.invokevirtual 51, 3) := by decide +kernel
theorem dX9_buysOut_68 : decode cX9_buysOut 68 = .ok (.iload 4, 2) := by decide +kernel
theorem dX9_buysOut_70 : decode cX9_buysOut 70 = .ok (.iadd, 1) := by decide +kernel
theorem dX9_buysOut_71 : decode cX9_buysOut 71 = .ok (.iconst 0, 1) := by decide +kernel
theorem dX9_buysOut_72 : decode cX9_buysOut 72 = .ok (.bipush 99, 2) := by decide +kernel
theorem dX9_buysOut_74 : decode cX9_buysOut 74 = .ok (.invokestatic 162, 3) := by decide +kernel
theorem dX9_buysOut_77 : decode cX9_buysOut 77 = .ok (.invokevirtual 73, 3) := by decide +kernel
theorem dX9_buysOut_80 : decode cX9_buysOut 80 = .ok (.return_, 1) := by decide +kernel
theorem dX9_buys_0 : decode cX9_buys 0 = .ok (.aload_n 0, 1) := by decide +kernel
theorem dX9_buys_1 : decode cX9_buys 1 = .ok (.iload_n 1, 1) := by decide +kernel
theorem dX9_buys_2 : decode cX9_buys 2 = .ok (.iconst 0, 1) := by decide +kernel
theorem dX9_buys_3 : decode cX9_buys 3 = .ok (.invokevirtual 51, 3) := by decide +kernel
theorem dX9_buys_6 : decode cX9_buys 6 = .ok (.iconst 5, 1) := by decide +kernel
theorem dX9_buys_7 : decode cX9_buys 7 = .ok (.if_icmp .ne 11, 3) := by decide +kernel
theorem dX9_buys_10 : decode cX9_buys 10 = .ok (.aload_n 0, 1) := by decide +kernel
theorem dX9_buys_11 : decode cX9_buys 11 = .ok (.iload_n 1, 1) := by decide +kernel
theorem dX9_buys_12 : decode cX9_buys 12 = .ok (.invokevirtual 179, 3) := by decide +kernel
theorem dX9_buys_15 : decode cX9_buys 15 = .ok (.ifCond .ne 4, 3) := by decide +kernel
theorem dX9_buys_18 : decode cX9_buys 18 = .ok (.return_, 1) := by decide +kernel
theorem dX9_buys_19 : decode cX9_buys 19 = .ok (.iconst 0, 1) := by decide +kernel
theorem dX9_buys_20 : decode cX9_buys 20 = .ok (.istore_n 2, 1) := by decide +kernel
theorem dX9_buys_21 : decode cX9_buys 21 = .ok (.iload_n 2, 1) := by decide +kernel
theorem dX9_buys_22 : decode cX9_buys 22 = .ok (.bipush 6, 2) := by decide +kernel
theorem dX9_buys_24 : decode cX9_buys 24 = .ok (.if_icmp .ge 56, 3) := by decide +kernel
theorem dX9_buys_27 : decode cX9_buys 27 = .ok (.aload_n 0, 1) := by decide +kernel
theorem dX9_buys_28 : decode cX9_buys 28 = .ok (.aload_n 0, 1) := by decide +kernel
theorem dX9_buys_29 : decode cX9_buys 29 = .ok (.iload_n 1, 1) := by decide +kernel
theorem dX9_buys_30 : decode cX9_buys 30 = .ok (.invokevirtual 55, 3) := by decide +kernel
theorem dX9_buys_33 : decode cX9_buys 33 = .ok (.bipush 9, 2) := by decide +kernel
theorem dX9_buys_35 : decode cX9_buys 35 = .ok (.iload_n 2, 1) := by decide +kernel
theorem dX9_buys_36 : decode cX9_buys 36 = .ok (.iadd, 1) := by decide +kernel
theorem dX9_buys_37 : decode cX9_buys 37 = .ok (.invokevirtual 51, 3) := by decide +kernel
theorem dX9_buys_40 : decode cX9_buys 40 = .ok (.istore_n 3, 1) := by decide +kernel
theorem dX9_buys_41 : decode cX9_buys 41 = .ok (.aload_n 0, 1) := by decide +kernel
theorem dX9_buys_42 : decode cX9_buys 42 = .ok (.iload_n 1, 1) := by decide +kernel
theorem dX9_buys_43 : decode cX9_buys 43 = .ok (.bipush 9, 2) := by decide +kernel
theorem dX9_buys_45 : decode cX9_buys 45 = .ok (.iload_n 2, 1) := by decide +kernel
theorem dX9_buys_46 : decode cX9_buys 46 = .ok (.iadd, 1) := by decide +kernel
theorem dX9_buys_47 : decode cX9_buys 47 = .ok (.invokevirtual 51, 3) := by decide +kernel
theorem dX9_buys_50 : decode cX9_buys 50 = .ok (.ifCond .le 24, 3) := by decide +kernel
theorem dX9_buys_53 : decode cX9_buys 53 = .ok (.iload_n 3, 1) := by decide +kernel
theorem dX9_buys_54 : decode cX9_buys 54 = .ok (.iconst 1, 1) := by decide +kernel
theorem dX9_buys_55 : decode cX9_buys 55 = .ok (.aload_n 0, 1) := by decide +kernel
theorem dX9_buys_56 : decode cX9_buys 56 = .ok (.iload_n 1, 1) := by decide +kernel
theorem dX9_buys_57 : decode cX9_buys 57 = .ok (.iconst 1, 1) := by decide +kernel
theorem dX9_buys_58 : decode cX9_buys 58 = .ok (.invokevirtual 51, 3) := by decide +kernel
theorem dX9_buys_61 : decode cX9_buys 61 = .ok (.invokestatic 47, 3) := by decide +kernel
theorem dX9_buys_64 : decode cX9_buys 64 = .ok (.ifCond .eq 10, 3) := by decide +kernel
theorem dX9_buys_67 : decode cX9_buys 67 = .ok (.aload_n 0, 1) := by decide +kernel
theorem dX9_buys_68 : decode cX9_buys 68 = .ok (.iload_n 1, 1) := by decide +kernel
theorem dX9_buys_69 : decode cX9_buys 69 = .ok (.iload_n 2, 1) := by decide +kernel
theorem dX9_buys_70 : decode cX9_buys 70 = .ok (.invokevirtual 182, 3) := by decide +kernel
theorem dX9_buys_73 : decode cX9_buys 73 = .ok (.return_, 1) := by decide +kernel
theorem dX9_buys_74 : decode cX9_buys 74 = .ok (.iinc 2 1, 3) := by decide +kernel
theorem dX9_buys_77 : decode cX9_buys 77 = .ok (.goto (-56), 3) := by decide +kernel
theorem dX9_buys_80 : decode cX9_buys 80 = .ok (.return_, 1) := by decide +kernel
theorem dX9_fillAll_0 : decode cX9_fillAll 0 = .ok (.iconst 0, 1) := by decide +kernel
theorem dX9_fillAll_1 : decode cX9_fillAll 1 = .ok (.istore_n 2, 1) := by decide +kernel
theorem dX9_fillAll_2 : decode cX9_fillAll 2 = .ok (.iload_n 2, 1) := by decide +kernel
theorem dX9_fillAll_3 : decode cX9_fillAll 3 = .ok (.bipush 6, 2) := by decide +kernel
theorem dX9_fillAll_5 : decode cX9_fillAll 5 = .ok (.if_icmp .ge 66, 3) := by decide +kernel
theorem dX9_fillAll_8 : decode cX9_fillAll 8 = .ok (.aload_n 0, 1) := by decide +kernel
theorem dX9_fillAll_9 : decode cX9_fillAll 9 = .ok (.iload_n 1, 1) := by decide +kernel
theorem dX9_fillAll_10 : decode cX9_fillAll 10 = .ok (.iload_n 2, 1) := by decide +kernel
theorem dX9_fillAll_11 : decode cX9_fillAll 11 = .ok (.invokevirtual 171, 3) := by decide +kernel
theorem dX9_fillAll_14 : decode cX9_fillAll 14 = .ok (.istore_n 3, 1) := by decide +kernel
theorem dX9_fillAll_15 : decode cX9_fillAll 15 = .ok (.iload_n 3, 1) := by decide +kernel
theorem dX9_fillAll_16 : decode cX9_fillAll 16 = .ok (.aload_n 0, 1) := by decide +kernel
theorem dX9_fillAll_17 : decode cX9_fillAll 17 = .ok (.iload_n 1, 1) := by decide +kernel
theorem dX9_fillAll_18 : decode cX9_fillAll 18 = .ok (.bipush 9, 2) := by decide +kernel
theorem dX9_fillAll_20 : decode cX9_fillAll 20 = .ok (.iload_n 2, 1) := by decide +kernel
theorem dX9_fillAll_21 : decode cX9_fillAll 21 = .ok (.iadd, 1) := by decide +kernel
theorem dX9_fillAll_22 : decode cX9_fillAll 22 = .ok (.invokevirtual 51, 3) := by decide +kernel
theorem dX9_fillAll_25 : decode cX9_fillAll 25 = .ok (.isub, 1) := by decide +kernel
theorem dX9_fillAll_26 : decode cX9_fillAll 26 = .ok (.istore 4, 2) := by decide +kernel
theorem dX9_fillAll_28 : decode cX9_fillAll 28 = .ok (.aload_n 0, 1) := by decide +kernel
theorem dX9_fillAll_29 : decode cX9_fillAll 29 = .ok (.iload_n 1, 1) := by decide +kernel
theorem dX9_fillAll_30 : decode cX9_fillAll 30 = .ok (.iload 4, 2) := by decide +kernel
theorem dX9_fillAll_32 : decode cX9_fillAll 32 = .ok (.ifCond .le 19, 3) := by decide +kernel
theorem dX9_fillAll_35 : decode cX9_fillAll 35 = .ok (.iload 4, 2) := by decide +kernel
theorem dX9_fillAll_37 : decode cX9_fillAll 37 = .ok (.ineg, 1) := by decide +kernel
theorem dX9_fillAll_38 : decode cX9_fillAll 38 = .ok (.aload_n 0, 1) := by decide +kernel
theorem dX9_fillAll_39 : decode cX9_fillAll 39 = .ok (.getfield 7, 3) := by decide +kernel
theorem dX9_fillAll_42 : decode cX9_fillAll 42 = .ok (.bipush 10, 2) := by decide +kernel
theorem dX9_fillAll_44 : decode cX9_fillAll 44 = .ok (.iload_n 2, 1) := by decide +kernel
theorem dX9_fillAll_45 : decode cX9_fillAll 45 = .ok (.iadd, 1) := by decide +kernel
theorem dX9_fillAll_46 : decode cX9_fillAll 46 = .ok (.iaload, 1) := by decide +kernel
theorem dX9_fillAll_47 : decode cX9_fillAll 47 = .ok (.imul, 1) := by decide +kernel
theorem dX9_fillAll_48 : decode cX9_fillAll 48 = .ok (.goto 4, 3) := by decide +kernel
theorem dX9_fillAll_51 : decode cX9_fillAll 51 = .ok (.iconst 0, 1) := by decide +kernel
theorem dX9_fillAll_52 : decode cX9_fillAll 52 = .ok (.invokevirtual 176, 3) := by decide +kernel
theorem dX9_fillAll_55 : decode cX9_fillAll 55 = .ok (.aload_n 0, 1) := by decide +kernel
theorem dX9_fillAll_56 : decode cX9_fillAll 56 = .ok (.iload_n 1, 1) := by decide +kernel
theorem dX9_fillAll_57 : decode cX9_fillAll 57 = .ok (.bipush 9, 2) := by decide +kernel
theorem dX9_fillAll_59 : decode cX9_fillAll 59 = .ok (.iload_n 2, 1) := by decide +kernel
theorem dX9_fillAll_60 : decode cX9_fillAll 60 = .ok (.iadd, 1) := by decide +kernel
theorem dX9_fillAll_61 : decode cX9_fillAll 61 = .ok (.iload_n 3, 1) := by decide +kernel
theorem dX9_fillAll_62 : decode cX9_fillAll 62 = .ok (.invokevirtual 73, 3) := by decide +kernel
theorem dX9_fillAll_65 : decode cX9_fillAll 65 = .ok (.iinc 2 1, 3) := by decide +kernel
theorem dX9_fillAll_68 : decode cX9_fillAll 68 = .ok (.goto (-66), 3) := by decide +kernel
theorem dX9_fillAll_71 : decode cX9_fillAll 71 = .ok (.return_, 1) := by decide +kernel
theorem dX9_dawns_0 : decode cX9_dawns 0 = .ok (.iconst 0, 1) := by decide +kernel
theorem dX9_dawns_1 : decode cX9_dawns 1 = .ok (.istore_n 1, 1) := by decide +kernel
theorem dX9_dawns_2 : decode cX9_dawns 2 = .ok (.iload_n 1, 1) := by decide +kernel
theorem dX9_dawns_3 : decode cX9_dawns 3 = .ok (.aload_n 0, 1) := by decide +kernel
theorem dX9_dawns_4 : decode cX9_dawns 4 = .ok (.getfield 7, 3) := by decide +kernel
theorem dX9_dawns_7 : decode cX9_dawns 7 = .ok (.iconst 0, 1) := by decide +kernel
theorem dX9_dawns_8 : decode cX9_dawns 8 = .ok (.iaload, 1) := by decide +kernel
theorem dX9_dawns_9 : decode cX9_dawns 9 = .ok (.if_icmp .ge 14, 3) := by decide +kernel
theorem dX9_dawns_12 : decode cX9_dawns 12 = .ok (.aload_n 0, 1) := by decide +kernel
theorem dX9_dawns_13 : decode cX9_dawns 13 = .ok (.iload_n 1, 1) := by decide +kernel
theorem dX9_dawns_14 : decode cX9_dawns 14 = .ok (.invokevirtual 185, 3) := by decide +kernel
theorem dX9_dawns_17 : decode cX9_dawns 17 = .ok (.iinc 1 1, 3) := by decide +kernel
theorem dX9_dawns_20 : decode cX9_dawns 20 = .ok (.goto (-18), 3) := by decide +kernel
theorem dX9_dawns_23 : decode cX9_dawns 23 = .ok (.iconst 0, 1) := by decide +kernel
theorem dX9_dawns_24 : decode cX9_dawns 24 = .ok (.istore_n 1, 1) := by decide +kernel
theorem dX9_dawns_25 : decode cX9_dawns 25 = .ok (.iload_n 1, 1) := by decide +kernel
theorem dX9_dawns_26 : decode cX9_dawns 26 = .ok (.aload_n 0, 1) := by decide +kernel
theorem dX9_dawns_27 : decode cX9_dawns 27 = .ok (.getfield 7, 3) := by decide +kernel
theorem dX9_dawns_30 : decode cX9_dawns 30 = .ok (.iconst 0, 1) := by decide +kernel
theorem dX9_dawns_31 : decode cX9_dawns 31 = .ok (.iaload, 1) := by decide +kernel
theorem dX9_dawns_32 : decode cX9_dawns 32 = .ok (.if_icmp .ge 14, 3) := by decide +kernel
theorem dX9_dawns_35 : decode cX9_dawns 35 = .ok (.aload_n 0, 1) := by decide +kernel
theorem dX9_dawns_36 : decode cX9_dawns 36 = .ok (.iload_n 1, 1) := by decide +kernel
theorem dX9_dawns_37 : decode cX9_dawns 37 = .ok (.invokevirtual 189, 3) := by decide +kernel
theorem dX9_dawns_40 : decode cX9_dawns 40 = .ok (.iinc 1 1, 3) := by decide +kernel
theorem dX9_dawns_43 : decode cX9_dawns 43 = .ok (.goto (-18), 3) := by decide +kernel
theorem dX9_dawns_46 : decode cX9_dawns 46 = .ok (.iconst 0, 1) := by decide +kernel
theorem dX9_dawns_47 : decode cX9_dawns 47 = .ok (.istore_n 1, 1) := by decide +kernel
theorem dX9_dawns_48 : decode cX9_dawns 48 = .ok (.iload_n 1, 1) := by decide +kernel
theorem dX9_dawns_49 : decode cX9_dawns 49 = .ok (.aload_n 0, 1) := by decide +kernel
theorem dX9_dawns_50 : decode cX9_dawns 50 = .ok (.getfield 7, 3) := by decide +kernel
theorem dX9_dawns_53 : decode cX9_dawns 53 = .ok (.iconst 0, 1) := by decide +kernel
theorem dX9_dawns_54 : decode cX9_dawns 54 = .ok (.iaload, 1) := by decide +kernel
theorem dX9_dawns_55 : decode cX9_dawns 55 = .ok (.if_icmp .ge 41, 3) := by decide +kernel
theorem dX9_dawns_58 : decode cX9_dawns 58 = .ok (.iconst 0, 1) := by decide +kernel
theorem dX9_dawns_59 : decode cX9_dawns 59 = .ok (.istore_n 2, 1) := by decide +kernel
theorem dX9_dawns_60 : decode cX9_dawns 60 = .ok (.iload_n 2, 1) := by decide +kernel
theorem dX9_dawns_61 : decode cX9_dawns 61 = .ok (.bipush 6, 2) := by decide +kernel
theorem dX9_dawns_63 : decode cX9_dawns 63 = .ok (.if_icmp .ge 27, 3) := by decide +kernel
theorem dX9_dawns_66 : decode cX9_dawns 66 = .ok (.aload_n 0, 1) := by decide +kernel
theorem dX9_dawns_67 : decode cX9_dawns 67 = .ok (.iload_n 1, 1) := by decide +kernel
theorem dX9_dawns_68 : decode cX9_dawns 68 = .ok (.bipush 15, 2) := by decide +kernel
theorem dX9_dawns_70 : decode cX9_dawns 70 = .ok (.iload_n 2, 1) := by decide +kernel
theorem dX9_dawns_71 : decode cX9_dawns 71 = .ok (.iadd, 1) := by decide +kernel
theorem dX9_dawns_72 : decode cX9_dawns 72 = .ok (.aload_n 0, 1) := by decide +kernel
theorem dX9_dawns_73 : decode cX9_dawns 73 = .ok (.iload_n 1, 1) := by decide +kernel
theorem dX9_dawns_74 : decode cX9_dawns 74 = .ok (.bipush 9, 2) := by decide +kernel
theorem dX9_dawns_76 : decode cX9_dawns 76 = .ok (.iload_n 2, 1) := by decide +kernel
theorem dX9_dawns_77 : decode cX9_dawns 77 = .ok (.iadd, 1) := by decide +kernel
theorem dX9_dawns_78 : decode cX9_dawns 78 = .ok (.invokevirtual 51, 3) := by decide +kernel
theorem dX9_dawns_81 : decode cX9_dawns 81 = .ok (.invokevirtual 73, 3) := by decide +kernel
theorem dX9_dawns_84 : decode cX9_dawns 84 = .ok (.iinc 2 1, 3) := by decide +kernel
theorem dX9_dawns_87 : decode cX9_dawns 87 = .ok (.goto (-27), 3) := by decide +kernel
theorem dX9_dawns_90 : decode cX9_dawns 90 = .ok (.iinc 1 1, 3) := by decide +kernel
theorem dX9_dawns_93 : decode cX9_dawns 93 = .ok (.goto (-45), 3) := by decide +kernel
theorem dX9_dawns_96 : decode cX9_dawns 96 = .ok (.return_, 1) := by decide +kernel
theorem dX9_morning_0 : decode cX9_morning 0 = .ok (.aload_n 0, 1) := by decide +kernel
theorem dX9_morning_1 : decode cX9_morning 1 = .ok (.invokevirtual 192, 3) := by decide +kernel
theorem dX9_morning_4 : decode cX9_morning 4 = .ok (.iconst 0, 1) := by decide +kernel
theorem dX9_morning_5 : decode cX9_morning 5 = .ok (.istore_n 1, 1) := by decide +kernel
theorem dX9_morning_6 : decode cX9_morning 6 = .ok (.iconst 0, 1) := by decide +kernel
theorem dX9_morning_7 : decode cX9_morning 7 = .ok (.istore_n 2, 1) := by decide +kernel
theorem dX9_morning_8 : decode cX9_morning 8 = .ok (.iload_n 2, 1) := by decide +kernel
theorem dX9_morning_9 : decode cX9_morning 9 = .ok (.aload_n 0, 1) := by decide +kernel
theorem dX9_morning_10 : decode cX9_morning 10 = .ok (.getfield 7, 3) := by decide +kernel
theorem dX9_morning_13 : decode cX9_morning 13 = .ok (.iconst 0, 1) := by decide +kernel
theorem dX9_morning_14 : decode cX9_morning 14 = .ok (.iaload, 1) := by decide +kernel
theorem dX9_morning_15 : decode cX9_morning 15 = .ok (.if_icmp .ge 35, 3) := by decide +kernel
theorem dX9_morning_18 : decode cX9_morning 18 = .ok (.iconst 0, 1) := by decide +kernel
theorem dX9_morning_19 : decode cX9_morning 19 = .ok (.istore_n 3, 1) := by decide +kernel
theorem dX9_morning_20 : decode cX9_morning 20 = .ok (.iload_n 3, 1) := by decide +kernel
theorem dX9_morning_21 : decode cX9_morning 21 = .ok (.bipush 6, 2) := by decide +kernel
theorem dX9_morning_23 : decode cX9_morning 23 = .ok (.if_icmp .ge 21, 3) := by decide +kernel
theorem dX9_morning_26 : decode cX9_morning 26 = .ok (.iload_n 1, 1) := by decide +kernel
theorem dX9_morning_27 : decode cX9_morning 27 = .ok (.aload_n 0, 1) := by decide +kernel
theorem dX9_morning_28 : decode cX9_morning 28 = .ok (.iload_n 2, 1) := by decide +kernel
theorem dX9_morning_29 : decode cX9_morning 29 = .ok (.bipush 9, 2) := by decide +kernel
theorem dX9_morning_31 : decode cX9_morning 31 = .ok (.iload_n 3, 1) := by decide +kernel
theorem dX9_morning_32 : decode cX9_morning 32 = .ok (.iadd, 1) := by decide +kernel
theorem dX9_morning_33 : decode cX9_morning 33 = .ok (.invokevirtual 51, 3) := by decide +kernel
theorem dX9_morning_36 : decode cX9_morning 36 = .ok (.iadd, 1) := by decide +kernel
theorem dX9_morning_37 : decode cX9_morning 37 = .ok (.istore_n 1, 1) := by decide +kernel
theorem dX9_morning_38 : decode cX9_morning 38 = .ok (.iinc 3 1, 3) := by decide +kernel
theorem dX9_morning_41 : decode cX9_morning 41 = .ok (.goto (-21), 3) := by decide +kernel
theorem dX9_morning_44 : decode cX9_morning 44 = .ok (.iinc 2 1, 3) := by decide +kernel
theorem dX9_morning_47 : decode cX9_morning 47 = .ok (.goto (-39), 3) := by decide +kernel
theorem dX9_morning_50 : decode cX9_morning 50 = .ok (.iload_n 1, 1) := by decide +kernel
theorem dX9_morning_51 : decode cX9_morning 51 = .ok (.ireturn, 1) := by decide +kernel
theorem dX9_shopOn_0 : decode cX9_shopOn 0 = .ok (.aload_n 0, 1) := by decide +kernel
theorem dX9_shopOn_1 : decode cX9_shopOn 1 = .ok (.getfield 7, 3) := by decide +kernel
theorem dX9_shopOn_4 : decode cX9_shopOn 4 = .ok (.iconst 0, 1) := by decide +kernel
theorem dX9_shopOn_5 : decode cX9_shopOn 5 = .ok (.iaload, 1) := by decide +kernel
theorem dX9_shopOn_6 : decode cX9_shopOn 6 = .ok (.istore_n 3, 1) := by decide +kernel
theorem dX9_shopOn_7 : decode cX9_shopOn 7 = .ok (.iload_n 3, 1) := by decide +kernel
theorem dX9_shopOn_8 : decode cX9_shopOn 8 = .ok (.ifCond .eq 17, 3) := by decide +kernel
theorem dX9_shopOn_11 : decode cX9_shopOn 11 = .ok (.aload_n 0, 1) := by decide +kernel
theorem dX9_shopOn_12 : decode cX9_shopOn 12 = .ok (.getfield 7, 3) := by decide +kernel
theorem dX9_shopOn_15 : decode cX9_shopOn 15 = .ok (.iconst 4, 1) := by decide +kernel
theorem dX9_shopOn_16 : decode cX9_shopOn 16 = .ok (.iaload, 1) := by decide +kernel
theorem dX9_shopOn_17 : decode cX9_shopOn 17 = .ok (.ifCond .ne 10, 3) := by decide +kernel
theorem dX9_shopOn_20 : decode cX9_shopOn 20 = .ok (.iload_n 2, 1) := by decide +kernel
theorem dX9_shopOn_21 : decode cX9_shopOn 21 = .ok (.iload_n 3, 1) := by decide +kernel
theorem dX9_shopOn_22 : decode cX9_shopOn 22 = .ok (.if_icmp .lt 5, 3) := by decide +kernel
theorem dX9_shopOn_25 : decode cX9_shopOn 25 = .ok (.iconst (-1), 1) := by decide +kernel
theorem dX9_shopOn_26 : decode cX9_shopOn 26 = .ok (.ireturn, 1) := by decide +kernel
theorem dX9_shopOn_27 : decode cX9_shopOn 27 = .ok (.aload_n 0, 1) := by decide +kernel
theorem dX9_shopOn_28 : decode cX9_shopOn 28 = .ok (.iload_n 1, 1) := by decide +kernel
theorem dX9_shopOn_29 : decode cX9_shopOn 29 = .ok (.iconst 2, 1) := by decide +kernel
theorem dX9_shopOn_30 : decode cX9_shopOn 30 = .ok (.invokevirtual 98, 3) := by decide +kernel
theorem dX9_shopOn_33 : decode cX9_shopOn 33 = .ok (.ifCond .ne 9, 3) := by decide +kernel
theorem dX9_shopOn_36 : decode cX9_shopOn 36 = .ok (.iload_n 2, 1) := by decide +kernel
theorem dX9_shopOn_37 : decode cX9_shopOn 37 = .ok (.iload_n 3, 1) := by decide +kernel
theorem dX9_shopOn_38 : decode cX9_shopOn 38 = .ok (.irem, 1) := by decide +kernel
theorem dX9_shopOn_39 : decode cX9_shopOn 39 = .ok (.goto 10, 3) := by decide +kernel
theorem dX9_shopOn_42 : decode cX9_shopOn 42 = .ok (.iload_n 3, 1) := by decide +kernel
theorem dX9_shopOn_43 : decode cX9_shopOn 43 = .ok (.iconst 1, 1) := by decide +kernel
theorem dX9_shopOn_44 : decode cX9_shopOn 44 = .ok (.isub, 1) := by decide +kernel
theorem dX9_shopOn_45 : decode cX9_shopOn 45 = .ok (.iload_n 2, 1) := by decide +kernel
theorem dX9_shopOn_46 : decode cX9_shopOn 46 = .ok (.iload_n 3, 1) := by decide +kernel
theorem dX9_shopOn_47 : decode cX9_shopOn 47 = .ok (.irem, 1) := by decide +kernel
theorem dX9_shopOn_48 : decode cX9_shopOn 48 = .ok (.isub, 1) := by decide +kernel
theorem dX9_shopOn_49 : decode cX9_shopOn 49 = .ok (.ireturn, 1) := by decide +kernel
theorem dX9_visits_0 : decode cX9_visits 0 = .ok (.iconst 0, 1) := by decide +kernel
theorem dX9_visits_1 : decode cX9_visits 1 = .ok (.istore_n 2, 1) := by decide +kernel
theorem dX9_visits_2 : decode cX9_visits 2 = .ok (.aload_n 0, 1) := by decide +kernel
theorem dX9_visits_3 : decode cX9_visits 3 = .ok (.iload_n 1, 1) := by decide +kernel
theorem dX9_visits_4 : decode cX9_visits 4 = .ok (.iconst 3, 1) := by decide +kernel
theorem dX9_visits_5 : decode cX9_visits 5 = .ok (.invokevirtual 98, 3) := by decide +kernel
theorem dX9_visits_8 : decode cX9_visits 8 = .ok (.istore_n 3, 1) := by decide +kernel
theorem dX9_visits_9 : decode cX9_visits 9 = .ok (.iconst 0, 1) := by decide +kernel
theorem dX9_visits_10 : decode cX9_visits 10 = .ok (.istore 4, 2) := by decide +kernel
theorem dX9_visits_12 : decode cX9_visits 12 = .ok (.iload 4, 2) := by decide +kernel
theorem dX9_visits_14 : decode cX9_visits 14 = .ok (.aload_n 0, 1) := by decide +kernel
theorem dX9_visits_15 : decode cX9_visits 15 = .ok (.iload_n 1, 1) := by decide +kernel
theorem dX9_visits_16 : decode cX9_visits 16 = .ok (.iconst 1, 1) := by decide +kernel
theorem dX9_visits_17 : decode cX9_visits 17 = .ok (.invokevirtual 98, 3) := by decide +kernel
theorem dX9_visits_20 : decode cX9_visits 20 = .ok (.if_icmp .ge 158, 3) := by decide +kernel
theorem dX9_visits_23 : decode cX9_visits 23 = .ok (.aload_n 0, 1) := by decide +kernel
theorem dX9_visits_24 : decode cX9_visits 24 = .ok (.iload_n 1, 1) := by decide +kernel
theorem dX9_visits_25 : decode cX9_visits 25 = .ok (.iload 4, 2) := by decide +kernel
theorem dX9_visits_27 : decode cX9_visits 27 = .ok (.invokevirtual 195, 3) := by decide +kernel
theorem dX9_visits_30 : decode cX9_visits 30 = .ok (.iconst (-1), 1) := by decide +kernel
theorem dX9_visits_31 : decode cX9_visits 31 = .ok (.if_icmp .eq 147, 3) := by decide +kernel
theorem dX9_visits_34 : decode cX9_visits 34 = .ok (.aload_n 0, 1) := by decide +kernel
theorem dX9_visits_35 : decode cX9_visits 35 = .ok (.iload_n 1, 1) := by decide +kernel
theorem dX9_visits_36 : decode cX9_visits 36 = .ok (.iload 4, 2) := by decide +kernel
theorem dX9_visits_38 : decode cX9_visits 38 = .ok (.invokevirtual 195, 3) := by decide +kernel
theorem dX9_visits_41 : decode cX9_visits 41 = .ok (.istore 5, 2) := by decide +kernel
theorem dX9_visits_43 : decode cX9_visits 43 = .ok (.iconst 0, 1) := by decide +kernel
theorem dX9_visits_44 : decode cX9_visits 44 = .ok (.istore 6, 2) := by decide +kernel
theorem dX9_visits_46 : decode cX9_visits 46 = .ok (.iload 6, 2) := by decide +kernel
theorem dX9_visits_48 : decode cX9_visits 48 = .ok (.bipush 6, 2) := by decide +kernel
theorem dX9_visits_50 : decode cX9_visits 50 = .ok (.if_icmp .ge 122, 3) := by decide +kernel
theorem dX9_visits_53 : decode cX9_visits 53 = .ok (.aload_n 0, 1) := by decide +kernel
theorem dX9_visits_54 : decode cX9_visits 54 = .ok (.iload_n 1, 1) := by decide +kernel
theorem dX9_visits_55 : decode cX9_visits 55 = .ok (.iconst 0, 1) := by decide +kernel
theorem dX9_visits_56 : decode cX9_visits 56 = .ok (.invokevirtual 98, 3) := by decide +kernel
theorem dX9_visits_59 : decode cX9_visits 59 = .ok (.iload 6, 2) := by decide +kernel
theorem dX9_visits_61 : decode cX9_visits 61 = .ok (.ishr, 1) := by decide +kernel
theorem dX9_visits_62 : decode cX9_visits 62 = .ok (.iconst 1, 1) := by decide +kernel
theorem dX9_visits_63 : decode cX9_visits 63 = .ok (.iand, 1) := by decide +kernel
theorem dX9_visits_64 : decode cX9_visits 64 = .ok (.iconst 1, 1) := by decide +kernel
theorem dX9_visits_65 : decode cX9_visits 65 = .ok (.if_icmp .ne 16, 3) := by decide +kernel
theorem dX9_visits_68 : decode cX9_visits 68 = .ok (.iload_n 2, 1) := by decide +kernel
theorem dX9_visits_69 : decode cX9_visits 69 = .ok (.iload 6, 2) := by decide +kernel
theorem dX9_visits_71 : decode cX9_visits 71 = .ok (.ishr, 1) := by decide +kernel
theorem dX9_visits_72 : decode cX9_visits 72 = .ok (.iconst 1, 1) := by decide +kernel
theorem dX9_visits_73 : decode cX9_visits 73 = .ok (.iand, 1) := by decide +kernel
theorem dX9_visits_74 : decode cX9_visits 74 = .ok (.ifCond .ne 7, 3) := by decide +kernel
theorem dX9_visits_77 : decode cX9_visits 77 = .ok (.iconst 1, 1) := by decide +kernel
theorem dX9_visits_78 : decode cX9_visits 78 = .ok (.goto 4, 3) := by decide +kernel
theorem dX9_visits_81 : decode cX9_visits 81 = .ok (.iconst 0, 1) := by decide +kernel
theorem dX9_visits_82 : decode cX9_visits 82 = .ok (.istore 7, 2) := by decide +kernel
theorem dX9_visits_84 : decode cX9_visits 84 = .ok (.iload 7, 2) := by decide +kernel
theorem dX9_visits_86 : decode cX9_visits 86 = .ok (.ifCond .eq 80, 3) := by decide +kernel
theorem dX9_visits_89 : decode cX9_visits 89 = .ok (.aload_n 0, 1) := by decide +kernel
theorem dX9_visits_90 : decode cX9_visits 90 = .ok (.iload 5, 2) := by decide +kernel
theorem dX9_visits_92 : decode cX9_visits 92 = .ok (.iload 6, 2) := by decide +kernel
theorem dX9_visits_94 : decode cX9_visits 94 = .ok (.invokevirtual 62, 3) := by decide +kernel
theorem dX9_visits_97 : decode cX9_visits 97 = .ok (.ifCond .eq 69, 3) := by decide +kernel
theorem dX9_visits_100 : decode cX9_visits 100 = .ok (.aload_n 0, 1) := by decide +kernel
theorem dX9_visits_101 : decode cX9_visits 101 = .ok (.iload 5, 2) := by decide +kernel
theorem dX9_visits_103 : decode cX9_visits 103 = .ok (.iload 6, 2) := by decide +kernel
theorem dX9_visits_105 : decode cX9_visits 105 = .ok (.invokevirtual 168, 3) := by decide +kernel
theorem dX9_visits_108 : decode cX9_visits 108 = .ok (.iload_n 3, 1) := by decide +kernel
theorem dX9_visits_109 : decode cX9_visits 109 = .ok (.if_icmp .gt 57, 3) := by decide +kernel
theorem dX9_visits_112 : decode cX9_visits 112 = .ok (.aload_n 0, 1) := by decide +kernel
theorem dX9_visits_113 : decode cX9_visits 113 = .ok (.iload 5, 2) := by decide +kernel
theorem dX9_visits_115 : decode cX9_visits 115 = .ok (.iload 6, 2) := by decide +kernel
theorem dX9_visits_117 : decode cX9_visits 117 = .ok (.invokevirtual 168, 3) := by decide +kernel
theorem dX9_visits_120 : decode cX9_visits 120 = .ok (.istore 8, 2) := by decide +kernel
theorem dX9_visits_122 : decode cX9_visits 122 = .ok (.iload_n 3, 1) := by decide +kernel
theorem dX9_visits_123 : decode cX9_visits 123 = .ok (.iload 8, 2) := by decide +kernel
theorem dX9_visits_125 : decode cX9_visits 125 = .ok (.isub, 1) := by decide +kernel
theorem dX9_visits_126 : decode cX9_visits 126 = .ok (.istore_n 3, 1) := by decide +kernel
theorem dX9_visits_127 : decode cX9_visits 127 = .ok (.aload_n 0, 1) := by decide +kernel
theorem dX9_visits_128 : decode cX9_visits 128 = .ok (.iload 5, 2) := by decide +kernel
theorem dX9_visits_130 : decode cX9_visits 130 = .ok (.iload 8, 2) := by decide +kernel
theorem dX9_visits_132 : decode cX9_visits 132 = .ok (.invokevirtual 176, 3) := by decide +kernel
theorem dX9_visits_135 : decode cX9_visits 135 = .ok (.aload_n 0, 1) := by decide +kernel
theorem dX9_visits_136 : decode cX9_visits 136 = .ok (.iload 5, 2) := by decide +kernel
theorem dX9_visits_138 : decode cX9_visits 138 = .ok (.bipush 9, 2) := by decide +kernel
theorem dX9_visits_140 : decode cX9_visits 140 = .ok (.iload 6, 2) := by decide +kernel
theorem dX9_visits_142 : decode cX9_visits 142 = .ok (.iadd, 1) := by decide +kernel
theorem dX9_visits_143 : decode cX9_visits 143 = .ok (.aload_n 0, 1) := by decide +kernel
theorem dX9_visits_144 : decode cX9_visits 144 = .ok (.iload 5, 2) := by decide +kernel
theorem dX9_visits_146 : decode cX9_visits 146 = .ok (.bipush 9, 2) := by decide +kernel
theorem dX9_visits_148 : decode cX9_visits 148 = .ok (.iload 6, 2) := by decide +kernel
theorem dX9_visits_150 : decode cX9_visits 150 = .ok (.iadd, 1) := by decide +kernel
theorem dX9_visits_151 : decode cX9_visits 151 = .ok (.invokevirtual 51, 3) := by decide +kernel
theorem dX9_visits_154 : decode cX9_visits 154 = .ok (.iconst 1, 1) := by decide +kernel
theorem dX9_visits_155 : decode cX9_visits 155 = .ok (.isub, 1) := by decide +kernel
theorem dX9_visits_156 : decode cX9_visits 156 = .ok (.invokevirtual 73, 3) := by decide +kernel
theorem dX9_visits_159 : decode cX9_visits 159 = .ok (.iload_n 2, 1) := by decide +kernel
theorem dX9_visits_160 : decode cX9_visits 160 = .ok (.iconst 1, 1) := by decide +kernel
theorem dX9_visits_161 : decode cX9_visits 161 = .ok (.iload 6, 2) := by decide +kernel
theorem dX9_visits_163 : decode cX9_visits 163 = .ok (.ishl, 1) := by decide +kernel
theorem dX9_visits_164 : decode cX9_visits 164 = .ok (.ior, 1) := by decide +kernel
theorem dX9_visits_165 : decode cX9_visits 165 = .ok (.istore_n 2, 1) := by decide +kernel
theorem dX9_visits_166 : decode cX9_visits 166 = .ok (.iinc 6 1, 3) := by decide +kernel
theorem dX9_visits_169 : decode cX9_visits 169 = .ok (.goto (-123), 3) := by decide +kernel
theorem dX9_visits_172 : decode cX9_visits 172 = .ok (.iinc 4 1, 3) := by decide +kernel
theorem dX9_visits_175 : decode cX9_visits 175 = .ok (.goto (-163), 3) := by decide +kernel
theorem dX9_visits_178 : decode cX9_visits 178 = .ok (.iload_n 2, 1) := by decide +kernel
theorem dX9_visits_179 : decode cX9_visits 179 = .ok (.ireturn, 1) := by decide +kernel
theorem dX9_visit_0 : decode cX9_visit 0 = .ok (.aload_n 0, 1) := by decide +kernel
theorem dX9_visit_1 : decode cX9_visit 1 = .ok (.iload_n 1, 1) := by decide +kernel
theorem dX9_visit_2 : decode cX9_visit 2 = .ok (.invokevirtual 95, 3) := by decide +kernel
theorem dX9_visit_5 : decode cX9_visit 5 = .ok (.ifCond .eq 11, 3) := by decide +kernel
theorem dX9_visit_8 : decode cX9_visit 8 = .ok (.aload_n 0, 1) := by decide +kernel
theorem dX9_visit_9 : decode cX9_visit 9 = .ok (.iload_n 1, 1) := by decide +kernel
theorem dX9_visit_10 : decode cX9_visit 10 = .ok (.invokevirtual 198, 3) := by decide +kernel
theorem dX9_visit_13 : decode cX9_visit 13 = .ok (.goto 8, 3) := by decide +kernel
theorem dX9_visit_16 : decode cX9_visit 16 = .ok (.aload_n 0, 1) := by decide +kernel
theorem dX9_visit_17 : decode cX9_visit 17 = .ok (.iconst 1, 1) := by decide +kernel
theorem dX9_visit_18 : decode cX9_visit 18 = .ok (.invokevirtual 70, 3) := by decide +kernel
theorem dX9_visit_21 : decode cX9_visit 21 = .ok (.ireturn, 1) := by decide +kernel
theorem dX9_bitsOf_0 : decode cX9_bitsOf 0 = .ok (.iconst 0, 1) := by decide +kernel
theorem dX9_bitsOf_1 : decode cX9_bitsOf 1 = .ok (.istore_n 1, 1) := by decide +kernel
theorem dX9_bitsOf_2 : decode cX9_bitsOf 2 = .ok (.iload_n 0, 1) := by decide +kernel
theorem dX9_bitsOf_3 : decode cX9_bitsOf 3 = .ok (.istore_n 2, 1) := by decide +kernel
theorem dX9_bitsOf_4 : decode cX9_bitsOf 4 = .ok (.iload_n 2, 1) := by decide +kernel
theorem dX9_bitsOf_5 : decode cX9_bitsOf 5 = .ok (.ifCond .eq 15, 3) := by decide +kernel
theorem dX9_bitsOf_8 : decode cX9_bitsOf 8 = .ok (.iinc 1 1, 3) := by decide +kernel
theorem dX9_bitsOf_11 : decode cX9_bitsOf 11 = .ok (.iload_n 2, 1) := by decide +kernel
theorem dX9_bitsOf_12 : decode cX9_bitsOf 12 = .ok (.iload_n 2, 1) := by decide +kernel
theorem dX9_bitsOf_13 : decode cX9_bitsOf 13 = .ok (.iconst 1, 1) := by decide +kernel
theorem dX9_bitsOf_14 : decode cX9_bitsOf 14 = .ok (.isub, 1) := by decide +kernel
theorem dX9_bitsOf_15 : decode cX9_bitsOf 15 = .ok (.iand, 1) := by decide +kernel
theorem dX9_bitsOf_16 : decode cX9_bitsOf 16 = .ok (.istore_n 2, 1) := by decide +kernel
theorem dX9_bitsOf_17 : decode cX9_bitsOf 17 = .ok (.goto (-13), 3) := by decide +kernel
theorem dX9_bitsOf_20 : decode cX9_bitsOf 20 = .ok (.iload_n 1, 1) := by decide +kernel
theorem dX9_bitsOf_21 : decode cX9_bitsOf 21 = .ok (.ireturn, 1) := by decide +kernel
theorem dX9_draw_0 : decode cX9_draw 0 = .ok (.aload_n 0, 1) := by decide +kernel
theorem dX9_draw_1 : decode cX9_draw 1 = .ok (.getfield 7, 3) := by decide +kernel
theorem dX9_draw_4 : decode cX9_draw 4 = .ok (.bipush 8, 2) := by decide +kernel
theorem dX9_draw_6 : decode cX9_draw 6 = .ok (.aload_n 0, 1) := by decide +kernel
theorem dX9_draw_7 : decode cX9_draw 7 = .ok (.getfield 7, 3) := by decide +kernel
theorem dX9_draw_10 : decode cX9_draw 10 = .ok (.bipush 8, 2) := by decide +kernel
theorem dX9_draw_12 : decode cX9_draw 12 = .ok (.iaload, 1) := by decide +kernel
theorem dX9_draw_13 : decode cX9_draw 13 = .ok (.ldc 201, 2) := by decide +kernel
theorem dX9_draw_15 : decode cX9_draw 15 = .ok (.imul, 1) := by decide +kernel
theorem dX9_draw_16 : decode cX9_draw 16 = .ok (.sipush 12345, 3) := by decide +kernel
theorem dX9_draw_19 : decode cX9_draw 19 = .ok (.iadd, 1) := by decide +kernel
theorem dX9_draw_20 : decode cX9_draw 20 = .ok (.iastore, 1) := by decide +kernel
theorem dX9_draw_21 : decode cX9_draw 21 = .ok (.aload_n 0, 1) := by decide +kernel
theorem dX9_draw_22 : decode cX9_draw 22 = .ok (.getfield 7, 3) := by decide +kernel
theorem dX9_draw_25 : decode cX9_draw 25 = .ok (.bipush 8, 2) := by decide +kernel
theorem dX9_draw_27 : decode cX9_draw 27 = .ok (.iaload, 1) := by decide +kernel
theorem dX9_draw_28 : decode cX9_draw 28 = .ok (.bipush 8, 2) := by decide +kernel
theorem dX9_draw_30 : decode cX9_draw 30 = .ok (.iushr, 1) := by decide +kernel
theorem dX9_draw_31 : decode cX9_draw 31 = .ok (.ireturn, 1) := by decide +kernel
theorem dX9_day_0 : decode cX9_day 0 = .ok (.aload_n 0, 1) := by decide +kernel
theorem dX9_day_1 : decode cX9_day 1 = .ok (.invokevirtual 192, 3) := by decide +kernel
theorem dX9_day_4 : decode cX9_day 4 = .ok (.iconst 0, 1) := by decide +kernel
theorem dX9_day_5 : decode cX9_day 5 = .ok (.istore_n 2, 1) := by decide +kernel
theorem dX9_day_6 : decode cX9_day 6 = .ok (.iconst 0, 1) := by decide +kernel
theorem dX9_day_7 : decode cX9_day 7 = .ok (.istore_n 3, 1) := by decide +kernel
theorem dX9_day_8 : decode cX9_day 8 = .ok (.iload_n 3, 1) := by decide +kernel
theorem dX9_day_9 : decode cX9_day 9 = .ok (.aload_n 0, 1) := by decide +kernel
theorem dX9_day_10 : decode cX9_day 10 = .ok (.getfield 7, 3) := by decide +kernel
theorem dX9_day_13 : decode cX9_day 13 = .ok (.iconst 1, 1) := by decide +kernel
theorem dX9_day_14 : decode cX9_day 14 = .ok (.iaload, 1) := by decide +kernel
theorem dX9_day_15 : decode cX9_day 15 = .ok (.if_icmp .ge 49, 3) := by decide +kernel
theorem dX9_day_18 : decode cX9_day 18 = .ok (.iload_n 1, 1) := by decide +kernel
theorem dX9_day_19 : decode cX9_day 19 = .ok (.ifCond .eq 16, 3) := by decide +kernel
theorem dX9_day_22 : decode cX9_day 22 = .ok (.aload_n 0, 1) := by decide +kernel
theorem dX9_day_23 : decode cX9_day 23 = .ok (.invokevirtual 202, 3) := by decide +kernel
theorem dX9_day_26 : decode cX9_day 26 = .ok (.iconst 4, 1) := by decide +kernel
theorem dX9_day_27 : decode cX9_day 27 = .ok (.irem, 1) := by decide +kernel
theorem dX9_day_28 : decode cX9_day 28 = .ok (.ifCond .ne 7, 3) := by decide +kernel
theorem dX9_day_31 : decode cX9_day 31 = .ok (.iconst 1, 1) := by decide +kernel
theorem dX9_day_32 : decode cX9_day 32 = .ok (.goto 4, 3) := by decide +kernel
theorem dX9_day_35 : decode cX9_day 35 = .ok (.iconst 0, 1) := by decide +kernel
theorem dX9_day_36 : decode cX9_day 36 = .ok (.istore 4, 2) := by decide +kernel
theorem dX9_day_38 : decode cX9_day 38 = .ok (.iload_n 2, 1) := by decide +kernel
theorem dX9_day_39 : decode cX9_day 39 = .ok (.iload 4, 2) := by decide +kernel
theorem dX9_day_41 : decode cX9_day 41 = .ok (.ifCond .eq 7, 3) := by decide +kernel
theorem dX9_day_44 : decode cX9_day 44 = .ok (.iconst 0, 1) := by decide +kernel
theorem dX9_day_45 : decode cX9_day 45 = .ok (.goto 11, 3) := by decide +kernel
theorem dX9_day_48 : decode cX9_day 48 = .ok (.aload_n 0, 1) := by decide +kernel
theorem dX9_day_49 : decode cX9_day 49 = .ok (.iload_n 3, 1) := by decide +kernel
theorem dX9_day_50 : decode cX9_day 50 = .ok (.invokevirtual 198, 3) := by decide +kernel
theorem dX9_day_53 : decode cX9_day 53 = .ok (.invokestatic 205, 3) := by decide +kernel
theorem dX9_day_56 : decode cX9_day 56 = .ok (.iadd, 1) := by decide +kernel
theorem dX9_day_57 : decode cX9_day 57 = .ok (.istore_n 2, 1) := by decide +kernel
theorem dX9_day_58 : decode cX9_day 58 = .ok (.iinc 3 1, 3) := by decide +kernel
theorem dX9_day_61 : decode cX9_day 61 = .ok (.goto (-53), 3) := by decide +kernel
theorem dX9_day_64 : decode cX9_day 64 = .ok (.aload_n 0, 1) := by decide +kernel
theorem dX9_day_65 : decode cX9_day 65 = .ok (.getfield 7, 3) := by decide +kernel
theorem dX9_day_68 : decode cX9_day 68 = .ok (.iconst 3, 1) := by decide +kernel
theorem dX9_day_69 : decode cX9_day 69 = .ok (.iload_n 2, 1) := by decide +kernel
theorem dX9_day_70 : decode cX9_day 70 = .ok (.iastore, 1) := by decide +kernel
theorem dX9_day_71 : decode cX9_day 71 = .ok (.aload_n 0, 1) := by decide +kernel
theorem dX9_day_72 : decode cX9_day 72 = .ok (.getfield 7, 3) := by decide +kernel
theorem dX9_day_75 : decode cX9_day 75 = .ok (.iconst 2, 1) := by decide +kernel
theorem dX9_day_76 : decode cX9_day 76 = .ok (.dup2, 1) := by decide +kernel
theorem dX9_day_77 : decode cX9_day 77 = .ok (.iaload, 1) := by decide +kernel
theorem dX9_day_78 : decode cX9_day 78 = .ok (.iconst 1, 1) := by decide +kernel
theorem dX9_day_79 : decode cX9_day 79 = .ok (.iadd, 1) := by decide +kernel
theorem dX9_day_80 : decode cX9_day 80 = .ok (.iastore, 1) := by decide +kernel
theorem dX9_day_81 : decode cX9_day 81 = .ok (.return_, 1) := by decide +kernel
theorem dX9_go_0 : decode cX9_go 0 = .ok (.iconst 0, 1) := by decide +kernel
theorem dX9_go_1 : decode cX9_go 1 = .ok (.istore_n 2, 1) := by decide +kernel
theorem dX9_go_2 : decode cX9_go 2 = .ok (.iload_n 2, 1) := by decide +kernel
theorem dX9_go_3 : decode cX9_go 3 = .ok (.iload_n 1, 1) := by decide +kernel
theorem dX9_go_4 : decode cX9_go 4 = .ok (.if_icmp .ge 14, 3) := by decide +kernel
theorem dX9_go_7 : decode cX9_go 7 = .ok (.aload_n 0, 1) := by decide +kernel
theorem dX9_go_8 : decode cX9_go 8 = .ok (.iconst 0, 1) := by decide +kernel
theorem dX9_go_9 : decode cX9_go 9 = .ok (.invokevirtual 208, 3) := by decide +kernel
theorem dX9_go_12 : decode cX9_go 12 = .ok (.iinc 2 1, 3) := by decide +kernel
theorem dX9_go_15 : decode cX9_go 15 = .ok (.goto (-13), 3) := by decide +kernel
theorem dX9_go_18 : decode cX9_go 18 = .ok (.return_, 1) := by decide +kernel
theorem dX9_days_0 : decode cX9_days 0 = .ok (.iload_n 1, 1) := by decide +kernel
theorem dX9_days_1 : decode cX9_days 1 = .ok (.iconst 1, 1) := by decide +kernel
theorem dX9_days_2 : decode cX9_days 2 = .ok (.bipush 60, 2) := by decide +kernel
theorem dX9_days_4 : decode cX9_days 4 = .ok (.invokestatic 47, 3) := by decide +kernel
theorem dX9_days_7 : decode cX9_days 7 = .ok (.ifCond .ne 9, 3) := by decide +kernel
theorem dX9_days_10 : decode cX9_days 10 = .ok (.aload_n 0, 1) := by decide +kernel
theorem dX9_days_11 : decode cX9_days 11 = .ok (.iconst 1, 1) := by decide +kernel
theorem dX9_days_12 : decode cX9_days 12 = .ok (.invokevirtual 70, 3) := by decide +kernel
theorem dX9_days_15 : decode cX9_days 15 = .ok (.ireturn, 1) := by decide +kernel
theorem dX9_days_16 : decode cX9_days 16 = .ok (.aload_n 0, 1) := by decide +kernel
theorem dX9_days_17 : decode cX9_days 17 = .ok (.getfield 7, 3) := by decide +kernel
theorem dX9_days_20 : decode cX9_days 20 = .ok (.iconst 2, 1) := by decide +kernel
theorem dX9_days_21 : decode cX9_days 21 = .ok (.iaload, 1) := by decide +kernel
theorem dX9_days_22 : decode cX9_days 22 = .ok (.iload_n 1, 1) := by decide +kernel
theorem dX9_days_23 : decode cX9_days 23 = .ok (.iadd, 1) := by decide +kernel
theorem dX9_days_24 : decode cX9_days 24 = .ok (.sipush 9999, 3) := by decide +kernel
theorem dX9_days_27 : decode cX9_days 27 = .ok (.if_icmp .le 9, 3) := by decide +kernel
theorem dX9_days_30 : decode cX9_days 30 = .ok (.aload_n 0, 1) := by decide +kernel
theorem dX9_days_31 : decode cX9_days 31 = .ok (.iconst 3, 1) := by decide +kernel
theorem dX9_days_32 : decode cX9_days 32 = .ok (.invokevirtual 70, 3) := by decide +kernel
theorem dX9_days_35 : decode cX9_days 35 = .ok (.ireturn, 1) := by decide +kernel
theorem dX9_days_36 : decode cX9_days 36 = .ok (.aload_n 0, 1) := by decide +kernel
theorem dX9_days_37 : decode cX9_days 37 = .ok (.iload_n 1, 1) := by decide +kernel
theorem dX9_days_38 : decode cX9_days 38 = .ok (.invokevirtual 212, 3) := by decide +kernel
theorem dX9_days_41 : decode cX9_days 41 = .ok (.aload_n 0, 1) := by decide +kernel
theorem dX9_days_42 : decode cX9_days 42 = .ok (.getfield 7, 3) := by decide +kernel
theorem dX9_days_45 : decode cX9_days 45 = .ok (.iconst 3, 1) := by decide +kernel
theorem dX9_days_46 : decode cX9_days 46 = .ok (.iaload, 1) := by decide +kernel
theorem dX9_days_47 : decode cX9_days 47 = .ok (.ireturn, 1) := by decide +kernel
theorem dX9_loose_0 : decode cX9_loose 0 = .ok (.iload_n 1, 1) := by decide +kernel
theorem dX9_loose_1 : decode cX9_loose 1 = .ok (.iconst 1, 1) := by decide +kernel
theorem dX9_loose_2 : decode cX9_loose 2 = .ok (.bipush 60, 2) := by decide +kernel
theorem dX9_loose_4 : decode cX9_loose 4 = .ok (.invokestatic 47, 3) := by decide +kernel
theorem dX9_loose_7 : decode cX9_loose 7 = .ok (.ifCond .ne 9, 3) := by decide +kernel
theorem dX9_loose_10 : decode cX9_loose 10 = .ok (.aload_n 0, 1) := by decide +kernel
theorem dX9_loose_11 : decode cX9_loose 11 = .ok (.iconst 1, 1) := by decide +kernel
theorem dX9_loose_12 : decode cX9_loose 12 = .ok (.invokevirtual 70, 3) := by decide +kernel
theorem dX9_loose_15 : decode cX9_loose 15 = .ok (.ireturn, 1) := by decide +kernel
theorem dX9_loose_16 : decode cX9_loose 16 = .ok (.aload_n 0, 1) := by decide +kernel
theorem dX9_loose_17 : decode cX9_loose 17 = .ok (.getfield 7, 3) := by decide +kernel
theorem dX9_loose_20 : decode cX9_loose 20 = .ok (.iconst 2, 1) := by decide +kernel
theorem dX9_loose_21 : decode cX9_loose 21 = .ok (.iaload, 1) := by decide +kernel
theorem dX9_loose_22 : decode cX9_loose 22 = .ok (.iload_n 1, 1) := by decide +kernel
theorem dX9_loose_23 : decode cX9_loose 23 = .ok (.iadd, 1) := by decide +kernel
theorem dX9_loose_24 : decode cX9_loose 24 = .ok (.sipush 9999, 3) := by decide +kernel
theorem dX9_loose_27 : decode cX9_loose 27 = .ok (.if_icmp .le 9, 3) := by decide +kernel
theorem dX9_loose_30 : decode cX9_loose 30 = .ok (.aload_n 0, 1) := by decide +kernel
theorem dX9_loose_31 : decode cX9_loose 31 = .ok (.iconst 3, 1) := by decide +kernel
theorem dX9_loose_32 : decode cX9_loose 32 = .ok (.invokevirtual 70, 3) := by decide +kernel
theorem dX9_loose_35 : decode cX9_loose 35 = .ok (.ireturn, 1) := by decide +kernel
theorem dX9_loose_36 : decode cX9_loose 36 = .ok (.iconst 0, 1) := by decide +kernel
theorem dX9_loose_37 : decode cX9_loose 37 = .ok (.istore_n 2, 1) := by decide +kernel
theorem dX9_loose_38 : decode cX9_loose 38 = .ok (.iload_n 2, 1) := by decide +kernel
theorem dX9_loose_39 : decode cX9_loose 39 = .ok (.iload_n 1, 1) := by decide +kernel
theorem dX9_loose_40 : decode cX9_loose 40 = .ok (.if_icmp .ge 14, 3) := by decide +kernel
theorem dX9_loose_43 : decode cX9_loose 43 = .ok (.aload_n 0, 1) := by decide +kernel
theorem dX9_loose_44 : decode cX9_loose 44 = .ok (.iconst 1, 1) := by decide +kernel
theorem dX9_loose_45 : decode cX9_loose 45 = .ok (.invokevirtual 208, 3) := by decide +kernel
theorem dX9_loose_48 : decode cX9_loose 48 = .ok (.iinc 2 1, 3) := by decide +kernel
theorem dX9_loose_51 : decode cX9_loose 51 = .ok (.goto (-13), 3) := by decide +kernel
theorem dX9_loose_54 : decode cX9_loose 54 = .ok (.aload_n 0, 1) := by decide +kernel
theorem dX9_loose_55 : decode cX9_loose 55 = .ok (.getfield 7, 3) := by decide +kernel
theorem dX9_loose_58 : decode cX9_loose 58 = .ok (.iconst 3, 1) := by decide +kernel
theorem dX9_loose_59 : decode cX9_loose 59 = .ok (.iaload, 1) := by decide +kernel
theorem dX9_loose_60 : decode cX9_loose 60 = .ok (.ireturn, 1) := by decide +kernel
theorem dX9_seed_0 : decode cX9_seed 0 = .ok (.aload_n 0, 1) := by decide +kernel
theorem dX9_seed_1 : decode cX9_seed 1 = .ok (.getfield 7, 3) := by decide +kernel
theorem dX9_seed_4 : decode cX9_seed 4 = .ok (.bipush 8, 2) := by decide +kernel
theorem dX9_seed_6 : decode cX9_seed 6 = .ok (.iaload, 1) := by decide +kernel
theorem dX9_seed_7 : decode cX9_seed 7 = .ok (.istore_n 2, 1) := by decide +kernel
theorem dX9_seed_8 : decode cX9_seed 8 = .ok (.aload_n 0, 1) := by decide +kernel
theorem dX9_seed_9 : decode cX9_seed 9 = .ok (.getfield 7, 3) := by decide +kernel
theorem dX9_seed_12 : decode cX9_seed 12 = .ok (.bipush 8, 2) := by decide +kernel
theorem dX9_seed_14 : decode cX9_seed 14 = .ok (.iload_n 1, 1) := by decide +kernel
theorem dX9_seed_15 : decode cX9_seed 15 = .ok (.iastore, 1) := by decide +kernel
theorem dX9_seed_16 : decode cX9_seed 16 = .ok (.iload_n 2, 1) := by decide +kernel
theorem dX9_seed_17 : decode cX9_seed 17 = .ok (.ireturn, 1) := by decide +kernel
theorem dX9_then_0 : decode cX9_then 0 = .ok (.iload_n 1, 1) := by decide +kernel
theorem dX9_then_1 : decode cX9_then 1 = .ok (.iconst 0, 1) := by decide +kernel
theorem dX9_then_2 : decode cX9_then 2 = .ok (.bipush 60, 2) := by decide +kernel
theorem dX9_then_4 : decode cX9_then 4 = .ok (.invokestatic 47, 3) := by decide +kernel
theorem dX9_then_7 : decode cX9_then 7 = .ok (.ifCond .eq 21, 3) := by decide +kernel
theorem dX9_then_10 : decode cX9_then 10 = .ok (.aload_n 0, 1) := by decide +kernel
theorem dX9_then_11 : decode cX9_then 11 = .ok (.iload_n 2, 1) := by decide +kernel
theorem dX9_then_12 : decode cX9_then 12 = .ok (.invokevirtual 80, 3) := by decide +kernel
theorem dX9_then_15 : decode cX9_then 15 = .ok (.ifCond .eq 13, 3) := by decide +kernel
theorem dX9_then_18 : decode cX9_then 18 = .ok (.iload_n 3, 1) := by decide +kernel
theorem dX9_then_19 : decode cX9_then 19 = .ok (.iconst 0, 1) := by decide +kernel
theorem dX9_then_20 : decode cX9_then 20 = .ok (.bipush 15, 2) := by decide +kernel
theorem dX9_then_22 : decode cX9_then 22 = .ok (.invokestatic 47, 3) := by decide +kernel
theorem dX9_then_25 : decode cX9_then 25 = .ok (.ifCond .ne 9, 3) := by decide +kernel
theorem dX9_then_28 : decode cX9_then 28 = .ok (.aload_n 0, 1) := by decide +kernel
theorem dX9_then_29 : decode cX9_then 29 = .ok (.iconst 1, 1) := by decide +kernel
theorem dX9_then_30 : decode cX9_then 30 = .ok (.invokevirtual 70, 3) := by decide +kernel
theorem dX9_then_33 : decode cX9_then 33 = .ok (.ireturn, 1) := by decide +kernel
theorem dX9_then_34 : decode cX9_then 34 = .ok (.aload_n 0, 1) := by decide +kernel
theorem dX9_then_35 : decode cX9_then 35 = .ok (.getfield 7, 3) := by decide +kernel
theorem dX9_then_38 : decode cX9_then 38 = .ok (.aload_n 0, 1) := by decide +kernel
theorem dX9_then_39 : decode cX9_then 39 = .ok (.getfield 16, 3) := by decide +kernel
theorem dX9_then_42 : decode cX9_then 42 = .ok (.invokestatic 215, 3) := by decide +kernel
theorem dX9_then_45 : decode cX9_then 45 = .ok (.aload_n 0, 1) := by decide +kernel
theorem dX9_then_46 : decode cX9_then 46 = .ok (.iload_n 1, 1) := by decide +kernel
theorem dX9_then_47 : decode cX9_then 47 = .ok (.invokevirtual 212, 3) := by decide +kernel
theorem dX9_then_50 : decode cX9_then 50 = .ok (.aload_n 0, 1) := by decide +kernel
theorem dX9_then_51 : decode cX9_then 51 = .ok (.iload_n 2, 1) := by decide +kernel
theorem dX9_then_52 : decode cX9_then 52 = .ok (.iload_n 3, 1) := by decide +kernel
theorem dX9_then_53 : decode cX9_then 53 = .ok (.invokevirtual 83, 3) := by decide +kernel
theorem dX9_then_56 : decode cX9_then 56 = .ok (.istore 4, 2) := by decide +kernel
theorem dX9_then_58 : decode cX9_then 58 = .ok (.aload_n 0, 1) := by decide +kernel
theorem dX9_then_59 : decode cX9_then 59 = .ok (.getfield 16, 3) := by decide +kernel
theorem dX9_then_62 : decode cX9_then 62 = .ok (.aload_n 0, 1) := by decide +kernel
theorem dX9_then_63 : decode cX9_then 63 = .ok (.getfield 7, 3) := by decide +kernel
theorem dX9_then_66 : decode cX9_then 66 = .ok (.invokestatic 215, 3) := by decide +kernel
theorem dX9_then_69 : decode cX9_then 69 = .ok (.iload 4, 2) := by decide +kernel
theorem dX9_then_71 : decode cX9_then 71 = .ok (.ireturn, 1) := by decide +kernel
theorem dX9_keep_0 : decode cX9_keep 0 = .ok (.aload_n 0, 1) := by decide +kernel
theorem dX9_keep_1 : decode cX9_keep 1 = .ok (.iload_n 1, 1) := by decide +kernel
theorem dX9_keep_2 : decode cX9_keep 2 = .ok (.invokevirtual 80, 3) := by decide +kernel
theorem dX9_keep_5 : decode cX9_keep 5 = .ok (.ifCond .eq 20, 3) := by decide +kernel
theorem dX9_keep_8 : decode cX9_keep 8 = .ok (.iload_n 2, 1) := by decide +kernel
theorem dX9_keep_9 : decode cX9_keep 9 = .ok (.invokestatic 66, 3) := by decide +kernel
theorem dX9_keep_12 : decode cX9_keep 12 = .ok (.ifCond .eq 13, 3) := by decide +kernel
theorem dX9_keep_15 : decode cX9_keep 15 = .ok (.iload_n 3, 1) := by decide +kernel
theorem dX9_keep_16 : decode cX9_keep 16 = .ok (.iconst 1, 1) := by decide +kernel
theorem dX9_keep_17 : decode cX9_keep 17 = .ok (.bipush 20, 2) := by decide +kernel
theorem dX9_keep_19 : decode cX9_keep 19 = .ok (.invokestatic 47, 3) := by decide +kernel
theorem dX9_keep_22 : decode cX9_keep 22 = .ok (.ifCond .ne 9, 3) := by decide +kernel
theorem dX9_keep_25 : decode cX9_keep 25 = .ok (.aload_n 0, 1) := by decide +kernel
theorem dX9_keep_26 : decode cX9_keep 26 = .ok (.iconst 1, 1) := by decide +kernel
theorem dX9_keep_27 : decode cX9_keep 27 = .ok (.invokevirtual 70, 3) := by decide +kernel
theorem dX9_keep_30 : decode cX9_keep 30 = .ok (.ireturn, 1) := by decide +kernel
theorem dX9_keep_31 : decode cX9_keep 31 = .ok (.iconst 0, 1) := by decide +kernel
theorem dX9_keep_32 : decode cX9_keep 32 = .ok (.istore 4, 2) := by decide +kernel
theorem dX9_keep_34 : decode cX9_keep 34 = .ok (.iconst 0, 1) := by decide +kernel
theorem dX9_keep_35 : decode cX9_keep 35 = .ok (.istore 5, 2) := by decide +kernel
theorem dX9_keep_37 : decode cX9_keep 37 = .ok (.iconst 0, 1) := by decide +kernel
theorem dX9_keep_38 : decode cX9_keep 38 = .ok (.istore 6, 2) := by decide +kernel
theorem dX9_keep_40 : decode cX9_keep 40 = .ok (.iload 6, 2) := by decide +kernel
theorem dX9_keep_42 : decode cX9_keep 42 = .ok (.bipush 10, 2) := by decide +kernel
theorem dX9_keep_44 : decode cX9_keep 44 = .ok (.if_icmp .ge 74, 3) := by decide +kernel
theorem dX9_keep_47 : decode cX9_keep 47 = .ok (.aload_n 0, 1) := by decide +kernel
theorem dX9_keep_48 : decode cX9_keep 48 = .ok (.getfield 7, 3) := by decide +kernel
theorem dX9_keep_51 : decode cX9_keep 51 = .ok (.aload_n 0, 1) := by decide +kernel
theorem dX9_keep_52 : decode cX9_keep 52 = .ok (.getfield 16, 3) := by decide +kernel
theorem dX9_keep_55 : decode cX9_keep 55 = .ok (.invokestatic 215, 3) := by decide +kernel
theorem dX9_keep_58 : decode cX9_keep 58 = .ok (.aload_n 0, 1) := by decide +kernel
theorem dX9_keep_59 : decode cX9_keep 59 = .ok (.iload_n 1, 1) := by decide +kernel
theorem dX9_keep_60 : decode cX9_keep 60 = .ok (.iconst 3, 1) := by decide +kernel
theorem dX9_keep_61 : decode cX9_keep 61 = .ok (.iload_n 2, 1) := by decide +kernel
theorem dX9_keep_62 : decode cX9_keep 62 = .ok (.iadd, 1) := by decide +kernel
theorem dX9_keep_63 : decode cX9_keep 63 = .ok (.iload 6, 2) := by decide +kernel
theorem dX9_keep_65 : decode cX9_keep 65 = .ok (.invokevirtual 73, 3) := by decide +kernel
theorem dX9_keep_68 : decode cX9_keep 68 = .ok (.aload_n 0, 1) := by decide +kernel
theorem dX9_keep_69 : decode cX9_keep 69 = .ok (.iload_n 3, 1) := by decide +kernel
theorem dX9_keep_70 : decode cX9_keep 70 = .ok (.invokevirtual 212, 3) := by decide +kernel
theorem dX9_keep_73 : decode cX9_keep 73 = .ok (.aload_n 0, 1) := by decide +kernel
theorem dX9_keep_74 : decode cX9_keep 74 = .ok (.iload_n 1, 1) := by decide +kernel
theorem dX9_keep_75 : decode cX9_keep 75 = .ok (.iconst 2, 1) := by decide +kernel
theorem dX9_keep_76 : decode cX9_keep 76 = .ok (.invokevirtual 51, 3) := by decide +kernel
theorem dX9_keep_79 : decode cX9_keep 79 = .ok (.istore 7, 2) := by decide +kernel
theorem dX9_keep_81 : decode cX9_keep 81 = .ok (.aload_n 0, 1) := by decide +kernel
theorem dX9_keep_82 : decode cX9_keep 82 = .ok (.getfield 16, 3) := by decide +kernel
theorem dX9_keep_85 : decode cX9_keep 85 = .ok (.aload_n 0, 1) := by decide +kernel
theorem dX9_keep_86 : decode cX9_keep 86 = .ok (.getfield 7, 3) := by decide +kernel
theorem dX9_keep_89 : decode cX9_keep 89 = .ok (.invokestatic 215, 3) := by decide +kernel
theorem dX9_keep_92 : decode cX9_keep 92 = .ok (.iload 6, 2) := by decide +kernel
theorem dX9_keep_94 : decode cX9_keep 94 = .ok (.ifCond .eq 10, 3) := by decide +kernel
theorem dX9_keep_97 : decode cX9_keep 97 = .ok (.iload 7, 2) := by decide +kernel
theorem dX9_keep_99 : decode cX9_keep 99 = .ok (.iload 5, 2) := by decide +kernel
theorem dX9_keep_101 : decode cX9_keep 101 = .ok (.if_icmp .le 11, 3) := by decide +kernel
theorem dX9_keep_104 : decode cX9_keep 104 = .ok (.iload 6, 2) := by decide +kernel
theorem dX9_keep_106 : decode cX9_keep 106 = .ok (.istore 4, 2) := by decide +kernel
theorem dX9_keep_108 : decode cX9_keep 108 = .ok (.iload 7, 2) := by decide +kernel
theorem dX9_keep_110 : decode cX9_keep 110 = .ok (.istore 5, 2) := by decide +kernel
theorem dX9_keep_112 : decode cX9_keep 112 = .ok (.iinc 6 1, 3) := by decide +kernel
theorem dX9_keep_115 : decode cX9_keep 115 = .ok (.goto (-75), 3) := by decide +kernel
theorem dX9_keep_118 : decode cX9_keep 118 = .ok (.iload 4, 2) := by decide +kernel
theorem dX9_keep_120 : decode cX9_keep 120 = .ok (.ireturn, 1) := by decide +kernel
theorem dX9_purseBy_0 : decode cX9_purseBy 0 = .ok (.aload_n 0, 1) := by decide +kernel
theorem dX9_purseBy_1 : decode cX9_purseBy 1 = .ok (.getfield 7, 3) := by decide +kernel
theorem dX9_purseBy_4 : decode cX9_purseBy 4 = .ok (.aload_n 0, 1) := by decide +kernel
theorem dX9_purseBy_5 : decode cX9_purseBy 5 = .ok (.getfield 16, 3) := by decide +kernel
theorem dX9_purseBy_8 : decode cX9_purseBy 8 = .ok (.invokestatic 215, 3) := by decide +kernel
theorem dX9_purseBy_11 : decode cX9_purseBy 11 = .ok (.iconst 0, 1) := by decide +kernel
theorem dX9_purseBy_12 : decode cX9_purseBy 12 = .ok (.istore 4, 2) := by decide +kernel
theorem dX9_purseBy_14 : decode cX9_purseBy 14 = .ok (.iload 4, 2) := by decide +kernel
theorem dX9_purseBy_16 : decode cX9_purseBy 16 = .ok (.bipush 6, 2) := by decide +kernel
theorem dX9_purseBy_18 : decode cX9_purseBy 18 = .ok (.if_icmp .ge 41, 3) := by decide +kernel
theorem dX9_purseBy_21 : decode cX9_purseBy 21 = .ok (.aload_n 0, 1) := by decide +kernel
theorem dX9_purseBy_22 : decode cX9_purseBy 22 = .ok (.iload_n 1, 1) := by decide +kernel
theorem dX9_purseBy_23 : decode cX9_purseBy 23 = .ok (.iconst 3, 1) := by decide +kernel
theorem dX9_purseBy_24 : decode cX9_purseBy 24 = .ok (.iload 4, 2) := by decide +kernel
theorem dX9_purseBy_26 : decode cX9_purseBy 26 = .ok (.iadd, 1) := by decide +kernel
theorem dX9_purseBy_27 : decode cX9_purseBy 27 = .ok (.iload_n 2, 1) := by decide +kernel
theorem dX9_purseBy_28 : decode cX9_purseBy 28 = .ok (.iload 4, 2) := by decide +kernel
theorem dX9_purseBy_30 : decode cX9_purseBy 30 = .ok (.ishr, 1) := by decide +kernel
theorem dX9_purseBy_31 : decode cX9_purseBy 31 = .ok (.iconst 1, 1) := by decide +kernel
theorem dX9_purseBy_32 : decode cX9_purseBy 32 = .ok (.iand, 1) := by decide +kernel
theorem dX9_purseBy_33 : decode cX9_purseBy 33 = .ok (.iconst 1, 1) := by decide +kernel
theorem dX9_purseBy_34 : decode cX9_purseBy 34 = .ok (.if_icmp .ne 15, 3) := by decide +kernel
theorem dX9_purseBy_37 : decode cX9_purseBy 37 = .ok (.aload_n 0, 1) := by decide +kernel
theorem dX9_purseBy_38 : decode cX9_purseBy 38 = .ok (.iload_n 1, 1) := by decide +kernel
theorem dX9_purseBy_39 : decode cX9_purseBy 39 = .ok (.iconst 3, 1) := by decide +kernel
theorem dX9_purseBy_40 : decode cX9_purseBy 40 = .ok (.iload 4, 2) := by decide +kernel
theorem dX9_purseBy_42 : decode cX9_purseBy 42 = .ok (.iadd, 1) := by decide +kernel
theorem dX9_purseBy_43 : decode cX9_purseBy 43 = .ok (.invokevirtual 51, 3) := by decide +kernel
theorem dX9_purseBy_46 : decode cX9_purseBy 46 = .ok (.goto 4, 3) := by decide +kernel
theorem dX9_purseBy_49 : decode cX9_purseBy 49 = .ok (.iconst 0, 1) := by decide +kernel
theorem dX9_purseBy_50 : decode cX9_purseBy 50 = .ok (.invokevirtual 73, 3) := by decide +kernel
theorem dX9_purseBy_53 : decode cX9_purseBy 53 = .ok (.iinc 4 1, 3) := by decide +kernel
theorem dX9_purseBy_56 : decode cX9_purseBy 56 = .ok (.goto (-42), 3) := by decide +kernel
theorem dX9_purseBy_59 : decode cX9_purseBy 59 = .ok (.aload_n 0, 1) := by decide +kernel
theorem dX9_purseBy_60 : decode cX9_purseBy 60 = .ok (.iload_n 3, 1) := by decide +kernel
theorem dX9_purseBy_61 : decode cX9_purseBy 61 = .ok (.invokevirtual 212, 3) := by decide +kernel
theorem dX9_purseBy_64 : decode cX9_purseBy 64 = .ok (.aload_n 0, 1) := by decide +kernel
theorem dX9_purseBy_65 : decode cX9_purseBy 65 = .ok (.iload_n 1, 1) := by decide +kernel
theorem dX9_purseBy_66 : decode cX9_purseBy 66 = .ok (.iconst 2, 1) := by decide +kernel
theorem dX9_purseBy_67 : decode cX9_purseBy 67 = .ok (.invokevirtual 51, 3) := by decide +kernel
theorem dX9_purseBy_70 : decode cX9_purseBy 70 = .ok (.istore 4, 2) := by decide +kernel
theorem dX9_purseBy_72 : decode cX9_purseBy 72 = .ok (.aload_n 0, 1) := by decide +kernel
theorem dX9_purseBy_73 : decode cX9_purseBy 73 = .ok (.getfield 16, 3) := by decide +kernel
theorem dX9_purseBy_76 : decode cX9_purseBy 76 = .ok (.aload_n 0, 1) := by decide +kernel
theorem dX9_purseBy_77 : decode cX9_purseBy 77 = .ok (.getfield 7, 3) := by decide +kernel
theorem dX9_purseBy_80 : decode cX9_purseBy 80 = .ok (.invokestatic 215, 3) := by decide +kernel
theorem dX9_purseBy_83 : decode cX9_purseBy 83 = .ok (.iload 4, 2) := by decide +kernel
theorem dX9_purseBy_85 : decode cX9_purseBy 85 = .ok (.ireturn, 1) := by decide +kernel
theorem dX9_range_0 : decode cX9_range 0 = .ok (.aload_n 0, 1) := by decide +kernel
theorem dX9_range_1 : decode cX9_range 1 = .ok (.iload_n 1, 1) := by decide +kernel
theorem dX9_range_2 : decode cX9_range 2 = .ok (.invokevirtual 80, 3) := by decide +kernel
theorem dX9_range_5 : decode cX9_range 5 = .ok (.ifCond .eq 12, 3) := by decide +kernel
theorem dX9_range_8 : decode cX9_range 8 = .ok (.iload_n 2, 1) := by decide +kernel
theorem dX9_range_9 : decode cX9_range 9 = .ok (.iconst 1, 1) := by decide +kernel
theorem dX9_range_10 : decode cX9_range 10 = .ok (.iconst 5, 1) := by decide +kernel
theorem dX9_range_11 : decode cX9_range 11 = .ok (.invokestatic 47, 3) := by decide +kernel
theorem dX9_range_14 : decode cX9_range 14 = .ok (.ifCond .ne 9, 3) := by decide +kernel
theorem dX9_range_17 : decode cX9_range 17 = .ok (.aload_n 0, 1) := by decide +kernel
theorem dX9_range_18 : decode cX9_range 18 = .ok (.iconst 1, 1) := by decide +kernel
theorem dX9_range_19 : decode cX9_range 19 = .ok (.invokevirtual 70, 3) := by decide +kernel
theorem dX9_range_22 : decode cX9_range 22 = .ok (.ireturn, 1) := by decide +kernel
theorem dX9_range_23 : decode cX9_range 23 = .ok (.iconst 0, 1) := by decide +kernel
theorem dX9_range_24 : decode cX9_range 24 = .ok (.istore_n 3, 1) := by decide +kernel
theorem dX9_range_25 : decode cX9_range 25 = .ok (.aload_n 0, 1) := by decide +kernel
theorem dX9_range_26 : decode cX9_range 26 = .ok (.iload_n 1, 1) := by decide +kernel
theorem dX9_range_27 : decode cX9_range 27 = .ok (.iconst 0, 1) := by decide +kernel
theorem dX9_range_28 : decode cX9_range 28 = .ok (.iload_n 2, 1) := by decide +kernel
theorem dX9_range_29 : decode cX9_range 29 = .ok (.invokevirtual 219, 3) := by decide +kernel
theorem dX9_range_32 : decode cX9_range 32 = .ok (.istore 4, 2) := by decide +kernel
theorem dX9_range_34 : decode cX9_range 34 = .ok (.iconst 1, 1) := by decide +kernel
theorem dX9_range_35 : decode cX9_range 35 = .ok (.istore 5, 2) := by decide +kernel
theorem dX9_range_37 : decode cX9_range 37 = .ok (.iload 5, 2) := by decide +kernel
theorem dX9_range_39 : decode cX9_range 39 = .ok (.bipush 64, 2) := by decide +kernel
theorem dX9_range_41 : decode cX9_range 41 = .ok (.if_icmp .ge 52, 3) := by decide +kernel
theorem dX9_range_44 : decode cX9_range 44 = .ok (.aload_n 0, 1) := by decide +kernel
theorem dX9_range_45 : decode cX9_range 45 = .ok (.iload_n 1, 1) := by decide +kernel
theorem dX9_range_46 : decode cX9_range 46 = .ok (.iload 5, 2) := by decide +kernel
theorem dX9_range_48 : decode cX9_range 48 = .ok (.iload_n 2, 1) := by decide +kernel
theorem dX9_range_49 : decode cX9_range 49 = .ok (.invokevirtual 219, 3) := by decide +kernel
theorem dX9_range_52 : decode cX9_range 52 = .ok (.istore 6, 2) := by decide +kernel
theorem dX9_range_54 : decode cX9_range 54 = .ok (.iload 6, 2) := by decide +kernel
theorem dX9_range_56 : decode cX9_range 56 = .ok (.iload 4, 2) := by decide +kernel
theorem dX9_range_58 : decode cX9_range 58 = .ok (.if_icmp .gt 22, 3) := by decide +kernel
theorem dX9_range_61 : decode cX9_range 61 = .ok (.iload 6, 2) := by decide +kernel
theorem dX9_range_63 : decode cX9_range 63 = .ok (.iload 4, 2) := by decide +kernel
theorem dX9_range_65 : decode cX9_range 65 = .ok (.if_icmp .ne 22, 3) := by decide +kernel
theorem dX9_range_68 : decode cX9_range 68 = .ok (.iload 5, 2) := by decide +kernel
theorem dX9_range_70 : decode cX9_range 70 = .ok (.invokestatic 205, 3) := by decide +kernel
theorem dX9_range_73 : decode cX9_range 73 = .ok (.iload_n 3, 1) := by decide +kernel
theorem dX9_range_74 : decode cX9_range 74 = .ok (.invokestatic 205, 3) := by decide +kernel
theorem dX9_range_77 : decode cX9_range 77 = .ok (.if_icmp .ge 10, 3) := by decide +kernel
theorem dX9_range_80 : decode cX9_range 80 = .ok (.iload 5, 2) := by decide +kernel
theorem dX9_range_82 : decode cX9_range 82 = .ok (.istore_n 3, 1) := by decide +kernel
theorem dX9_range_83 : decode cX9_range 83 = .ok (.iload 6, 2) := by decide +kernel
theorem dX9_range_85 : decode cX9_range 85 = .ok (.istore 4, 2) := by decide +kernel
theorem dX9_range_87 : decode cX9_range 87 = .ok (.iinc 5 1, 3) := by decide +kernel
theorem dX9_range_90 : decode cX9_range 90 = .ok (.goto (-53), 3) := by decide +kernel
theorem dX9_range_93 : decode cX9_range 93 = .ok (.iload_n 3, 1) := by decide +kernel
theorem dX9_range_94 : decode cX9_range 94 = .ok (.ireturn, 1) := by decide +kernel
theorem dX9_turns_0 : decode cX9_turns 0 = .ok (.iconst 0, 1) := by decide +kernel
theorem dX9_turns_1 : decode cX9_turns 1 = .ok (.istore_n 2, 1) := by decide +kernel
theorem dX9_turns_2 : decode cX9_turns 2 = .ok (.iload_n 2, 1) := by decide +kernel
theorem dX9_turns_3 : decode cX9_turns 3 = .ok (.aload_n 0, 1) := by decide +kernel
theorem dX9_turns_4 : decode cX9_turns 4 = .ok (.getfield 7, 3) := by decide +kernel
theorem dX9_turns_7 : decode cX9_turns 7 = .ok (.iconst 0, 1) := by decide +kernel
theorem dX9_turns_8 : decode cX9_turns 8 = .ok (.iaload, 1) := by decide +kernel
theorem dX9_turns_9 : decode cX9_turns 9 = .ok (.if_icmp .ge 66, 3) := by decide +kernel
theorem dX9_turns_12 : decode cX9_turns 12 = .ok (.iload_n 2, 1) := by decide +kernel
theorem dX9_turns_13 : decode cX9_turns 13 = .ok (.iload_n 1, 1) := by decide +kernel
theorem dX9_turns_14 : decode cX9_turns 14 = .ok (.iadd, 1) := by decide +kernel
theorem dX9_turns_15 : decode cX9_turns 15 = .ok (.aload_n 0, 1) := by decide +kernel
theorem dX9_turns_16 : decode cX9_turns 16 = .ok (.getfield 7, 3) := by decide +kernel
theorem dX9_turns_19 : decode cX9_turns 19 = .ok (.iconst 0, 1) := by decide +kernel
theorem dX9_turns_20 : decode cX9_turns 20 = .ok (.iaload, 1) := by decide +kernel
theorem dX9_turns_21 : decode cX9_turns 21 = .ok (.irem, 1) := by decide +kernel
theorem dX9_turns_22 : decode cX9_turns 22 = .ok (.istore_n 3, 1) := by decide +kernel
theorem dX9_turns_23 : decode cX9_turns 23 = .ok (.iconst 0, 1) := by decide +kernel
theorem dX9_turns_24 : decode cX9_turns 24 = .ok (.istore 4, 2) := by decide +kernel
theorem dX9_turns_26 : decode cX9_turns 26 = .ok (.iload 4, 2) := by decide +kernel
theorem dX9_turns_28 : decode cX9_turns 28 = .ok (.bipush 21, 2) := by decide +kernel
theorem dX9_turns_30 : decode cX9_turns 30 = .ok (.if_icmp .ge 39, 3) := by decide +kernel
theorem dX9_turns_33 : decode cX9_turns 33 = .ok (.aload_n 0, 1) := by decide +kernel
theorem dX9_turns_34 : decode cX9_turns 34 = .ok (.getfield 7, 3) := by decide +kernel
theorem dX9_turns_37 : decode cX9_turns 37 = .ok (.bipush 16, 2) := by decide +kernel
theorem dX9_turns_39 : decode cX9_turns 39 = .ok (.bipush 21, 2) := by decide +kernel
theorem dX9_turns_41 : decode cX9_turns 41 = .ok (.iload_n 3, 1) := by decide +kernel
theorem dX9_turns_42 : decode cX9_turns 42 = .ok (.imul, 1) := by decide +kernel
theorem dX9_turns_43 : decode cX9_turns 43 = .ok (.iadd, 1) := by decide +kernel
theorem dX9_turns_44 : decode cX9_turns 44 = .ok (.iload 4, 2) := by decide +kernel
theorem dX9_turns_46 : decode cX9_turns 46 = .ok (.iadd, 1) := by decide +kernel
theorem dX9_turns_47 : decode cX9_turns 47 = .ok (.aload_n 0, 1) := by decide +kernel
theorem dX9_turns_48 : decode cX9_turns 48 = .ok (.getfield 16, 3) := by decide +kernel
theorem dX9_turns_51 : decode cX9_turns 51 = .ok (.bipush 16, 2) := by decide +kernel
theorem dX9_turns_53 : decode cX9_turns 53 = .ok (.bipush 21, 2) := by decide +kernel
theorem dX9_turns_55 : decode cX9_turns 55 = .ok (.iload_n 2, 1) := by decide +kernel
theorem dX9_turns_56 : decode cX9_turns 56 = .ok (.imul, 1) := by decide +kernel
theorem dX9_turns_57 : decode cX9_turns 57 = .ok (.iadd, 1) := by decide +kernel
theorem dX9_turns_58 : decode cX9_turns 58 = .ok (.iload 4, 2) := by decide +kernel
theorem dX9_turns_60 : decode cX9_turns 60 = .ok (.iadd, 1) := by decide +kernel
theorem dX9_turns_61 : decode cX9_turns 61 = .ok (.iaload, 1) := by decide +kernel
theorem dX9_turns_62 : decode cX9_turns 62 = .ok (.iastore, 1) := by decide +kernel
theorem dX9_turns_63 : decode cX9_turns 63 = .ok (.iinc 4 1, 3) := by decide +kernel
theorem dX9_turns_66 : decode cX9_turns 66 = .ok (.goto (-40), 3) := by decide +kernel
theorem dX9_turns_69 : decode cX9_turns 69 = .ok (.iinc 2 1, 3) := by decide +kernel
theorem dX9_turns_72 : decode cX9_turns 72 = .ok (.goto (-70), 3) := by decide +kernel
theorem dX9_turns_75 : decode cX9_turns 75 = .ok (.return_, 1) := by decide +kernel
theorem dX9_turn_0 : decode cX9_turn 0 = .ok (.aload_n 0, 1) := by decide +kernel
theorem dX9_turn_1 : decode cX9_turn 1 = .ok (.iload_n 1, 1) := by decide +kernel
theorem dX9_turn_2 : decode cX9_turn 2 = .ok (.invokevirtual 80, 3) := by decide +kernel
theorem dX9_turn_5 : decode cX9_turn 5 = .ok (.ifCond .eq 13, 3) := by decide +kernel
theorem dX9_turn_8 : decode cX9_turn 8 = .ok (.iload_n 2, 1) := by decide +kernel
theorem dX9_turn_9 : decode cX9_turn 9 = .ok (.iconst 1, 1) := by decide +kernel
theorem dX9_turn_10 : decode cX9_turn 10 = .ok (.bipush 20, 2) := by decide +kernel
theorem dX9_turn_12 : decode cX9_turn 12 = .ok (.invokestatic 47, 3) := by decide +kernel
theorem dX9_turn_15 : decode cX9_turn 15 = .ok (.ifCond .ne 9, 3) := by decide +kernel
theorem dX9_turn_18 : decode cX9_turn 18 = .ok (.aload_n 0, 1) := by decide +kernel
theorem dX9_turn_19 : decode cX9_turn 19 = .ok (.iconst 1, 1) := by decide +kernel
theorem dX9_turn_20 : decode cX9_turn 20 = .ok (.invokevirtual 70, 3) := by decide +kernel
theorem dX9_turn_23 : decode cX9_turn 23 = .ok (.ireturn, 1) := by decide +kernel
theorem dX9_turn_24 : decode cX9_turn 24 = .ok (.iconst 0, 1) := by decide +kernel
theorem dX9_turn_25 : decode cX9_turn 25 = .ok (.istore_n 3, 1) := by decide +kernel
theorem dX9_turn_26 : decode cX9_turn 26 = .ok (.iconst 0, 1) := by decide +kernel
theorem dX9_turn_27 : decode cX9_turn 27 = .ok (.istore 4, 2) := by decide +kernel
theorem dX9_turn_29 : decode cX9_turn 29 = .ok (.iconst 0, 1) := by decide +kernel
theorem dX9_turn_30 : decode cX9_turn 30 = .ok (.istore 5, 2) := by decide +kernel
theorem dX9_turn_32 : decode cX9_turn 32 = .ok (.iload 5, 2) := by decide +kernel
theorem dX9_turn_34 : decode cX9_turn 34 = .ok (.aload_n 0, 1) := by decide +kernel
theorem dX9_turn_35 : decode cX9_turn 35 = .ok (.getfield 7, 3) := by decide +kernel
theorem dX9_turn_38 : decode cX9_turn 38 = .ok (.iconst 0, 1) := by decide +kernel
theorem dX9_turn_39 : decode cX9_turn 39 = .ok (.iaload, 1) := by decide +kernel
theorem dX9_turn_40 : decode cX9_turn 40 = .ok (.if_icmp .ge 79, 3) := by decide +kernel
theorem dX9_turn_43 : decode cX9_turn 43 = .ok (.aload_n 0, 1) := by decide +kernel
theorem dX9_turn_44 : decode cX9_turn 44 = .ok (.getfield 7, 3) := by decide +kernel
theorem dX9_turn_47 : decode cX9_turn 47 = .ok (.aload_n 0, 1) := by decide +kernel
theorem dX9_turn_48 : decode cX9_turn 48 = .ok (.getfield 16, 3) := by decide +kernel
theorem dX9_turn_51 : decode cX9_turn 51 = .ok (.invokestatic 215, 3) := by decide +kernel
theorem dX9_turn_54 : decode cX9_turn 54 = .ok (.aload_n 0, 1) := by decide +kernel
theorem dX9_turn_55 : decode cX9_turn 55 = .ok (.iload 5, 2) := by decide +kernel
theorem dX9_turn_57 : decode cX9_turn 57 = .ok (.invokevirtual 222, 3) := by decide +kernel
theorem dX9_turn_60 : decode cX9_turn 60 = .ok (.aload_n 0, 1) := by decide +kernel
theorem dX9_turn_61 : decode cX9_turn 61 = .ok (.iload_n 2, 1) := by decide +kernel
theorem dX9_turn_62 : decode cX9_turn 62 = .ok (.invokevirtual 212, 3) := by decide +kernel
theorem dX9_turn_65 : decode cX9_turn 65 = .ok (.aload_n 0, 1) := by decide +kernel
theorem dX9_turn_66 : decode cX9_turn 66 = .ok (.iload_n 1, 1) := by decide +kernel
theorem dX9_turn_67 : decode cX9_turn 67 = .ok (.iload 5, 2) := by decide +kernel
theorem dX9_turn_69 : decode cX9_turn 69 = .ok (.iadd, 1) := by decide +kernel
theorem dX9_turn_70 : decode cX9_turn 70 = .ok (.aload_n 0, 1) := by decide +kernel
theorem dX9_turn_71 : decode cX9_turn 71 = .ok (.getfield 7, 3) := by decide +kernel
theorem dX9_turn_74 : decode cX9_turn 74 = .ok (.iconst 0, 1) := by decide +kernel
theorem dX9_turn_75 : decode cX9_turn 75 = .ok (.iaload, 1) := by decide +kernel
theorem dX9_turn_76 : decode cX9_turn 76 = .ok (.irem, 1) := by decide +kernel
theorem dX9_turn_77 : decode cX9_turn 77 = .ok (.iconst 2, 1) := by decide +kernel
theorem dX9_turn_78 : decode cX9_turn 78 = .ok (.invokevirtual 51, 3) := by decide +kernel
theorem dX9_turn_81 : decode cX9_turn 81 = .ok (.istore 6, 2) := by decide +kernel
theorem dX9_turn_83 : decode cX9_turn 83 = .ok (.aload_n 0, 1) := by decide +kernel
theorem dX9_turn_84 : decode cX9_turn 84 = .ok (.getfield 16, 3) := by decide +kernel
theorem dX9_turn_87 : decode cX9_turn 87 = .ok (.aload_n 0, 1) := by decide +kernel
theorem dX9_turn_88 : decode cX9_turn 88 = .ok (.getfield 7, 3) := by decide +kernel
theorem dX9_turn_91 : decode cX9_turn 91 = .ok (.invokestatic 215, 3) := by decide +kernel
theorem dX9_turn_94 : decode cX9_turn 94 = .ok (.iload 5, 2) := by decide +kernel
theorem dX9_turn_96 : decode cX9_turn 96 = .ok (.ifCond .eq 10, 3) := by decide +kernel
theorem dX9_turn_99 : decode cX9_turn 99 = .ok (.iload 6, 2) := by decide +kernel
theorem dX9_turn_101 : decode cX9_turn 101 = .ok (.iload 4, 2) := by decide +kernel
theorem dX9_turn_103 : decode cX9_turn 103 = .ok (.if_icmp .le 10, 3) := by decide +kernel
theorem dX9_turn_106 : decode cX9_turn 106 = .ok (.iload 5, 2) := by decide +kernel
theorem dX9_turn_108 : decode cX9_turn 108 = .ok (.istore_n 3, 1) := by decide +kernel
theorem dX9_turn_109 : decode cX9_turn 109 = .ok (.iload 6, 2) := by decide +kernel
theorem dX9_turn_111 : decode cX9_turn 111 = .ok (.istore 4, 2) := by decide +kernel
theorem dX9_turn_113 : decode cX9_turn 113 = .ok (.iinc 5 1, 3) := by decide +kernel
theorem dX9_turn_116 : decode cX9_turn 116 = .ok (.goto (-84), 3) := by decide +kernel
theorem dX9_turn_119 : decode cX9_turn 119 = .ok (.iload_n 3, 1) := by decide +kernel
theorem dX9_turn_120 : decode cX9_turn 120 = .ok (.ireturn, 1) := by decide +kernel
theorem dX9_behindVisits_0 : decode cX9_behindVisits 0 = .ok (.iconst 0, 1) := by decide +kernel
theorem dX9_behindVisits_1 : decode cX9_behindVisits 1 = .ok (.istore_n 2, 1) := by decide +kernel
theorem dX9_behindVisits_2 : decode cX9_behindVisits 2 = .ok (.iload_n 2, 1) := by decide +kernel
theorem dX9_behindVisits_3 : decode cX9_behindVisits 3 = .ok (.aload_n 0, 1) := by decide +kernel
theorem dX9_behindVisits_4 : decode cX9_behindVisits 4 = .ok (.getfield 7, 3) := by decide +kernel
theorem dX9_behindVisits_7 : decode cX9_behindVisits 7 = .ok (.iconst 1, 1) := by decide +kernel
theorem dX9_behindVisits_8 : decode cX9_behindVisits 8 = .ok (.iaload, 1) := by decide +kernel
theorem dX9_behindVisits_9 : decode cX9_behindVisits 9 = .ok (.if_icmp .ge 15, 3) := by decide +kernel
theorem dX9_behindVisits_12 : decode cX9_behindVisits 12 = .ok (.aload_n 0, 1) := by decide +kernel
theorem dX9_behindVisits_13 : decode cX9_behindVisits 13 = .ok (.iload_n 2, 1) := by decide +kernel
theorem dX9_behindVisits_14 : decode cX9_behindVisits 14 = .ok (.invokevirtual 198, 3) := by decide +kernel
theorem dX9_behindVisits_17 : decode cX9_behindVisits 17 = .ok (.istore_n 3, 1) := by decide +kernel
theorem dX9_behindVisits_18 : decode cX9_behindVisits 18 = .ok (.iinc 2 1, 3) := by decide +kernel
theorem dX9_behindVisits_21 : decode cX9_behindVisits 21 = .ok (.goto (-19), 3) := by decide +kernel
theorem dX9_behindVisits_24 : decode cX9_behindVisits 24 = .ok (.aload_n 0, 1) := by decide +kernel
theorem dX9_behindVisits_25 : decode cX9_behindVisits 25 = .ok (.iload_n 1, 1) := by decide +kernel
theorem dX9_behindVisits_26 : decode cX9_behindVisits 26 = .ok (.iconst 2, 1) := by decide +kernel
theorem dX9_behindVisits_27 : decode cX9_behindVisits 27 = .ok (.invokevirtual 51, 3) := by decide +kernel
theorem dX9_behindVisits_30 : decode cX9_behindVisits 30 = .ok (.istore_n 2, 1) := by decide +kernel
theorem dX9_behindVisits_31 : decode cX9_behindVisits 31 = .ok (.aload_n 0, 1) := by decide +kernel
theorem dX9_behindVisits_32 : decode cX9_behindVisits 32 = .ok (.getfield 16, 3) := by decide +kernel
theorem dX9_behindVisits_35 : decode cX9_behindVisits 35 = .ok (.aload_n 0, 1) := by decide +kernel
theorem dX9_behindVisits_36 : decode cX9_behindVisits 36 = .ok (.getfield 7, 3) := by decide +kernel
theorem dX9_behindVisits_39 : decode cX9_behindVisits 39 = .ok (.invokestatic 215, 3) := by decide +kernel
theorem dX9_behindVisits_42 : decode cX9_behindVisits 42 = .ok (.iload_n 2, 1) := by decide +kernel
theorem dX9_behindVisits_43 : decode cX9_behindVisits 43 = .ok (.ireturn, 1) := by decide +kernel
theorem dX9_out_0 : decode cX9_out 0 = .ok (.aload_n 0, 1) := by decide +kernel
theorem dX9_out_1 : decode cX9_out 1 = .ok (.iload_n 1, 1) := by decide +kernel
theorem dX9_out_2 : decode cX9_out 2 = .ok (.invokevirtual 80, 3) := by decide +kernel
theorem dX9_out_5 : decode cX9_out 5 = .ok (.ifCond .eq 10, 3) := by decide +kernel
theorem dX9_out_8 : decode cX9_out 8 = .ok (.iload_n 2, 1) := by decide +kernel
theorem dX9_out_9 : decode cX9_out 9 = .ok (.invokestatic 66, 3) := by decide +kernel
theorem dX9_out_12 : decode cX9_out 12 = .ok (.ifCond .ne 9, 3) := by decide +kernel
theorem dX9_out_15 : decode cX9_out 15 = .ok (.aload_n 0, 1) := by decide +kernel
theorem dX9_out_16 : decode cX9_out 16 = .ok (.iconst 1, 1) := by decide +kernel
theorem dX9_out_17 : decode cX9_out 17 = .ok (.invokevirtual 70, 3) := by decide +kernel
theorem dX9_out_20 : decode cX9_out 20 = .ok (.ireturn, 1) := by decide +kernel
theorem dX9_out_21 : decode cX9_out 21 = .ok (.aload_n 0, 1) := by decide +kernel
theorem dX9_out_22 : decode cX9_out 22 = .ok (.iload_n 1, 1) := by decide +kernel
theorem dX9_out_23 : decode cX9_out 23 = .ok (.invokevirtual 179, 3) := by decide +kernel
theorem dX9_out_26 : decode cX9_out 26 = .ok (.ifCond .eq 19, 3) := by decide +kernel
theorem dX9_out_29 : decode cX9_out 29 = .ok (.aload_n 0, 1) := by decide +kernel
theorem dX9_out_30 : decode cX9_out 30 = .ok (.aload_n 0, 1) := by decide +kernel
theorem dX9_out_31 : decode cX9_out 31 = .ok (.iload_n 1, 1) := by decide +kernel
theorem dX9_out_32 : decode cX9_out 32 = .ok (.invokevirtual 55, 3) := by decide +kernel
theorem dX9_out_35 : decode cX9_out 35 = .ok (.bipush 9, 2) := by decide +kernel
theorem dX9_out_37 : decode cX9_out 37 = .ok (.iload_n 2, 1) := by decide +kernel
theorem dX9_out_38 : decode cX9_out 38 = .ok (.iadd, 1) := by decide +kernel
theorem dX9_out_39 : decode cX9_out 39 = .ok (.invokevirtual 51, 3) := by decide +kernel
theorem dX9_out_42 : decode cX9_out 42 = .ok (.ifCond .ne 9, 3) := by decide +kernel
theorem dX9_out_45 : decode cX9_out 45 = .ok (.aload_n 0, 1) := by decide +kernel
theorem dX9_out_46 : decode cX9_out 46 = .ok (.iconst 3, 1) := by decide +kernel
theorem dX9_out_47 : decode cX9_out 47 = .ok (.invokevirtual 70, 3) := by decide +kernel
theorem dX9_out_50 : decode cX9_out 50 = .ok (.ireturn, 1) := by decide +kernel
theorem dX9_out_51 : decode cX9_out 51 = .ok (.aload_n 0, 1) := by decide +kernel
theorem dX9_out_52 : decode cX9_out 52 = .ok (.getfield 7, 3) := by decide +kernel
theorem dX9_out_55 : decode cX9_out 55 = .ok (.aload_n 0, 1) := by decide +kernel
theorem dX9_out_56 : decode cX9_out 56 = .ok (.getfield 16, 3) := by decide +kernel
theorem dX9_out_59 : decode cX9_out 59 = .ok (.invokestatic 215, 3) := by decide +kernel
theorem dX9_out_62 : decode cX9_out 62 = .ok (.aload_n 0, 1) := by decide +kernel
theorem dX9_out_63 : decode cX9_out 63 = .ok (.iload_n 1, 1) := by decide +kernel
theorem dX9_out_64 : decode cX9_out 64 = .ok (.invokevirtual 225, 3) := by decide +kernel
theorem dX9_out_67 : decode cX9_out 67 = .ok (.istore_n 3, 1) := by decide +kernel
theorem dX9_out_68 : decode cX9_out 68 = .ok (.aload_n 0, 1) := by decide +kernel
theorem dX9_out_69 : decode cX9_out 69 = .ok (.iload_n 1, 1) := by decide +kernel
theorem dX9_out_70 : decode cX9_out 70 = .ok (.iload_n 2, 1) := by decide +kernel
theorem dX9_out_71 : decode cX9_out 71 = .ok (.invokevirtual 182, 3) := by decide +kernel
theorem dX9_out_74 : decode cX9_out 74 = .ok (.aload_n 0, 1) := by decide +kernel
theorem dX9_out_75 : decode cX9_out 75 = .ok (.iload_n 1, 1) := by decide +kernel
theorem dX9_out_76 : decode cX9_out 76 = .ok (.invokevirtual 225, 3) := by decide +kernel
theorem dX9_out_79 : decode cX9_out 79 = .ok (.iload_n 3, 1) := by decide +kernel
theorem dX9_out_80 : decode cX9_out 80 = .ok (.isub, 1) := by decide +kernel
theorem dX9_out_81 : decode cX9_out 81 = .ok (.ireturn, 1) := by decide +kernel
theorem dX9_joins_0 : decode cX9_joins 0 = .ok (.aload_n 0, 1) := by decide +kernel
theorem dX9_joins_1 : decode cX9_joins 1 = .ok (.iload_n 1, 1) := by decide +kernel
theorem dX9_joins_2 : decode cX9_joins 2 = .ok (.aload_n 0, 1) := by decide +kernel
theorem dX9_joins_3 : decode cX9_joins 3 = .ok (.iload_n 1, 1) := by decide +kernel
theorem dX9_joins_4 : decode cX9_joins 4 = .ok (.iconst 1, 1) := by decide +kernel
theorem dX9_joins_5 : decode cX9_joins 5 = .ok (.iadd, 1) := by decide +kernel
theorem dX9_joins_6 : decode cX9_joins 6 = .ok (.iconst 2, 1) := by decide +kernel
theorem dX9_joins_7 : decode cX9_joins 7 = .ok (.invokevirtual 51, 3) := by decide +kernel
theorem dX9_joins_10 : decode cX9_joins 10 = .ok (.invokevirtual 176, 3) := by decide +kernel
theorem dX9_joins_13 : decode cX9_joins 13 = .ok (.iconst 0, 1) := by decide +kernel
theorem dX9_joins_14 : decode cX9_joins 14 = .ok (.istore_n 2, 1) := by decide +kernel
theorem dX9_joins_15 : decode cX9_joins 15 = .ok (.iload_n 2, 1) := by decide +kernel
theorem dX9_joins_16 : decode cX9_joins 16 = .ok (.bipush 6, 2) := by decide +kernel
theorem dX9_joins_18 : decode cX9_joins 18 = .ok (.if_icmp .ge 78, 3) := by decide +kernel
theorem dX9_joins_21 : decode cX9_joins 21 = .ok (.aload_n 0, 1) := by decide +kernel
theorem dX9_joins_22 : decode cX9_joins 22 = .ok (.iload_n 1, 1) := by decide +kernel
theorem dX9_joins_23 : decode cX9_joins 23 = .ok (.iconst 3, 1) := by decide +kernel
theorem dX9_joins_24 : decode cX9_joins 24 = .ok (.iload_n 2, 1) := by decide +kernel
theorem dX9_joins_25 : decode cX9_joins 25 = .ok (.iadd, 1) := by decide +kernel
theorem dX9_joins_26 : decode cX9_joins 26 = .ok (.aload_n 0, 1) := by decide +kernel
theorem dX9_joins_27 : decode cX9_joins 27 = .ok (.iload_n 1, 1) := by decide +kernel
theorem dX9_joins_28 : decode cX9_joins 28 = .ok (.iconst 3, 1) := by decide +kernel
theorem dX9_joins_29 : decode cX9_joins 29 = .ok (.iload_n 2, 1) := by decide +kernel
theorem dX9_joins_30 : decode cX9_joins 30 = .ok (.iadd, 1) := by decide +kernel
theorem dX9_joins_31 : decode cX9_joins 31 = .ok (.invokevirtual 51, 3) := by decide +kernel
theorem dX9_joins_34 : decode cX9_joins 34 = .ok (.aload_n 0, 1) := by decide +kernel
theorem dX9_joins_35 : decode cX9_joins 35 = .ok (.iload_n 1, 1) := by decide +kernel
theorem dX9_joins_36 : decode cX9_joins 36 = .ok (.iconst 1, 1) := by decide +kernel
theorem dX9_joins_37 : decode cX9_joins 37 = .ok (.iadd, 1) := by decide +kernel
theorem dX9_joins_38 : decode cX9_joins 38 = .ok (.iconst 3, 1) := by decide +kernel
theorem dX9_joins_39 : decode cX9_joins 39 = .ok (.iload_n 2, 1) := by decide +kernel
theorem dX9_joins_40 : decode cX9_joins 40 = .ok (.iadd, 1) := by decide +kernel
theorem dX9_joins_41 : decode cX9_joins 41 = .ok (.invokevirtual 51, 3) := by decide +kernel
theorem dX9_joins_44 : decode cX9_joins 44 = .ok (.iadd, 1) := by decide +kernel
theorem dX9_joins_45 : decode cX9_joins 45 = .ok (.iconst 0, 1) := by decide +kernel
theorem dX9_joins_46 : decode cX9_joins 46 = .ok (.bipush 9, 2) := by decide +kernel
theorem dX9_joins_48 : decode cX9_joins 48 = .ok (.invokestatic 162, 3) := by decide +kernel
theorem dX9_joins_51 : decode cX9_joins 51 = .ok (.invokevirtual 73, 3) := by decide +kernel
theorem dX9_joins_54 : decode cX9_joins 54 = .ok (.aload_n 0, 1) := by decide +kernel
theorem dX9_joins_55 : decode cX9_joins 55 = .ok (.iload_n 1, 1) := by decide +kernel
theorem dX9_joins_56 : decode cX9_joins 56 = .ok (.bipush 9, 2) := by decide +kernel
theorem dX9_joins_58 : decode cX9_joins 58 = .ok (.iload_n 2, 1) := by decide +kernel
theorem dX9_joins_59 : decode cX9_joins 59 = .ok (.iadd, 1) := by decide +kernel
theorem dX9_joins_60 : decode cX9_joins 60 = .ok (.aload_n 0, 1) := by decide +kernel
theorem dX9_joins_61 : decode cX9_joins 61 = .ok (.iload_n 1, 1) := by decide +kernel
theorem dX9_joins_62 : decode cX9_joins 62 = .ok (.bipush 9, 2) := by decide +kernel
theorem dX9_joins_64 : decode cX9_joins 64 = .ok (.iload_n 2, 1) := by decide +kernel
theorem dX9_joins_65 : decode cX9_joins 65 = .ok (.iadd, 1) := by decide +kernel
theorem dX9_joins_66 : decode cX9_joins 66 = .ok (.invokevirtual 51, 3) := by decide +kernel
theorem dX9_joins_69 : decode cX9_joins 69 = .ok (.aload_n 0, 1) := by decide +kernel
theorem dX9_joins_70 : decode cX9_joins 70 = .ok (.iload_n 1, 1) := by decide +kernel
theorem dX9_joins_71 : decode cX9_joins 71 = .ok (.iconst 1, 1) := by decide +kernel
theorem dX9_joins_72 : decode cX9_joins 72 = .ok (.iadd, 1) := by decide +kernel
theorem dX9_joins_73 : decode cX9_joins 73 = .ok (.bipush 9, 2) := by decide +kernel
theorem dX9_joins_75 : decode cX9_joins 75 = .ok (.iload_n 2, 1) := by decide +kernel
theorem dX9_joins_76 : decode cX9_joins 76 = .ok (.iadd, 1) := by decide +kernel
theorem dX9_joins_77 : decode cX9_joins 77 = .ok (.invokevirtual 51, 3) := by decide +kernel
theorem dX9_joins_80 : decode cX9_joins 80 = .ok (.iadd, 1) := by decide +kernel
theorem dX9_joins_81 : decode cX9_joins 81 = .ok (.iconst 0, 1) := by decide +kernel
theorem dX9_joins_82 : decode cX9_joins 82 = .ok (.bipush 99, 2) := by decide +kernel
theorem dX9_joins_84 : decode cX9_joins 84 = .ok (.invokestatic 162, 3) := by decide +kernel
theorem dX9_joins_87 : decode cX9_joins 87 = .ok (.invokevirtual 73, 3) := by decide +kernel
theorem dX9_joins_90 : decode cX9_joins 90 = .ok (.iinc 2 1, 3) := by decide +kernel
theorem dX9_joins_93 : decode cX9_joins 93 = .ok (.goto (-78), 3) := by decide +kernel
theorem dX9_joins_96 : decode cX9_joins 96 = .ok (.iload_n 1, 1) := by decide +kernel
theorem dX9_joins_97 : decode cX9_joins 97 = .ok (.iconst 1, 1) := by decide +kernel
theorem dX9_joins_98 : decode cX9_joins 98 = .ok (.iadd, 1) := by decide +kernel
theorem dX9_joins_99 : decode cX9_joins 99 = .ok (.istore_n 2, 1) := by decide +kernel
theorem dX9_joins_100 : decode cX9_joins 100 = .ok (.iload_n 2, 1) := by decide +kernel
theorem dX9_joins_101 : decode cX9_joins 101 = .ok (.iconst 1, 1) := by decide +kernel
theorem dX9_joins_102 : decode cX9_joins 102 = .ok (.iadd, 1) := by decide +kernel
theorem dX9_joins_103 : decode cX9_joins 103 = .ok (.aload_n 0, 1) := by decide +kernel
theorem dX9_joins_104 : decode cX9_joins 104 = .ok (.getfield 7, 3) := by decide +kernel
theorem dX9_joins_107 : decode cX9_joins 107 = .ok (.iconst 0, 1) := by decide +kernel
theorem dX9_joins_108 : decode cX9_joins 108 = .ok (.iaload, 1) := by decide +kernel
theorem dX9_joins_109 : decode cX9_joins 109 = .ok (.if_icmp .ge 37, 3) := by decide +kernel
theorem dX9_joins_112 : decode cX9_joins 112 = .ok (.iconst 0, 1) := by decide +kernel
theorem dX9_joins_113 : decode cX9_joins 113 = .ok (.istore_n 3, 1) := by decide +kernel
theorem dX9_joins_114 : decode cX9_joins 114 = .ok (.iload_n 3, 1) := by decide +kernel
theorem dX9_joins_115 : decode cX9_joins 115 = .ok (.bipush 21, 2) := by decide +kernel
theorem dX9_joins_117 : decode cX9_joins 117 = .ok (.if_icmp .ge 23, 3) := by decide +kernel
theorem dX9_joins_120 : decode cX9_joins 120 = .ok (.aload_n 0, 1) := by decide +kernel
theorem dX9_joins_121 : decode cX9_joins 121 = .ok (.iload_n 2, 1) := by decide +kernel
theorem dX9_joins_122 : decode cX9_joins 122 = .ok (.iload_n 3, 1) := by decide +kernel
theorem dX9_joins_123 : decode cX9_joins 123 = .ok (.aload_n 0, 1) := by decide +kernel
theorem dX9_joins_124 : decode cX9_joins 124 = .ok (.iload_n 2, 1) := by decide +kernel
theorem dX9_joins_125 : decode cX9_joins 125 = .ok (.iconst 1, 1) := by decide +kernel
theorem dX9_joins_126 : decode cX9_joins 126 = .ok (.iadd, 1) := by decide +kernel
theorem dX9_joins_127 : decode cX9_joins 127 = .ok (.iload_n 3, 1) := by decide +kernel
theorem dX9_joins_128 : decode cX9_joins 128 = .ok (.invokevirtual 51, 3) := by decide +kernel
theorem dX9_joins_131 : decode cX9_joins 131 = .ok (.invokevirtual 73, 3) := by decide +kernel
theorem dX9_joins_134 : decode cX9_joins 134 = .ok (.iinc 3 1, 3) := by decide +kernel
theorem dX9_joins_137 : decode cX9_joins 137 = .ok (.goto (-23), 3) := by decide +kernel
theorem dX9_joins_140 : decode cX9_joins 140 = .ok (.iinc 2 1, 3) := by decide +kernel
theorem dX9_joins_143 : decode cX9_joins 143 = .ok (.goto (-43), 3) := by decide +kernel
theorem dX9_joins_146 : decode cX9_joins 146 = .ok (.aload_n 0, 1) := by decide +kernel
theorem dX9_joins_147 : decode cX9_joins 147 = .ok (.getfield 7, 3) := by decide +kernel
theorem dX9_joins_150 : decode cX9_joins 150 = .ok (.iconst 0, 1) := by decide +kernel
theorem dX9_joins_151 : decode cX9_joins 151 = .ok (.dup2, 1) := by decide +kernel
theorem dX9_joins_152 : decode cX9_joins 152 = .ok (.iaload, 1) := by decide +kernel
theorem dX9_joins_153 : decode cX9_joins 153 = .ok (.iconst 1, 1) := by decide +kernel
theorem dX9_joins_154 : decode cX9_joins 154 = .ok (.isub, 1) := by decide +kernel
theorem dX9_joins_155 : decode cX9_joins 155 = .ok (.iastore, 1) := by decide +kernel
theorem dX9_joins_156 : decode cX9_joins 156 = .ok (.return_, 1) := by decide +kernel
theorem dX9_joined__0 : decode cX9_joined_ 0 = .ok (.iload_n 1, 1) := by decide +kernel
theorem dX9_joined__1 : decode cX9_joined_ 1 = .ok (.iconst 0, 1) := by decide +kernel
theorem dX9_joined__2 : decode cX9_joined_ 2 = .ok (.aload_n 0, 1) := by decide +kernel
theorem dX9_joined__3 : decode cX9_joined_ 3 = .ok (.getfield 7, 3) := by decide +kernel
theorem dX9_joined__6 : decode cX9_joined_ 6 = .ok (.iconst 0, 1) := by decide +kernel
theorem dX9_joined__7 : decode cX9_joined_ 7 = .ok (.iaload, 1) := by decide +kernel
theorem dX9_joined__8 : decode cX9_joined_ 8 = .ok (.iconst 2, 1) := by decide +kernel
theorem dX9_joined__9 : decode cX9_joined_ 9 = .ok (.isub, 1) := by decide +kernel
theorem dX9_joined__10 : decode cX9_joined_ 10 = .ok (.invokestatic 47, 3) := by decide +kernel
theorem dX9_joined__13 : decode cX9_joined_ 13 = .ok (.ifCond .eq 13, 3) := by decide +kernel
theorem dX9_joined__16 : decode cX9_joined_ 16 = .ok (.iload_n 2, 1) := by decide +kernel
theorem dX9_joined__17 : decode cX9_joined_ 17 = .ok (.iconst 1, 1) := by decide +kernel
theorem dX9_joined__18 : decode cX9_joined_ 18 = .ok (.bipush 20, 2) := by decide +kernel
theorem dX9_joined__20 : decode cX9_joined_ 20 = .ok (.invokestatic 47, 3) := by decide +kernel
theorem dX9_joined__23 : decode cX9_joined_ 23 = .ok (.ifCond .ne 9, 3) := by decide +kernel
theorem dX9_joined__26 : decode cX9_joined_ 26 = .ok (.aload_n 0, 1) := by decide +kernel
theorem dX9_joined__27 : decode cX9_joined_ 27 = .ok (.iconst 1, 1) := by decide +kernel
theorem dX9_joined__28 : decode cX9_joined_ 28 = .ok (.invokevirtual 70, 3) := by decide +kernel
theorem dX9_joined__31 : decode cX9_joined_ 31 = .ok (.ireturn, 1) := by decide +kernel
theorem dX9_joined__32 : decode cX9_joined_ 32 = .ok (.aload_n 0, 1) := by decide +kernel
theorem dX9_joined__33 : decode cX9_joined_ 33 = .ok (.getfield 7, 3) := by decide +kernel
theorem dX9_joined__36 : decode cX9_joined_ 36 = .ok (.aload_n 0, 1) := by decide +kernel
theorem dX9_joined__37 : decode cX9_joined_ 37 = .ok (.getfield 16, 3) := by decide +kernel
theorem dX9_joined__40 : decode cX9_joined_ 40 = .ok (.invokestatic 215, 3) := by decide +kernel
theorem dX9_joined__43 : decode cX9_joined_ 43 = .ok (.aload_n 0, 1) := by decide +kernel
theorem dX9_joined__44 : decode cX9_joined_ 44 = .ok (.iload_n 2, 1) := by decide +kernel
theorem dX9_joined__45 : decode cX9_joined_ 45 = .ok (.invokevirtual 212, 3) := by decide +kernel
theorem dX9_joined__48 : decode cX9_joined_ 48 = .ok (.aload_n 0, 1) := by decide +kernel
theorem dX9_joined__49 : decode cX9_joined_ 49 = .ok (.iload_n 1, 1) := by decide +kernel
theorem dX9_joined__50 : decode cX9_joined_ 50 = .ok (.iconst 2, 1) := by decide +kernel
theorem dX9_joined__51 : decode cX9_joined_ 51 = .ok (.invokevirtual 51, 3) := by decide +kernel
theorem dX9_joined__54 : decode cX9_joined_ 54 = .ok (.aload_n 0, 1) := by decide +kernel
theorem dX9_joined__55 : decode cX9_joined_ 55 = .ok (.iload_n 1, 1) := by decide +kernel
theorem dX9_joined__56 : decode cX9_joined_ 56 = .ok (.iconst 1, 1) := by decide +kernel
theorem dX9_joined__57 : decode cX9_joined_ 57 = .ok (.iadd, 1) := by decide +kernel
theorem dX9_joined__58 : decode cX9_joined_ 58 = .ok (.iconst 2, 1) := by decide +kernel
theorem dX9_joined__59 : decode cX9_joined_ 59 = .ok (.invokevirtual 51, 3) := by decide +kernel
theorem dX9_joined__62 : decode cX9_joined_ 62 = .ok (.iadd, 1) := by decide +kernel
theorem dX9_joined__63 : decode cX9_joined_ 63 = .ok (.istore_n 3, 1) := by decide +kernel
theorem dX9_joined__64 : decode cX9_joined_ 64 = .ok (.aload_n 0, 1) := by decide +kernel
theorem dX9_joined__65 : decode cX9_joined_ 65 = .ok (.getfield 16, 3) := by decide +kernel
theorem dX9_joined__68 : decode cX9_joined_ 68 = .ok (.aload_n 0, 1) := by decide +kernel
theorem dX9_joined__69 : decode cX9_joined_ 69 = .ok (.getfield 7, 3) := by decide +kernel
theorem dX9_joined__72 : decode cX9_joined_ 72 = .ok (.invokestatic 215, 3) := by decide +kernel
theorem dX9_joined__75 : decode cX9_joined_ 75 = .ok (.aload_n 0, 1) := by decide +kernel
theorem dX9_joined__76 : decode cX9_joined_ 76 = .ok (.iload_n 1, 1) := by decide +kernel
theorem dX9_joined__77 : decode cX9_joined_ 77 = .ok (.invokevirtual 228, 3) := by decide +kernel
theorem dX9_joined__80 : decode cX9_joined_ 80 = .ok (.aload_n 0, 1) := by decide +kernel
theorem dX9_joined__81 : decode cX9_joined_ 81 = .ok (.iload_n 2, 1) := by decide +kernel
theorem dX9_joined__82 : decode cX9_joined_ 82 = .ok (.invokevirtual 212, 3) := by decide +kernel
theorem dX9_joined__85 : decode cX9_joined_ 85 = .ok (.aload_n 0, 1) := by decide +kernel
theorem dX9_joined__86 : decode cX9_joined_ 86 = .ok (.iload_n 1, 1) := by decide +kernel
theorem dX9_joined__87 : decode cX9_joined_ 87 = .ok (.iconst 2, 1) := by decide +kernel
theorem dX9_joined__88 : decode cX9_joined_ 88 = .ok (.invokevirtual 51, 3) := by decide +kernel
theorem dX9_joined__91 : decode cX9_joined_ 91 = .ok (.istore 4, 2) := by decide +kernel
theorem dX9_joined__93 : decode cX9_joined_ 93 = .ok (.aload_n 0, 1) := by decide +kernel
theorem dX9_joined__94 : decode cX9_joined_ 94 = .ok (.getfield 16, 3) := by decide +kernel
theorem dX9_joined__97 : decode cX9_joined_ 97 = .ok (.aload_n 0, 1) := by decide +kernel
theorem dX9_joined__98 : decode cX9_joined_ 98 = .ok (.getfield 7, 3) := by decide +kernel
theorem dX9_joined__101 : decode cX9_joined_ 101 = .ok (.invokestatic 215, 3) := by decide +kernel
theorem dX9_joined__104 : decode cX9_joined_ 104 = .ok (.iload 4, 2) := by decide +kernel
theorem dX9_joined__106 : decode cX9_joined_ 106 = .ok (.iload_n 3, 1) := by decide +kernel
theorem dX9_joined__107 : decode cX9_joined_ 107 = .ok (.isub, 1) := by decide +kernel
theorem dX9_joined__108 : decode cX9_joined_ 108 = .ok (.ireturn, 1) := by decide +kernel
theorem dX9_walk_0 : decode cX9_walk 0 = .ok (.aload_n 0, 1) := by decide +kernel
theorem dX9_walk_1 : decode cX9_walk 1 = .ok (.iload_n 1, 1) := by decide +kernel
theorem dX9_walk_2 : decode cX9_walk 2 = .ok (.invokevirtual 95, 3) := by decide +kernel
theorem dX9_walk_5 : decode cX9_walk 5 = .ok (.ifCond .ne 9, 3) := by decide +kernel
theorem dX9_walk_8 : decode cX9_walk 8 = .ok (.aload_n 0, 1) := by decide +kernel
theorem dX9_walk_9 : decode cX9_walk 9 = .ok (.iconst 1, 1) := by decide +kernel
theorem dX9_walk_10 : decode cX9_walk 10 = .ok (.invokevirtual 70, 3) := by decide +kernel
theorem dX9_walk_13 : decode cX9_walk 13 = .ok (.ireturn, 1) := by decide +kernel
theorem dX9_walk_14 : decode cX9_walk 14 = .ok (.aload_n 0, 1) := by decide +kernel
theorem dX9_walk_15 : decode cX9_walk 15 = .ok (.iload_n 1, 1) := by decide +kernel
theorem dX9_walk_16 : decode cX9_walk 16 = .ok (.iconst 0, 1) := by decide +kernel
theorem dX9_walk_17 : decode cX9_walk 17 = .ok (.invokevirtual 98, 3) := by decide +kernel
theorem dX9_walk_20 : decode cX9_walk 20 = .ok (.istore_n 2, 1) := by decide +kernel
theorem dX9_walk_21 : decode cX9_walk 21 = .ok (.iconst 0, 1) := by decide +kernel
theorem dX9_walk_22 : decode cX9_walk 22 = .ok (.istore_n 3, 1) := by decide +kernel
theorem dX9_walk_23 : decode cX9_walk 23 = .ok (.iload_n 2, 1) := by decide +kernel
theorem dX9_walk_24 : decode cX9_walk 24 = .ok (.ifCond .eq 34, 3) := by decide +kernel
theorem dX9_walk_27 : decode cX9_walk 27 = .ok (.iload_n 3, 1) := by decide +kernel
theorem dX9_walk_28 : decode cX9_walk 28 = .ok (.aload_n 0, 1) := by decide +kernel
theorem dX9_walk_29 : decode cX9_walk 29 = .ok (.getfield 7, 3) := by decide +kernel
theorem dX9_walk_32 : decode cX9_walk 32 = .ok (.iconst 0, 1) := by decide +kernel
theorem dX9_walk_33 : decode cX9_walk 33 = .ok (.iaload, 1) := by decide +kernel
theorem dX9_walk_34 : decode cX9_walk 34 = .ok (.if_icmp .ge 24, 3) := by decide +kernel
theorem dX9_walk_37 : decode cX9_walk 37 = .ok (.iload_n 2, 1) := by decide +kernel
theorem dX9_walk_38 : decode cX9_walk 38 = .ok (.aload_n 0, 1) := by decide +kernel
theorem dX9_walk_39 : decode cX9_walk 39 = .ok (.aload_n 0, 1) := by decide +kernel
theorem dX9_walk_40 : decode cX9_walk 40 = .ok (.iload_n 1, 1) := by decide +kernel
theorem dX9_walk_41 : decode cX9_walk 41 = .ok (.iload_n 3, 1) := by decide +kernel
theorem dX9_walk_42 : decode cX9_walk 42 = .ok (.invokevirtual 195, 3) := by decide +kernel
theorem dX9_walk_45 : decode cX9_walk 45 = .ok (.invokevirtual 77, 3) := by decide +kernel
theorem dX9_walk_48 : decode cX9_walk 48 = .ok (.iconst (-1), 1) := by decide +kernel
theorem dX9_walk_49 : decode cX9_walk 49 = .ok (.ixor, 1) := by decide +kernel
theorem dX9_walk_50 : decode cX9_walk 50 = .ok (.iand, 1) := by decide +kernel
theorem dX9_walk_51 : decode cX9_walk 51 = .ok (.istore_n 2, 1) := by decide +kernel
theorem dX9_walk_52 : decode cX9_walk 52 = .ok (.iinc 3 1, 3) := by decide +kernel
theorem dX9_walk_55 : decode cX9_walk 55 = .ok (.goto (-32), 3) := by decide +kernel
theorem dX9_walk_58 : decode cX9_walk 58 = .ok (.iload_n 2, 1) := by decide +kernel
theorem dX9_walk_59 : decode cX9_walk 59 = .ok (.ifCond .ne 7, 3) := by decide +kernel
theorem dX9_walk_62 : decode cX9_walk 62 = .ok (.iload_n 3, 1) := by decide +kernel
theorem dX9_walk_63 : decode cX9_walk 63 = .ok (.goto 8, 3) := by decide +kernel
theorem dX9_walk_66 : decode cX9_walk 66 = .ok (.aload_n 0, 1) := by decide +kernel
theorem dX9_walk_67 : decode cX9_walk 67 = .ok (.iconst 2, 1) := by decide +kernel
theorem dX9_walk_68 : decode cX9_walk 68 = .ok (.invokevirtual 70, 3) := by decide +kernel
theorem dX9_walk_71 : decode cX9_walk 71 = .ok (.ireturn, 1) := by decide +kernel
theorem dX9_begins_0 : decode cX9_begins 0 = .ok (.aload_n 0, 1) := by decide +kernel
theorem dX9_begins_1 : decode cX9_begins 1 = .ok (.getfield 231, 3) := by decide +kernel
theorem dX9_begins_4 : decode cX9_begins 4 = .ok (.bipush 30, 2) := by decide +kernel
theorem dX9_begins_6 : decode cX9_begins 6 = .ok (.if_icmp .ge 23, 3) := by decide +kernel
theorem dX9_begins_9 : decode cX9_begins 9 = .ok (.aload_n 0, 1) := by decide +kernel
theorem dX9_begins_10 : decode cX9_begins 10 = .ok (.getfield 31, 3) := by decide +kernel
theorem dX9_begins_13 : decode cX9_begins 13 = .ok (.aload_n 0, 1) := by decide +kernel
theorem dX9_begins_14 : decode cX9_begins 14 = .ok (.getfield 231, 3) := by decide +kernel
theorem dX9_begins_17 : decode cX9_begins 17 = .ok (.iload_n 1, 1) := by decide +kernel
theorem dX9_begins_18 : decode cX9_begins 18 = .ok (.iastore, 1) := by decide +kernel
theorem dX9_begins_19 : decode cX9_begins 19 = .ok (.aload_n 0, 1) := by decide +kernel
theorem dX9_begins_20 : decode cX9_begins 20 = .ok (.dup, 1) := by decide +kernel
theorem dX9_begins_21 : decode cX9_begins 21 = .ok (.getfield 231, 3) := by decide +kernel
theorem dX9_begins_24 : decode cX9_begins 24 = .ok (.iconst 1, 1) := by decide +kernel
theorem dX9_begins_25 : decode cX9_begins 25 = .ok (.iadd, 1) := by decide +kernel
theorem dX9_begins_26 : decode cX9_begins 26 = .ok (.putfield 231, 3) := by decide +kernel
theorem dX9_begins_29 : decode cX9_begins 29 = .ok (.return_, 1) := by decide +kernel
theorem dX9_above_0 : decode cX9_above 0 = .ok (.iload_n 0, 1) := by decide +kernel
theorem dX9_above_1 : decode cX9_above 1 = .ok (.iconst 4, 1) := by decide +kernel
theorem dX9_above_2 : decode cX9_above 2 = .ok (.if_icmp .ne 7, 3) := by decide +kernel
theorem dX9_above_5 : decode cX9_above 5 = .ok (.iconst 1, 1) := by decide +kernel
theorem dX9_above_6 : decode cX9_above 6 = .ok (.goto 13, 3) := by decide +kernel
theorem dX9_above_9 : decode cX9_above 9 = .ok (.iload_n 0, 1) := by decide +kernel
theorem dX9_above_10 : decode cX9_above 10 = .ok (.iconst 5, 1) := by decide +kernel
theorem dX9_above_11 : decode cX9_above 11 = .ok (.if_icmp .ne 7, 3) := by decide +kernel
theorem dX9_above_14 : decode cX9_above 14 = .ok (.iconst 2, 1) := by decide +kernel
theorem dX9_above_15 : decode cX9_above 15 = .ok (.goto 4, 3) := by decide +kernel
theorem dX9_above_18 : decode cX9_above 18 = .ok (.iconst 0, 1) := by decide +kernel
theorem dX9_above_19 : decode cX9_above 19 = .ok (.ireturn, 1) := by decide +kernel
theorem dX9_kindNow_0 : decode cX9_kindNow 0 = .ok (.aload_n 0, 1) := by decide +kernel
theorem dX9_kindNow_1 : decode cX9_kindNow 1 = .ok (.aload_n 0, 1) := by decide +kernel
theorem dX9_kindNow_2 : decode cX9_kindNow 2 = .ok (.getfield 234, 3) := by decide +kernel
theorem dX9_kindNow_5 : decode cX9_kindNow 5 = .ok (.iconst 0, 1) := by decide +kernel
theorem dX9_kindNow_6 : decode cX9_kindNow 6 = .ok (.invokevirtual 51, 3) := by decide +kernel
theorem dX9_kindNow_9 : decode cX9_kindNow 9 = .ok (.ireturn, 1) := by decide +kernel
theorem dX9_mNow_0 : decode cX9_mNow 0 = .ok (.aload_n 0, 1) := by decide +kernel
theorem dX9_mNow_1 : decode cX9_mNow 1 = .ok (.aload_n 0, 1) := by decide +kernel
theorem dX9_mNow_2 : decode cX9_mNow 2 = .ok (.getfield 234, 3) := by decide +kernel
theorem dX9_mNow_5 : decode cX9_mNow 5 = .ok (.iconst 1, 1) := by decide +kernel
theorem dX9_mNow_6 : decode cX9_mNow 6 = .ok (.invokevirtual 51, 3) := by decide +kernel
theorem dX9_mNow_9 : decode cX9_mNow 9 = .ok (.ireturn, 1) := by decide +kernel
theorem dX9_sellsBy_0 : decode cX9_sellsBy 0 = .ok (.iload_n 1, 1) := by decide +kernel
theorem dX9_sellsBy_1 : decode cX9_sellsBy 1 = .ok (.tableswitch 100 0 6 #[43, 56, 100, 100, 74, 100, 92], 43) := by decide +kernel
theorem dX9_sellsBy_44 : decode cX9_sellsBy 44 = .ok (.aload_n 0, 1) := by decide +kernel
theorem dX9_sellsBy_45 : decode cX9_sellsBy 45 = .ok (.bipush 10, 2) := by decide +kernel
theorem dX9_sellsBy_47 : decode cX9_sellsBy 47 = .ok (.invokevirtual 237, 3) := by decide +kernel
theorem dX9_sellsBy_50 : decode cX9_sellsBy 50 = .ok (.iload_n 2, 1) := by decide +kernel
theorem dX9_sellsBy_51 : decode cX9_sellsBy 51 = .ok (.aload_n 0, 1) := by decide +kernel
theorem dX9_sellsBy_52 : decode cX9_sellsBy 52 = .ok (.getfield 234, 3) := by decide +kernel
theorem dX9_sellsBy_55 : decode cX9_sellsBy 55 = .ok (.iadd, 1) := by decide +kernel
theorem dX9_sellsBy_56 : decode cX9_sellsBy 56 = .ok (.ireturn, 1) := by decide +kernel
theorem dX9_sellsBy_57 : decode cX9_sellsBy 57 = .ok (.aload_n 0, 1) := by decide +kernel
theorem dX9_sellsBy_58 : decode cX9_sellsBy 58 = .ok (.bipush 20, 2) := by decide +kernel
theorem dX9_sellsBy_60 : decode cX9_sellsBy 60 = .ok (.invokevirtual 237, 3) := by decide +kernel
theorem dX9_sellsBy_63 : decode cX9_sellsBy 63 = .ok (.aload_n 0, 1) := by decide +kernel
theorem dX9_sellsBy_64 : decode cX9_sellsBy 64 = .ok (.iconst 1, 1) := by decide +kernel
theorem dX9_sellsBy_65 : decode cX9_sellsBy 65 = .ok (.invokestatic 240, 3) := by decide +kernel
theorem dX9_sellsBy_68 : decode cX9_sellsBy 68 = .ok (.iload_n 2, 1) := by decide +kernel
theorem dX9_sellsBy_69 : decode cX9_sellsBy 69 = .ok (.invokevirtual 243, 3) := by decide +kernel
theorem dX9_sellsBy_72 : decode cX9_sellsBy 72 = .ok (.iconst 4, 1) := by decide +kernel
theorem dX9_sellsBy_73 : decode cX9_sellsBy 73 = .ok (.isub, 1) := by decide +kernel
theorem dX9_sellsBy_74 : decode cX9_sellsBy 74 = .ok (.ireturn, 1) := by decide +kernel
theorem dX9_sellsBy_75 : decode cX9_sellsBy 75 = .ok (.aload_n 0, 1) := by decide +kernel
theorem dX9_sellsBy_76 : decode cX9_sellsBy 76 = .ok (.bipush 50, 2) := by decide +kernel
theorem dX9_sellsBy_78 : decode cX9_sellsBy 78 = .ok (.invokevirtual 237, 3) := by decide +kernel
theorem dX9_sellsBy_81 : decode cX9_sellsBy 81 = .ok (.aload_n 0, 1) := by decide +kernel
theorem dX9_sellsBy_82 : decode cX9_sellsBy 82 = .ok (.iconst 4, 1) := by decide +kernel
theorem dX9_sellsBy_83 : decode cX9_sellsBy 83 = .ok (.invokestatic 240, 3) := by decide +kernel
theorem dX9_sellsBy_86 : decode cX9_sellsBy 86 = .ok (.iload_n 2, 1) := by decide +kernel
theorem dX9_sellsBy_87 : decode cX9_sellsBy 87 = .ok (.invokevirtual 243, 3) := by decide +kernel
theorem dX9_sellsBy_90 : decode cX9_sellsBy 90 = .ok (.iconst 3, 1) := by decide +kernel
theorem dX9_sellsBy_91 : decode cX9_sellsBy 91 = .ok (.imul, 1) := by decide +kernel
theorem dX9_sellsBy_92 : decode cX9_sellsBy 92 = .ok (.ireturn, 1) := by decide +kernel
theorem dX9_sellsBy_93 : decode cX9_sellsBy 93 = .ok (.aload_n 0, 1) := by decide +kernel
theorem dX9_sellsBy_94 : decode cX9_sellsBy 94 = .ok (.bipush 70, 2) := by decide +kernel
theorem dX9_sellsBy_96 : decode cX9_sellsBy 96 = .ok (.invokevirtual 237, 3) := by decide +kernel
theorem dX9_sellsBy_99 : decode cX9_sellsBy 99 = .ok (.iconst 2, 1) := by decide +kernel
theorem dX9_sellsBy_100 : decode cX9_sellsBy 100 = .ok (.ireturn, 1) := by decide +kernel
theorem dX9_sellsBy_101 : decode cX9_sellsBy 101 = .ok (.aload_n 0, 1) := by decide +kernel
theorem dX9_sellsBy_102 : decode cX9_sellsBy 102 = .ok (.iload_n 1, 1) := by decide +kernel
theorem dX9_sellsBy_103 : decode cX9_sellsBy 103 = .ok (.invokestatic 240, 3) := by decide +kernel
theorem dX9_sellsBy_106 : decode cX9_sellsBy 106 = .ok (.iload_n 2, 1) := by decide +kernel
theorem dX9_sellsBy_107 : decode cX9_sellsBy 107 = .ok (.invokevirtual 243, 3) := by decide +kernel
theorem dX9_sellsBy_110 : decode cX9_sellsBy 110 = .ok (.ireturn, 1) := by decide +kernel
theorem dX9_fillsBy_0 : decode cX9_fillsBy 0 = .ok (.iload_n 1, 1) := by decide +kernel
theorem dX9_fillsBy_1 : decode cX9_fillsBy 1 = .ok (.tableswitch 119 0 6 #[43, 119, 61, 119, 119, 79, 97], 43) := by decide +kernel
theorem dX9_fillsBy_44 : decode cX9_fillsBy 44 = .ok (.aload_n 0, 1) := by decide +kernel
theorem dX9_fillsBy_45 : decode cX9_fillsBy 45 = .ok (.bipush 11, 2) := by decide +kernel
theorem dX9_fillsBy_47 : decode cX9_fillsBy 47 = .ok (.invokevirtual 237, 3) := by decide +kernel
theorem dX9_fillsBy_50 : decode cX9_fillsBy 50 = .ok (.aload_n 0, 1) := by decide +kernel
theorem dX9_fillsBy_51 : decode cX9_fillsBy 51 = .ok (.aload_n 0, 1) := by decide +kernel
theorem dX9_fillsBy_52 : decode cX9_fillsBy 52 = .ok (.invokevirtual 246, 3) := by decide +kernel
theorem dX9_fillsBy_55 : decode cX9_fillsBy 55 = .ok (.iload_n 2, 1) := by decide +kernel
theorem dX9_fillsBy_56 : decode cX9_fillsBy 56 = .ok (.invokevirtual 243, 3) := by decide +kernel
theorem dX9_fillsBy_59 : decode cX9_fillsBy 59 = .ok (.iconst 2, 1) := by decide +kernel
theorem dX9_fillsBy_60 : decode cX9_fillsBy 60 = .ok (.imul, 1) := by decide +kernel
theorem dX9_fillsBy_61 : decode cX9_fillsBy 61 = .ok (.ireturn, 1) := by decide +kernel
theorem dX9_fillsBy_62 : decode cX9_fillsBy 62 = .ok (.aload_n 0, 1) := by decide +kernel
theorem dX9_fillsBy_63 : decode cX9_fillsBy 63 = .ok (.bipush 30, 2) := by decide +kernel
theorem dX9_fillsBy_65 : decode cX9_fillsBy 65 = .ok (.invokevirtual 237, 3) := by decide +kernel
theorem dX9_fillsBy_68 : decode cX9_fillsBy 68 = .ok (.iconst 0, 1) := by decide +kernel
theorem dX9_fillsBy_69 : decode cX9_fillsBy 69 = .ok (.aload_n 0, 1) := by decide +kernel
theorem dX9_fillsBy_70 : decode cX9_fillsBy 70 = .ok (.iconst 2, 1) := by decide +kernel
theorem dX9_fillsBy_71 : decode cX9_fillsBy 71 = .ok (.invokestatic 240, 3) := by decide +kernel
theorem dX9_fillsBy_74 : decode cX9_fillsBy 74 = .ok (.iload_n 2, 1) := by decide +kernel
theorem dX9_fillsBy_75 : decode cX9_fillsBy 75 = .ok (.invokevirtual 249, 3) := by decide +kernel
theorem dX9_fillsBy_78 : decode cX9_fillsBy 78 = .ok (.isub, 1) := by decide +kernel
theorem dX9_fillsBy_79 : decode cX9_fillsBy 79 = .ok (.ireturn, 1) := by decide +kernel
theorem dX9_fillsBy_80 : decode cX9_fillsBy 80 = .ok (.aload_n 0, 1) := by decide +kernel
theorem dX9_fillsBy_81 : decode cX9_fillsBy 81 = .ok (.bipush 60, 2) := by decide +kernel
theorem dX9_fillsBy_83 : decode cX9_fillsBy 83 = .ok (.invokevirtual 237, 3) := by decide +kernel
theorem dX9_fillsBy_86 : decode cX9_fillsBy 86 = .ok (.aload_n 0, 1) := by decide +kernel
theorem dX9_fillsBy_87 : decode cX9_fillsBy 87 = .ok (.iconst 5, 1) := by decide +kernel
theorem dX9_fillsBy_88 : decode cX9_fillsBy 88 = .ok (.invokestatic 240, 3) := by decide +kernel
theorem dX9_fillsBy_91 : decode cX9_fillsBy 91 = .ok (.iload_n 2, 1) := by decide +kernel
theorem dX9_fillsBy_92 : decode cX9_fillsBy 92 = .ok (.iconst 1, 1) := by decide +kernel
theorem dX9_fillsBy_93 : decode cX9_fillsBy 93 = .ok (.iadd, 1) := by decide +kernel
theorem dX9_fillsBy_94 : decode cX9_fillsBy 94 = .ok (.invokevirtual 249, 3) := by decide +kernel
theorem dX9_fillsBy_97 : decode cX9_fillsBy 97 = .ok (.ireturn, 1) := by decide +kernel
theorem dX9_fillsBy_98 : decode cX9_fillsBy 98 = .ok (.aload_n 0, 1) := by decide +kernel
theorem dX9_fillsBy_99 : decode cX9_fillsBy 99 = .ok (.bipush 71, 2) := by decide +kernel
theorem dX9_fillsBy_101 : decode cX9_fillsBy 101 = .ok (.invokevirtual 237, 3) := by decide +kernel
theorem dX9_fillsBy_104 : decode cX9_fillsBy 104 = .ok (.aload_n 0, 1) := by decide +kernel
theorem dX9_fillsBy_105 : decode cX9_fillsBy 105 = .ok (.bipush 6, 2) := by decide +kernel
theorem dX9_fillsBy_107 : decode cX9_fillsBy 107 = .ok (.invokestatic 240, 3) := by decide +kernel
theorem dX9_fillsBy_110 : decode cX9_fillsBy 110 = .ok (.iload_n 2, 1) := by decide +kernel
theorem dX9_fillsBy_111 : decode cX9_fillsBy 111 = .ok (.invokevirtual 249, 3) := by decide +kernel
theorem dX9_fillsBy_114 : decode cX9_fillsBy 114 = .ok (.aload_n 0, 1) := by decide +kernel
theorem dX9_fillsBy_115 : decode cX9_fillsBy 115 = .ok (.invokevirtual 252, 3) := by decide +kernel
theorem dX9_fillsBy_118 : decode cX9_fillsBy 118 = .ok (.iadd, 1) := by decide +kernel
theorem dX9_fillsBy_119 : decode cX9_fillsBy 119 = .ok (.ireturn, 1) := by decide +kernel
theorem dX9_fillsBy_120 : decode cX9_fillsBy 120 = .ok (.aload_n 0, 1) := by decide +kernel
theorem dX9_fillsBy_121 : decode cX9_fillsBy 121 = .ok (.iload_n 1, 1) := by decide +kernel
theorem dX9_fillsBy_122 : decode cX9_fillsBy 122 = .ok (.invokestatic 240, 3) := by decide +kernel
theorem dX9_fillsBy_125 : decode cX9_fillsBy 125 = .ok (.iload_n 2, 1) := by decide +kernel
theorem dX9_fillsBy_126 : decode cX9_fillsBy 126 = .ok (.invokevirtual 249, 3) := by decide +kernel
theorem dX9_fillsBy_129 : decode cX9_fillsBy 129 = .ok (.ireturn, 1) := by decide +kernel
theorem dX9_owesBy_0 : decode cX9_owesBy 0 = .ok (.iload_n 1, 1) := by decide +kernel
theorem dX9_owesBy_1 : decode cX9_owesBy 1 = .ok (.tableswitch 95 0 4 #[35, 95, 95, 56, 74], 35) := by decide +kernel
theorem dX9_owesBy_36 : decode cX9_owesBy 36 = .ok (.aload_n 0, 1) := by decide +kernel
theorem dX9_owesBy_37 : decode cX9_owesBy 37 = .ok (.bipush 12, 2) := by decide +kernel
theorem dX9_owesBy_39 : decode cX9_owesBy 39 = .ok (.invokevirtual 237, 3) := by decide +kernel
theorem dX9_owesBy_42 : decode cX9_owesBy 42 = .ok (.aload_n 0, 1) := by decide +kernel
theorem dX9_owesBy_43 : decode cX9_owesBy 43 = .ok (.aload_n 0, 1) := by decide +kernel
theorem dX9_owesBy_44 : decode cX9_owesBy 44 = .ok (.invokevirtual 246, 3) := by decide +kernel
theorem dX9_owesBy_47 : decode cX9_owesBy 47 = .ok (.iload_n 2, 1) := by decide +kernel
theorem dX9_owesBy_48 : decode cX9_owesBy 48 = .ok (.invokevirtual 249, 3) := by decide +kernel
theorem dX9_owesBy_51 : decode cX9_owesBy 51 = .ok (.aload_n 0, 1) := by decide +kernel
theorem dX9_owesBy_52 : decode cX9_owesBy 52 = .ok (.invokevirtual 252, 3) := by decide +kernel
theorem dX9_owesBy_55 : decode cX9_owesBy 55 = .ok (.isub, 1) := by decide +kernel
theorem dX9_owesBy_56 : decode cX9_owesBy 56 = .ok (.ireturn, 1) := by decide +kernel
theorem dX9_owesBy_57 : decode cX9_owesBy 57 = .ok (.aload_n 0, 1) := by decide +kernel
theorem dX9_owesBy_58 : decode cX9_owesBy 58 = .ok (.bipush 40, 2) := by decide +kernel
theorem dX9_owesBy_60 : decode cX9_owesBy 60 = .ok (.invokevirtual 237, 3) := by decide +kernel
theorem dX9_owesBy_63 : decode cX9_owesBy 63 = .ok (.aload_n 0, 1) := by decide +kernel
theorem dX9_owesBy_64 : decode cX9_owesBy 64 = .ok (.iconst 3, 1) := by decide +kernel
theorem dX9_owesBy_65 : decode cX9_owesBy 65 = .ok (.invokestatic 240, 3) := by decide +kernel
theorem dX9_owesBy_68 : decode cX9_owesBy 68 = .ok (.iload_n 2, 1) := by decide +kernel
theorem dX9_owesBy_69 : decode cX9_owesBy 69 = .ok (.iconst 2, 1) := by decide +kernel
theorem dX9_owesBy_70 : decode cX9_owesBy 70 = .ok (.idiv, 1) := by decide +kernel
theorem dX9_owesBy_71 : decode cX9_owesBy 71 = .ok (.invokevirtual 255, 3) := by decide +kernel
theorem dX9_owesBy_74 : decode cX9_owesBy 74 = .ok (.ireturn, 1) := by decide +kernel
theorem dX9_owesBy_75 : decode cX9_owesBy 75 = .ok (.aload_n 0, 1) := by decide +kernel
theorem dX9_owesBy_76 : decode cX9_owesBy 76 = .ok (.bipush 51, 2) := by decide +kernel
theorem dX9_owesBy_78 : decode cX9_owesBy 78 = .ok (.invokevirtual 237, 3) := by decide +kernel
theorem dX9_owesBy_81 : decode cX9_owesBy 81 = .ok (.aload_n 0, 1) := by decide +kernel
theorem dX9_owesBy_82 : decode cX9_owesBy 82 = .ok (.iconst 4, 1) := by decide +kernel
theorem dX9_owesBy_83 : decode cX9_owesBy 83 = .ok (.invokestatic 240, 3) := by decide +kernel
theorem dX9_owesBy_86 : decode cX9_owesBy 86 = .ok (.iload_n 2, 1) := by decide +kernel
theorem dX9_owesBy_87 : decode cX9_owesBy 87 = .ok (.invokevirtual 255, 3) := by decide +kernel
theorem dX9_owesBy_90 : decode cX9_owesBy 90 = .ok (.aload_n 0, 1) := by decide +kernel
theorem dX9_owesBy_91 : decode cX9_owesBy 91 = .ok (.getfield 234, 3) := by decide +kernel
theorem dX9_owesBy_94 : decode cX9_owesBy 94 = .ok (.ixor, 1) := by decide +kernel
theorem dX9_owesBy_95 : decode cX9_owesBy 95 = .ok (.ireturn, 1) := by decide +kernel
theorem dX9_owesBy_96 : decode cX9_owesBy 96 = .ok (.aload_n 0, 1) := by decide +kernel
theorem dX9_owesBy_97 : decode cX9_owesBy 97 = .ok (.iload_n 1, 1) := by decide +kernel
theorem dX9_owesBy_98 : decode cX9_owesBy 98 = .ok (.invokestatic 240, 3) := by decide +kernel
theorem dX9_owesBy_101 : decode cX9_owesBy 101 = .ok (.iload_n 2, 1) := by decide +kernel
theorem dX9_owesBy_102 : decode cX9_owesBy 102 = .ok (.invokevirtual 255, 3) := by decide +kernel
theorem dX9_owesBy_105 : decode cX9_owesBy 105 = .ok (.ireturn, 1) := by decide +kernel
theorem dX9_partsBy_0 : decode cX9_partsBy 0 = .ok (.iload_n 1, 1) := by decide +kernel
theorem dX9_partsBy_1 : decode cX9_partsBy 1 = .ok (.lookupswitch 119 #[(0, 27), (1, 78)], 27) := by decide +kernel
theorem dX9_partsBy_28 : decode cX9_partsBy 28 = .ok (.aload_n 0, 1) := by decide +kernel
theorem dX9_partsBy_29 : decode cX9_partsBy 29 = .ok (.bipush 13, 2) := by decide +kernel
theorem dX9_partsBy_31 : decode cX9_partsBy 31 = .ok (.invokevirtual 237, 3) := by decide +kernel
theorem dX9_partsBy_34 : decode cX9_partsBy 34 = .ok (.aload_n 0, 1) := by decide +kernel
theorem dX9_partsBy_35 : decode cX9_partsBy 35 = .ok (.invokevirtual 252, 3) := by decide +kernel
theorem dX9_partsBy_38 : decode cX9_partsBy 38 = .ok (.aload_n 0, 1) := by decide +kernel
theorem dX9_partsBy_39 : decode cX9_partsBy 39 = .ok (.getfield 234, 3) := by decide +kernel
theorem dX9_partsBy_42 : decode cX9_partsBy 42 = .ok (.isub, 1) := by decide +kernel
theorem dX9_partsBy_43 : decode cX9_partsBy 43 = .ok (.istore_n 3, 1) := by decide +kernel
theorem dX9_partsBy_44 : decode cX9_partsBy 44 = .ok (.aload_n 0, 1) := by decide +kernel
theorem dX9_partsBy_45 : decode cX9_partsBy 45 = .ok (.iload_n 3, 1) := by decide +kernel
theorem dX9_partsBy_46 : decode cX9_partsBy 46 = .ok (.ifCond .ne 7, 3) := by decide +kernel
theorem dX9_partsBy_49 : decode cX9_partsBy 49 = .ok (.iconst 1, 1) := by decide +kernel
theorem dX9_partsBy_50 : decode cX9_partsBy 50 = .ok (.goto 4, 3) := by decide +kernel
theorem dX9_partsBy_53 : decode cX9_partsBy 53 = .ok (.iconst 0, 1) := by decide +kernel
theorem dX9_partsBy_54 : decode cX9_partsBy 54 = .ok (.putfield 258, 3) := by decide +kernel
theorem dX9_partsBy_57 : decode cX9_partsBy 57 = .ok (.iload_n 3, 1) := by decide +kernel
theorem dX9_partsBy_58 : decode cX9_partsBy 58 = .ok (.ifCond .ne 7, 3) := by decide +kernel
theorem dX9_partsBy_61 : decode cX9_partsBy 61 = .ok (.iconst 0, 1) := by decide +kernel
theorem dX9_partsBy_62 : decode cX9_partsBy 62 = .ok (.goto 16, 3) := by decide +kernel
theorem dX9_partsBy_65 : decode cX9_partsBy 65 = .ok (.iload_n 3, 1) := by decide +kernel
theorem dX9_partsBy_66 : decode cX9_partsBy 66 = .ok (.iconst (-1), 1) := by decide +kernel
theorem dX9_partsBy_67 : decode cX9_partsBy 67 = .ok (.if_icmp .ne 8, 3) := by decide +kernel
theorem dX9_partsBy_70 : decode cX9_partsBy 70 = .ok (.iload_n 2, 1) := by decide +kernel
theorem dX9_partsBy_71 : decode cX9_partsBy 71 = .ok (.ineg, 1) := by decide +kernel
theorem dX9_partsBy_72 : decode cX9_partsBy 72 = .ok (.goto 6, 3) := by decide +kernel
theorem dX9_partsBy_75 : decode cX9_partsBy 75 = .ok (.iload_n 2, 1) := by decide +kernel
theorem dX9_partsBy_76 : decode cX9_partsBy 76 = .ok (.iload_n 3, 1) := by decide +kernel
theorem dX9_partsBy_77 : decode cX9_partsBy 77 = .ok (.idiv, 1) := by decide +kernel
theorem dX9_partsBy_78 : decode cX9_partsBy 78 = .ok (.ireturn, 1) := by decide +kernel
theorem dX9_partsBy_79 : decode cX9_partsBy 79 = .ok (.aload_n 0, 1) := by decide +kernel
theorem dX9_partsBy_80 : decode cX9_partsBy 80 = .ok (.bipush 21, 2) := by decide +kernel
theorem dX9_partsBy_82 : decode cX9_partsBy 82 = .ok (.invokevirtual 237, 3) := by decide +kernel
theorem dX9_partsBy_85 : decode cX9_partsBy 85 = .ok (.aload_n 0, 1) := by decide +kernel
theorem dX9_partsBy_86 : decode cX9_partsBy 86 = .ok (.iconst 1, 1) := by decide +kernel
theorem dX9_partsBy_87 : decode cX9_partsBy 87 = .ok (.invokestatic 240, 3) := by decide +kernel
theorem dX9_partsBy_90 : decode cX9_partsBy 90 = .ok (.iload_n 2, 1) := by decide +kernel
theorem dX9_partsBy_91 : decode cX9_partsBy 91 = .ok (.invokevirtual 262, 3) := by decide +kernel
theorem dX9_partsBy_94 : decode cX9_partsBy 94 = .ok (.istore 4, 2) := by decide +kernel
theorem dX9_partsBy_96 : decode cX9_partsBy 96 = .ok (.aload_n 0, 1) := by decide +kernel
theorem dX9_partsBy_97 : decode cX9_partsBy 97 = .ok (.getfield 258, 3) := by decide +kernel
theorem dX9_partsBy_100 : decode cX9_partsBy 100 = .ok (.ifCond .eq 7, 3) := by decide +kernel
theorem dX9_partsBy_103 : decode cX9_partsBy 103 = .ok (.iconst 0, 1) := by decide +kernel
theorem dX9_partsBy_104 : decode cX9_partsBy 104 = .ok (.goto 15, 3) := by decide +kernel
theorem dX9_partsBy_107 : decode cX9_partsBy 107 = .ok (.iload 4, 2) := by decide +kernel
theorem dX9_partsBy_109 : decode cX9_partsBy 109 = .ok (.aload_n 0, 1) := by decide +kernel
theorem dX9_partsBy_110 : decode cX9_partsBy 110 = .ok (.aload_n 0, 1) := by decide +kernel
theorem dX9_partsBy_111 : decode cX9_partsBy 111 = .ok (.invokevirtual 246, 3) := by decide +kernel
theorem dX9_partsBy_114 : decode cX9_partsBy 114 = .ok (.iconst 1, 1) := by decide +kernel
theorem dX9_partsBy_115 : decode cX9_partsBy 115 = .ok (.invokevirtual 249, 3) := by decide +kernel
theorem dX9_partsBy_118 : decode cX9_partsBy 118 = .ok (.iadd, 1) := by decide +kernel
theorem dX9_partsBy_119 : decode cX9_partsBy 119 = .ok (.ireturn, 1) := by decide +kernel
theorem dX9_partsBy_120 : decode cX9_partsBy 120 = .ok (.aload_n 0, 1) := by decide +kernel
theorem dX9_partsBy_121 : decode cX9_partsBy 121 = .ok (.iload_n 1, 1) := by decide +kernel
theorem dX9_partsBy_122 : decode cX9_partsBy 122 = .ok (.invokestatic 240, 3) := by decide +kernel
theorem dX9_partsBy_125 : decode cX9_partsBy 125 = .ok (.iload_n 2, 1) := by decide +kernel
theorem dX9_partsBy_126 : decode cX9_partsBy 126 = .ok (.invokevirtual 262, 3) := by decide +kernel
theorem dX9_partsBy_129 : decode cX9_partsBy 129 = .ok (.ireturn, 1) := by decide +kernel
theorem dX9_voice_0 : decode cX9_voice 0 = .ok (.aload_n 0, 1) := by decide +kernel
theorem dX9_voice_1 : decode cX9_voice 1 = .ok (.iload_n 1, 1) := by decide +kernel
theorem dX9_voice_2 : decode cX9_voice 2 = .ok (.invokevirtual 80, 3) := by decide +kernel
theorem dX9_voice_5 : decode cX9_voice 5 = .ok (.ifCond .eq 12, 3) := by decide +kernel
theorem dX9_voice_8 : decode cX9_voice 8 = .ok (.iload_n 2, 1) := by decide +kernel
theorem dX9_voice_9 : decode cX9_voice 9 = .ok (.iconst 0, 1) := by decide +kernel
theorem dX9_voice_10 : decode cX9_voice 10 = .ok (.iconst 3, 1) := by decide +kernel
theorem dX9_voice_11 : decode cX9_voice 11 = .ok (.invokestatic 47, 3) := by decide +kernel
theorem dX9_voice_14 : decode cX9_voice 14 = .ok (.ifCond .ne 9, 3) := by decide +kernel
theorem dX9_voice_17 : decode cX9_voice 17 = .ok (.aload_n 0, 1) := by decide +kernel
theorem dX9_voice_18 : decode cX9_voice 18 = .ok (.iconst 1, 1) := by decide +kernel
theorem dX9_voice_19 : decode cX9_voice 19 = .ok (.invokevirtual 70, 3) := by decide +kernel
theorem dX9_voice_22 : decode cX9_voice 22 = .ok (.ireturn, 1) := by decide +kernel
theorem dX9_voice_23 : decode cX9_voice 23 = .ok (.aload_n 0, 1) := by decide +kernel
theorem dX9_voice_24 : decode cX9_voice 24 = .ok (.iconst 0, 1) := by decide +kernel
theorem dX9_voice_25 : decode cX9_voice 25 = .ok (.putfield 231, 3) := by decide +kernel
theorem dX9_voice_28 : decode cX9_voice 28 = .ok (.aload_n 0, 1) := by decide +kernel
theorem dX9_voice_29 : decode cX9_voice 29 = .ok (.iload_n 1, 1) := by decide +kernel
theorem dX9_voice_30 : decode cX9_voice 30 = .ok (.putfield 234, 3) := by decide +kernel
theorem dX9_voice_33 : decode cX9_voice 33 = .ok (.aload_n 0, 1) := by decide +kernel
theorem dX9_voice_34 : decode cX9_voice 34 = .ok (.iconst 0, 1) := by decide +kernel
theorem dX9_voice_35 : decode cX9_voice 35 = .ok (.putfield 258, 3) := by decide +kernel
theorem dX9_voice_38 : decode cX9_voice 38 = .ok (.aload_n 0, 1) := by decide +kernel
theorem dX9_voice_39 : decode cX9_voice 39 = .ok (.invokevirtual 246, 3) := by decide +kernel
theorem dX9_voice_42 : decode cX9_voice 42 = .ok (.istore 4, 2) := by decide +kernel
theorem dX9_voice_44 : decode cX9_voice 44 = .ok (.iload_n 2, 1) := by decide +kernel
theorem dX9_voice_45 : decode cX9_voice 45 = .ok (.ifCond .ne 13, 3) := by decide +kernel
theorem dX9_voice_48 : decode cX9_voice 48 = .ok (.aload_n 0, 1) := by decide +kernel
theorem dX9_voice_49 : decode cX9_voice 49 = .ok (.iload 4, 2) := by decide +kernel
theorem dX9_voice_51 : decode cX9_voice 51 = .ok (.iload_n 3, 1) := by decide +kernel
theorem dX9_voice_52 : decode cX9_voice 52 = .ok (.invokevirtual 243, 3) := by decide +kernel
theorem dX9_voice_55 : decode cX9_voice 55 = .ok (.goto 40, 3) := by decide +kernel
theorem dX9_voice_58 : decode cX9_voice 58 = .ok (.iload_n 2, 1) := by decide +kernel
theorem dX9_voice_59 : decode cX9_voice 59 = .ok (.iconst 1, 1) := by decide +kernel
theorem dX9_voice_60 : decode cX9_voice 60 = .ok (.if_icmp .ne 13, 3) := by decide +kernel
theorem dX9_voice_63 : decode cX9_voice 63 = .ok (.aload_n 0, 1) := by decide +kernel
theorem dX9_voice_64 : decode cX9_voice 64 = .ok (.iload 4, 2) := by decide +kernel
theorem dX9_voice_66 : decode cX9_voice 66 = .ok (.iload_n 3, 1) := by decide +kernel
theorem dX9_voice_67 : decode cX9_voice 67 = .ok (.invokevirtual 249, 3) := by decide +kernel
theorem dX9_voice_70 : decode cX9_voice 70 = .ok (.goto 25, 3) := by decide +kernel
theorem dX9_voice_73 : decode cX9_voice 73 = .ok (.iload_n 2, 1) := by decide +kernel
theorem dX9_voice_74 : decode cX9_voice 74 = .ok (.iconst 2, 1) := by decide +kernel
theorem dX9_voice_75 : decode cX9_voice 75 = .ok (.if_icmp .ne 13, 3) := by decide +kernel
theorem dX9_voice_78 : decode cX9_voice 78 = .ok (.aload_n 0, 1) := by decide +kernel
theorem dX9_voice_79 : decode cX9_voice 79 = .ok (.iload 4, 2) := by decide +kernel
theorem dX9_voice_81 : decode cX9_voice 81 = .ok (.iload_n 3, 1) := by decide +kernel
theorem dX9_voice_82 : decode cX9_voice 82 = .ok (.invokevirtual 255, 3) := by decide +kernel
theorem dX9_voice_85 : decode cX9_voice 85 = .ok (.goto 10, 3) := by decide +kernel
theorem dX9_voice_88 : decode cX9_voice 88 = .ok (.aload_n 0, 1) := by decide +kernel
theorem dX9_voice_89 : decode cX9_voice 89 = .ok (.iload 4, 2) := by decide +kernel
theorem dX9_voice_91 : decode cX9_voice 91 = .ok (.iload_n 3, 1) := by decide +kernel
theorem dX9_voice_92 : decode cX9_voice 92 = .ok (.invokevirtual 262, 3) := by decide +kernel
theorem dX9_voice_95 : decode cX9_voice 95 = .ok (.istore 5, 2) := by decide +kernel
theorem dX9_voice_97 : decode cX9_voice 97 = .ok (.aload_n 0, 1) := by decide +kernel
theorem dX9_voice_98 : decode cX9_voice 98 = .ok (.getfield 258, 3) := by decide +kernel
theorem dX9_voice_101 : decode cX9_voice 101 = .ok (.ifCond .eq 12, 3) := by decide +kernel
theorem dX9_voice_104 : decode cX9_voice 104 = .ok (.aload_n 0, 1) := by decide +kernel
theorem dX9_voice_105 : decode cX9_voice 105 = .ok (.bipush 6, 2) := by decide +kernel
theorem dX9_voice_107 : decode cX9_voice 107 = .ok (.invokevirtual 70, 3) := by decide +kernel
theorem dX9_voice_110 : decode cX9_voice 110 = .ok (.goto 5, 3) := by decide +kernel
theorem dX9_voice_113 : decode cX9_voice 113 = .ok (.iload 5, 2) := by decide +kernel
theorem dX9_voice_115 : decode cX9_voice 115 = .ok (.ireturn, 1) := by decide +kernel
theorem dX9_body_0 : decode cX9_body 0 = .ok (.iload_n 1, 1) := by decide +kernel
theorem dX9_body_1 : decode cX9_body 1 = .ok (.iconst 0, 1) := by decide +kernel
theorem dX9_body_2 : decode cX9_body 2 = .ok (.aload_n 0, 1) := by decide +kernel
theorem dX9_body_3 : decode cX9_body 3 = .ok (.getfield 231, 3) := by decide +kernel
theorem dX9_body_6 : decode cX9_body 6 = .ok (.iconst 1, 1) := by decide +kernel
theorem dX9_body_7 : decode cX9_body 7 = .ok (.isub, 1) := by decide +kernel
theorem dX9_body_8 : decode cX9_body 8 = .ok (.invokestatic 47, 3) := by decide +kernel
theorem dX9_body_11 : decode cX9_body 11 = .ok (.ifCond .eq 12, 3) := by decide +kernel
theorem dX9_body_14 : decode cX9_body 14 = .ok (.aload_n 0, 1) := by decide +kernel
theorem dX9_body_15 : decode cX9_body 15 = .ok (.getfield 31, 3) := by decide +kernel
theorem dX9_body_18 : decode cX9_body 18 = .ok (.iload_n 1, 1) := by decide +kernel
theorem dX9_body_19 : decode cX9_body 19 = .ok (.iaload, 1) := by decide +kernel
theorem dX9_body_20 : decode cX9_body 20 = .ok (.goto 8, 3) := by decide +kernel
theorem dX9_body_23 : decode cX9_body 23 = .ok (.aload_n 0, 1) := by decide +kernel
theorem dX9_body_24 : decode cX9_body 24 = .ok (.iconst 2, 1) := by decide +kernel
theorem dX9_body_25 : decode cX9_body 25 = .ok (.invokevirtual 70, 3) := by decide +kernel
theorem dX9_body_28 : decode cX9_body 28 = .ok (.ireturn, 1) := by decide +kernel
theorem dX9_isSheet_0 : decode cX9_isSheet 0 = .ok (.iload_n 0, 1) := by decide +kernel
theorem dX9_isSheet_1 : decode cX9_isSheet 1 = .ok (.iconst 0, 1) := by decide +kernel
theorem dX9_isSheet_2 : decode cX9_isSheet 2 = .ok (.iconst 3, 1) := by decide +kernel
theorem dX9_isSheet_3 : decode cX9_isSheet 3 = .ok (.invokestatic 47, 3) := by decide +kernel
theorem dX9_isSheet_6 : decode cX9_isSheet 6 = .ok (.ireturn, 1) := by decide +kernel
theorem dX9_sheet_0 : decode cX9_sheet 0 = .ok (.iload_n 1, 1) := by decide +kernel
theorem dX9_sheet_1 : decode cX9_sheet 1 = .ok (.invokestatic 265, 3) := by decide +kernel
theorem dX9_sheet_4 : decode cX9_sheet 4 = .ok (.ifCond .eq 25, 3) := by decide +kernel
theorem dX9_sheet_7 : decode cX9_sheet 7 = .ok (.iload_n 2, 1) := by decide +kernel
theorem dX9_sheet_8 : decode cX9_sheet 8 = .ok (.ifCond .eq 27, 3) := by decide +kernel
theorem dX9_sheet_11 : decode cX9_sheet 11 = .ok (.iload_n 2, 1) := by decide +kernel
theorem dX9_sheet_12 : decode cX9_sheet 12 = .ok (.bipush 8, 2) := by decide +kernel
theorem dX9_sheet_14 : decode cX9_sheet 14 = .ok (.if_icmp .eq 21, 3) := by decide +kernel
theorem dX9_sheet_17 : decode cX9_sheet 17 = .ok (.iload_n 2, 1) := by decide +kernel
theorem dX9_sheet_18 : decode cX9_sheet 18 = .ok (.bipush 16, 2) := by decide +kernel
theorem dX9_sheet_20 : decode cX9_sheet 20 = .ok (.if_icmp .eq 15, 3) := by decide +kernel
theorem dX9_sheet_23 : decode cX9_sheet 23 = .ok (.iload_n 2, 1) := by decide +kernel
theorem dX9_sheet_24 : decode cX9_sheet 24 = .ok (.bipush 32, 2) := by decide +kernel
theorem dX9_sheet_26 : decode cX9_sheet 26 = .ok (.if_icmp .eq 9, 3) := by decide +kernel
theorem dX9_sheet_29 : decode cX9_sheet 29 = .ok (.aload_n 0, 1) := by decide +kernel
theorem dX9_sheet_30 : decode cX9_sheet 30 = .ok (.iconst 1, 1) := by decide +kernel
theorem dX9_sheet_31 : decode cX9_sheet 31 = .ok (.invokevirtual 70, 3) := by decide +kernel
theorem dX9_sheet_34 : decode cX9_sheet 34 = .ok (.ireturn, 1) := by decide +kernel
theorem dX9_sheet_35 : decode cX9_sheet 35 = .ok (.iload_n 2, 1) := by decide +kernel
theorem dX9_sheet_36 : decode cX9_sheet 36 = .ok (.ifCond .eq 13, 3) := by decide +kernel
theorem dX9_sheet_39 : decode cX9_sheet 39 = .ok (.iload_n 3, 1) := by decide +kernel
theorem dX9_sheet_40 : decode cX9_sheet 40 = .ok (.ifCond .ge 9, 3) := by decide +kernel
theorem dX9_sheet_43 : decode cX9_sheet 43 = .ok (.aload_n 0, 1) := by decide +kernel
theorem dX9_sheet_44 : decode cX9_sheet 44 = .ok (.iconst 3, 1) := by decide +kernel
theorem dX9_sheet_45 : decode cX9_sheet 45 = .ok (.invokevirtual 70, 3) := by decide +kernel
theorem dX9_sheet_48 : decode cX9_sheet 48 = .ok (.ireturn, 1) := by decide +kernel
theorem dX9_sheet_49 : decode cX9_sheet 49 = .ok (.iload_n 2, 1) := by decide +kernel
theorem dX9_sheet_50 : decode cX9_sheet 50 = .ok (.ifCond .eq 15, 3) := by decide +kernel
theorem dX9_sheet_53 : decode cX9_sheet 53 = .ok (.iload_n 3, 1) := by decide +kernel
theorem dX9_sheet_54 : decode cX9_sheet 54 = .ok (.bipush 24, 2) := by decide +kernel
theorem dX9_sheet_56 : decode cX9_sheet 56 = .ok (.if_icmp .le 9, 3) := by decide +kernel
theorem dX9_sheet_59 : decode cX9_sheet 59 = .ok (.aload_n 0, 1) := by decide +kernel
theorem dX9_sheet_60 : decode cX9_sheet 60 = .ok (.iconst 1, 1) := by decide +kernel
theorem dX9_sheet_61 : decode cX9_sheet 61 = .ok (.invokevirtual 70, 3) := by decide +kernel
theorem dX9_sheet_64 : decode cX9_sheet 64 = .ok (.ireturn, 1) := by decide +kernel
theorem dX9_sheet_65 : decode cX9_sheet 65 = .ok (.aload_n 0, 1) := by decide +kernel
theorem dX9_sheet_66 : decode cX9_sheet 66 = .ok (.getfield 34, 3) := by decide +kernel
theorem dX9_sheet_69 : decode cX9_sheet 69 = .ok (.iload_n 1, 1) := by decide +kernel
theorem dX9_sheet_70 : decode cX9_sheet 70 = .ok (.iload_n 2, 1) := by decide +kernel
theorem dX9_sheet_71 : decode cX9_sheet 71 = .ok (.iastore, 1) := by decide +kernel
theorem dX9_sheet_72 : decode cX9_sheet 72 = .ok (.aload_n 0, 1) := by decide +kernel
theorem dX9_sheet_73 : decode cX9_sheet 73 = .ok (.getfield 37, 3) := by decide +kernel
theorem dX9_sheet_76 : decode cX9_sheet 76 = .ok (.iload_n 1, 1) := by decide +kernel
theorem dX9_sheet_77 : decode cX9_sheet 77 = .ok (.iload_n 2, 1) := by decide +kernel
theorem dX9_sheet_78 : decode cX9_sheet 78 = .ok (.ifCond .ne 7, 3) := by decide +kernel
theorem dX9_sheet_81 : decode cX9_sheet 81 = .ok (.iconst 0, 1) := by decide +kernel
theorem dX9_sheet_82 : decode cX9_sheet 82 = .ok (.goto 4, 3) := by decide +kernel
theorem dX9_sheet_85 : decode cX9_sheet 85 = .ok (.iload_n 3, 1) := by decide +kernel
theorem dX9_sheet_86 : decode cX9_sheet 86 = .ok (.iastore, 1) := by decide +kernel
theorem dX9_sheet_87 : decode cX9_sheet 87 = .ok (.iconst 0, 1) := by decide +kernel
theorem dX9_sheet_88 : decode cX9_sheet 88 = .ok (.istore 4, 2) := by decide +kernel
theorem dX9_sheet_90 : decode cX9_sheet 90 = .ok (.iload 4, 2) := by decide +kernel
theorem dX9_sheet_92 : decode cX9_sheet 92 = .ok (.bipush 24, 2) := by decide +kernel
theorem dX9_sheet_94 : decode cX9_sheet 94 = .ok (.if_icmp .ge 22, 3) := by decide +kernel
theorem dX9_sheet_97 : decode cX9_sheet 97 = .ok (.aload_n 0, 1) := by decide +kernel
theorem dX9_sheet_98 : decode cX9_sheet 98 = .ok (.getfield 40, 3) := by decide +kernel
theorem dX9_sheet_101 : decode cX9_sheet 101 = .ok (.bipush 24, 2) := by decide +kernel
theorem dX9_sheet_103 : decode cX9_sheet 103 = .ok (.iload_n 1, 1) := by decide +kernel
theorem dX9_sheet_104 : decode cX9_sheet 104 = .ok (.imul, 1) := by decide +kernel
theorem dX9_sheet_105 : decode cX9_sheet 105 = .ok (.iload 4, 2) := by decide +kernel
theorem dX9_sheet_107 : decode cX9_sheet 107 = .ok (.iadd, 1) := by decide +kernel
theorem dX9_sheet_108 : decode cX9_sheet 108 = .ok (.iconst 0, 1) := by decide +kernel
theorem dX9_sheet_109 : decode cX9_sheet 109 = .ok (.iastore, 1) := by decide +kernel
theorem dX9_sheet_110 : decode cX9_sheet 110 = .ok (.iinc 4 1, 3) := by decide +kernel
theorem dX9_sheet_113 : decode cX9_sheet 113 = .ok (.goto (-23), 3) := by decide +kernel
theorem dX9_sheet_116 : decode cX9_sheet 116 = .ok (.iconst 1, 1) := by decide +kernel
theorem dX9_sheet_117 : decode cX9_sheet 117 = .ok (.ireturn, 1) := by decide +kernel
theorem dX9_put_0 : decode cX9_put 0 = .ok (.iload_n 1, 1) := by decide +kernel
theorem dX9_put_1 : decode cX9_put 1 = .ok (.invokestatic 265, 3) := by decide +kernel
theorem dX9_put_4 : decode cX9_put 4 = .ok (.ifCond .ne 9, 3) := by decide +kernel
theorem dX9_put_7 : decode cX9_put 7 = .ok (.aload_n 0, 1) := by decide +kernel
theorem dX9_put_8 : decode cX9_put 8 = .ok (.iconst 1, 1) := by decide +kernel
theorem dX9_put_9 : decode cX9_put 9 = .ok (.invokevirtual 70, 3) := by decide +kernel
theorem dX9_put_12 : decode cX9_put 12 = .ok (.ireturn, 1) := by decide +kernel
theorem dX9_put_13 : decode cX9_put 13 = .ok (.aload_n 0, 1) := by decide +kernel
theorem dX9_put_14 : decode cX9_put 14 = .ok (.getfield 34, 3) := by decide +kernel
theorem dX9_put_17 : decode cX9_put 17 = .ok (.iload_n 1, 1) := by decide +kernel
theorem dX9_put_18 : decode cX9_put 18 = .ok (.iaload, 1) := by decide +kernel
theorem dX9_put_19 : decode cX9_put 19 = .ok (.ifCond .ne 9, 3) := by decide +kernel
theorem dX9_put_22 : decode cX9_put 22 = .ok (.aload_n 0, 1) := by decide +kernel
theorem dX9_put_23 : decode cX9_put 23 = .ok (.iconst 2, 1) := by decide +kernel
theorem dX9_put_24 : decode cX9_put 24 = .ok (.invokevirtual 70, 3) := by decide +kernel
theorem dX9_put_27 : decode cX9_put 27 = .ok (.ireturn, 1) := by decide +kernel
theorem dX9_put_28 : decode cX9_put 28 = .ok (.iload_n 2, 1) := by decide +kernel
theorem dX9_put_29 : decode cX9_put 29 = .ok (.iconst 0, 1) := by decide +kernel
theorem dX9_put_30 : decode cX9_put 30 = .ok (.aload_n 0, 1) := by decide +kernel
theorem dX9_put_31 : decode cX9_put 31 = .ok (.getfield 37, 3) := by decide +kernel
theorem dX9_put_34 : decode cX9_put 34 = .ok (.iload_n 1, 1) := by decide +kernel
theorem dX9_put_35 : decode cX9_put 35 = .ok (.iaload, 1) := by decide +kernel
theorem dX9_put_36 : decode cX9_put 36 = .ok (.iconst 1, 1) := by decide +kernel
theorem dX9_put_37 : decode cX9_put 37 = .ok (.isub, 1) := by decide +kernel
theorem dX9_put_38 : decode cX9_put 38 = .ok (.invokestatic 47, 3) := by decide +kernel
theorem dX9_put_41 : decode cX9_put 41 = .ok (.ifCond .ne 9, 3) := by decide +kernel
theorem dX9_put_44 : decode cX9_put 44 = .ok (.aload_n 0, 1) := by decide +kernel
theorem dX9_put_45 : decode cX9_put 45 = .ok (.iconst 1, 1) := by decide +kernel
theorem dX9_put_46 : decode cX9_put 46 = .ok (.invokevirtual 70, 3) := by decide +kernel
theorem dX9_put_49 : decode cX9_put 49 = .ok (.ireturn, 1) := by decide +kernel
theorem dX9_put_50 : decode cX9_put 50 = .ok (.bipush 32, 2) := by decide +kernel
theorem dX9_put_52 : decode cX9_put 52 = .ok (.aload_n 0, 1) := by decide +kernel
theorem dX9_put_53 : decode cX9_put 53 = .ok (.getfield 34, 3) := by decide +kernel
theorem dX9_put_56 : decode cX9_put 56 = .ok (.iload_n 1, 1) := by decide +kernel
theorem dX9_put_57 : decode cX9_put 57 = .ok (.iaload, 1) := by decide +kernel
theorem dX9_put_58 : decode cX9_put 58 = .ok (.isub, 1) := by decide +kernel
theorem dX9_put_59 : decode cX9_put 59 = .ok (.istore 4, 2) := by decide +kernel
theorem dX9_put_61 : decode cX9_put 61 = .ok (.aload_n 0, 1) := by decide +kernel
theorem dX9_put_62 : decode cX9_put 62 = .ok (.getfield 40, 3) := by decide +kernel
theorem dX9_put_65 : decode cX9_put 65 = .ok (.bipush 24, 2) := by decide +kernel
theorem dX9_put_67 : decode cX9_put 67 = .ok (.iload_n 1, 1) := by decide +kernel
theorem dX9_put_68 : decode cX9_put 68 = .ok (.imul, 1) := by decide +kernel
theorem dX9_put_69 : decode cX9_put 69 = .ok (.iload_n 2, 1) := by decide +kernel
theorem dX9_put_70 : decode cX9_put 70 = .ok (.iadd, 1) := by decide +kernel
theorem dX9_put_71 : decode cX9_put 71 = .ok (.iload_n 3, 1) := by decide +kernel
theorem dX9_put_72 : decode cX9_put 72 = .ok (.iload 4, 2) := by decide +kernel
theorem dX9_put_74 : decode cX9_put 74 = .ok (.ishl, 1) := by decide +kernel
theorem dX9_put_75 : decode cX9_put 75 = .ok (.iload 4, 2) := by decide +kernel
theorem dX9_put_77 : decode cX9_put 77 = .ok (.ishr, 1) := by decide +kernel
theorem dX9_put_78 : decode cX9_put 78 = .ok (.iastore, 1) := by decide +kernel
theorem dX9_put_79 : decode cX9_put 79 = .ok (.iconst 1, 1) := by decide +kernel
theorem dX9_put_80 : decode cX9_put 80 = .ok (.ireturn, 1) := by decide +kernel
theorem dX9_move_0 : decode cX9_move 0 = .ok (.iload_n 1, 1) := by decide +kernel
theorem dX9_move_1 : decode cX9_move 1 = .ok (.invokestatic 265, 3) := by decide +kernel
theorem dX9_move_4 : decode cX9_move 4 = .ok (.ifCond .eq 10, 3) := by decide +kernel
theorem dX9_move_7 : decode cX9_move 7 = .ok (.iload_n 3, 1) := by decide +kernel
theorem dX9_move_8 : decode cX9_move 8 = .ok (.invokestatic 265, 3) := by decide +kernel
theorem dX9_move_11 : decode cX9_move 11 = .ok (.ifCond .ne 9, 3) := by decide +kernel
theorem dX9_move_14 : decode cX9_move 14 = .ok (.aload_n 0, 1) := by decide +kernel
theorem dX9_move_15 : decode cX9_move 15 = .ok (.iconst 1, 1) := by decide +kernel
theorem dX9_move_16 : decode cX9_move 16 = .ok (.invokevirtual 70, 3) := by decide +kernel
theorem dX9_move_19 : decode cX9_move 19 = .ok (.ireturn, 1) := by decide +kernel
theorem dX9_move_20 : decode cX9_move 20 = .ok (.aload_n 0, 1) := by decide +kernel
theorem dX9_move_21 : decode cX9_move 21 = .ok (.getfield 34, 3) := by decide +kernel
theorem dX9_move_24 : decode cX9_move 24 = .ok (.iload_n 1, 1) := by decide +kernel
theorem dX9_move_25 : decode cX9_move 25 = .ok (.iaload, 1) := by decide +kernel
theorem dX9_move_26 : decode cX9_move 26 = .ok (.ifCond .eq 12, 3) := by decide +kernel
theorem dX9_move_29 : decode cX9_move 29 = .ok (.aload_n 0, 1) := by decide +kernel
theorem dX9_move_30 : decode cX9_move 30 = .ok (.getfield 34, 3) := by decide +kernel
theorem dX9_move_33 : decode cX9_move 33 = .ok (.iload_n 3, 1) := by decide +kernel
theorem dX9_move_34 : decode cX9_move 34 = .ok (.iaload, 1) := by decide +kernel
theorem dX9_move_35 : decode cX9_move 35 = .ok (.ifCond .ne 9, 3) := by decide +kernel
theorem dX9_move_38 : decode cX9_move 38 = .ok (.aload_n 0, 1) := by decide +kernel
theorem dX9_move_39 : decode cX9_move 39 = .ok (.iconst 2, 1) := by decide +kernel
theorem dX9_move_40 : decode cX9_move 40 = .ok (.invokevirtual 70, 3) := by decide +kernel
theorem dX9_move_43 : decode cX9_move 43 = .ok (.ireturn, 1) := by decide +kernel
theorem dX9_move_44 : decode cX9_move 44 = .ok (.aload_n 0, 1) := by decide +kernel
theorem dX9_move_45 : decode cX9_move 45 = .ok (.getfield 34, 3) := by decide +kernel
theorem dX9_move_48 : decode cX9_move 48 = .ok (.iload_n 1, 1) := by decide +kernel
theorem dX9_move_49 : decode cX9_move 49 = .ok (.iaload, 1) := by decide +kernel
theorem dX9_move_50 : decode cX9_move 50 = .ok (.aload_n 0, 1) := by decide +kernel
theorem dX9_move_51 : decode cX9_move 51 = .ok (.getfield 34, 3) := by decide +kernel
theorem dX9_move_54 : decode cX9_move 54 = .ok (.iload_n 3, 1) := by decide +kernel
theorem dX9_move_55 : decode cX9_move 55 = .ok (.iaload, 1) := by decide +kernel
theorem dX9_move_56 : decode cX9_move 56 = .ok (.if_icmp .eq 9, 3) := by decide +kernel
theorem dX9_move_59 : decode cX9_move 59 = .ok (.aload_n 0, 1) := by decide +kernel
theorem dX9_move_60 : decode cX9_move 60 = .ok (.iconst 5, 1) := by decide +kernel
theorem dX9_move_61 : decode cX9_move 61 = .ok (.invokevirtual 70, 3) := by decide +kernel
theorem dX9_move_64 : decode cX9_move 64 = .ok (.ireturn, 1) := by decide +kernel
theorem dX9_move_65 : decode cX9_move 65 = .ok (.iload 5, 2) := by decide +kernel
theorem dX9_move_67 : decode cX9_move 67 = .ok (.ifCond .lt 39, 3) := by decide +kernel
theorem dX9_move_70 : decode cX9_move 70 = .ok (.iload_n 2, 1) := by decide +kernel
theorem dX9_move_71 : decode cX9_move 71 = .ok (.ifCond .lt 35, 3) := by decide +kernel
theorem dX9_move_74 : decode cX9_move 74 = .ok (.iload 4, 2) := by decide +kernel
theorem dX9_move_76 : decode cX9_move 76 = .ok (.ifCond .lt 30, 3) := by decide +kernel
theorem dX9_move_79 : decode cX9_move 79 = .ok (.iload_n 2, 1) := by decide +kernel
theorem dX9_move_80 : decode cX9_move 80 = .ok (.aload_n 0, 1) := by decide +kernel
theorem dX9_move_81 : decode cX9_move 81 = .ok (.getfield 37, 3) := by decide +kernel
theorem dX9_move_84 : decode cX9_move 84 = .ok (.iload_n 1, 1) := by decide +kernel
theorem dX9_move_85 : decode cX9_move 85 = .ok (.iaload, 1) := by decide +kernel
theorem dX9_move_86 : decode cX9_move 86 = .ok (.iload 5, 2) := by decide +kernel
theorem dX9_move_88 : decode cX9_move 88 = .ok (.isub, 1) := by decide +kernel
theorem dX9_move_89 : decode cX9_move 89 = .ok (.if_icmp .gt 17, 3) := by decide +kernel
theorem dX9_move_92 : decode cX9_move 92 = .ok (.iload 4, 2) := by decide +kernel
theorem dX9_move_94 : decode cX9_move 94 = .ok (.aload_n 0, 1) := by decide +kernel
theorem dX9_move_95 : decode cX9_move 95 = .ok (.getfield 37, 3) := by decide +kernel
theorem dX9_move_98 : decode cX9_move 98 = .ok (.iload_n 3, 1) := by decide +kernel
theorem dX9_move_99 : decode cX9_move 99 = .ok (.iaload, 1) := by decide +kernel
theorem dX9_move_100 : decode cX9_move 100 = .ok (.iload 5, 2) := by decide +kernel
theorem dX9_move_102 : decode cX9_move 102 = .ok (.isub, 1) := by decide +kernel
theorem dX9_move_103 : decode cX9_move 103 = .ok (.if_icmp .le 9, 3) := by decide +kernel
theorem dX9_move_106 : decode cX9_move 106 = .ok (.aload_n 0, 1) := by decide +kernel
theorem dX9_move_107 : decode cX9_move 107 = .ok (.iconst 1, 1) := by decide +kernel
theorem dX9_move_108 : decode cX9_move 108 = .ok (.invokevirtual 70, 3) := by decide +kernel
theorem dX9_move_111 : decode cX9_move 111 = .ok (.ireturn, 1) := by decide +kernel
theorem dX9_move_112 : decode cX9_move 112 = .ok (.iconst 0, 1) := by decide +kernel
theorem dX9_move_113 : decode cX9_move 113 = .ok (.istore 6, 2) := by decide +kernel
theorem dX9_move_115 : decode cX9_move 115 = .ok (.iload 6, 2) := by decide +kernel
theorem dX9_move_117 : decode cX9_move 117 = .ok (.iload 5, 2) := by decide +kernel
theorem dX9_move_119 : decode cX9_move 119 = .ok (.if_icmp .ge 30, 3) := by decide +kernel
theorem dX9_move_122 : decode cX9_move 122 = .ok (.aload_n 0, 1) := by decide +kernel
theorem dX9_move_123 : decode cX9_move 123 = .ok (.getfield 43, 3) := by decide +kernel
theorem dX9_move_126 : decode cX9_move 126 = .ok (.iload 6, 2) := by decide +kernel
theorem dX9_move_128 : decode cX9_move 128 = .ok (.aload_n 0, 1) := by decide +kernel
theorem dX9_move_129 : decode cX9_move 129 = .ok (.getfield 40, 3) := by decide +kernel
theorem dX9_move_132 : decode cX9_move 132 = .ok (.bipush 24, 2) := by decide +kernel
theorem dX9_move_134 : decode cX9_move 134 = .ok (.iload_n 1, 1) := by decide +kernel
theorem dX9_move_135 : decode cX9_move 135 = .ok (.imul, 1) := by decide +kernel
theorem dX9_move_136 : decode cX9_move 136 = .ok (.iload_n 2, 1) := by decide +kernel
theorem dX9_move_137 : decode cX9_move 137 = .ok (.iadd, 1) := by decide +kernel
theorem dX9_move_138 : decode cX9_move 138 = .ok (.iload 6, 2) := by decide +kernel
theorem dX9_move_140 : decode cX9_move 140 = .ok (.iadd, 1) := by decide +kernel
theorem dX9_move_141 : decode cX9_move 141 = .ok (.iaload, 1) := by decide +kernel
theorem dX9_move_142 : decode cX9_move 142 = .ok (.iastore, 1) := by decide +kernel
theorem dX9_move_143 : decode cX9_move 143 = .ok (.iinc 6 1, 3) := by decide +kernel
theorem dX9_move_146 : decode cX9_move 146 = .ok (.goto (-31), 3) := by decide +kernel
theorem dX9_move_149 : decode cX9_move 149 = .ok (.iconst 0, 1) := by decide +kernel
theorem dX9_move_150 : decode cX9_move 150 = .ok (.istore 6, 2) := by decide +kernel
theorem dX9_move_152 : decode cX9_move 152 = .ok (.iload 6, 2) := by decide +kernel
theorem dX9_move_154 : decode cX9_move 154 = .ok (.iload 5, 2) := by decide +kernel
theorem dX9_move_156 : decode cX9_move 156 = .ok (.if_icmp .ge 31, 3) := by decide +kernel
theorem dX9_move_159 : decode cX9_move 159 = .ok (.aload_n 0, 1) := by decide +kernel
theorem dX9_move_160 : decode cX9_move 160 = .ok (.getfield 40, 3) := by decide +kernel
theorem dX9_move_163 : decode cX9_move 163 = .ok (.bipush 24, 2) := by decide +kernel
theorem dX9_move_165 : decode cX9_move 165 = .ok (.iload_n 3, 1) := by decide +kernel
theorem dX9_move_166 : decode cX9_move 166 = .ok (.imul, 1) := by decide +kernel
theorem dX9_move_167 : decode cX9_move 167 = .ok (.iload 4, 2) := by decide +kernel
theorem dX9_move_169 : decode cX9_move 169 = .ok (.iadd, 1) := by decide +kernel
theorem dX9_move_170 : decode cX9_move 170 = .ok (.iload 6, 2) := by decide +kernel
theorem dX9_move_172 : decode cX9_move 172 = .ok (.iadd, 1) := by decide +kernel
theorem dX9_move_173 : decode cX9_move 173 = .ok (.aload_n 0, 1) := by decide +kernel
theorem dX9_move_174 : decode cX9_move 174 = .ok (.getfield 43, 3) := by decide +kernel
theorem dX9_move_177 : decode cX9_move 177 = .ok (.iload 6, 2) := by decide +kernel
theorem dX9_move_179 : decode cX9_move 179 = .ok (.iaload, 1) := by decide +kernel
theorem dX9_move_180 : decode cX9_move 180 = .ok (.iastore, 1) := by decide +kernel
theorem dX9_move_181 : decode cX9_move 181 = .ok (.iinc 6 1, 3) := by decide +kernel
theorem dX9_move_184 : decode cX9_move 184 = .ok (.goto (-32), 3) := by decide +kernel
theorem dX9_move_187 : decode cX9_move 187 = .ok (.iload 5, 2) := by decide +kernel
theorem dX9_move_189 : decode cX9_move 189 = .ok (.ireturn, 1) := by decide +kernel
theorem dX9_lacks_0 : decode cX9_lacks 0 = .ok (.iload_n 1, 1) := by decide +kernel
theorem dX9_lacks_1 : decode cX9_lacks 1 = .ok (.invokestatic 265, 3) := by decide +kernel
theorem dX9_lacks_4 : decode cX9_lacks 4 = .ok (.ifCond .ne 7, 3) := by decide +kernel
theorem dX9_lacks_7 : decode cX9_lacks 7 = .ok (.iconst 1, 1) := by decide +kernel
theorem dX9_lacks_8 : decode cX9_lacks 8 = .ok (.goto 17, 3) := by decide +kernel
theorem dX9_lacks_11 : decode cX9_lacks 11 = .ok (.aload_n 0, 1) := by decide +kernel
theorem dX9_lacks_12 : decode cX9_lacks 12 = .ok (.getfield 34, 3) := by decide +kernel
theorem dX9_lacks_15 : decode cX9_lacks 15 = .ok (.iload_n 1, 1) := by decide +kernel
theorem dX9_lacks_16 : decode cX9_lacks 16 = .ok (.iaload, 1) := by decide +kernel
theorem dX9_lacks_17 : decode cX9_lacks 17 = .ok (.ifCond .ne 7, 3) := by decide +kernel
theorem dX9_lacks_20 : decode cX9_lacks 20 = .ok (.iconst 2, 1) := by decide +kernel
theorem dX9_lacks_21 : decode cX9_lacks 21 = .ok (.goto 4, 3) := by decide +kernel
theorem dX9_lacks_24 : decode cX9_lacks 24 = .ok (.iconst 0, 1) := by decide +kernel
theorem dX9_lacks_25 : decode cX9_lacks 25 = .ok (.ireturn, 1) := by decide +kernel
theorem dX9_customers_0 : decode cX9_customers 0 = .ok (.aload_n 0, 1) := by decide +kernel
theorem dX9_customers_1 : decode cX9_customers 1 = .ok (.iload_n 1, 1) := by decide +kernel
theorem dX9_customers_2 : decode cX9_customers 2 = .ok (.invokevirtual 268, 3) := by decide +kernel
theorem dX9_customers_5 : decode cX9_customers 5 = .ok (.istore_n 2, 1) := by decide +kernel
theorem dX9_customers_6 : decode cX9_customers 6 = .ok (.iload_n 2, 1) := by decide +kernel
theorem dX9_customers_7 : decode cX9_customers 7 = .ok (.ifCond .le 9, 3) := by decide +kernel
theorem dX9_customers_10 : decode cX9_customers 10 = .ok (.aload_n 0, 1) := by decide +kernel
theorem dX9_customers_11 : decode cX9_customers 11 = .ok (.iload_n 2, 1) := by decide +kernel
theorem dX9_customers_12 : decode cX9_customers 12 = .ok (.invokevirtual 70, 3) := by decide +kernel
theorem dX9_customers_15 : decode cX9_customers 15 = .ok (.ireturn, 1) := by decide +kernel
theorem dX9_customers_16 : decode cX9_customers 16 = .ok (.iconst 0, 1) := by decide +kernel
theorem dX9_customers_17 : decode cX9_customers 17 = .ok (.istore_n 3, 1) := by decide +kernel
theorem dX9_customers_18 : decode cX9_customers 18 = .ok (.bipush 24, 2) := by decide +kernel
theorem dX9_customers_20 : decode cX9_customers 20 = .ok (.iload_n 1, 1) := by decide +kernel
theorem dX9_customers_21 : decode cX9_customers 21 = .ok (.imul, 1) := by decide +kernel
theorem dX9_customers_22 : decode cX9_customers 22 = .ok (.istore 4, 2) := by decide +kernel
theorem dX9_customers_24 : decode cX9_customers 24 = .ok (.iconst 3, 1) := by decide +kernel
theorem dX9_customers_25 : decode cX9_customers 25 = .ok (.iload_n 3, 1) := by decide +kernel
theorem dX9_customers_26 : decode cX9_customers 26 = .ok (.imul, 1) := by decide +kernel
theorem dX9_customers_27 : decode cX9_customers 27 = .ok (.iconst 2, 1) := by decide +kernel
theorem dX9_customers_28 : decode cX9_customers 28 = .ok (.iadd, 1) := by decide +kernel
theorem dX9_customers_29 : decode cX9_customers 29 = .ok (.aload_n 0, 1) := by decide +kernel
theorem dX9_customers_30 : decode cX9_customers 30 = .ok (.getfield 37, 3) := by decide +kernel
theorem dX9_customers_33 : decode cX9_customers 33 = .ok (.iload_n 1, 1) := by decide +kernel
theorem dX9_customers_34 : decode cX9_customers 34 = .ok (.iaload, 1) := by decide +kernel
theorem dX9_customers_35 : decode cX9_customers 35 = .ok (.if_icmp .ge 104, 3) := by decide +kernel
theorem dX9_customers_38 : decode cX9_customers 38 = .ok (.aload_n 0, 1) := by decide +kernel
theorem dX9_customers_39 : decode cX9_customers 39 = .ok (.getfield 7, 3) := by decide +kernel
theorem dX9_customers_42 : decode cX9_customers 42 = .ok (.iconst 1, 1) := by decide +kernel
theorem dX9_customers_43 : decode cX9_customers 43 = .ok (.iaload, 1) := by decide +kernel
theorem dX9_customers_44 : decode cX9_customers 44 = .ok (.bipush 10, 2) := by decide +kernel
theorem dX9_customers_46 : decode cX9_customers 46 = .ok (.if_icmp .ge 93, 3) := by decide +kernel
theorem dX9_customers_49 : decode cX9_customers 49 = .ok (.aload_n 0, 1) := by decide +kernel
theorem dX9_customers_50 : decode cX9_customers 50 = .ok (.getfield 40, 3) := by decide +kernel
theorem dX9_customers_53 : decode cX9_customers 53 = .ok (.iload 4, 2) := by decide +kernel
theorem dX9_customers_55 : decode cX9_customers 55 = .ok (.iconst 3, 1) := by decide +kernel
theorem dX9_customers_56 : decode cX9_customers 56 = .ok (.iload_n 3, 1) := by decide +kernel
theorem dX9_customers_57 : decode cX9_customers 57 = .ok (.imul, 1) := by decide +kernel
theorem dX9_customers_58 : decode cX9_customers 58 = .ok (.iadd, 1) := by decide +kernel
theorem dX9_customers_59 : decode cX9_customers 59 = .ok (.iaload, 1) := by decide +kernel
theorem dX9_customers_60 : decode cX9_customers 60 = .ok (.aload_n 0, 1) := by decide +kernel
theorem dX9_customers_61 : decode cX9_customers 61 = .ok (.getfield 40, 3) := by decide +kernel
theorem dX9_customers_64 : decode cX9_customers 64 = .ok (.iload 4, 2) := by decide +kernel
theorem dX9_customers_66 : decode cX9_customers 66 = .ok (.iconst 3, 1) := by decide +kernel
theorem dX9_customers_67 : decode cX9_customers 67 = .ok (.iload_n 3, 1) := by decide +kernel
theorem dX9_customers_68 : decode cX9_customers 68 = .ok (.imul, 1) := by decide +kernel
theorem dX9_customers_69 : decode cX9_customers 69 = .ok (.iadd, 1) := by decide +kernel
theorem dX9_customers_70 : decode cX9_customers 70 = .ok (.iconst 1, 1) := by decide +kernel
theorem dX9_customers_71 : decode cX9_customers 71 = .ok (.iadd, 1) := by decide +kernel
theorem dX9_customers_72 : decode cX9_customers 72 = .ok (.iaload, 1) := by decide +kernel
theorem dX9_customers_73 : decode cX9_customers 73 = .ok (.aload_n 0, 1) := by decide +kernel
theorem dX9_customers_74 : decode cX9_customers 74 = .ok (.getfield 40, 3) := by decide +kernel
theorem dX9_customers_77 : decode cX9_customers 77 = .ok (.iload 4, 2) := by decide +kernel
theorem dX9_customers_79 : decode cX9_customers 79 = .ok (.iconst 3, 1) := by decide +kernel
theorem dX9_customers_80 : decode cX9_customers 80 = .ok (.iload_n 3, 1) := by decide +kernel
theorem dX9_customers_81 : decode cX9_customers 81 = .ok (.imul, 1) := by decide +kernel
theorem dX9_customers_82 : decode cX9_customers 82 = .ok (.iadd, 1) := by decide +kernel
theorem dX9_customers_83 : decode cX9_customers 83 = .ok (.iconst 2, 1) := by decide +kernel
theorem dX9_customers_84 : decode cX9_customers 84 = .ok (.iadd, 1) := by decide +kernel
theorem dX9_customers_85 : decode cX9_customers 85 = .ok (.iaload, 1) := by decide +kernel
theorem dX9_customers_86 : decode cX9_customers 86 = .ok (.invokestatic 89, 3) := by decide +kernel
theorem dX9_customers_89 : decode cX9_customers 89 = .ok (.ifCond .eq 50, 3) := by decide +kernel
theorem dX9_customers_92 : decode cX9_customers 92 = .ok (.aload_n 0, 1) := by decide +kernel
theorem dX9_customers_93 : decode cX9_customers 93 = .ok (.aload_n 0, 1) := by decide +kernel
theorem dX9_customers_94 : decode cX9_customers 94 = .ok (.getfield 40, 3) := by decide +kernel
theorem dX9_customers_97 : decode cX9_customers 97 = .ok (.iload 4, 2) := by decide +kernel
theorem dX9_customers_99 : decode cX9_customers 99 = .ok (.iconst 3, 1) := by decide +kernel
theorem dX9_customers_100 : decode cX9_customers 100 = .ok (.iload_n 3, 1) := by decide +kernel
theorem dX9_customers_101 : decode cX9_customers 101 = .ok (.imul, 1) := by decide +kernel
theorem dX9_customers_102 : decode cX9_customers 102 = .ok (.iadd, 1) := by decide +kernel
theorem dX9_customers_103 : decode cX9_customers 103 = .ok (.iaload, 1) := by decide +kernel
theorem dX9_customers_104 : decode cX9_customers 104 = .ok (.aload_n 0, 1) := by decide +kernel
theorem dX9_customers_105 : decode cX9_customers 105 = .ok (.getfield 40, 3) := by decide +kernel
theorem dX9_customers_108 : decode cX9_customers 108 = .ok (.iload 4, 2) := by decide +kernel
theorem dX9_customers_110 : decode cX9_customers 110 = .ok (.iconst 3, 1) := by decide +kernel
theorem dX9_customers_111 : decode cX9_customers 111 = .ok (.iload_n 3, 1) := by decide +kernel
theorem dX9_customers_112 : decode cX9_customers 112 = .ok (.imul, 1) := by decide +kernel
theorem dX9_customers_113 : decode cX9_customers 113 = .ok (.iadd, 1) := by decide +kernel
theorem dX9_customers_114 : decode cX9_customers 114 = .ok (.iconst 1, 1) := by decide +kernel
theorem dX9_customers_115 : decode cX9_customers 115 = .ok (.iadd, 1) := by decide +kernel
theorem dX9_customers_116 : decode cX9_customers 116 = .ok (.iaload, 1) := by decide +kernel
theorem dX9_customers_117 : decode cX9_customers 117 = .ok (.aload_n 0, 1) := by decide +kernel
theorem dX9_customers_118 : decode cX9_customers 118 = .ok (.getfield 40, 3) := by decide +kernel
theorem dX9_customers_121 : decode cX9_customers 121 = .ok (.iload 4, 2) := by decide +kernel
theorem dX9_customers_123 : decode cX9_customers 123 = .ok (.iconst 3, 1) := by decide +kernel
theorem dX9_customers_124 : decode cX9_customers 124 = .ok (.iload_n 3, 1) := by decide +kernel
theorem dX9_customers_125 : decode cX9_customers 125 = .ok (.imul, 1) := by decide +kernel
theorem dX9_customers_126 : decode cX9_customers 126 = .ok (.iadd, 1) := by decide +kernel
theorem dX9_customers_127 : decode cX9_customers 127 = .ok (.iconst 2, 1) := by decide +kernel
theorem dX9_customers_128 : decode cX9_customers 128 = .ok (.iadd, 1) := by decide +kernel
theorem dX9_customers_129 : decode cX9_customers 129 = .ok (.iaload, 1) := by decide +kernel
theorem dX9_customers_130 : decode cX9_customers 130 = .ok (.invokevirtual 92, 3) := by decide +kernel
theorem dX9_customers_133 : decode cX9_customers 133 = .ok (.iinc 3 1, 3) := by decide +kernel
theorem dX9_customers_136 : decode cX9_customers 136 = .ok (.goto (-112), 3) := by decide +kernel
theorem dX9_customers_139 : decode cX9_customers 139 = .ok (.iload_n 3, 1) := by decide +kernel
theorem dX9_customers_140 : decode cX9_customers 140 = .ok (.ireturn, 1) := by decide +kernel
theorem dX9_judge_0 : decode cX9_judge 0 = .ok (.aload_n 0, 1) := by decide +kernel
theorem dX9_judge_1 : decode cX9_judge 1 = .ok (.iload_n 1, 1) := by decide +kernel
theorem dX9_judge_2 : decode cX9_judge 2 = .ok (.invokevirtual 268, 3) := by decide +kernel
theorem dX9_judge_5 : decode cX9_judge 5 = .ok (.istore_n 2, 1) := by decide +kernel
theorem dX9_judge_6 : decode cX9_judge 6 = .ok (.iload_n 2, 1) := by decide +kernel
theorem dX9_judge_7 : decode cX9_judge 7 = .ok (.ifCond .le 9, 3) := by decide +kernel
theorem dX9_judge_10 : decode cX9_judge 10 = .ok (.aload_n 0, 1) := by decide +kernel
theorem dX9_judge_11 : decode cX9_judge 11 = .ok (.iload_n 2, 1) := by decide +kernel
theorem dX9_judge_12 : decode cX9_judge 12 = .ok (.invokevirtual 70, 3) := by decide +kernel
theorem dX9_judge_15 : decode cX9_judge 15 = .ok (.ireturn, 1) := by decide +kernel
theorem dX9_judge_16 : decode cX9_judge 16 = .ok (.aload_n 0, 1) := by decide +kernel
theorem dX9_judge_17 : decode cX9_judge 17 = .ok (.getfield 7, 3) := by decide +kernel
theorem dX9_judge_20 : decode cX9_judge 20 = .ok (.aload_n 0, 1) := by decide +kernel
theorem dX9_judge_21 : decode cX9_judge 21 = .ok (.getfield 16, 3) := by decide +kernel
theorem dX9_judge_24 : decode cX9_judge 24 = .ok (.invokestatic 215, 3) := by decide +kernel
theorem dX9_judge_27 : decode cX9_judge 27 = .ok (.iconst 0, 1) := by decide +kernel
theorem dX9_judge_28 : decode cX9_judge 28 = .ok (.istore_n 3, 1) := by decide +kernel
theorem dX9_judge_29 : decode cX9_judge 29 = .ok (.iconst 1, 1) := by decide +kernel
theorem dX9_judge_30 : decode cX9_judge 30 = .ok (.istore 4, 2) := by decide +kernel
theorem dX9_judge_32 : decode cX9_judge 32 = .ok (.iload 4, 2) := by decide +kernel
theorem dX9_judge_34 : decode cX9_judge 34 = .ok (.ifCond .eq 119, 3) := by decide +kernel
theorem dX9_judge_37 : decode cX9_judge 37 = .ok (.iconst 2, 1) := by decide +kernel
theorem dX9_judge_38 : decode cX9_judge 38 = .ok (.iload_n 3, 1) := by decide +kernel
theorem dX9_judge_39 : decode cX9_judge 39 = .ok (.imul, 1) := by decide +kernel
theorem dX9_judge_40 : decode cX9_judge 40 = .ok (.iconst 1, 1) := by decide +kernel
theorem dX9_judge_41 : decode cX9_judge 41 = .ok (.iadd, 1) := by decide +kernel
theorem dX9_judge_42 : decode cX9_judge 42 = .ok (.aload_n 0, 1) := by decide +kernel
theorem dX9_judge_43 : decode cX9_judge 43 = .ok (.getfield 37, 3) := by decide +kernel
theorem dX9_judge_46 : decode cX9_judge 46 = .ok (.iload_n 1, 1) := by decide +kernel
theorem dX9_judge_47 : decode cX9_judge 47 = .ok (.iaload, 1) := by decide +kernel
theorem dX9_judge_48 : decode cX9_judge 48 = .ok (.if_icmp .ge 105, 3) := by decide +kernel
theorem dX9_judge_51 : decode cX9_judge 51 = .ok (.aload_n 0, 1) := by decide +kernel
theorem dX9_judge_52 : decode cX9_judge 52 = .ok (.getfield 40, 3) := by decide +kernel
theorem dX9_judge_55 : decode cX9_judge 55 = .ok (.bipush 24, 2) := by decide +kernel
theorem dX9_judge_57 : decode cX9_judge 57 = .ok (.iload_n 1, 1) := by decide +kernel
theorem dX9_judge_58 : decode cX9_judge 58 = .ok (.imul, 1) := by decide +kernel
theorem dX9_judge_59 : decode cX9_judge 59 = .ok (.iconst 2, 1) := by decide +kernel
theorem dX9_judge_60 : decode cX9_judge 60 = .ok (.iload_n 3, 1) := by decide +kernel
theorem dX9_judge_61 : decode cX9_judge 61 = .ok (.imul, 1) := by decide +kernel
theorem dX9_judge_62 : decode cX9_judge 62 = .ok (.iadd, 1) := by decide +kernel
theorem dX9_judge_63 : decode cX9_judge 63 = .ok (.iaload, 1) := by decide +kernel
theorem dX9_judge_64 : decode cX9_judge 64 = .ok (.istore 5, 2) := by decide +kernel
theorem dX9_judge_66 : decode cX9_judge 66 = .ok (.aload_n 0, 1) := by decide +kernel
theorem dX9_judge_67 : decode cX9_judge 67 = .ok (.getfield 40, 3) := by decide +kernel
theorem dX9_judge_70 : decode cX9_judge 70 = .ok (.bipush 24, 2) := by decide +kernel
theorem dX9_judge_72 : decode cX9_judge 72 = .ok (.iload_n 1, 1) := by decide +kernel
theorem dX9_judge_73 : decode cX9_judge 73 = .ok (.imul, 1) := by decide +kernel
theorem dX9_judge_74 : decode cX9_judge 74 = .ok (.iconst 2, 1) := by decide +kernel
theorem dX9_judge_75 : decode cX9_judge 75 = .ok (.iload_n 3, 1) := by decide +kernel
theorem dX9_judge_76 : decode cX9_judge 76 = .ok (.imul, 1) := by decide +kernel
theorem dX9_judge_77 : decode cX9_judge 77 = .ok (.iadd, 1) := by decide +kernel
theorem dX9_judge_78 : decode cX9_judge 78 = .ok (.iconst 1, 1) := by decide +kernel
theorem dX9_judge_79 : decode cX9_judge 79 = .ok (.iadd, 1) := by decide +kernel
theorem dX9_judge_80 : decode cX9_judge 80 = .ok (.iaload, 1) := by decide +kernel
theorem dX9_judge_81 : decode cX9_judge 81 = .ok (.istore 6, 2) := by decide +kernel
theorem dX9_judge_83 : decode cX9_judge 83 = .ok (.aload_n 0, 1) := by decide +kernel
theorem dX9_judge_84 : decode cX9_judge 84 = .ok (.iload 5, 2) := by decide +kernel
theorem dX9_judge_86 : decode cX9_judge 86 = .ok (.invokevirtual 80, 3) := by decide +kernel
theorem dX9_judge_89 : decode cX9_judge 89 = .ok (.ifCond .eq 26, 3) := by decide +kernel
theorem dX9_judge_92 : decode cX9_judge 92 = .ok (.iload 6, 2) := by decide +kernel
theorem dX9_judge_94 : decode cX9_judge 94 = .ok (.invokestatic 66, 3) := by decide +kernel
theorem dX9_judge_97 : decode cX9_judge 97 = .ok (.ifCond .eq 18, 3) := by decide +kernel
theorem dX9_judge_100 : decode cX9_judge 100 = .ok (.aload_n 0, 1) := by decide +kernel
theorem dX9_judge_101 : decode cX9_judge 101 = .ok (.iload 5, 2) := by decide +kernel
theorem dX9_judge_103 : decode cX9_judge 103 = .ok (.iload 6, 2) := by decide +kernel
theorem dX9_judge_105 : decode cX9_judge 105 = .ok (.invokevirtual 62, 3) := by decide +kernel
theorem dX9_judge_108 : decode cX9_judge 108 = .ok (.ifCond .eq 7, 3) := by decide +kernel
theorem dX9_judge_111 : decode cX9_judge 111 = .ok (.iconst 1, 1) := by decide +kernel
theorem dX9_judge_112 : decode cX9_judge 112 = .ok (.goto 4, 3) := by decide +kernel
theorem dX9_judge_115 : decode cX9_judge 115 = .ok (.iconst 0, 1) := by decide +kernel
theorem dX9_judge_116 : decode cX9_judge 116 = .ok (.istore 4, 2) := by decide +kernel
theorem dX9_judge_118 : decode cX9_judge 118 = .ok (.iload 4, 2) := by decide +kernel
theorem dX9_judge_120 : decode cX9_judge 120 = .ok (.ifCond .eq 30, 3) := by decide +kernel
theorem dX9_judge_123 : decode cX9_judge 123 = .ok (.aload_n 0, 1) := by decide +kernel
theorem dX9_judge_124 : decode cX9_judge 124 = .ok (.iload 5, 2) := by decide +kernel
theorem dX9_judge_126 : decode cX9_judge 126 = .ok (.bipush 9, 2) := by decide +kernel
theorem dX9_judge_128 : decode cX9_judge 128 = .ok (.iload 6, 2) := by decide +kernel
theorem dX9_judge_130 : decode cX9_judge 130 = .ok (.iadd, 1) := by decide +kernel
theorem dX9_judge_131 : decode cX9_judge 131 = .ok (.aload_n 0, 1) := by decide +kernel
theorem dX9_judge_132 : decode cX9_judge 132 = .ok (.iload 5, 2) := by decide +kernel
theorem dX9_judge_134 : decode cX9_judge 134 = .ok (.bipush 9, 2) := by decide +kernel
theorem dX9_judge_136 : decode cX9_judge 136 = .ok (.iload 6, 2) := by decide +kernel
theorem dX9_judge_138 : decode cX9_judge 138 = .ok (.iadd, 1) := by decide +kernel
theorem dX9_judge_139 : decode cX9_judge 139 = .ok (.invokevirtual 51, 3) := by decide +kernel
theorem dX9_judge_142 : decode cX9_judge 142 = .ok (.iconst 1, 1) := by decide +kernel
theorem dX9_judge_143 : decode cX9_judge 143 = .ok (.isub, 1) := by decide +kernel
theorem dX9_judge_144 : decode cX9_judge 144 = .ok (.invokevirtual 73, 3) := by decide +kernel
theorem dX9_judge_147 : decode cX9_judge 147 = .ok (.iinc 3 1, 3) := by decide +kernel
theorem dX9_judge_150 : decode cX9_judge 150 = .ok (.goto (-118), 3) := by decide +kernel
theorem dX9_judge_153 : decode cX9_judge 153 = .ok (.aload_n 0, 1) := by decide +kernel
theorem dX9_judge_154 : decode cX9_judge 154 = .ok (.getfield 16, 3) := by decide +kernel
theorem dX9_judge_157 : decode cX9_judge 157 = .ok (.aload_n 0, 1) := by decide +kernel
theorem dX9_judge_158 : decode cX9_judge 158 = .ok (.getfield 7, 3) := by decide +kernel
theorem dX9_judge_161 : decode cX9_judge 161 = .ok (.invokestatic 215, 3) := by decide +kernel
theorem dX9_judge_164 : decode cX9_judge 164 = .ok (.iload_n 3, 1) := by decide +kernel
theorem dX9_judge_165 : decode cX9_judge 165 = .ok (.ireturn, 1) := by decide +kernel
theorem dX9_leaves_0 : decode cX9_leaves 0 = .ok (.aload_n 0, 1) := by decide +kernel
theorem dX9_leaves_1 : decode cX9_leaves 1 = .ok (.getfield 7, 3) := by decide +kernel
theorem dX9_leaves_4 : decode cX9_leaves 4 = .ok (.aload_n 0, 1) := by decide +kernel
theorem dX9_leaves_5 : decode cX9_leaves 5 = .ok (.getfield 16, 3) := by decide +kernel
theorem dX9_leaves_8 : decode cX9_leaves 8 = .ok (.invokestatic 215, 3) := by decide +kernel
theorem dX9_leaves_11 : decode cX9_leaves 11 = .ok (.iconst 0, 1) := by decide +kernel
theorem dX9_leaves_12 : decode cX9_leaves 12 = .ok (.istore 4, 2) := by decide +kernel
theorem dX9_leaves_14 : decode cX9_leaves 14 = .ok (.iload 4, 2) := by decide +kernel
theorem dX9_leaves_16 : decode cX9_leaves 16 = .ok (.aload_n 0, 1) := by decide +kernel
theorem dX9_leaves_17 : decode cX9_leaves 17 = .ok (.getfield 7, 3) := by decide +kernel
theorem dX9_leaves_20 : decode cX9_leaves 20 = .ok (.iconst 1, 1) := by decide +kernel
theorem dX9_leaves_21 : decode cX9_leaves 21 = .ok (.iaload, 1) := by decide +kernel
theorem dX9_leaves_22 : decode cX9_leaves 22 = .ok (.if_icmp .ge 31, 3) := by decide +kernel
theorem dX9_leaves_25 : decode cX9_leaves 25 = .ok (.iload_n 3, 1) := by decide +kernel
theorem dX9_leaves_26 : decode cX9_leaves 26 = .ok (.iload 4, 2) := by decide +kernel
theorem dX9_leaves_28 : decode cX9_leaves 28 = .ok (.ishr, 1) := by decide +kernel
theorem dX9_leaves_29 : decode cX9_leaves 29 = .ok (.iconst 1, 1) := by decide +kernel
theorem dX9_leaves_30 : decode cX9_leaves 30 = .ok (.iand, 1) := by decide +kernel
theorem dX9_leaves_31 : decode cX9_leaves 31 = .ok (.iconst 1, 1) := by decide +kernel
theorem dX9_leaves_32 : decode cX9_leaves 32 = .ok (.if_icmp .ne 12, 3) := by decide +kernel
theorem dX9_leaves_35 : decode cX9_leaves 35 = .ok (.aload_n 0, 1) := by decide +kernel
theorem dX9_leaves_36 : decode cX9_leaves 36 = .ok (.iload 4, 2) := by decide +kernel
theorem dX9_leaves_38 : decode cX9_leaves 38 = .ok (.invokevirtual 198, 3) := by decide +kernel
theorem dX9_leaves_41 : decode cX9_leaves 41 = .ok (.goto 4, 3) := by decide +kernel
theorem dX9_leaves_44 : decode cX9_leaves 44 = .ok (.iconst 0, 1) := by decide +kernel
theorem dX9_leaves_45 : decode cX9_leaves 45 = .ok (.istore 5, 2) := by decide +kernel
theorem dX9_leaves_47 : decode cX9_leaves 47 = .ok (.iinc 4 1, 3) := by decide +kernel
theorem dX9_leaves_50 : decode cX9_leaves 50 = .ok (.goto (-36), 3) := by decide +kernel
theorem dX9_leaves_53 : decode cX9_leaves 53 = .ok (.iconst 1, 1) := by decide +kernel
theorem dX9_leaves_54 : decode cX9_leaves 54 = .ok (.istore 4, 2) := by decide +kernel
theorem dX9_leaves_56 : decode cX9_leaves 56 = .ok (.iconst 0, 1) := by decide +kernel
theorem dX9_leaves_57 : decode cX9_leaves 57 = .ok (.istore 5, 2) := by decide +kernel
theorem dX9_leaves_59 : decode cX9_leaves 59 = .ok (.iload 5, 2) := by decide +kernel
theorem dX9_leaves_61 : decode cX9_leaves 61 = .ok (.bipush 6, 2) := by decide +kernel
theorem dX9_leaves_63 : decode cX9_leaves 63 = .ok (.if_icmp .ge 46, 3) := by decide +kernel
theorem dX9_leaves_66 : decode cX9_leaves 66 = .ok (.iload 4, 2) := by decide +kernel
theorem dX9_leaves_68 : decode cX9_leaves 68 = .ok (.ifCond .eq 32, 3) := by decide +kernel
theorem dX9_leaves_71 : decode cX9_leaves 71 = .ok (.aload_n 0, 1) := by decide +kernel
theorem dX9_leaves_72 : decode cX9_leaves 72 = .ok (.iload_n 2, 1) := by decide +kernel
theorem dX9_leaves_73 : decode cX9_leaves 73 = .ok (.bipush 9, 2) := by decide +kernel
theorem dX9_leaves_75 : decode cX9_leaves 75 = .ok (.iload 5, 2) := by decide +kernel
theorem dX9_leaves_77 : decode cX9_leaves 77 = .ok (.iadd, 1) := by decide +kernel
theorem dX9_leaves_78 : decode cX9_leaves 78 = .ok (.invokevirtual 51, 3) := by decide +kernel
theorem dX9_leaves_81 : decode cX9_leaves 81 = .ok (.aload_n 0, 1) := by decide +kernel
theorem dX9_leaves_82 : decode cX9_leaves 82 = .ok (.getfield 40, 3) := by decide +kernel
theorem dX9_leaves_85 : decode cX9_leaves 85 = .ok (.bipush 24, 2) := by decide +kernel
theorem dX9_leaves_87 : decode cX9_leaves 87 = .ok (.iload_n 1, 1) := by decide +kernel
theorem dX9_leaves_88 : decode cX9_leaves 88 = .ok (.imul, 1) := by decide +kernel
theorem dX9_leaves_89 : decode cX9_leaves 89 = .ok (.iload 5, 2) := by decide +kernel
theorem dX9_leaves_91 : decode cX9_leaves 91 = .ok (.iadd, 1) := by decide +kernel
theorem dX9_leaves_92 : decode cX9_leaves 92 = .ok (.iaload, 1) := by decide +kernel
theorem dX9_leaves_93 : decode cX9_leaves 93 = .ok (.if_icmp .ne 7, 3) := by decide +kernel
theorem dX9_leaves_96 : decode cX9_leaves 96 = .ok (.iconst 1, 1) := by decide +kernel
theorem dX9_leaves_97 : decode cX9_leaves 97 = .ok (.goto 4, 3) := by decide +kernel
theorem dX9_leaves_100 : decode cX9_leaves 100 = .ok (.iconst 0, 1) := by decide +kernel
theorem dX9_leaves_101 : decode cX9_leaves 101 = .ok (.istore 4, 2) := by decide +kernel
theorem dX9_leaves_103 : decode cX9_leaves 103 = .ok (.iinc 5 1, 3) := by decide +kernel
theorem dX9_leaves_106 : decode cX9_leaves 106 = .ok (.goto (-47), 3) := by decide +kernel
theorem dX9_leaves_109 : decode cX9_leaves 109 = .ok (.aload_n 0, 1) := by decide +kernel
theorem dX9_leaves_110 : decode cX9_leaves 110 = .ok (.getfield 16, 3) := by decide +kernel
theorem dX9_leaves_113 : decode cX9_leaves 113 = .ok (.aload_n 0, 1) := by decide +kernel
theorem dX9_leaves_114 : decode cX9_leaves 114 = .ok (.getfield 7, 3) := by decide +kernel
theorem dX9_leaves_117 : decode cX9_leaves 117 = .ok (.invokestatic 215, 3) := by decide +kernel
theorem dX9_leaves_120 : decode cX9_leaves 120 = .ok (.iload 4, 2) := by decide +kernel
theorem dX9_leaves_122 : decode cX9_leaves 122 = .ok (.ireturn, 1) := by decide +kernel
theorem dX9_came_0 : decode cX9_came 0 = .ok (.aload_n 0, 1) := by decide +kernel
theorem dX9_came_1 : decode cX9_came 1 = .ok (.iload_n 2, 1) := by decide +kernel
theorem dX9_came_2 : decode cX9_came 2 = .ok (.invokevirtual 80, 3) := by decide +kernel
theorem dX9_came_5 : decode cX9_came 5 = .ok (.ifCond .eq 20, 3) := by decide +kernel
theorem dX9_came_8 : decode cX9_came 8 = .ok (.iload_n 3, 1) := by decide +kernel
theorem dX9_came_9 : decode cX9_came 9 = .ok (.iconst 0, 1) := by decide +kernel
theorem dX9_came_10 : decode cX9_came 10 = .ok (.iconst 3, 1) := by decide +kernel
theorem dX9_came_11 : decode cX9_came 11 = .ok (.invokestatic 47, 3) := by decide +kernel
theorem dX9_came_14 : decode cX9_came 14 = .ok (.ifCond .eq 11, 3) := by decide +kernel
theorem dX9_came_17 : decode cX9_came 17 = .ok (.aload_n 0, 1) := by decide +kernel
theorem dX9_came_18 : decode cX9_came 18 = .ok (.iload_n 1, 1) := by decide +kernel
theorem dX9_came_19 : decode cX9_came 19 = .ok (.invokevirtual 268, 3) := by decide +kernel
theorem dX9_came_22 : decode cX9_came 22 = .ok (.goto 4, 3) := by decide +kernel
theorem dX9_came_25 : decode cX9_came 25 = .ok (.iconst 1, 1) := by decide +kernel
theorem dX9_came_26 : decode cX9_came 26 = .ok (.istore 4, 2) := by decide +kernel
theorem dX9_came_28 : decode cX9_came 28 = .ok (.iload 4, 2) := by decide +kernel
theorem dX9_came_30 : decode cX9_came 30 = .ok (.ifCond .ne 18, 3) := by decide +kernel
theorem dX9_came_33 : decode cX9_came 33 = .ok (.aload_n 0, 1) := by decide +kernel
theorem dX9_came_34 : decode cX9_came 34 = .ok (.getfield 37, 3) := by decide +kernel
theorem dX9_came_37 : decode cX9_came 37 = .ok (.iload_n 1, 1) := by decide +kernel
theorem dX9_came_38 : decode cX9_came 38 = .ok (.iaload, 1) := by decide +kernel
theorem dX9_came_39 : decode cX9_came 39 = .ok (.bipush 6, 2) := by decide +kernel
theorem dX9_came_41 : decode cX9_came 41 = .ok (.if_icmp .ge 7, 3) := by decide +kernel
theorem dX9_came_44 : decode cX9_came 44 = .ok (.iconst 2, 1) := by decide +kernel
theorem dX9_came_45 : decode cX9_came 45 = .ok (.goto 5, 3) := by decide +kernel
theorem dX9_came_48 : decode cX9_came 48 = .ok (.iload 4, 2) := by decide +kernel
theorem dX9_came_50 : decode cX9_came 50 = .ok (.istore 4, 2) := by decide +kernel
theorem dX9_came_52 : decode cX9_came 52 = .ok (.iload 4, 2) := by decide +kernel
theorem dX9_came_54 : decode cX9_came 54 = .ok (.ifCond .le 10, 3) := by decide +kernel
theorem dX9_came_57 : decode cX9_came 57 = .ok (.aload_n 0, 1) := by decide +kernel
theorem dX9_came_58 : decode cX9_came 58 = .ok (.iload 4, 2) := by decide +kernel
theorem dX9_came_60 : decode cX9_came 60 = .ok (.invokevirtual 70, 3) := by decide +kernel
theorem dX9_came_63 : decode cX9_came 63 = .ok (.ireturn, 1) := by decide +kernel
theorem dX9_came_64 : decode cX9_came 64 = .ok (.iconst 0, 1) := by decide +kernel
theorem dX9_came_65 : decode cX9_came 65 = .ok (.istore 5, 2) := by decide +kernel
theorem dX9_came_67 : decode cX9_came 67 = .ok (.iconst (-1), 1) := by decide +kernel
theorem dX9_came_68 : decode cX9_came 68 = .ok (.istore 6, 2) := by decide +kernel
theorem dX9_came_70 : decode cX9_came 70 = .ok (.iconst 1, 1) := by decide +kernel
theorem dX9_came_71 : decode cX9_came 71 = .ok (.aload_n 0, 1) := by decide +kernel
theorem dX9_came_72 : decode cX9_came 72 = .ok (.getfield 7, 3) := by decide +kernel
theorem dX9_came_75 : decode cX9_came 75 = .ok (.iconst 1, 1) := by decide +kernel
theorem dX9_came_76 : decode cX9_came 76 = .ok (.iaload, 1) := by decide +kernel
theorem dX9_came_77 : decode cX9_came 77 = .ok (.ishl, 1) := by decide +kernel
theorem dX9_came_78 : decode cX9_came 78 = .ok (.iconst 1, 1) := by decide +kernel
theorem dX9_came_79 : decode cX9_came 79 = .ok (.isub, 1) := by decide +kernel
theorem dX9_came_80 : decode cX9_came 80 = .ok (.istore 7, 2) := by decide +kernel
theorem dX9_came_82 : decode cX9_came 82 = .ok (.iconst 0, 1) := by decide +kernel
theorem dX9_came_83 : decode cX9_came 83 = .ok (.istore 8, 2) := by decide +kernel
theorem dX9_came_85 : decode cX9_came 85 = .ok (.iconst 0, 1) := by decide +kernel
theorem dX9_came_86 : decode cX9_came 86 = .ok (.istore 9, 2) := by decide +kernel
theorem dX9_came_88 : decode cX9_came 88 = .ok (.iload 9, 2) := by decide +kernel
theorem dX9_came_90 : decode cX9_came 90 = .ok (.iconst 1, 1) := by decide +kernel
theorem dX9_came_91 : decode cX9_came 91 = .ok (.aload_n 0, 1) := by decide +kernel
theorem dX9_came_92 : decode cX9_came 92 = .ok (.getfield 7, 3) := by decide +kernel
theorem dX9_came_95 : decode cX9_came 95 = .ok (.iconst 1, 1) := by decide +kernel
theorem dX9_came_96 : decode cX9_came 96 = .ok (.iaload, 1) := by decide +kernel
theorem dX9_came_97 : decode cX9_came 97 = .ok (.ishl, 1) := by decide +kernel
theorem dX9_came_98 : decode cX9_came 98 = .ok (.if_icmp .ge 52, 3) := by decide +kernel
theorem dX9_came_101 : decode cX9_came 101 = .ok (.aload_n 0, 1) := by decide +kernel
theorem dX9_came_102 : decode cX9_came 102 = .ok (.iload_n 1, 1) := by decide +kernel
theorem dX9_came_103 : decode cX9_came 103 = .ok (.iload_n 2, 1) := by decide +kernel
theorem dX9_came_104 : decode cX9_came 104 = .ok (.iload 9, 2) := by decide +kernel
theorem dX9_came_106 : decode cX9_came 106 = .ok (.invokevirtual 271, 3) := by decide +kernel
theorem dX9_came_109 : decode cX9_came 109 = .ok (.ifCond .eq 35, 3) := by decide +kernel
theorem dX9_came_112 : decode cX9_came 112 = .ok (.iinc 5 1, 3) := by decide +kernel
theorem dX9_came_115 : decode cX9_came 115 = .ok (.iload 6, 2) := by decide +kernel
theorem dX9_came_117 : decode cX9_came 117 = .ok (.iconst (-1), 1) := by decide +kernel
theorem dX9_came_118 : decode cX9_came 118 = .ok (.if_icmp .ne 8, 3) := by decide +kernel
theorem dX9_came_121 : decode cX9_came 121 = .ok (.iload 9, 2) := by decide +kernel
theorem dX9_came_123 : decode cX9_came 123 = .ok (.goto 5, 3) := by decide +kernel
theorem dX9_came_126 : decode cX9_came 126 = .ok (.iload 6, 2) := by decide +kernel
theorem dX9_came_128 : decode cX9_came 128 = .ok (.istore 6, 2) := by decide +kernel
theorem dX9_came_130 : decode cX9_came 130 = .ok (.iload 7, 2) := by decide +kernel
theorem dX9_came_132 : decode cX9_came 132 = .ok (.iload 9, 2) := by decide +kernel
theorem dX9_came_134 : decode cX9_came 134 = .ok (.iand, 1) := by decide +kernel
theorem dX9_came_135 : decode cX9_came 135 = .ok (.istore 7, 2) := by decide +kernel
theorem dX9_came_137 : decode cX9_came 137 = .ok (.iload 8, 2) := by decide +kernel
theorem dX9_came_139 : decode cX9_came 139 = .ok (.iload 9, 2) := by decide +kernel
theorem dX9_came_141 : decode cX9_came 141 = .ok (.ior, 1) := by decide +kernel
theorem dX9_came_142 : decode cX9_came 142 = .ok (.istore 8, 2) := by decide +kernel
theorem dX9_came_144 : decode cX9_came 144 = .ok (.iinc 9 1, 3) := by decide +kernel
theorem dX9_came_147 : decode cX9_came 147 = .ok (.goto (-59), 3) := by decide +kernel
theorem dX9_came_150 : decode cX9_came 150 = .ok (.iload 5, 2) := by decide +kernel
theorem dX9_came_152 : decode cX9_came 152 = .ok (.ifCond .ne 19, 3) := by decide +kernel
theorem dX9_came_155 : decode cX9_came 155 = .ok (.iload_n 3, 1) := by decide +kernel
theorem dX9_came_156 : decode cX9_came 156 = .ok (.iconst 1, 1) := by decide +kernel
theorem dX9_came_157 : decode cX9_came 157 = .ok (.if_icmp .eq 8, 3) := by decide +kernel
theorem dX9_came_160 : decode cX9_came 160 = .ok (.iload_n 3, 1) := by decide +kernel
theorem dX9_came_161 : decode cX9_came 161 = .ok (.iconst 2, 1) := by decide +kernel
theorem dX9_came_162 : decode cX9_came 162 = .ok (.if_icmp .ne 9, 3) := by decide +kernel
theorem dX9_came_165 : decode cX9_came 165 = .ok (.aload_n 0, 1) := by decide +kernel
theorem dX9_came_166 : decode cX9_came 166 = .ok (.iconst 2, 1) := by decide +kernel
theorem dX9_came_167 : decode cX9_came 167 = .ok (.invokevirtual 70, 3) := by decide +kernel
theorem dX9_came_170 : decode cX9_came 170 = .ok (.ireturn, 1) := by decide +kernel
theorem dX9_came_171 : decode cX9_came 171 = .ok (.iload_n 3, 1) := by decide +kernel
theorem dX9_came_172 : decode cX9_came 172 = .ok (.ifCond .ne 8, 3) := by decide +kernel
theorem dX9_came_175 : decode cX9_came 175 = .ok (.iload 5, 2) := by decide +kernel
theorem dX9_came_177 : decode cX9_came 177 = .ok (.goto 25, 3) := by decide +kernel
theorem dX9_came_180 : decode cX9_came 180 = .ok (.iload_n 3, 1) := by decide +kernel
theorem dX9_came_181 : decode cX9_came 181 = .ok (.iconst 1, 1) := by decide +kernel
theorem dX9_came_182 : decode cX9_came 182 = .ok (.if_icmp .ne 8, 3) := by decide +kernel
theorem dX9_came_185 : decode cX9_came 185 = .ok (.iload 6, 2) := by decide +kernel
theorem dX9_came_187 : decode cX9_came 187 = .ok (.goto 15, 3) := by decide +kernel
theorem dX9_came_190 : decode cX9_came 190 = .ok (.iload_n 3, 1) := by decide +kernel
theorem dX9_came_191 : decode cX9_came 191 = .ok (.iconst 2, 1) := by decide +kernel
theorem dX9_came_192 : decode cX9_came 192 = .ok (.if_icmp .ne 8, 3) := by decide +kernel
theorem dX9_came_195 : decode cX9_came 195 = .ok (.iload 7, 2) := by decide +kernel
theorem dX9_came_197 : decode cX9_came 197 = .ok (.goto 5, 3) := by decide +kernel
theorem dX9_came_200 : decode cX9_came 200 = .ok (.iload 8, 2) := by decide +kernel
theorem dX9_came_202 : decode cX9_came 202 = .ok (.ireturn, 1) := by decide +kernel
theorem dX9_image_0 : decode cX9_image 0 = .ok (.aload_n 0, 1) := by decide +kernel
theorem dX9_image_1 : decode cX9_image 1 = .ok (.getfield 7, 3) := by decide +kernel
theorem dX9_image_4 : decode cX9_image 4 = .ok (.aload_n 0, 1) := by decide +kernel
theorem dX9_image_5 : decode cX9_image 5 = .ok (.getfield 13, 3) := by decide +kernel
theorem dX9_image_8 : decode cX9_image 8 = .ok (.invokestatic 215, 3) := by decide +kernel
theorem dX9_image_11 : decode cX9_image 11 = .ok (.aload_n 0, 1) := by decide +kernel
theorem dX9_image_12 : decode cX9_image 12 = .ok (.dup, 1) := by decide +kernel
theorem dX9_image_13 : decode cX9_image 13 = .ok (.getfield 274, 3) := by decide +kernel
theorem dX9_image_16 : decode cX9_image 16 = .ok (.iconst 1, 1) := by decide +kernel
theorem dX9_image_17 : decode cX9_image 17 = .ok (.iadd, 1) := by decide +kernel
theorem dX9_image_18 : decode cX9_image 18 = .ok (.putfield 274, 3) := by decide +kernel
theorem dX9_image_21 : decode cX9_image 21 = .ok (.aload_n 0, 1) := by decide +kernel
theorem dX9_image_22 : decode cX9_image 22 = .ok (.getfield 274, 3) := by decide +kernel
theorem dX9_image_25 : decode cX9_image 25 = .ok (.ireturn, 1) := by decide +kernel
theorem dX9_restore_0 : decode cX9_restore 0 = .ok (.aload_n 0, 1) := by decide +kernel
theorem dX9_restore_1 : decode cX9_restore 1 = .ok (.getfield 274, 3) := by decide +kernel
theorem dX9_restore_4 : decode cX9_restore 4 = .ok (.ifCond .ne 9, 3) := by decide +kernel
theorem dX9_restore_7 : decode cX9_restore 7 = .ok (.aload_n 0, 1) := by decide +kernel
theorem dX9_restore_8 : decode cX9_restore 8 = .ok (.iconst 2, 1) := by decide +kernel
theorem dX9_restore_9 : decode cX9_restore 9 = .ok (.invokevirtual 70, 3) := by decide +kernel
theorem dX9_restore_12 : decode cX9_restore 12 = .ok (.ireturn, 1) := by decide +kernel
theorem dX9_restore_13 : decode cX9_restore 13 = .ok (.aload_n 0, 1) := by decide +kernel
theorem dX9_restore_14 : decode cX9_restore 14 = .ok (.getfield 13, 3) := by decide +kernel
theorem dX9_restore_17 : decode cX9_restore 17 = .ok (.aload_n 0, 1) := by decide +kernel
theorem dX9_restore_18 : decode cX9_restore 18 = .ok (.getfield 7, 3) := by decide +kernel
theorem dX9_restore_21 : decode cX9_restore 21 = .ok (.invokestatic 215, 3) := by decide +kernel
theorem dX9_restore_24 : decode cX9_restore 24 = .ok (.aload_n 0, 1) := by decide +kernel
theorem dX9_restore_25 : decode cX9_restore 25 = .ok (.getfield 7, 3) := by decide +kernel
theorem dX9_restore_28 : decode cX9_restore 28 = .ok (.iconst 2, 1) := by decide +kernel
theorem dX9_restore_29 : decode cX9_restore 29 = .ok (.iaload, 1) := by decide +kernel
theorem dX9_restore_30 : decode cX9_restore 30 = .ok (.ireturn, 1) := by decide +kernel
theorem dX9_tell_0 : decode cX9_tell 0 = .ok (.aload_n 0, 1) := by decide +kernel
theorem dX9_tell_1 : decode cX9_tell 1 = .ok (.getfield 7, 3) := by decide +kernel
theorem dX9_tell_4 : decode cX9_tell 4 = .ok (.bipush 7, 2) := by decide +kernel
theorem dX9_tell_6 : decode cX9_tell 6 = .ok (.iaload, 1) := by decide +kernel
theorem dX9_tell_7 : decode cX9_tell 7 = .ok (.bipush 24, 2) := by decide +kernel
theorem dX9_tell_9 : decode cX9_tell 9 = .ok (.if_icmp .ne 9, 3) := by decide +kernel
theorem dX9_tell_12 : decode cX9_tell 12 = .ok (.aload_n 0, 1) := by decide +kernel
theorem dX9_tell_13 : decode cX9_tell 13 = .ok (.iconst 4, 1) := by decide +kernel
theorem dX9_tell_14 : decode cX9_tell 14 = .ok (.invokevirtual 70, 3) := by decide +kernel
theorem dX9_tell_17 : decode cX9_tell 17 = .ok (.ireturn, 1) := by decide +kernel
theorem dX9_tell_18 : decode cX9_tell 18 = .ok (.aload_n 0, 1) := by decide +kernel
theorem dX9_tell_19 : decode cX9_tell 19 = .ok (.getfield 7, 3) := by decide +kernel
theorem dX9_tell_22 : decode cX9_tell 22 = .ok (.sipush 492, 3) := by decide +kernel
theorem dX9_tell_25 : decode cX9_tell 25 = .ok (.aload_n 0, 1) := by decide +kernel
theorem dX9_tell_26 : decode cX9_tell 26 = .ok (.getfield 7, 3) := by decide +kernel
theorem dX9_tell_29 : decode cX9_tell 29 = .ok (.bipush 7, 2) := by decide +kernel
theorem dX9_tell_31 : decode cX9_tell 31 = .ok (.iaload, 1) := by decide +kernel
theorem dX9_tell_32 : decode cX9_tell 32 = .ok (.iadd, 1) := by decide +kernel
theorem dX9_tell_33 : decode cX9_tell 33 = .ok (.iload_n 1, 1) := by decide +kernel
theorem dX9_tell_34 : decode cX9_tell 34 = .ok (.iastore, 1) := by decide +kernel
theorem dX9_tell_35 : decode cX9_tell 35 = .ok (.aload_n 0, 1) := by decide +kernel
theorem dX9_tell_36 : decode cX9_tell 36 = .ok (.getfield 7, 3) := by decide +kernel
theorem dX9_tell_39 : decode cX9_tell 39 = .ok (.bipush 7, 2) := by decide +kernel
theorem dX9_tell_41 : decode cX9_tell 41 = .ok (.dup2, 1) := by decide +kernel
theorem dX9_tell_42 : decode cX9_tell 42 = .ok (.iaload, 1) := by decide +kernel
theorem dX9_tell_43 : decode cX9_tell 43 = .ok (.iconst 1, 1) := by decide +kernel
theorem dX9_tell_44 : decode cX9_tell 44 = .ok (.iadd, 1) := by decide +kernel
theorem dX9_tell_45 : decode cX9_tell 45 = .ok (.iastore, 1) := by decide +kernel
theorem dX9_tell_46 : decode cX9_tell 46 = .ok (.aload_n 0, 1) := by decide +kernel
theorem dX9_tell_47 : decode cX9_tell 47 = .ok (.getfield 7, 3) := by decide +kernel
theorem dX9_tell_50 : decode cX9_tell 50 = .ok (.bipush 7, 2) := by decide +kernel
theorem dX9_tell_52 : decode cX9_tell 52 = .ok (.iaload, 1) := by decide +kernel
theorem dX9_tell_53 : decode cX9_tell 53 = .ok (.ireturn, 1) := by decide +kernel
theorem dX9_check_0 : decode cX9_check 0 = .ok (.aload_n 0, 1) := by decide +kernel
theorem dX9_check_1 : decode cX9_check 1 = .ok (.getfield 7, 3) := by decide +kernel
theorem dX9_check_4 : decode cX9_check 4 = .ok (.bipush 7, 2) := by decide +kernel
theorem dX9_check_6 : decode cX9_check 6 = .ok (.iaload, 1) := by decide +kernel
theorem dX9_check_7 : decode cX9_check 7 = .ok (.istore_n 1, 1) := by decide +kernel
theorem dX9_check_8 : decode cX9_check 8 = .ok (.aload_n 0, 1) := by decide +kernel
theorem dX9_check_9 : decode cX9_check 9 = .ok (.getfield 7, 3) := by decide +kernel
theorem dX9_check_12 : decode cX9_check 12 = .ok (.bipush 7, 2) := by decide +kernel
theorem dX9_check_14 : decode cX9_check 14 = .ok (.iconst 0, 1) := by decide +kernel
theorem dX9_check_15 : decode cX9_check 15 = .ok (.iastore, 1) := by decide +kernel
theorem dX9_check_16 : decode cX9_check 16 = .ok (.aload_n 0, 1) := by decide +kernel
theorem dX9_check_17 : decode cX9_check 17 = .ok (.getfield 7, 3) := by decide +kernel
theorem dX9_check_20 : decode cX9_check 20 = .ok (.aload_n 0, 1) := by decide +kernel
theorem dX9_check_21 : decode cX9_check 21 = .ok (.getfield 16, 3) := by decide +kernel
theorem dX9_check_24 : decode cX9_check 24 = .ok (.invokestatic 215, 3) := by decide +kernel
theorem dX9_check_27 : decode cX9_check 27 = .ok (.iconst 0, 1) := by decide +kernel
theorem dX9_check_28 : decode cX9_check 28 = .ok (.istore_n 2, 1) := by decide +kernel
theorem dX9_check_29 : decode cX9_check 29 = .ok (.iconst 1, 1) := by decide +kernel
theorem dX9_check_30 : decode cX9_check 30 = .ok (.istore_n 3, 1) := by decide +kernel
theorem dX9_check_31 : decode cX9_check 31 = .ok (.iload_n 2, 1) := by decide +kernel
theorem dX9_check_32 : decode cX9_check 32 = .ok (.iload_n 1, 1) := by decide +kernel
theorem dX9_check_33 : decode cX9_check 33 = .ok (.if_icmp .ge 52, 3) := by decide +kernel
theorem dX9_check_36 : decode cX9_check 36 = .ok (.iload_n 3, 1) := by decide +kernel
theorem dX9_check_37 : decode cX9_check 37 = .ok (.ifCond .eq 48, 3) := by decide +kernel
theorem dX9_check_40 : decode cX9_check 40 = .ok (.aload_n 0, 1) := by decide +kernel
theorem dX9_check_41 : decode cX9_check 41 = .ok (.iconst 0, 1) := by decide +kernel
theorem dX9_check_42 : decode cX9_check 42 = .ok (.invokevirtual 208, 3) := by decide +kernel
theorem dX9_check_45 : decode cX9_check 45 = .ok (.aload_n 0, 1) := by decide +kernel
theorem dX9_check_46 : decode cX9_check 46 = .ok (.getfield 7, 3) := by decide +kernel
theorem dX9_check_49 : decode cX9_check 49 = .ok (.sipush 492, 3) := by decide +kernel
theorem dX9_check_52 : decode cX9_check 52 = .ok (.iload_n 2, 1) := by decide +kernel
theorem dX9_check_53 : decode cX9_check 53 = .ok (.iadd, 1) := by decide +kernel
theorem dX9_check_54 : decode cX9_check 54 = .ok (.iaload, 1) := by decide +kernel
theorem dX9_check_55 : decode cX9_check 55 = .ok (.aload_n 0, 1) := by decide +kernel
theorem dX9_check_56 : decode cX9_check 56 = .ok (.getfield 7, 3) := by decide +kernel
theorem dX9_check_59 : decode cX9_check 59 = .ok (.iconst 3, 1) := by decide +kernel
theorem dX9_check_60 : decode cX9_check 60 = .ok (.iaload, 1) := by decide +kernel
theorem dX9_check_61 : decode cX9_check 61 = .ok (.if_icmp .ne 7, 3) := by decide +kernel
theorem dX9_check_64 : decode cX9_check 64 = .ok (.iconst 1, 1) := by decide +kernel
theorem dX9_check_65 : decode cX9_check 65 = .ok (.goto 4, 3) := by decide +kernel
theorem dX9_check_68 : decode cX9_check 68 = .ok (.iconst 0, 1) := by decide +kernel
theorem dX9_check_69 : decode cX9_check 69 = .ok (.istore_n 3, 1) := by decide +kernel
theorem dX9_check_70 : decode cX9_check 70 = .ok (.iload_n 2, 1) := by decide +kernel
theorem dX9_check_71 : decode cX9_check 71 = .ok (.iload_n 3, 1) := by decide +kernel
theorem dX9_check_72 : decode cX9_check 72 = .ok (.ifCond .eq 7, 3) := by decide +kernel
theorem dX9_check_75 : decode cX9_check 75 = .ok (.iconst 1, 1) := by decide +kernel
theorem dX9_check_76 : decode cX9_check 76 = .ok (.goto 4, 3) := by decide +kernel
theorem dX9_check_79 : decode cX9_check 79 = .ok (.iconst 0, 1) := by decide +kernel
theorem dX9_check_80 : decode cX9_check 80 = .ok (.iadd, 1) := by decide +kernel
theorem dX9_check_81 : decode cX9_check 81 = .ok (.istore_n 2, 1) := by decide +kernel
theorem dX9_check_82 : decode cX9_check 82 = .ok (.goto (-51), 3) := by decide +kernel
theorem dX9_check_85 : decode cX9_check 85 = .ok (.aload_n 0, 1) := by decide +kernel
theorem dX9_check_86 : decode cX9_check 86 = .ok (.getfield 16, 3) := by decide +kernel
theorem dX9_check_89 : decode cX9_check 89 = .ok (.aload_n 0, 1) := by decide +kernel
theorem dX9_check_90 : decode cX9_check 90 = .ok (.getfield 7, 3) := by decide +kernel
theorem dX9_check_93 : decode cX9_check 93 = .ok (.invokestatic 215, 3) := by decide +kernel
theorem dX9_check_96 : decode cX9_check 96 = .ok (.iload_n 3, 1) := by decide +kernel
theorem dX9_check_97 : decode cX9_check 97 = .ok (.ifCond .eq 7, 3) := by decide +kernel
theorem dX9_check_100 : decode cX9_check 100 = .ok (.iconst 0, 1) := by decide +kernel
theorem dX9_check_101 : decode cX9_check 101 = .ok (.goto 6, 3) := by decide +kernel
theorem dX9_check_104 : decode cX9_check 104 = .ok (.iconst 1, 1) := by decide +kernel
theorem dX9_check_105 : decode cX9_check 105 = .ok (.iload_n 2, 1) := by decide +kernel
theorem dX9_check_106 : decode cX9_check 106 = .ok (.iadd, 1) := by decide +kernel
theorem dX9_check_107 : decode cX9_check 107 = .ok (.ireturn, 1) := by decide +kernel
theorem dX9_count_0 : decode cX9_count 0 = .ok (.iconst 0, 1) := by decide +kernel
theorem dX9_count_1 : decode cX9_count 1 = .ok (.istore_n 2, 1) := by decide +kernel
theorem dX9_count_2 : decode cX9_count 2 = .ok (.iconst 0, 1) := by decide +kernel
theorem dX9_count_3 : decode cX9_count 3 = .ok (.istore_n 3, 1) := by decide +kernel
theorem dX9_count_4 : decode cX9_count 4 = .ok (.iload_n 3, 1) := by decide +kernel
theorem dX9_count_5 : decode cX9_count 5 = .ok (.aload_n 0, 1) := by decide +kernel
theorem dX9_count_6 : decode cX9_count 6 = .ok (.getfield 7, 3) := by decide +kernel
theorem dX9_count_9 : decode cX9_count 9 = .ok (.iconst 0, 1) := by decide +kernel
theorem dX9_count_10 : decode cX9_count 10 = .ok (.iaload, 1) := by decide +kernel
theorem dX9_count_11 : decode cX9_count 11 = .ok (.if_icmp .ge 18, 3) := by decide +kernel
theorem dX9_count_14 : decode cX9_count 14 = .ok (.iload_n 2, 1) := by decide +kernel
theorem dX9_count_15 : decode cX9_count 15 = .ok (.aload_n 0, 1) := by decide +kernel
theorem dX9_count_16 : decode cX9_count 16 = .ok (.iload_n 3, 1) := by decide +kernel
theorem dX9_count_17 : decode cX9_count 17 = .ok (.iconst 2, 1) := by decide +kernel
theorem dX9_count_18 : decode cX9_count 18 = .ok (.invokevirtual 51, 3) := by decide +kernel
theorem dX9_count_21 : decode cX9_count 21 = .ok (.iadd, 1) := by decide +kernel
theorem dX9_count_22 : decode cX9_count 22 = .ok (.istore_n 2, 1) := by decide +kernel
theorem dX9_count_23 : decode cX9_count 23 = .ok (.iinc 3 1, 3) := by decide +kernel
theorem dX9_count_26 : decode cX9_count 26 = .ok (.goto (-22), 3) := by decide +kernel
theorem dX9_count_29 : decode cX9_count 29 = .ok (.iload_n 1, 1) := by decide +kernel
theorem dX9_count_30 : decode cX9_count 30 = .ok (.tableswitch 131 0 10 #[58, 65, 72, 79, 86, 93, 100, 102, 110, 118, 123], 58) := by decide +kernel
theorem dX9_count_88 : decode cX9_count 88 = .ok (.aload_n 0, 1) := by decide +kernel
theorem dX9_count_89 : decode cX9_count 89 = .ok (.getfield 7, 3) := by decide +kernel
theorem dX9_count_92 : decode cX9_count 92 = .ok (.iconst 0, 1) := by decide +kernel
theorem dX9_count_93 : decode cX9_count 93 = .ok (.iaload, 1) := by decide +kernel
theorem dX9_count_94 : decode cX9_count 94 = .ok (.ireturn, 1) := by decide +kernel
theorem dX9_count_95 : decode cX9_count 95 = .ok (.aload_n 0, 1) := by decide +kernel
theorem dX9_count_96 : decode cX9_count 96 = .ok (.getfield 7, 3) := by decide +kernel
theorem dX9_count_99 : decode cX9_count 99 = .ok (.iconst 1, 1) := by decide +kernel
theorem dX9_count_100 : decode cX9_count 100 = .ok (.iaload, 1) := by decide +kernel
theorem dX9_count_101 : decode cX9_count 101 = .ok (.ireturn, 1) := by decide +kernel
theorem dX9_count_102 : decode cX9_count 102 = .ok (.aload_n 0, 1) := by decide +kernel
theorem dX9_count_103 : decode cX9_count 103 = .ok (.getfield 7, 3) := by decide +kernel
theorem dX9_count_106 : decode cX9_count 106 = .ok (.iconst 2, 1) := by decide +kernel
theorem dX9_count_107 : decode cX9_count 107 = .ok (.iaload, 1) := by decide +kernel
theorem dX9_count_108 : decode cX9_count 108 = .ok (.ireturn, 1) := by decide +kernel
theorem dX9_count_109 : decode cX9_count 109 = .ok (.aload_n 0, 1) := by decide +kernel
theorem dX9_count_110 : decode cX9_count 110 = .ok (.getfield 7, 3) := by decide +kernel
theorem dX9_count_113 : decode cX9_count 113 = .ok (.iconst 3, 1) := by decide +kernel
theorem dX9_count_114 : decode cX9_count 114 = .ok (.iaload, 1) := by decide +kernel
theorem dX9_count_115 : decode cX9_count 115 = .ok (.ireturn, 1) := by decide +kernel
theorem dX9_count_116 : decode cX9_count 116 = .ok (.aload_n 0, 1) := by decide +kernel
theorem dX9_count_117 : decode cX9_count 117 = .ok (.getfield 7, 3) := by decide +kernel
theorem dX9_count_120 : decode cX9_count 120 = .ok (.iconst 4, 1) := by decide +kernel
theorem dX9_count_121 : decode cX9_count 121 = .ok (.iaload, 1) := by decide +kernel
theorem dX9_count_122 : decode cX9_count 122 = .ok (.ireturn, 1) := by decide +kernel
theorem dX9_count_123 : decode cX9_count 123 = .ok (.aload_n 0, 1) := by decide +kernel
theorem dX9_count_124 : decode cX9_count 124 = .ok (.getfield 7, 3) := by decide +kernel
theorem dX9_count_127 : decode cX9_count 127 = .ok (.iconst 5, 1) := by decide +kernel
theorem dX9_count_128 : decode cX9_count 128 = .ok (.iaload, 1) := by decide +kernel
theorem dX9_count_129 : decode cX9_count 129 = .ok (.ireturn, 1) := by decide +kernel
theorem dX9_count_130 : decode cX9_count 130 = .ok (.iload_n 2, 1) := by decide +kernel
theorem dX9_count_131 : decode cX9_count 131 = .ok (.ireturn, 1) := by decide +kernel
theorem dX9_count_132 : decode cX9_count 132 = .ok (.aload_n 0, 1) := by decide +kernel
theorem dX9_count_133 : decode cX9_count 133 = .ok (.getfield 7, 3) := by decide +kernel
theorem dX9_count_136 : decode cX9_count 136 = .ok (.bipush 6, 2) := by decide +kernel
theorem dX9_count_138 : decode cX9_count 138 = .ok (.iaload, 1) := by decide +kernel
theorem dX9_count_139 : decode cX9_count 139 = .ok (.ireturn, 1) := by decide +kernel
theorem dX9_count_140 : decode cX9_count 140 = .ok (.aload_n 0, 1) := by decide +kernel
theorem dX9_count_141 : decode cX9_count 141 = .ok (.getfield 7, 3) := by decide +kernel
theorem dX9_count_144 : decode cX9_count 144 = .ok (.bipush 7, 2) := by decide +kernel
theorem dX9_count_146 : decode cX9_count 146 = .ok (.iaload, 1) := by decide +kernel
theorem dX9_count_147 : decode cX9_count 147 = .ok (.ireturn, 1) := by decide +kernel
theorem dX9_count_148 : decode cX9_count 148 = .ok (.aload_n 0, 1) := by decide +kernel
theorem dX9_count_149 : decode cX9_count 149 = .ok (.getfield 231, 3) := by decide +kernel
theorem dX9_count_152 : decode cX9_count 152 = .ok (.ireturn, 1) := by decide +kernel
theorem dX9_count_153 : decode cX9_count 153 = .ok (.aload_n 0, 1) := by decide +kernel
theorem dX9_count_154 : decode cX9_count 154 = .ok (.getfield 7, 3) := by decide +kernel
theorem dX9_count_157 : decode cX9_count 157 = .ok (.bipush 8, 2) := by decide +kernel
theorem dX9_count_159 : decode cX9_count 159 = .ok (.iaload, 1) := by decide +kernel
theorem dX9_count_160 : decode cX9_count 160 = .ok (.ireturn, 1) := by decide +kernel
theorem dX9_count_161 : decode cX9_count 161 = .ok (.iload_n 1, 1) := by decide +kernel
theorem dX9_count_162 : decode cX9_count 162 = .ok (.bipush 11, 2) := by decide +kernel
theorem dX9_count_164 : decode cX9_count 164 = .ok (.bipush 16, 2) := by decide +kernel
theorem dX9_count_166 : decode cX9_count 166 = .ok (.invokestatic 47, 3) := by decide +kernel
theorem dX9_count_169 : decode cX9_count 169 = .ok (.ifCond .eq 18, 3) := by decide +kernel
theorem dX9_count_172 : decode cX9_count 172 = .ok (.aload_n 0, 1) := by decide +kernel
theorem dX9_count_173 : decode cX9_count 173 = .ok (.getfield 7, 3) := by decide +kernel
theorem dX9_count_176 : decode cX9_count 176 = .ok (.bipush 10, 2) := by decide +kernel
theorem dX9_count_178 : decode cX9_count 178 = .ok (.iload_n 1, 1) := by decide +kernel
theorem dX9_count_179 : decode cX9_count 179 = .ok (.iadd, 1) := by decide +kernel
theorem dX9_count_180 : decode cX9_count 180 = .ok (.bipush 11, 2) := by decide +kernel
theorem dX9_count_182 : decode cX9_count 182 = .ok (.isub, 1) := by decide +kernel
theorem dX9_count_183 : decode cX9_count 183 = .ok (.iaload, 1) := by decide +kernel
theorem dX9_count_184 : decode cX9_count 184 = .ok (.goto 8, 3) := by decide +kernel
theorem dX9_count_187 : decode cX9_count 187 = .ok (.aload_n 0, 1) := by decide +kernel
theorem dX9_count_188 : decode cX9_count 188 = .ok (.iconst 1, 1) := by decide +kernel
theorem dX9_count_189 : decode cX9_count 189 = .ok (.invokevirtual 70, 3) := by decide +kernel
theorem dX9_count_192 : decode cX9_count 192 = .ok (.ireturn, 1) := by decide +kernel
theorem dX9_told_0 : decode cX9_told 0 = .ok (.iload_n 1, 1) := by decide +kernel
theorem dX9_told_1 : decode cX9_told 1 = .ok (.iconst 1, 1) := by decide +kernel
theorem dX9_told_2 : decode cX9_told 2 = .ok (.bipush 6, 2) := by decide +kernel
theorem dX9_told_4 : decode cX9_told 4 = .ok (.invokestatic 47, 3) := by decide +kernel
theorem dX9_told_7 : decode cX9_told 7 = .ok (.ifCond .eq 12, 3) := by decide +kernel
theorem dX9_told_10 : decode cX9_told 10 = .ok (.aload_n 0, 1) := by decide +kernel
theorem dX9_told_11 : decode cX9_told 11 = .ok (.getfield 19, 3) := by decide +kernel
theorem dX9_told_14 : decode cX9_told 14 = .ok (.iload_n 1, 1) := by decide +kernel
theorem dX9_told_15 : decode cX9_told 15 = .ok (.iaload, 1) := by decide +kernel
theorem dX9_told_16 : decode cX9_told 16 = .ok (.goto 8, 3) := by decide +kernel
theorem dX9_told_19 : decode cX9_told 19 = .ok (.aload_n 0, 1) := by decide +kernel
theorem dX9_told_20 : decode cX9_told 20 = .ok (.iconst 1, 1) := by decide +kernel
theorem dX9_told_21 : decode cX9_told 21 = .ok (.invokevirtual 70, 3) := by decide +kernel
theorem dX9_told_24 : decode cX9_told 24 = .ok (.ireturn, 1) := by decide +kernel

theorem dX11_init_0 : decode cX11_init 0 = .ok (.aload_n 0, 1) := by decide +kernel
theorem dX11_init_1 : decode cX11_init 1 = .ok (.invokespecial 1, 3) := by decide +kernel
theorem dX11_init_4 : decode cX11_init 4 = .ok (.aload_n 0, 1) := by decide +kernel
theorem dX11_init_5 : decode cX11_init 5 = .ok (.new 7, 3) := by decide +kernel
theorem dX11_init_8 : decode cX11_init 8 = .ok (.dup, 1) := by decide +kernel
theorem dX11_init_9 : decode cX11_init 9 = .ok (.invokespecial 9, 3) := by decide +kernel
theorem dX11_init_12 : decode cX11_init 12 = .ok (.putfield 10, 3) := by decide +kernel
theorem dX11_init_15 : decode cX11_init 15 = .ok (.aload_n 0, 1) := by decide +kernel
theorem dX11_init_16 : decode cX11_init 16 = .ok (.new 16, 3) := by decide +kernel
theorem dX11_init_19 : decode cX11_init 19 = .ok (.dup, 1) := by decide +kernel
theorem dX11_init_20 : decode cX11_init 20 = .ok (.aload_n 0, 1) := by decide +kernel
theorem dX11_init_21 : decode cX11_init 21 = .ok (.getfield 10, 3) := by decide +kernel
theorem dX11_init_24 : decode cX11_init 24 = .ok (.invokespecial 18, 3) := by decide +kernel
theorem dX11_init_27 : decode cX11_init 27 = .ok (.putfield 21, 3) := by decide +kernel
theorem dX11_init_30 : decode cX11_init 30 = .ok (.aload_n 0, 1) := by decide +kernel
theorem dX11_init_31 : decode cX11_init 31 = .ok (.new 25, 3) := by decide +kernel
theorem dX11_init_34 : decode cX11_init 34 = .ok (.dup, 1) := by decide +kernel
theorem dX11_init_35 : decode cX11_init 35 = .ok (.aload_n 0, 1) := by decide +kernel
theorem dX11_init_36 : decode cX11_init 36 = .ok (.getfield 21, 3) := by decide +kernel
theorem dX11_init_39 : decode cX11_init 39 = .ok (.invokespecial 27, 3) := by decide +kernel
theorem dX11_init_42 : decode cX11_init 42 = .ok (.putfield 30, 3) := by decide +kernel
theorem dX11_init_45 : decode cX11_init 45 = .ok (.aload_n 0, 1) := by decide +kernel
theorem dX11_init_46 : decode cX11_init 46 = .ok (.new 34, 3) := by decide +kernel
theorem dX11_init_49 : decode cX11_init 49 = .ok (.dup, 1) := by decide +kernel
theorem dX11_init_50 : decode cX11_init 50 = .ok (.invokespecial 36, 3) := by decide +kernel
theorem dX11_init_53 : decode cX11_init 53 = .ok (.putfield 37, 3) := by decide +kernel
theorem dX11_init_56 : decode cX11_init 56 = .ok (.aload_n 0, 1) := by decide +kernel
theorem dX11_init_57 : decode cX11_init 57 = .ok (.new 41, 3) := by decide +kernel
theorem dX11_init_60 : decode cX11_init 60 = .ok (.dup, 1) := by decide +kernel
theorem dX11_init_61 : decode cX11_init 61 = .ok (.invokespecial 43, 3) := by decide +kernel
theorem dX11_init_64 : decode cX11_init 64 = .ok (.putfield 44, 3) := by decide +kernel
theorem dX11_init_67 : decode cX11_init 67 = .ok (.aload_n 0, 1) := by decide +kernel
theorem dX11_init_68 : decode cX11_init 68 = .ok (.iconst 2, 1) := by decide +kernel
theorem dX11_init_69 : decode cX11_init 69 = .ok (.anewarray 41, 3) := by decide +kernel
theorem dX11_init_72 : decode cX11_init 72 = .ok (.putfield 48, 3) := by decide +kernel
theorem dX11_init_75 : decode cX11_init 75 = .ok (.aload_n 0, 1) := by decide +kernel
theorem dX11_init_76 : decode cX11_init 76 = .ok (.iconst 2, 1) := by decide +kernel
theorem dX11_init_77 : decode cX11_init 77 = .ok (.newarray .boolean, 2) := by decide +kernel
theorem dX11_init_79 : decode cX11_init 79 = .ok (.putfield 52, 3) := by decide +kernel
theorem dX11_init_82 : decode cX11_init 82 = .ok (.aload_n 0, 1) := by decide +kernel
theorem dX11_init_83 : decode cX11_init 83 = .ok (.bipush 8, 2) := by decide +kernel
theorem dX11_init_85 : decode cX11_init 85 = .ok (.newarray .int, 2) := by decide +kernel
theorem dX11_init_87 : decode cX11_init 87 = .ok (.putfield 56, 3) := by decide +kernel
theorem dX11_init_90 : decode cX11_init 90 = .ok (.aload_n 0, 1) := by decide +kernel
theorem dX11_init_91 : decode cX11_init 91 = .ok (.sipush 300, 3) := by decide +kernel
theorem dX11_init_94 : decode cX11_init 94 = .ok (.newarray .int, 2) := by decide +kernel
theorem dX11_init_96 : decode cX11_init 96 = .ok (.putfield 60, 3) := by decide +kernel
theorem dX11_init_99 : decode cX11_init 99 = .ok (.aload_n 0, 1) := by decide +kernel
theorem dX11_init_100 : decode cX11_init 100 = .ok (.bipush 21, 2) := by decide +kernel
theorem dX11_init_102 : decode cX11_init 102 = .ok (.newarray .int, 2) := by decide +kernel
theorem dX11_init_104 : decode cX11_init 104 = .ok (.putfield 63, 3) := by decide +kernel
theorem dX11_init_107 : decode cX11_init 107 = .ok (.aload_n 0, 1) := by decide +kernel
theorem dX11_init_108 : decode cX11_init 108 = .ok (.lconst 1, 1) := by decide +kernel
theorem dX11_init_109 : decode cX11_init 109 = .ok (.putfield 66, 3) := by decide +kernel
theorem dX11_init_112 : decode cX11_init 112 = .ok (.iconst 0, 1) := by decide +kernel
theorem dX11_init_113 : decode cX11_init 113 = .ok (.istore_n 1, 1) := by decide +kernel
theorem dX11_init_114 : decode cX11_init 114 = .ok (.iload_n 1, 1) := by decide +kernel
theorem dX11_init_115 : decode cX11_init 115 = .ok (.iconst 2, 1) := by decide +kernel
theorem dX11_init_116 : decode cX11_init 116 = .ok (.if_icmp .ge 22, 3) := by decide +kernel
theorem dX11_init_119 : decode cX11_init 119 = .ok (.aload_n 0, 1) := by decide +kernel
theorem dX11_init_120 : decode cX11_init 120 = .ok (.getfield 48, 3) := by decide +kernel
theorem dX11_init_123 : decode cX11_init 123 = .ok (.iload_n 1, 1) := by decide +kernel
theorem dX11_init_124 : decode cX11_init 124 = .ok (.new 41, 3) := by decide +kernel
theorem dX11_init_127 : decode cX11_init 127 = .ok (.dup, 1) := by decide +kernel
theorem dX11_init_128 : decode cX11_init 128 = .ok (.invokespecial 43, 3) := by decide +kernel
theorem dX11_init_131 : decode cX11_init 131 = .ok (.aastore, 1) := by decide +kernel
theorem dX11_init_132 : decode cX11_init 132 = .ok (.iinc 1 1, 3) := by decide +kernel
theorem dX11_init_135 : decode cX11_init 135 = .ok (.goto (-21), 3) := by decide +kernel
theorem dX11_init_138 : decode cX11_init 138 = .ok (.return_, 1) := by decide +kernel
theorem dX11_street_0 : decode cX11_street 0 = .ok (.iload_n 1, 1) := by decide +kernel
theorem dX11_street_1 : decode cX11_street 1 = .ok (.iload_n 2, 1) := by decide +kernel
theorem dX11_street_2 : decode cX11_street 2 = .ok (.invokestatic 70, 3) := by decide +kernel
theorem dX11_street_5 : decode cX11_street 5 = .ok (.ifCond .ne 8, 3) := by decide +kernel
theorem dX11_street_8 : decode cX11_street 8 = .ok (.aload_n 0, 1) := by decide +kernel
theorem dX11_street_9 : decode cX11_street 9 = .ok (.invokevirtual 74, 3) := by decide +kernel
theorem dX11_street_12 : decode cX11_street 12 = .ok (.ireturn, 1) := by decide +kernel
theorem dX11_street_13 : decode cX11_street 13 = .ok (.aload_n 0, 1) := by decide +kernel
theorem dX11_street_14 : decode cX11_street 14 = .ok (.getfield 44, 3) := by decide +kernel
theorem dX11_street_17 : decode cX11_street 17 = .ok (.invokevirtual 78, 3) := by decide +kernel
theorem dX11_street_20 : decode cX11_street 20 = .ok (.istore_n 3, 1) := by decide +kernel
theorem dX11_street_21 : decode cX11_street 21 = .ok (.aload_n 0, 1) := by decide +kernel
theorem dX11_street_22 : decode cX11_street 22 = .ok (.getfield 44, 3) := by decide +kernel
theorem dX11_street_25 : decode cX11_street 25 = .ok (.bipush 10, 2) := by decide +kernel
theorem dX11_street_27 : decode cX11_street 27 = .ok (.iload_n 1, 1) := by decide +kernel
theorem dX11_street_28 : decode cX11_street 28 = .ok (.imul, 1) := by decide +kernel
theorem dX11_street_29 : decode cX11_street 29 = .ok (.iload_n 2, 1) := by decide +kernel
theorem dX11_street_30 : decode cX11_street 30 = .ok (.iadd, 1) := by decide +kernel
theorem dX11_street_31 : decode cX11_street 31 = .ok (.invokevirtual 81, 3) := by decide +kernel
theorem dX11_street_34 : decode cX11_street 34 = .ok (.iload_n 3, 1) := by decide +kernel
theorem dX11_street_35 : decode cX11_street 35 = .ok (.ireturn, 1) := by decide +kernel
theorem dX11_rule_0 : decode cX11_rule 0 = .ok (.iload_n 1, 1) := by decide +kernel
theorem dX11_rule_1 : decode cX11_rule 1 = .ok (.iload_n 2, 1) := by decide +kernel
theorem dX11_rule_2 : decode cX11_rule 2 = .ok (.invokestatic 70, 3) := by decide +kernel
theorem dX11_rule_5 : decode cX11_rule 5 = .ok (.ifCond .ne 8, 3) := by decide +kernel
theorem dX11_rule_8 : decode cX11_rule 8 = .ok (.aload_n 0, 1) := by decide +kernel
theorem dX11_rule_9 : decode cX11_rule 9 = .ok (.invokevirtual 74, 3) := by decide +kernel
theorem dX11_rule_12 : decode cX11_rule 12 = .ok (.ireturn, 1) := by decide +kernel
theorem dX11_rule_13 : decode cX11_rule 13 = .ok (.aload_n 0, 1) := by decide +kernel
theorem dX11_rule_14 : decode cX11_rule 14 = .ok (.getfield 44, 3) := by decide +kernel
theorem dX11_rule_17 : decode cX11_rule 17 = .ok (.getfield 85, 3) := by decide +kernel
theorem dX11_rule_20 : decode cX11_rule 20 = .ok (.istore_n 3, 1) := by decide +kernel
theorem dX11_rule_21 : decode cX11_rule 21 = .ok (.aload_n 0, 1) := by decide +kernel
theorem dX11_rule_22 : decode cX11_rule 22 = .ok (.getfield 44, 3) := by decide +kernel
theorem dX11_rule_25 : decode cX11_rule 25 = .ok (.invokevirtual 89, 3) := by decide +kernel
theorem dX11_rule_28 : decode cX11_rule 28 = .ok (.aload_n 0, 1) := by decide +kernel
theorem dX11_rule_29 : decode cX11_rule 29 = .ok (.getfield 44, 3) := by decide +kernel
theorem dX11_rule_32 : decode cX11_rule 32 = .ok (.bipush 10, 2) := by decide +kernel
theorem dX11_rule_34 : decode cX11_rule 34 = .ok (.iload_n 1, 1) := by decide +kernel
theorem dX11_rule_35 : decode cX11_rule 35 = .ok (.imul, 1) := by decide +kernel
theorem dX11_rule_36 : decode cX11_rule 36 = .ok (.iload_n 2, 1) := by decide +kernel
theorem dX11_rule_37 : decode cX11_rule 37 = .ok (.iadd, 1) := by decide +kernel
theorem dX11_rule_38 : decode cX11_rule 38 = .ok (.putfield 85, 3) := by decide +kernel
theorem dX11_rule_41 : decode cX11_rule 41 = .ok (.iload_n 3, 1) := by decide +kernel
theorem dX11_rule_42 : decode cX11_rule 42 = .ok (.ireturn, 1) := by decide +kernel
theorem dX11_house_0 : decode cX11_house 0 = .ok (.iload_n 1, 1) := by decide +kernel
theorem dX11_house_1 : decode cX11_house 1 = .ok (.invokestatic 92, 3) := by decide +kernel
theorem dX11_house_4 : decode cX11_house 4 = .ok (.ifCond .eq 14, 3) := by decide +kernel
theorem dX11_house_7 : decode cX11_house 7 = .ok (.iload_n 2, 1) := by decide +kernel
theorem dX11_house_8 : decode cX11_house 8 = .ok (.ifCond .lt 10, 3) := by decide +kernel
theorem dX11_house_11 : decode cX11_house 11 = .ok (.iload_n 2, 1) := by decide +kernel
theorem dX11_house_12 : decode cX11_house 12 = .ok (.sipush 300, 3) := by decide +kernel
theorem dX11_house_15 : decode cX11_house 15 = .ok (.if_icmp .le 8, 3) := by decide +kernel
theorem dX11_house_18 : decode cX11_house 18 = .ok (.aload_n 0, 1) := by decide +kernel
theorem dX11_house_19 : decode cX11_house 19 = .ok (.invokevirtual 74, 3) := by decide +kernel
theorem dX11_house_22 : decode cX11_house 22 = .ok (.ireturn, 1) := by decide +kernel
theorem dX11_house_23 : decode cX11_house 23 = .ok (.aload_n 0, 1) := by decide +kernel
theorem dX11_house_24 : decode cX11_house 24 = .ok (.getfield 44, 3) := by decide +kernel
theorem dX11_house_27 : decode cX11_house 27 = .ok (.getfield 96, 3) := by decide +kernel
theorem dX11_house_30 : decode cX11_house 30 = .ok (.iload_n 1, 1) := by decide +kernel
theorem dX11_house_31 : decode cX11_house 31 = .ok (.iaload, 1) := by decide +kernel
theorem dX11_house_32 : decode cX11_house 32 = .ok (.istore_n 3, 1) := by decide +kernel
theorem dX11_house_33 : decode cX11_house 33 = .ok (.aload_n 0, 1) := by decide +kernel
theorem dX11_house_34 : decode cX11_house 34 = .ok (.getfield 44, 3) := by decide +kernel
theorem dX11_house_37 : decode cX11_house 37 = .ok (.invokevirtual 89, 3) := by decide +kernel
theorem dX11_house_40 : decode cX11_house 40 = .ok (.aload_n 0, 1) := by decide +kernel
theorem dX11_house_41 : decode cX11_house 41 = .ok (.getfield 44, 3) := by decide +kernel
theorem dX11_house_44 : decode cX11_house 44 = .ok (.getfield 96, 3) := by decide +kernel
theorem dX11_house_47 : decode cX11_house 47 = .ok (.iload_n 1, 1) := by decide +kernel
theorem dX11_house_48 : decode cX11_house 48 = .ok (.iload_n 2, 1) := by decide +kernel
theorem dX11_house_49 : decode cX11_house 49 = .ok (.iastore, 1) := by decide +kernel
theorem dX11_house_50 : decode cX11_house 50 = .ok (.iload_n 3, 1) := by decide +kernel
theorem dX11_house_51 : decode cX11_house 51 = .ok (.ireturn, 1) := by decide +kernel
theorem dX11_birthday_0 : decode cX11_birthday 0 = .ok (.iload_n 1, 1) := by decide +kernel
theorem dX11_birthday_1 : decode cX11_birthday 1 = .ok (.invokestatic 92, 3) := by decide +kernel
theorem dX11_birthday_4 : decode cX11_birthday 4 = .ok (.ifCond .ne 8, 3) := by decide +kernel
theorem dX11_birthday_7 : decode cX11_birthday 7 = .ok (.aload_n 0, 1) := by decide +kernel
theorem dX11_birthday_8 : decode cX11_birthday 8 = .ok (.invokevirtual 74, 3) := by decide +kernel
theorem dX11_birthday_11 : decode cX11_birthday 11 = .ok (.ireturn, 1) := by decide +kernel
theorem dX11_birthday_12 : decode cX11_birthday 12 = .ok (.aload_n 0, 1) := by decide +kernel
theorem dX11_birthday_13 : decode cX11_birthday 13 = .ok (.getfield 44, 3) := by decide +kernel
theorem dX11_birthday_16 : decode cX11_birthday 16 = .ok (.getfield 96, 3) := by decide +kernel
theorem dX11_birthday_19 : decode cX11_birthday 19 = .ok (.iload_n 1, 1) := by decide +kernel
theorem dX11_birthday_20 : decode cX11_birthday 20 = .ok (.iaload, 1) := by decide +kernel
theorem dX11_birthday_21 : decode cX11_birthday 21 = .ok (.istore_n 2, 1) := by decide +kernel
theorem dX11_birthday_22 : decode cX11_birthday 22 = .ok (.iload_n 2, 1) := by decide +kernel
theorem dX11_birthday_23 : decode cX11_birthday 23 = .ok (.ifCond .eq 10, 3) := by decide +kernel
theorem dX11_birthday_26 : decode cX11_birthday 26 = .ok (.iload_n 2, 1) := by decide +kernel
theorem dX11_birthday_27 : decode cX11_birthday 27 = .ok (.sipush 300, 3) := by decide +kernel
theorem dX11_birthday_30 : decode cX11_birthday 30 = .ok (.if_icmp .lt 8, 3) := by decide +kernel
theorem dX11_birthday_33 : decode cX11_birthday 33 = .ok (.aload_n 0, 1) := by decide +kernel
theorem dX11_birthday_34 : decode cX11_birthday 34 = .ok (.invokevirtual 99, 3) := by decide +kernel
theorem dX11_birthday_37 : decode cX11_birthday 37 = .ok (.ireturn, 1) := by decide +kernel
theorem dX11_birthday_38 : decode cX11_birthday 38 = .ok (.aload_n 0, 1) := by decide +kernel
theorem dX11_birthday_39 : decode cX11_birthday 39 = .ok (.getfield 44, 3) := by decide +kernel
theorem dX11_birthday_42 : decode cX11_birthday 42 = .ok (.invokevirtual 89, 3) := by decide +kernel
theorem dX11_birthday_45 : decode cX11_birthday 45 = .ok (.aload_n 0, 1) := by decide +kernel
theorem dX11_birthday_46 : decode cX11_birthday 46 = .ok (.getfield 44, 3) := by decide +kernel
theorem dX11_birthday_49 : decode cX11_birthday 49 = .ok (.getfield 96, 3) := by decide +kernel
theorem dX11_birthday_52 : decode cX11_birthday 52 = .ok (.iload_n 1, 1) := by decide +kernel
theorem dX11_birthday_53 : decode cX11_birthday 53 = .ok (.iload_n 2, 1) := by decide +kernel
theorem dX11_birthday_54 : decode cX11_birthday 54 = .ok (.iconst 1, 1) := by decide +kernel
theorem dX11_birthday_55 : decode cX11_birthday 55 = .ok (.iadd, 1) := by decide +kernel
theorem dX11_birthday_56 : decode cX11_birthday 56 = .ok (.iastore, 1) := by decide +kernel
theorem dX11_birthday_57 : decode cX11_birthday 57 = .ok (.iload_n 2, 1) := by decide +kernel
theorem dX11_birthday_58 : decode cX11_birthday 58 = .ok (.iconst 1, 1) := by decide +kernel
theorem dX11_birthday_59 : decode cX11_birthday 59 = .ok (.iadd, 1) := by decide +kernel
theorem dX11_birthday_60 : decode cX11_birthday 60 = .ok (.ireturn, 1) := by decide +kernel
theorem dX11_swap_0 : decode cX11_swap 0 = .ok (.iload_n 1, 1) := by decide +kernel
theorem dX11_swap_1 : decode cX11_swap 1 = .ok (.invokestatic 92, 3) := by decide +kernel
theorem dX11_swap_4 : decode cX11_swap 4 = .ok (.ifCond .eq 15, 3) := by decide +kernel
theorem dX11_swap_7 : decode cX11_swap 7 = .ok (.iload_n 2, 1) := by decide +kernel
theorem dX11_swap_8 : decode cX11_swap 8 = .ok (.invokestatic 92, 3) := by decide +kernel
theorem dX11_swap_11 : decode cX11_swap 11 = .ok (.ifCond .eq 8, 3) := by decide +kernel
theorem dX11_swap_14 : decode cX11_swap 14 = .ok (.iload_n 1, 1) := by decide +kernel
theorem dX11_swap_15 : decode cX11_swap 15 = .ok (.iload_n 2, 1) := by decide +kernel
theorem dX11_swap_16 : decode cX11_swap 16 = .ok (.if_icmp .ne 8, 3) := by decide +kernel
theorem dX11_swap_19 : decode cX11_swap 19 = .ok (.aload_n 0, 1) := by decide +kernel
theorem dX11_swap_20 : decode cX11_swap 20 = .ok (.invokevirtual 74, 3) := by decide +kernel
theorem dX11_swap_23 : decode cX11_swap 23 = .ok (.ireturn, 1) := by decide +kernel
theorem dX11_swap_24 : decode cX11_swap 24 = .ok (.aload_n 0, 1) := by decide +kernel
theorem dX11_swap_25 : decode cX11_swap 25 = .ok (.getfield 44, 3) := by decide +kernel
theorem dX11_swap_28 : decode cX11_swap 28 = .ok (.getfield 96, 3) := by decide +kernel
theorem dX11_swap_31 : decode cX11_swap 31 = .ok (.iload_n 1, 1) := by decide +kernel
theorem dX11_swap_32 : decode cX11_swap 32 = .ok (.iaload, 1) := by decide +kernel
theorem dX11_swap_33 : decode cX11_swap 33 = .ok (.istore_n 3, 1) := by decide +kernel
theorem dX11_swap_34 : decode cX11_swap 34 = .ok (.aload_n 0, 1) := by decide +kernel
theorem dX11_swap_35 : decode cX11_swap 35 = .ok (.getfield 44, 3) := by decide +kernel
theorem dX11_swap_38 : decode cX11_swap 38 = .ok (.getfield 96, 3) := by decide +kernel
theorem dX11_swap_41 : decode cX11_swap 41 = .ok (.iload_n 2, 1) := by decide +kernel
theorem dX11_swap_42 : decode cX11_swap 42 = .ok (.iaload, 1) := by decide +kernel
theorem dX11_swap_43 : decode cX11_swap 43 = .ok (.istore 4, 2) := by decide +kernel
theorem dX11_swap_45 : decode cX11_swap 45 = .ok (.iload_n 3, 1) := by decide +kernel
theorem dX11_swap_46 : decode cX11_swap 46 = .ok (.ifCond .ne 13, 3) := by decide +kernel
theorem dX11_swap_49 : decode cX11_swap 49 = .ok (.iload 4, 2) := by decide +kernel
theorem dX11_swap_51 : decode cX11_swap 51 = .ok (.ifCond .ne 8, 3) := by decide +kernel
theorem dX11_swap_54 : decode cX11_swap 54 = .ok (.aload_n 0, 1) := by decide +kernel
theorem dX11_swap_55 : decode cX11_swap 55 = .ok (.invokevirtual 99, 3) := by decide +kernel
theorem dX11_swap_58 : decode cX11_swap 58 = .ok (.ireturn, 1) := by decide +kernel
theorem dX11_swap_59 : decode cX11_swap 59 = .ok (.aload_n 0, 1) := by decide +kernel
theorem dX11_swap_60 : decode cX11_swap 60 = .ok (.getfield 44, 3) := by decide +kernel
theorem dX11_swap_63 : decode cX11_swap 63 = .ok (.invokevirtual 89, 3) := by decide +kernel
theorem dX11_swap_66 : decode cX11_swap 66 = .ok (.aload_n 0, 1) := by decide +kernel
theorem dX11_swap_67 : decode cX11_swap 67 = .ok (.getfield 44, 3) := by decide +kernel
theorem dX11_swap_70 : decode cX11_swap 70 = .ok (.getfield 96, 3) := by decide +kernel
theorem dX11_swap_73 : decode cX11_swap 73 = .ok (.iload_n 1, 1) := by decide +kernel
theorem dX11_swap_74 : decode cX11_swap 74 = .ok (.iload 4, 2) := by decide +kernel
theorem dX11_swap_76 : decode cX11_swap 76 = .ok (.iastore, 1) := by decide +kernel
theorem dX11_swap_77 : decode cX11_swap 77 = .ok (.aload_n 0, 1) := by decide +kernel
theorem dX11_swap_78 : decode cX11_swap 78 = .ok (.getfield 44, 3) := by decide +kernel
theorem dX11_swap_81 : decode cX11_swap 81 = .ok (.getfield 96, 3) := by decide +kernel
theorem dX11_swap_84 : decode cX11_swap 84 = .ok (.iload_n 2, 1) := by decide +kernel
theorem dX11_swap_85 : decode cX11_swap 85 = .ok (.iload_n 3, 1) := by decide +kernel
theorem dX11_swap_86 : decode cX11_swap 86 = .ok (.iastore, 1) := by decide +kernel
theorem dX11_swap_87 : decode cX11_swap 87 = .ok (.iconst 1, 1) := by decide +kernel
theorem dX11_swap_88 : decode cX11_swap 88 = .ok (.ireturn, 1) := by decide +kernel
theorem dX11_undo_0 : decode cX11_undo 0 = .ok (.aload_n 0, 1) := by decide +kernel
theorem dX11_undo_1 : decode cX11_undo 1 = .ok (.getfield 44, 3) := by decide +kernel
theorem dX11_undo_4 : decode cX11_undo 4 = .ok (.invokevirtual 102, 3) := by decide +kernel
theorem dX11_undo_7 : decode cX11_undo 7 = .ok (.ifCond .ne 8, 3) := by decide +kernel
theorem dX11_undo_10 : decode cX11_undo 10 = .ok (.aload_n 0, 1) := by decide +kernel
theorem dX11_undo_11 : decode cX11_undo 11 = .ok (.invokevirtual 99, 3) := by decide +kernel
theorem dX11_undo_14 : decode cX11_undo 14 = .ok (.ireturn, 1) := by decide +kernel
theorem dX11_undo_15 : decode cX11_undo 15 = .ok (.aload_n 0, 1) := by decide +kernel
theorem dX11_undo_16 : decode cX11_undo 16 = .ok (.getfield 44, 3) := by decide +kernel
theorem dX11_undo_19 : decode cX11_undo 19 = .ok (.invokevirtual 78, 3) := by decide +kernel
theorem dX11_undo_22 : decode cX11_undo 22 = .ok (.ireturn, 1) := by decide +kernel
theorem dX11_type_0 : decode cX11_type 0 = .ok (.iload_n 1, 1) := by decide +kernel
theorem dX11_type_1 : decode cX11_type 1 = .ok (.ifCond .lt 9, 3) := by decide +kernel
theorem dX11_type_4 : decode cX11_type 4 = .ok (.iload_n 1, 1) := by decide +kernel
theorem dX11_type_5 : decode cX11_type 5 = .ok (.bipush 127, 2) := by decide +kernel
theorem dX11_type_7 : decode cX11_type 7 = .ok (.if_icmp .le 8, 3) := by decide +kernel
theorem dX11_type_10 : decode cX11_type 10 = .ok (.aload_n 0, 1) := by decide +kernel
theorem dX11_type_11 : decode cX11_type 11 = .ok (.invokevirtual 74, 3) := by decide +kernel
theorem dX11_type_14 : decode cX11_type 14 = .ok (.ireturn, 1) := by decide +kernel
theorem dX11_type_15 : decode cX11_type 15 = .ok (.aload_n 0, 1) := by decide +kernel
theorem dX11_type_16 : decode cX11_type 16 = .ok (.getfield 37, 3) := by decide +kernel
theorem dX11_type_19 : decode cX11_type 19 = .ok (.iload_n 1, 1) := by decide +kernel
theorem dX11_type_20 : decode cX11_type 20 = .ok (.invokevirtual 106, 3) := by decide +kernel
theorem dX11_type_23 : decode cX11_type 23 = .ok (.ifCond .ne 8, 3) := by decide +kernel
theorem dX11_type_26 : decode cX11_type 26 = .ok (.aload_n 0, 1) := by decide +kernel
theorem dX11_type_27 : decode cX11_type 27 = .ok (.invokevirtual 109, 3) := by decide +kernel
theorem dX11_type_30 : decode cX11_type 30 = .ok (.ireturn, 1) := by decide +kernel
theorem dX11_type_31 : decode cX11_type 31 = .ok (.aload_n 0, 1) := by decide +kernel
theorem dX11_type_32 : decode cX11_type 32 = .ok (.getfield 37, 3) := by decide +kernel
theorem dX11_type_35 : decode cX11_type 35 = .ok (.getfield 112, 3) := by decide +kernel
theorem dX11_type_38 : decode cX11_type 38 = .ok (.ireturn, 1) := by decide +kernel
theorem dX11_clear_0 : decode cX11_clear 0 = .ok (.aload_n 0, 1) := by decide +kernel
theorem dX11_clear_1 : decode cX11_clear 1 = .ok (.getfield 37, 3) := by decide +kernel
theorem dX11_clear_4 : decode cX11_clear 4 = .ok (.getfield 112, 3) := by decide +kernel
theorem dX11_clear_7 : decode cX11_clear 7 = .ok (.istore_n 1, 1) := by decide +kernel
theorem dX11_clear_8 : decode cX11_clear 8 = .ok (.aload_n 0, 1) := by decide +kernel
theorem dX11_clear_9 : decode cX11_clear 9 = .ok (.getfield 37, 3) := by decide +kernel
theorem dX11_clear_12 : decode cX11_clear 12 = .ok (.iconst 0, 1) := by decide +kernel
theorem dX11_clear_13 : decode cX11_clear 13 = .ok (.putfield 112, 3) := by decide +kernel
theorem dX11_clear_16 : decode cX11_clear 16 = .ok (.iload_n 1, 1) := by decide +kernel
theorem dX11_clear_17 : decode cX11_clear 17 = .ok (.ireturn, 1) := by decide +kernel
theorem dX11_read_0 : decode cX11_read 0 = .ok (.aload_n 0, 1) := by decide +kernel
theorem dX11_read_1 : decode cX11_read 1 = .ok (.getfield 37, 3) := by decide +kernel
theorem dX11_read_4 : decode cX11_read 4 = .ok (.invokevirtual 115, 3) := by decide +kernel
theorem dX11_read_7 : decode cX11_read 7 = .ok (.aload_n 0, 1) := by decide +kernel
theorem dX11_read_8 : decode cX11_read 8 = .ok (.getfield 37, 3) := by decide +kernel
theorem dX11_read_11 : decode cX11_read 11 = .ok (.getfield 118, 3) := by decide +kernel
theorem dX11_read_14 : decode cX11_read 14 = .ok (.iconst (-1), 1) := by decide +kernel
theorem dX11_read_15 : decode cX11_read 15 = .ok (.if_icmp .eq 14, 3) := by decide +kernel
theorem dX11_read_18 : decode cX11_read 18 = .ok (.bipush (-10), 2) := by decide +kernel
theorem dX11_read_20 : decode cX11_read 20 = .ok (.aload_n 0, 1) := by decide +kernel
theorem dX11_read_21 : decode cX11_read 21 = .ok (.getfield 37, 3) := by decide +kernel
theorem dX11_read_24 : decode cX11_read 24 = .ok (.getfield 118, 3) := by decide +kernel
theorem dX11_read_27 : decode cX11_read 27 = .ok (.isub, 1) := by decide +kernel
theorem dX11_read_28 : decode cX11_read 28 = .ok (.ireturn, 1) := by decide +kernel
theorem dX11_read_29 : decode cX11_read 29 = .ok (.aload_n 0, 1) := by decide +kernel
theorem dX11_read_30 : decode cX11_read 30 = .ok (.getfield 44, 3) := by decide +kernel
theorem dX11_read_33 : decode cX11_read 33 = .ok (.aload_n 0, 1) := by decide +kernel
theorem dX11_read_34 : decode cX11_read 34 = .ok (.getfield 37, 3) := by decide +kernel
theorem dX11_read_37 : decode cX11_read 37 = .ok (.getfield 121, 3) := by decide +kernel
theorem dX11_read_40 : decode cX11_read 40 = .ok (.invokevirtual 81, 3) := by decide +kernel
theorem dX11_read_43 : decode cX11_read 43 = .ok (.aload_n 0, 1) := by decide +kernel
theorem dX11_read_44 : decode cX11_read 44 = .ok (.getfield 37, 3) := by decide +kernel
theorem dX11_read_47 : decode cX11_read 47 = .ok (.getfield 122, 3) := by decide +kernel
theorem dX11_read_50 : decode cX11_read 50 = .ok (.iconst 0, 1) := by decide +kernel
theorem dX11_read_51 : decode cX11_read 51 = .ok (.aload_n 0, 1) := by decide +kernel
theorem dX11_read_52 : decode cX11_read 52 = .ok (.getfield 44, 3) := by decide +kernel
theorem dX11_read_55 : decode cX11_read 55 = .ok (.getfield 96, 3) := by decide +kernel
theorem dX11_read_58 : decode cX11_read 58 = .ok (.iconst 0, 1) := by decide +kernel
theorem dX11_read_59 : decode cX11_read 59 = .ok (.bipush 8, 2) := by decide +kernel
theorem dX11_read_61 : decode cX11_read 61 = .ok (.invokestatic 123, 3) := by decide +kernel
theorem dX11_read_64 : decode cX11_read 64 = .ok (.aload_n 0, 1) := by decide +kernel
theorem dX11_read_65 : decode cX11_read 65 = .ok (.getfield 37, 3) := by decide +kernel
theorem dX11_read_68 : decode cX11_read 68 = .ok (.getfield 129, 3) := by decide +kernel
theorem dX11_read_71 : decode cX11_read 71 = .ok (.ireturn, 1) := by decide +kernel
theorem dX11_of_0 : decode cX11_of 0 = .ok (.iload_n 1, 1) := by decide +kernel
theorem dX11_of_1 : decode cX11_of 1 = .ok (.invokestatic 92, 3) := by decide +kernel
theorem dX11_of_4 : decode cX11_of 4 = .ok (.ifCond .eq 12, 3) := by decide +kernel
theorem dX11_of_7 : decode cX11_of 7 = .ok (.iload_n 2, 1) := by decide +kernel
theorem dX11_of_8 : decode cX11_of 8 = .ok (.ifCond .lt 8, 3) := by decide +kernel
theorem dX11_of_11 : decode cX11_of 11 = .ok (.iload_n 2, 1) := by decide +kernel
theorem dX11_of_12 : decode cX11_of 12 = .ok (.iconst 4, 1) := by decide +kernel
theorem dX11_of_13 : decode cX11_of 13 = .ok (.if_icmp .le 8, 3) := by decide +kernel
theorem dX11_of_16 : decode cX11_of 16 = .ok (.aload_n 0, 1) := by decide +kernel
theorem dX11_of_17 : decode cX11_of 17 = .ok (.invokevirtual 74, 3) := by decide +kernel
theorem dX11_of_20 : decode cX11_of 20 = .ok (.ireturn, 1) := by decide +kernel
theorem dX11_of_21 : decode cX11_of 21 = .ok (.aload_n 0, 1) := by decide +kernel
theorem dX11_of_22 : decode cX11_of 22 = .ok (.getfield 44, 3) := by decide +kernel
theorem dX11_of_25 : decode cX11_of 25 = .ok (.getfield 96, 3) := by decide +kernel
theorem dX11_of_28 : decode cX11_of 28 = .ok (.iload_n 1, 1) := by decide +kernel
theorem dX11_of_29 : decode cX11_of 29 = .ok (.iaload, 1) := by decide +kernel
theorem dX11_of_30 : decode cX11_of 30 = .ok (.istore_n 3, 1) := by decide +kernel
theorem dX11_of_31 : decode cX11_of 31 = .ok (.iload_n 3, 1) := by decide +kernel
theorem dX11_of_32 : decode cX11_of 32 = .ok (.ifCond .ne 5, 3) := by decide +kernel
theorem dX11_of_35 : decode cX11_of 35 = .ok (.iconst 0, 1) := by decide +kernel
theorem dX11_of_36 : decode cX11_of 36 = .ok (.ireturn, 1) := by decide +kernel
theorem dX11_of_37 : decode cX11_of 37 = .ok (.iload_n 2, 1) := by decide +kernel
theorem dX11_of_38 : decode cX11_of 38 = .ok (.tableswitch 65 0 3 #[30, 32, 41, 53], 30) := by decide +kernel
theorem dX11_of_68 : decode cX11_of 68 = .ok (.iload_n 3, 1) := by decide +kernel
theorem dX11_of_69 : decode cX11_of 69 = .ok (.ireturn, 1) := by decide +kernel
theorem dX11_of_70 : decode cX11_of 70 = .ok (.aload_n 0, 1) := by decide +kernel
theorem dX11_of_71 : decode cX11_of 71 = .ok (.getfield 10, 3) := by decide +kernel
theorem dX11_of_74 : decode cX11_of 74 = .ok (.iload_n 3, 1) := by decide +kernel
theorem dX11_of_75 : decode cX11_of 75 = .ok (.invokevirtual 132, 3) := by decide +kernel
theorem dX11_of_78 : decode cX11_of 78 = .ok (.ireturn, 1) := by decide +kernel
theorem dX11_of_79 : decode cX11_of 79 = .ok (.aload_n 0, 1) := by decide +kernel
theorem dX11_of_80 : decode cX11_of 80 = .ok (.getfield 10, 3) := by decide +kernel
theorem dX11_of_83 : decode cX11_of 83 = .ok (.iload_n 3, 1) := by decide +kernel
theorem dX11_of_84 : decode cX11_of 84 = .ok (.invokevirtual 136, 3) := by decide +kernel
theorem dX11_of_87 : decode cX11_of 87 = .ok (.invokestatic 139, 3) := by decide +kernel
theorem dX11_of_90 : decode cX11_of 90 = .ok (.ireturn, 1) := by decide +kernel
theorem dX11_of_91 : decode cX11_of 91 = .ok (.aload_n 0, 1) := by decide +kernel
theorem dX11_of_92 : decode cX11_of 92 = .ok (.getfield 10, 3) := by decide +kernel
theorem dX11_of_95 : decode cX11_of 95 = .ok (.iload_n 3, 1) := by decide +kernel
theorem dX11_of_96 : decode cX11_of 96 = .ok (.invokevirtual 143, 3) := by decide +kernel
theorem dX11_of_99 : decode cX11_of 99 = .ok (.invokestatic 139, 3) := by decide +kernel
theorem dX11_of_102 : decode cX11_of 102 = .ok (.ireturn, 1) := by decide +kernel
theorem dX11_of_103 : decode cX11_of 103 = .ok (.aload_n 0, 1) := by decide +kernel
theorem dX11_of_104 : decode cX11_of 104 = .ok (.getfield 21, 3) := by decide +kernel
theorem dX11_of_107 : decode cX11_of 107 = .ok (.aload_n 0, 1) := by decide +kernel
theorem dX11_of_108 : decode cX11_of 108 = .ok (.getfield 44, 3) := by decide +kernel
theorem dX11_of_111 : decode cX11_of 111 = .ok (.getfield 85, 3) := by decide +kernel
theorem dX11_of_114 : decode cX11_of 114 = .ok (.aload_n 0, 1) := by decide +kernel
theorem dX11_of_115 : decode cX11_of 115 = .ok (.getfield 44, 3) := by decide +kernel
theorem dX11_of_118 : decode cX11_of 118 = .ok (.getfield 96, 3) := by decide +kernel
theorem dX11_of_121 : decode cX11_of 121 = .ok (.invokevirtual 146, 3) := by decide +kernel
theorem dX11_of_124 : decode cX11_of 124 = .ok (.invokestatic 150, 3) := by decide +kernel
theorem dX11_of_127 : decode cX11_of 127 = .ok (.iload_n 1, 1) := by decide +kernel
theorem dX11_of_128 : decode cX11_of 128 = .ok (.ishr, 1) := by decide +kernel
theorem dX11_of_129 : decode cX11_of 129 = .ok (.iconst 1, 1) := by decide +kernel
theorem dX11_of_130 : decode cX11_of 130 = .ok (.iand, 1) := by decide +kernel
theorem dX11_of_131 : decode cX11_of 131 = .ok (.ireturn, 1) := by decide +kernel
theorem dX11_may_0 : decode cX11_may 0 = .ok (.iload_n 1, 1) := by decide +kernel
theorem dX11_may_1 : decode cX11_may 1 = .ok (.invokestatic 153, 3) := by decide +kernel
theorem dX11_may_4 : decode cX11_may 4 = .ok (.ifCond .eq 10, 3) := by decide +kernel
theorem dX11_may_7 : decode cX11_may 7 = .ok (.iload_n 2, 1) := by decide +kernel
theorem dX11_may_8 : decode cX11_may 8 = .ok (.invokestatic 153, 3) := by decide +kernel
theorem dX11_may_11 : decode cX11_may 11 = .ok (.ifCond .ne 8, 3) := by decide +kernel
theorem dX11_may_14 : decode cX11_may 14 = .ok (.aload_n 0, 1) := by decide +kernel
theorem dX11_may_15 : decode cX11_may 15 = .ok (.invokevirtual 74, 3) := by decide +kernel
theorem dX11_may_18 : decode cX11_may 18 = .ok (.ireturn, 1) := by decide +kernel
theorem dX11_may_19 : decode cX11_may 19 = .ok (.aload_n 0, 1) := by decide +kernel
theorem dX11_may_20 : decode cX11_may 20 = .ok (.getfield 21, 3) := by decide +kernel
theorem dX11_may_23 : decode cX11_may 23 = .ok (.aload_n 0, 1) := by decide +kernel
theorem dX11_may_24 : decode cX11_may 24 = .ok (.getfield 44, 3) := by decide +kernel
theorem dX11_may_27 : decode cX11_may 27 = .ok (.getfield 85, 3) := by decide +kernel
theorem dX11_may_30 : decode cX11_may 30 = .ok (.iload_n 1, 1) := by decide +kernel
theorem dX11_may_31 : decode cX11_may 31 = .ok (.iload_n 2, 1) := by decide +kernel
theorem dX11_may_32 : decode cX11_may 32 = .ok (.invokevirtual 156, 3) := by decide +kernel
theorem dX11_may_35 : decode cX11_may 35 = .ok (.invokestatic 139, 3) := by decide +kernel
theorem dX11_may_38 : decode cX11_may 38 = .ok (.ireturn, 1) := by decide +kernel
theorem dX11_quarrels_0 : decode cX11_quarrels 0 = .ok (.iload_n 1, 1) := by decide +kernel
theorem dX11_quarrels_1 : decode cX11_quarrels 1 = .ok (.invokestatic 160, 3) := by decide +kernel
theorem dX11_quarrels_4 : decode cX11_quarrels 4 = .ok (.ifCond .ne 8, 3) := by decide +kernel
theorem dX11_quarrels_7 : decode cX11_quarrels 7 = .ok (.aload_n 0, 1) := by decide +kernel
theorem dX11_quarrels_8 : decode cX11_quarrels 8 = .ok (.invokevirtual 74, 3) := by decide +kernel
theorem dX11_quarrels_11 : decode cX11_quarrels 11 = .ok (.ireturn, 1) := by decide +kernel
theorem dX11_quarrels_12 : decode cX11_quarrels 12 = .ok (.aload_n 0, 1) := by decide +kernel
theorem dX11_quarrels_13 : decode cX11_quarrels 13 = .ok (.getfield 21, 3) := by decide +kernel
theorem dX11_quarrels_16 : decode cX11_quarrels 16 = .ok (.aload_n 0, 1) := by decide +kernel
theorem dX11_quarrels_17 : decode cX11_quarrels 17 = .ok (.getfield 44, 3) := by decide +kernel
theorem dX11_quarrels_20 : decode cX11_quarrels 20 = .ok (.getfield 85, 3) := by decide +kernel
theorem dX11_quarrels_23 : decode cX11_quarrels 23 = .ok (.aload_n 0, 1) := by decide +kernel
theorem dX11_quarrels_24 : decode cX11_quarrels 24 = .ok (.getfield 44, 3) := by decide +kernel
theorem dX11_quarrels_27 : decode cX11_quarrels 27 = .ok (.getfield 96, 3) := by decide +kernel
theorem dX11_quarrels_30 : decode cX11_quarrels 30 = .ok (.invokevirtual 146, 3) := by decide +kernel
theorem dX11_quarrels_33 : decode cX11_quarrels 33 = .ok (.istore_n 2, 1) := by decide +kernel
theorem dX11_quarrels_34 : decode cX11_quarrels 34 = .ok (.iload_n 1, 1) := by decide +kernel
theorem dX11_quarrels_35 : decode cX11_quarrels 35 = .ok (.ifCond .ne 10, 3) := by decide +kernel
theorem dX11_quarrels_38 : decode cX11_quarrels 38 = .ok (.iload_n 2, 1) := by decide +kernel
theorem dX11_quarrels_39 : decode cX11_quarrels 39 = .ok (.invokestatic 150, 3) := by decide +kernel
theorem dX11_quarrels_42 : decode cX11_quarrels 42 = .ok (.goto 7, 3) := by decide +kernel
theorem dX11_quarrels_45 : decode cX11_quarrels 45 = .ok (.iload_n 2, 1) := by decide +kernel
theorem dX11_quarrels_46 : decode cX11_quarrels 46 = .ok (.invokestatic 163, 3) := by decide +kernel
theorem dX11_quarrels_49 : decode cX11_quarrels 49 = .ok (.ireturn, 1) := by decide +kernel
theorem dX11_away_0 : decode cX11_away 0 = .ok (.aload_n 0, 1) := by decide +kernel
theorem dX11_away_1 : decode cX11_away 1 = .ok (.getfield 21, 3) := by decide +kernel
theorem dX11_away_4 : decode cX11_away 4 = .ok (.aload_n 0, 1) := by decide +kernel
theorem dX11_away_5 : decode cX11_away 5 = .ok (.getfield 44, 3) := by decide +kernel
theorem dX11_away_8 : decode cX11_away 8 = .ok (.getfield 85, 3) := by decide +kernel
theorem dX11_away_11 : decode cX11_away 11 = .ok (.aload_n 0, 1) := by decide +kernel
theorem dX11_away_12 : decode cX11_away 12 = .ok (.getfield 44, 3) := by decide +kernel
theorem dX11_away_15 : decode cX11_away 15 = .ok (.getfield 96, 3) := by decide +kernel
theorem dX11_away_18 : decode cX11_away 18 = .ok (.invokevirtual 146, 3) := by decide +kernel
theorem dX11_away_21 : decode cX11_away 21 = .ok (.invokestatic 168, 3) := by decide +kernel
theorem dX11_away_24 : decode cX11_away 24 = .ok (.ireturn, 1) := by decide +kernel
theorem dX11_orders_0 : decode cX11_orders 0 = .ok (.iload_n 1, 1) := by decide +kernel
theorem dX11_orders_1 : decode cX11_orders 1 = .ok (.iconst (-1), 1) := by decide +kernel
theorem dX11_orders_2 : decode cX11_orders 2 = .ok (.if_icmp .eq 15, 3) := by decide +kernel
theorem dX11_orders_5 : decode cX11_orders 5 = .ok (.iload_n 1, 1) := by decide +kernel
theorem dX11_orders_6 : decode cX11_orders 6 = .ok (.invokestatic 92, 3) := by decide +kernel
theorem dX11_orders_9 : decode cX11_orders 9 = .ok (.ifCond .ne 8, 3) := by decide +kernel
theorem dX11_orders_12 : decode cX11_orders 12 = .ok (.aload_n 0, 1) := by decide +kernel
theorem dX11_orders_13 : decode cX11_orders 13 = .ok (.invokevirtual 171, 3) := by decide +kernel
theorem dX11_orders_16 : decode cX11_orders 16 = .ok (.ireturn, 1) := by decide +kernel
theorem dX11_orders_17 : decode cX11_orders 17 = .ok (.aload_n 0, 1) := by decide +kernel
theorem dX11_orders_18 : decode cX11_orders 18 = .ok (.getfield 30, 3) := by decide +kernel
theorem dX11_orders_21 : decode cX11_orders 21 = .ok (.aload_n 0, 1) := by decide +kernel
theorem dX11_orders_22 : decode cX11_orders 22 = .ok (.getfield 44, 3) := by decide +kernel
theorem dX11_orders_25 : decode cX11_orders 25 = .ok (.getfield 85, 3) := by decide +kernel
theorem dX11_orders_28 : decode cX11_orders 28 = .ok (.aload_n 0, 1) := by decide +kernel
theorem dX11_orders_29 : decode cX11_orders 29 = .ok (.getfield 44, 3) := by decide +kernel
theorem dX11_orders_32 : decode cX11_orders 32 = .ok (.getfield 96, 3) := by decide +kernel
theorem dX11_orders_35 : decode cX11_orders 35 = .ok (.invokevirtual 174, 3) := by decide +kernel
theorem dX11_orders_38 : decode cX11_orders 38 = .ok (.aload_n 0, 1) := by decide +kernel
theorem dX11_orders_39 : decode cX11_orders 39 = .ok (.getfield 30, 3) := by decide +kernel
theorem dX11_orders_42 : decode cX11_orders 42 = .ok (.invokevirtual 178, 3) := by decide +kernel
theorem dX11_orders_45 : decode cX11_orders 45 = .ok (.istore_n 2, 1) := by decide +kernel
theorem dX11_orders_46 : decode cX11_orders 46 = .ok (.iload_n 1, 1) := by decide +kernel
theorem dX11_orders_47 : decode cX11_orders 47 = .ok (.iconst (-1), 1) := by decide +kernel
theorem dX11_orders_48 : decode cX11_orders 48 = .ok (.if_icmp .ne 5, 3) := by decide +kernel
theorem dX11_orders_51 : decode cX11_orders 51 = .ok (.iload_n 2, 1) := by decide +kernel
theorem dX11_orders_52 : decode cX11_orders 52 = .ok (.ireturn, 1) := by decide +kernel
theorem dX11_orders_53 : decode cX11_orders 53 = .ok (.iload_n 2, 1) := by decide +kernel
theorem dX11_orders_54 : decode cX11_orders 54 = .ok (.ifCond .ne 7, 3) := by decide +kernel
theorem dX11_orders_57 : decode cX11_orders 57 = .ok (.iconst (-1), 1) := by decide +kernel
theorem dX11_orders_58 : decode cX11_orders 58 = .ok (.goto 11, 3) := by decide +kernel
theorem dX11_orders_61 : decode cX11_orders 61 = .ok (.aload_n 0, 1) := by decide +kernel
theorem dX11_orders_62 : decode cX11_orders 62 = .ok (.getfield 30, 3) := by decide +kernel
theorem dX11_orders_65 : decode cX11_orders 65 = .ok (.iload_n 1, 1) := by decide +kernel
theorem dX11_orders_66 : decode cX11_orders 66 = .ok (.invokevirtual 181, 3) := by decide +kernel
theorem dX11_orders_69 : decode cX11_orders 69 = .ok (.ireturn, 1) := by decide +kernel
theorem dX11_moved_0 : decode cX11_moved 0 = .ok (.aload_n 0, 1) := by decide +kernel
theorem dX11_moved_1 : decode cX11_moved 1 = .ok (.getfield 30, 3) := by decide +kernel
theorem dX11_moved_4 : decode cX11_moved 4 = .ok (.aload_n 0, 1) := by decide +kernel
theorem dX11_moved_5 : decode cX11_moved 5 = .ok (.getfield 44, 3) := by decide +kernel
theorem dX11_moved_8 : decode cX11_moved 8 = .ok (.getfield 85, 3) := by decide +kernel
theorem dX11_moved_11 : decode cX11_moved 11 = .ok (.aload_n 0, 1) := by decide +kernel
theorem dX11_moved_12 : decode cX11_moved 12 = .ok (.getfield 44, 3) := by decide +kernel
theorem dX11_moved_15 : decode cX11_moved 15 = .ok (.getfield 96, 3) := by decide +kernel
theorem dX11_moved_18 : decode cX11_moved 18 = .ok (.invokevirtual 174, 3) := by decide +kernel
theorem dX11_moved_21 : decode cX11_moved 21 = .ok (.aload_n 0, 1) := by decide +kernel
theorem dX11_moved_22 : decode cX11_moved 22 = .ok (.getfield 30, 3) := by decide +kernel
theorem dX11_moved_25 : decode cX11_moved 25 = .ok (.invokevirtual 184, 3) := by decide +kernel
theorem dX11_moved_28 : decode cX11_moved 28 = .ok (.ireturn, 1) := by decide +kernel
theorem dX11_longest_0 : decode cX11_longest 0 = .ok (.aload_n 0, 1) := by decide +kernel
theorem dX11_longest_1 : decode cX11_longest 1 = .ok (.getfield 30, 3) := by decide +kernel
theorem dX11_longest_4 : decode cX11_longest 4 = .ok (.aload_n 0, 1) := by decide +kernel
theorem dX11_longest_5 : decode cX11_longest 5 = .ok (.getfield 44, 3) := by decide +kernel
theorem dX11_longest_8 : decode cX11_longest 8 = .ok (.getfield 96, 3) := by decide +kernel
theorem dX11_longest_11 : decode cX11_longest 11 = .ok (.invokevirtual 187, 3) := by decide +kernel
theorem dX11_longest_14 : decode cX11_longest 14 = .ok (.aload_n 0, 1) := by decide +kernel
theorem dX11_longest_15 : decode cX11_longest 15 = .ok (.getfield 30, 3) := by decide +kernel
theorem dX11_longest_18 : decode cX11_longest 18 = .ok (.invokevirtual 191, 3) := by decide +kernel
theorem dX11_longest_21 : decode cX11_longest 21 = .ok (.ireturn, 1) := by decide +kernel
theorem dX11_greatest_0 : decode cX11_greatest 0 = .ok (.iload_n 1, 1) := by decide +kernel
theorem dX11_greatest_1 : decode cX11_greatest 1 = .ok (.invokestatic 160, 3) := by decide +kernel
theorem dX11_greatest_4 : decode cX11_greatest 4 = .ok (.ifCond .ne 8, 3) := by decide +kernel
theorem dX11_greatest_7 : decode cX11_greatest 7 = .ok (.aload_n 0, 1) := by decide +kernel
theorem dX11_greatest_8 : decode cX11_greatest 8 = .ok (.invokevirtual 74, 3) := by decide +kernel
theorem dX11_greatest_11 : decode cX11_greatest 11 = .ok (.ireturn, 1) := by decide +kernel
theorem dX11_greatest_12 : decode cX11_greatest 12 = .ok (.aload_n 0, 1) := by decide +kernel
theorem dX11_greatest_13 : decode cX11_greatest 13 = .ok (.getfield 30, 3) := by decide +kernel
theorem dX11_greatest_16 : decode cX11_greatest 16 = .ok (.aload_n 0, 1) := by decide +kernel
theorem dX11_greatest_17 : decode cX11_greatest 17 = .ok (.getfield 44, 3) := by decide +kernel
theorem dX11_greatest_20 : decode cX11_greatest 20 = .ok (.getfield 96, 3) := by decide +kernel
theorem dX11_greatest_23 : decode cX11_greatest 23 = .ok (.invokevirtual 187, 3) := by decide +kernel
theorem dX11_greatest_26 : decode cX11_greatest 26 = .ok (.aload_n 0, 1) := by decide +kernel
theorem dX11_greatest_27 : decode cX11_greatest 27 = .ok (.getfield 30, 3) := by decide +kernel
theorem dX11_greatest_30 : decode cX11_greatest 30 = .ok (.invokevirtual 194, 3) := by decide +kernel
theorem dX11_greatest_33 : decode cX11_greatest 33 = .ok (.istore_n 2, 1) := by decide +kernel
theorem dX11_greatest_34 : decode cX11_greatest 34 = .ok (.iload_n 1, 1) := by decide +kernel
theorem dX11_greatest_35 : decode cX11_greatest 35 = .ok (.ifCond .ne 10, 3) := by decide +kernel
theorem dX11_greatest_38 : decode cX11_greatest 38 = .ok (.iload_n 2, 1) := by decide +kernel
theorem dX11_greatest_39 : decode cX11_greatest 39 = .ok (.invokestatic 163, 3) := by decide +kernel
theorem dX11_greatest_42 : decode cX11_greatest 42 = .ok (.goto 4, 3) := by decide +kernel
theorem dX11_greatest_45 : decode cX11_greatest 45 = .ok (.iload_n 2, 1) := by decide +kernel
theorem dX11_greatest_46 : decode cX11_greatest 46 = .ok (.ireturn, 1) := by decide +kernel
theorem dX11_chain_0 : decode cX11_chain 0 = .ok (.iload_n 1, 1) := by decide +kernel
theorem dX11_chain_1 : decode cX11_chain 1 = .ok (.invokestatic 153, 3) := by decide +kernel
theorem dX11_chain_4 : decode cX11_chain 4 = .ok (.ifCond .eq 12, 3) := by decide +kernel
theorem dX11_chain_7 : decode cX11_chain 7 = .ok (.iload_n 2, 1) := by decide +kernel
theorem dX11_chain_8 : decode cX11_chain 8 = .ok (.ifCond .lt 8, 3) := by decide +kernel
theorem dX11_chain_11 : decode cX11_chain 11 = .ok (.iload_n 2, 1) := by decide +kernel
theorem dX11_chain_12 : decode cX11_chain 12 = .ok (.iconst 2, 1) := by decide +kernel
theorem dX11_chain_13 : decode cX11_chain 13 = .ok (.if_icmp .le 8, 3) := by decide +kernel
theorem dX11_chain_16 : decode cX11_chain 16 = .ok (.aload_n 0, 1) := by decide +kernel
theorem dX11_chain_17 : decode cX11_chain 17 = .ok (.invokevirtual 74, 3) := by decide +kernel
theorem dX11_chain_20 : decode cX11_chain 20 = .ok (.ireturn, 1) := by decide +kernel
theorem dX11_chain_21 : decode cX11_chain 21 = .ok (.iload_n 2, 1) := by decide +kernel
theorem dX11_chain_22 : decode cX11_chain 22 = .ok (.iconst 2, 1) := by decide +kernel
theorem dX11_chain_23 : decode cX11_chain 23 = .ok (.if_icmp .ne 24, 3) := by decide +kernel
theorem dX11_chain_26 : decode cX11_chain 26 = .ok (.aload_n 0, 1) := by decide +kernel
theorem dX11_chain_27 : decode cX11_chain 27 = .ok (.getfield 10, 3) := by decide +kernel
theorem dX11_chain_30 : decode cX11_chain 30 = .ok (.iload_n 1, 1) := by decide +kernel
theorem dX11_chain_31 : decode cX11_chain 31 = .ok (.invokevirtual 132, 3) := by decide +kernel
theorem dX11_chain_34 : decode cX11_chain 34 = .ok (.iload_n 1, 1) := by decide +kernel
theorem dX11_chain_35 : decode cX11_chain 35 = .ok (.if_icmp .ne 7, 3) := by decide +kernel
theorem dX11_chain_38 : decode cX11_chain 38 = .ok (.iconst 1, 1) := by decide +kernel
theorem dX11_chain_39 : decode cX11_chain 39 = .ok (.goto 4, 3) := by decide +kernel
theorem dX11_chain_42 : decode cX11_chain 42 = .ok (.iconst 0, 1) := by decide +kernel
theorem dX11_chain_43 : decode cX11_chain 43 = .ok (.invokestatic 139, 3) := by decide +kernel
theorem dX11_chain_46 : decode cX11_chain 46 = .ok (.ireturn, 1) := by decide +kernel
theorem dX11_chain_47 : decode cX11_chain 47 = .ok (.aload_n 0, 1) := by decide +kernel
theorem dX11_chain_48 : decode cX11_chain 48 = .ok (.iload_n 1, 1) := by decide +kernel
theorem dX11_chain_49 : decode cX11_chain 49 = .ok (.invokevirtual 197, 3) := by decide +kernel
theorem dX11_chain_52 : decode cX11_chain 52 = .ok (.istore_n 3, 1) := by decide +kernel
theorem dX11_chain_53 : decode cX11_chain 53 = .ok (.iload_n 2, 1) := by decide +kernel
theorem dX11_chain_54 : decode cX11_chain 54 = .ok (.ifCond .ne 12, 3) := by decide +kernel
theorem dX11_chain_57 : decode cX11_chain 57 = .ok (.aload_n 0, 1) := by decide +kernel
theorem dX11_chain_58 : decode cX11_chain 58 = .ok (.getfield 200, 3) := by decide +kernel
theorem dX11_chain_61 : decode cX11_chain 61 = .ok (.iconst 1, 1) := by decide +kernel
theorem dX11_chain_62 : decode cX11_chain 62 = .ok (.isub, 1) := by decide +kernel
theorem dX11_chain_63 : decode cX11_chain 63 = .ok (.goto 4, 3) := by decide +kernel
theorem dX11_chain_66 : decode cX11_chain 66 = .ok (.iload_n 3, 1) := by decide +kernel
theorem dX11_chain_67 : decode cX11_chain 67 = .ok (.ireturn, 1) := by decide +kernel
theorem dX11_meet_0 : decode cX11_meet 0 = .ok (.iconst 0, 1) := by decide +kernel
theorem dX11_meet_1 : decode cX11_meet 1 = .ok (.istore_n 1, 1) := by decide +kernel
theorem dX11_meet_2 : decode cX11_meet 2 = .ok (.iconst 1, 1) := by decide +kernel
theorem dX11_meet_3 : decode cX11_meet 3 = .ok (.istore_n 2, 1) := by decide +kernel
theorem dX11_meet_4 : decode cX11_meet 4 = .ok (.iconst 0, 1) := by decide +kernel
theorem dX11_meet_5 : decode cX11_meet 5 = .ok (.istore_n 3, 1) := by decide +kernel
theorem dX11_meet_6 : decode cX11_meet 6 = .ok (.iload_n 3, 1) := by decide +kernel
theorem dX11_meet_7 : decode cX11_meet 7 = .ok (.bipush 8, 2) := by decide +kernel
theorem dX11_meet_9 : decode cX11_meet 9 = .ok (.if_icmp .ge 41, 3) := by decide +kernel
theorem dX11_meet_12 : decode cX11_meet 12 = .ok (.aload_n 0, 1) := by decide +kernel
theorem dX11_meet_13 : decode cX11_meet 13 = .ok (.getfield 44, 3) := by decide +kernel
theorem dX11_meet_16 : decode cX11_meet 16 = .ok (.getfield 96, 3) := by decide +kernel
theorem dX11_meet_19 : decode cX11_meet 19 = .ok (.iload_n 3, 1) := by decide +kernel
theorem dX11_meet_20 : decode cX11_meet 20 = .ok (.iaload, 1) := by decide +kernel
theorem dX11_meet_21 : decode cX11_meet 21 = .ok (.istore 4, 2) := by decide +kernel
theorem dX11_meet_23 : decode cX11_meet 23 = .ok (.iload 4, 2) := by decide +kernel
theorem dX11_meet_25 : decode cX11_meet 25 = .ok (.ifCond .le 19, 3) := by decide +kernel
theorem dX11_meet_28 : decode cX11_meet 28 = .ok (.iload_n 1, 1) := by decide +kernel
theorem dX11_meet_29 : decode cX11_meet 29 = .ok (.iload_n 2, 1) := by decide +kernel
theorem dX11_meet_30 : decode cX11_meet 30 = .ok (.iload_n 3, 1) := by decide +kernel
theorem dX11_meet_31 : decode cX11_meet 31 = .ok (.iload 4, 2) := by decide +kernel
theorem dX11_meet_33 : decode cX11_meet 33 = .ok (.invokestatic 203, 3) := by decide +kernel
theorem dX11_meet_36 : decode cX11_meet 36 = .ok (.istore_n 1, 1) := by decide +kernel
theorem dX11_meet_37 : decode cX11_meet 37 = .ok (.iload_n 2, 1) := by decide +kernel
theorem dX11_meet_38 : decode cX11_meet 38 = .ok (.iload 4, 2) := by decide +kernel
theorem dX11_meet_40 : decode cX11_meet 40 = .ok (.invokestatic 207, 3) := by decide +kernel
theorem dX11_meet_43 : decode cX11_meet 43 = .ok (.istore_n 2, 1) := by decide +kernel
theorem dX11_meet_44 : decode cX11_meet 44 = .ok (.iinc 3 1, 3) := by decide +kernel
theorem dX11_meet_47 : decode cX11_meet 47 = .ok (.goto (-41), 3) := by decide +kernel
theorem dX11_meet_50 : decode cX11_meet 50 = .ok (.iload_n 1, 1) := by decide +kernel
theorem dX11_meet_51 : decode cX11_meet 51 = .ok (.ldc 211, 2) := by decide +kernel
theorem dX11_meet_53 : decode cX11_meet 53 = .ok (.if_icmp .le 7, 3) := by decide +kernel
theorem dX11_meet_56 : decode cX11_meet 56 = .ok (.iconst (-1), 1) := by decide +kernel
theorem dX11_meet_57 : decode cX11_meet 57 = .ok (.goto 4, 3) := by decide +kernel
theorem dX11_meet_60 : decode cX11_meet 60 = .ok (.iload_n 1, 1) := by decide +kernel
theorem dX11_meet_61 : decode cX11_meet 61 = .ok (.ireturn, 1) := by decide +kernel
theorem dX11_next_0 : decode cX11_next 0 = .ok (.iload_n 1, 1) := by decide +kernel
theorem dX11_next_1 : decode cX11_next 1 = .ok (.ifCond .lt 9, 3) := by decide +kernel
theorem dX11_next_4 : decode cX11_next 4 = .ok (.iload_n 1, 1) := by decide +kernel
theorem dX11_next_5 : decode cX11_next 5 = .ok (.ldc 211, 2) := by decide +kernel
theorem dX11_next_7 : decode cX11_next 7 = .ok (.if_icmp .le 8, 3) := by decide +kernel
theorem dX11_next_10 : decode cX11_next 10 = .ok (.aload_n 0, 1) := by decide +kernel
theorem dX11_next_11 : decode cX11_next 11 = .ok (.invokevirtual 74, 3) := by decide +kernel
theorem dX11_next_14 : decode cX11_next 14 = .ok (.ireturn, 1) := by decide +kernel
theorem dX11_next_15 : decode cX11_next 15 = .ok (.iconst (-1), 1) := by decide +kernel
theorem dX11_next_16 : decode cX11_next 16 = .ok (.istore_n 2, 1) := by decide +kernel
theorem dX11_next_17 : decode cX11_next 17 = .ok (.iconst 0, 1) := by decide +kernel
theorem dX11_next_18 : decode cX11_next 18 = .ok (.istore_n 3, 1) := by decide +kernel
theorem dX11_next_19 : decode cX11_next 19 = .ok (.iload_n 3, 1) := by decide +kernel
theorem dX11_next_20 : decode cX11_next 20 = .ok (.bipush 8, 2) := by decide +kernel
theorem dX11_next_22 : decode cX11_next 22 = .ok (.if_icmp .ge 51, 3) := by decide +kernel
theorem dX11_next_25 : decode cX11_next 25 = .ok (.aload_n 0, 1) := by decide +kernel
theorem dX11_next_26 : decode cX11_next 26 = .ok (.getfield 44, 3) := by decide +kernel
theorem dX11_next_29 : decode cX11_next 29 = .ok (.getfield 96, 3) := by decide +kernel
theorem dX11_next_32 : decode cX11_next 32 = .ok (.iload_n 3, 1) := by decide +kernel
theorem dX11_next_33 : decode cX11_next 33 = .ok (.iaload, 1) := by decide +kernel
theorem dX11_next_34 : decode cX11_next 34 = .ok (.istore 4, 2) := by decide +kernel
theorem dX11_next_36 : decode cX11_next 36 = .ok (.iload 4, 2) := by decide +kernel
theorem dX11_next_38 : decode cX11_next 38 = .ok (.ifCond .le 29, 3) := by decide +kernel
theorem dX11_next_41 : decode cX11_next 41 = .ok (.iload_n 1, 1) := by decide +kernel
theorem dX11_next_42 : decode cX11_next 42 = .ok (.iload_n 3, 1) := by decide +kernel
theorem dX11_next_43 : decode cX11_next 43 = .ok (.iload 4, 2) := by decide +kernel
theorem dX11_next_45 : decode cX11_next 45 = .ok (.invokestatic 212, 3) := by decide +kernel
theorem dX11_next_48 : decode cX11_next 48 = .ok (.istore 5, 2) := by decide +kernel
theorem dX11_next_50 : decode cX11_next 50 = .ok (.iload_n 2, 1) := by decide +kernel
theorem dX11_next_51 : decode cX11_next 51 = .ok (.iconst (-1), 1) := by decide +kernel
theorem dX11_next_52 : decode cX11_next 52 = .ok (.if_icmp .ne 8, 3) := by decide +kernel
theorem dX11_next_55 : decode cX11_next 55 = .ok (.iload 5, 2) := by decide +kernel
theorem dX11_next_57 : decode cX11_next 57 = .ok (.goto 9, 3) := by decide +kernel
theorem dX11_next_60 : decode cX11_next 60 = .ok (.iload_n 2, 1) := by decide +kernel
theorem dX11_next_61 : decode cX11_next 61 = .ok (.iload 5, 2) := by decide +kernel
theorem dX11_next_63 : decode cX11_next 63 = .ok (.invokestatic 216, 3) := by decide +kernel
theorem dX11_next_66 : decode cX11_next 66 = .ok (.istore_n 2, 1) := by decide +kernel
theorem dX11_next_67 : decode cX11_next 67 = .ok (.iinc 3 1, 3) := by decide +kernel
theorem dX11_next_70 : decode cX11_next 70 = .ok (.goto (-51), 3) := by decide +kernel
theorem dX11_next_73 : decode cX11_next 73 = .ok (.iload_n 2, 1) := by decide +kernel
theorem dX11_next_74 : decode cX11_next 74 = .ok (.ireturn, 1) := by decide +kernel
theorem dX11_reading_0 : decode cX11_reading 0 = .ok (.iload_n 1, 1) := by decide +kernel
theorem dX11_reading_1 : decode cX11_reading 1 = .ok (.invokestatic 153, 3) := by decide +kernel
theorem dX11_reading_4 : decode cX11_reading 4 = .ok (.ifCond .eq 10, 3) := by decide +kernel
theorem dX11_reading_7 : decode cX11_reading 7 = .ok (.iload_n 2, 1) := by decide +kernel
theorem dX11_reading_8 : decode cX11_reading 8 = .ok (.invokestatic 160, 3) := by decide +kernel
theorem dX11_reading_11 : decode cX11_reading 11 = .ok (.ifCond .ne 8, 3) := by decide +kernel
theorem dX11_reading_14 : decode cX11_reading 14 = .ok (.aload_n 0, 1) := by decide +kernel
theorem dX11_reading_15 : decode cX11_reading 15 = .ok (.invokevirtual 74, 3) := by decide +kernel
theorem dX11_reading_18 : decode cX11_reading 18 = .ok (.ireturn, 1) := by decide +kernel
theorem dX11_reading_19 : decode cX11_reading 19 = .ok (.aload_n 0, 1) := by decide +kernel
theorem dX11_reading_20 : decode cX11_reading 20 = .ok (.getfield 44, 3) := by decide +kernel
theorem dX11_reading_23 : decode cX11_reading 23 = .ok (.getfield 221, 3) := by decide +kernel
theorem dX11_reading_26 : decode cX11_reading 26 = .ok (.bipush 8, 2) := by decide +kernel
theorem dX11_reading_28 : decode cX11_reading 28 = .ok (.if_icmp .lt 8, 3) := by decide +kernel
theorem dX11_reading_31 : decode cX11_reading 31 = .ok (.aload_n 0, 1) := by decide +kernel
theorem dX11_reading_32 : decode cX11_reading 32 = .ok (.invokevirtual 109, 3) := by decide +kernel
theorem dX11_reading_35 : decode cX11_reading 35 = .ok (.ireturn, 1) := by decide +kernel
theorem dX11_reading_36 : decode cX11_reading 36 = .ok (.aload_n 0, 1) := by decide +kernel
theorem dX11_reading_37 : decode cX11_reading 37 = .ok (.getfield 44, 3) := by decide +kernel
theorem dX11_reading_40 : decode cX11_reading 40 = .ok (.iload_n 1, 1) := by decide +kernel
theorem dX11_reading_41 : decode cX11_reading 41 = .ok (.iload_n 2, 1) := by decide +kernel
theorem dX11_reading_42 : decode cX11_reading 42 = .ok (.invokevirtual 224, 3) := by decide +kernel
theorem dX11_reading_45 : decode cX11_reading 45 = .ok (.aload_n 0, 1) := by decide +kernel
theorem dX11_reading_46 : decode cX11_reading 46 = .ok (.getfield 44, 3) := by decide +kernel
theorem dX11_reading_49 : decode cX11_reading 49 = .ok (.getfield 221, 3) := by decide +kernel
theorem dX11_reading_52 : decode cX11_reading 52 = .ok (.ireturn, 1) := by decide +kernel
theorem dX11_who_0 : decode cX11_who 0 = .ok (.iload_n 1, 1) := by decide +kernel
theorem dX11_who_1 : decode cX11_who 1 = .ok (.invokestatic 160, 3) := by decide +kernel
theorem dX11_who_4 : decode cX11_who 4 = .ok (.ifCond .ne 8, 3) := by decide +kernel
theorem dX11_who_7 : decode cX11_who 7 = .ok (.aload_n 0, 1) := by decide +kernel
theorem dX11_who_8 : decode cX11_who 8 = .ok (.invokevirtual 171, 3) := by decide +kernel
theorem dX11_who_11 : decode cX11_who 11 = .ok (.ireturn, 1) := by decide +kernel
theorem dX11_who_12 : decode cX11_who 12 = .ok (.aload_n 0, 1) := by decide +kernel
theorem dX11_who_13 : decode cX11_who 13 = .ok (.invokevirtual 228, 3) := by decide +kernel
theorem dX11_who_16 : decode cX11_who 16 = .ok (.istore_n 2, 1) := by decide +kernel
theorem dX11_who_17 : decode cX11_who 17 = .ok (.iload_n 1, 1) := by decide +kernel
theorem dX11_who_18 : decode cX11_who 18 = .ok (.ifCond .ne 5, 3) := by decide +kernel
theorem dX11_who_21 : decode cX11_who 21 = .ok (.iload_n 2, 1) := by decide +kernel
theorem dX11_who_22 : decode cX11_who 22 = .ok (.ireturn, 1) := by decide +kernel
theorem dX11_who_23 : decode cX11_who 23 = .ok (.iload_n 2, 1) := by decide +kernel
theorem dX11_who_24 : decode cX11_who 24 = .ok (.ifCond .ne 7, 3) := by decide +kernel
theorem dX11_who_27 : decode cX11_who 27 = .ok (.iconst (-1), 1) := by decide +kernel
theorem dX11_who_28 : decode cX11_who 28 = .ok (.goto 9, 3) := by decide +kernel
theorem dX11_who_31 : decode cX11_who 31 = .ok (.aload_n 0, 1) := by decide +kernel
theorem dX11_who_32 : decode cX11_who 32 = .ok (.getfield 60, 3) := by decide +kernel
theorem dX11_who_35 : decode cX11_who 35 = .ok (.iconst 0, 1) := by decide +kernel
theorem dX11_who_36 : decode cX11_who 36 = .ok (.iaload, 1) := by decide +kernel
theorem dX11_who_37 : decode cX11_who 37 = .ok (.ireturn, 1) := by decide +kernel
theorem dX11_tryNext_0 : decode cX11_tryNext 0 = .ok (.aload_n 0, 1) := by decide +kernel
theorem dX11_tryNext_1 : decode cX11_tryNext 1 = .ok (.invokevirtual 228, 3) := by decide +kernel
theorem dX11_tryNext_4 : decode cX11_tryNext 4 = .ok (.istore_n 1, 1) := by decide +kernel
theorem dX11_tryNext_5 : decode cX11_tryNext 5 = .ok (.iconst (-1), 1) := by decide +kernel
theorem dX11_tryNext_6 : decode cX11_tryNext 6 = .ok (.istore_n 2, 1) := by decide +kernel
theorem dX11_tryNext_7 : decode cX11_tryNext 7 = .ok (.sipush 301, 3) := by decide +kernel
theorem dX11_tryNext_10 : decode cX11_tryNext 10 = .ok (.istore_n 3, 1) := by decide +kernel
theorem dX11_tryNext_11 : decode cX11_tryNext 11 = .ok (.iconst 1, 1) := by decide +kernel
theorem dX11_tryNext_12 : decode cX11_tryNext 12 = .ok (.istore 4, 2) := by decide +kernel
theorem dX11_tryNext_14 : decode cX11_tryNext 14 = .ok (.iload 4, 2) := by decide +kernel
theorem dX11_tryNext_16 : decode cX11_tryNext 16 = .ok (.sipush 300, 3) := by decide +kernel
theorem dX11_tryNext_19 : decode cX11_tryNext 19 = .ok (.if_icmp .gt 35, 3) := by decide +kernel
theorem dX11_tryNext_22 : decode cX11_tryNext 22 = .ok (.iload_n 1, 1) := by decide +kernel
theorem dX11_tryNext_23 : decode cX11_tryNext 23 = .ok (.ifCond .le 31, 3) := by decide +kernel
theorem dX11_tryNext_26 : decode cX11_tryNext 26 = .ok (.aload_n 0, 1) := by decide +kernel
theorem dX11_tryNext_27 : decode cX11_tryNext 27 = .ok (.iload 4, 2) := by decide +kernel
theorem dX11_tryNext_29 : decode cX11_tryNext 29 = .ok (.iload_n 1, 1) := by decide +kernel
theorem dX11_tryNext_30 : decode cX11_tryNext 30 = .ok (.iload_n 3, 1) := by decide +kernel
theorem dX11_tryNext_31 : decode cX11_tryNext 31 = .ok (.invokevirtual 231, 3) := by decide +kernel
theorem dX11_tryNext_34 : decode cX11_tryNext 34 = .ok (.istore 5, 2) := by decide +kernel
theorem dX11_tryNext_36 : decode cX11_tryNext 36 = .ok (.iload 5, 2) := by decide +kernel
theorem dX11_tryNext_38 : decode cX11_tryNext 38 = .ok (.iload_n 3, 1) := by decide +kernel
theorem dX11_tryNext_39 : decode cX11_tryNext 39 = .ok (.if_icmp .ge 9, 3) := by decide +kernel
theorem dX11_tryNext_42 : decode cX11_tryNext 42 = .ok (.iload 5, 2) := by decide +kernel
theorem dX11_tryNext_44 : decode cX11_tryNext 44 = .ok (.istore_n 3, 1) := by decide +kernel
theorem dX11_tryNext_45 : decode cX11_tryNext 45 = .ok (.iload 4, 2) := by decide +kernel
theorem dX11_tryNext_47 : decode cX11_tryNext 47 = .ok (.istore_n 2, 1) := by decide +kernel
theorem dX11_tryNext_48 : decode cX11_tryNext 48 = .ok (.iinc 4 1, 3) := by decide +kernel
theorem dX11_tryNext_51 : decode cX11_tryNext 51 = .ok (.goto (-37), 3) := by decide +kernel
theorem dX11_tryNext_54 : decode cX11_tryNext 54 = .ok (.iload_n 2, 1) := by decide +kernel
theorem dX11_tryNext_55 : decode cX11_tryNext 55 = .ok (.ireturn, 1) := by decide +kernel
theorem dX11_note_0 : decode cX11_note 0 = .ok (.iload_n 1, 1) := by decide +kernel
theorem dX11_note_1 : decode cX11_note 1 = .ok (.invokestatic 153, 3) := by decide +kernel
theorem dX11_note_4 : decode cX11_note 4 = .ok (.ifCond .eq 17, 3) := by decide +kernel
theorem dX11_note_7 : decode cX11_note 7 = .ok (.iload_n 2, 1) := by decide +kernel
theorem dX11_note_8 : decode cX11_note 8 = .ok (.invokestatic 153, 3) := by decide +kernel
theorem dX11_note_11 : decode cX11_note 11 = .ok (.ifCond .eq 10, 3) := by decide +kernel
theorem dX11_note_14 : decode cX11_note 14 = .ok (.iload_n 3, 1) := by decide +kernel
theorem dX11_note_15 : decode cX11_note 15 = .ok (.invokestatic 160, 3) := by decide +kernel
theorem dX11_note_18 : decode cX11_note 18 = .ok (.ifCond .ne 8, 3) := by decide +kernel
theorem dX11_note_21 : decode cX11_note 21 = .ok (.aload_n 0, 1) := by decide +kernel
theorem dX11_note_22 : decode cX11_note 22 = .ok (.invokevirtual 74, 3) := by decide +kernel
theorem dX11_note_25 : decode cX11_note 25 = .ok (.ireturn, 1) := by decide +kernel
theorem dX11_note_26 : decode cX11_note 26 = .ok (.aload_n 0, 1) := by decide +kernel
theorem dX11_note_27 : decode cX11_note 27 = .ok (.getfield 44, 3) := by decide +kernel
theorem dX11_note_30 : decode cX11_note 30 = .ok (.getfield 234, 3) := by decide +kernel
theorem dX11_note_33 : decode cX11_note 33 = .ok (.bipush 8, 2) := by decide +kernel
theorem dX11_note_35 : decode cX11_note 35 = .ok (.if_icmp .lt 8, 3) := by decide +kernel
theorem dX11_note_38 : decode cX11_note 38 = .ok (.aload_n 0, 1) := by decide +kernel
theorem dX11_note_39 : decode cX11_note 39 = .ok (.invokevirtual 109, 3) := by decide +kernel
theorem dX11_note_42 : decode cX11_note 42 = .ok (.ireturn, 1) := by decide +kernel
theorem dX11_note_43 : decode cX11_note 43 = .ok (.aload_n 0, 1) := by decide +kernel
theorem dX11_note_44 : decode cX11_note 44 = .ok (.getfield 44, 3) := by decide +kernel
theorem dX11_note_47 : decode cX11_note 47 = .ok (.iload_n 1, 1) := by decide +kernel
theorem dX11_note_48 : decode cX11_note 48 = .ok (.iload_n 2, 1) := by decide +kernel
theorem dX11_note_49 : decode cX11_note 49 = .ok (.iload_n 3, 1) := by decide +kernel
theorem dX11_note_50 : decode cX11_note 50 = .ok (.invokevirtual 237, 3) := by decide +kernel
theorem dX11_note_53 : decode cX11_note 53 = .ok (.aload_n 0, 1) := by decide +kernel
theorem dX11_note_54 : decode cX11_note 54 = .ok (.getfield 44, 3) := by decide +kernel
theorem dX11_note_57 : decode cX11_note 57 = .ok (.getfield 234, 3) := by decide +kernel
theorem dX11_note_60 : decode cX11_note 60 = .ok (.ireturn, 1) := by decide +kernel
theorem dX11_laws_0 : decode cX11_laws 0 = .ok (.iload_n 1, 1) := by decide +kernel
theorem dX11_laws_1 : decode cX11_laws 1 = .ok (.invokestatic 160, 3) := by decide +kernel
theorem dX11_laws_4 : decode cX11_laws 4 = .ok (.ifCond .ne 8, 3) := by decide +kernel
theorem dX11_laws_7 : decode cX11_laws 7 = .ok (.aload_n 0, 1) := by decide +kernel
theorem dX11_laws_8 : decode cX11_laws 8 = .ok (.invokevirtual 171, 3) := by decide +kernel
theorem dX11_laws_11 : decode cX11_laws 11 = .ok (.ireturn, 1) := by decide +kernel
theorem dX11_laws_12 : decode cX11_laws 12 = .ok (.iconst 0, 1) := by decide +kernel
theorem dX11_laws_13 : decode cX11_laws 13 = .ok (.istore_n 2, 1) := by decide +kernel
theorem dX11_laws_14 : decode cX11_laws 14 = .ok (.iconst (-1), 1) := by decide +kernel
theorem dX11_laws_15 : decode cX11_laws 15 = .ok (.istore_n 3, 1) := by decide +kernel
theorem dX11_laws_16 : decode cX11_laws 16 = .ok (.iconst 0, 1) := by decide +kernel
theorem dX11_laws_17 : decode cX11_laws 17 = .ok (.istore 4, 2) := by decide +kernel
theorem dX11_laws_19 : decode cX11_laws 19 = .ok (.iload 4, 2) := by decide +kernel
theorem dX11_laws_21 : decode cX11_laws 21 = .ok (.bipush 60, 2) := by decide +kernel
theorem dX11_laws_23 : decode cX11_laws 23 = .ok (.if_icmp .ge 32, 3) := by decide +kernel
theorem dX11_laws_26 : decode cX11_laws 26 = .ok (.aload_n 0, 1) := by decide +kernel
theorem dX11_laws_27 : decode cX11_laws 27 = .ok (.iload 4, 2) := by decide +kernel
theorem dX11_laws_29 : decode cX11_laws 29 = .ok (.invokevirtual 241, 3) := by decide +kernel
theorem dX11_laws_32 : decode cX11_laws 32 = .ok (.ifCond .eq 17, 3) := by decide +kernel
theorem dX11_laws_35 : decode cX11_laws 35 = .ok (.iload_n 2, 1) := by decide +kernel
theorem dX11_laws_36 : decode cX11_laws 36 = .ok (.ifCond .ne 8, 3) := by decide +kernel
theorem dX11_laws_39 : decode cX11_laws 39 = .ok (.iload 4, 2) := by decide +kernel
theorem dX11_laws_41 : decode cX11_laws 41 = .ok (.goto 4, 3) := by decide +kernel
theorem dX11_laws_44 : decode cX11_laws 44 = .ok (.iload_n 3, 1) := by decide +kernel
theorem dX11_laws_45 : decode cX11_laws 45 = .ok (.istore_n 3, 1) := by decide +kernel
theorem dX11_laws_46 : decode cX11_laws 46 = .ok (.iinc 2 1, 3) := by decide +kernel
theorem dX11_laws_49 : decode cX11_laws 49 = .ok (.iinc 4 1, 3) := by decide +kernel
theorem dX11_laws_52 : decode cX11_laws 52 = .ok (.goto (-33), 3) := by decide +kernel
theorem dX11_laws_55 : decode cX11_laws 55 = .ok (.iload_n 1, 1) := by decide +kernel
theorem dX11_laws_56 : decode cX11_laws 56 = .ok (.ifCond .ne 7, 3) := by decide +kernel
theorem dX11_laws_59 : decode cX11_laws 59 = .ok (.iload_n 2, 1) := by decide +kernel
theorem dX11_laws_60 : decode cX11_laws 60 = .ok (.goto 4, 3) := by decide +kernel
theorem dX11_laws_63 : decode cX11_laws 63 = .ok (.iload_n 3, 1) := by decide +kernel
theorem dX11_laws_64 : decode cX11_laws 64 = .ok (.ireturn, 1) := by decide +kernel
theorem dX11_forget_0 : decode cX11_forget 0 = .ok (.iload_n 1, 1) := by decide +kernel
theorem dX11_forget_1 : decode cX11_forget 1 = .ok (.invokestatic 160, 3) := by decide +kernel
theorem dX11_forget_4 : decode cX11_forget 4 = .ok (.ifCond .ne 8, 3) := by decide +kernel
theorem dX11_forget_7 : decode cX11_forget 7 = .ok (.aload_n 0, 1) := by decide +kernel
theorem dX11_forget_8 : decode cX11_forget 8 = .ok (.invokevirtual 74, 3) := by decide +kernel
theorem dX11_forget_11 : decode cX11_forget 11 = .ok (.ireturn, 1) := by decide +kernel
theorem dX11_forget_12 : decode cX11_forget 12 = .ok (.iload_n 1, 1) := by decide +kernel
theorem dX11_forget_13 : decode cX11_forget 13 = .ok (.ifCond .ne 13, 3) := by decide +kernel
theorem dX11_forget_16 : decode cX11_forget 16 = .ok (.aload_n 0, 1) := by decide +kernel
theorem dX11_forget_17 : decode cX11_forget 17 = .ok (.getfield 44, 3) := by decide +kernel
theorem dX11_forget_20 : decode cX11_forget 20 = .ok (.getfield 221, 3) := by decide +kernel
theorem dX11_forget_23 : decode cX11_forget 23 = .ok (.goto 10, 3) := by decide +kernel
theorem dX11_forget_26 : decode cX11_forget 26 = .ok (.aload_n 0, 1) := by decide +kernel
theorem dX11_forget_27 : decode cX11_forget 27 = .ok (.getfield 44, 3) := by decide +kernel
theorem dX11_forget_30 : decode cX11_forget 30 = .ok (.getfield 234, 3) := by decide +kernel
theorem dX11_forget_33 : decode cX11_forget 33 = .ok (.istore_n 2, 1) := by decide +kernel
theorem dX11_forget_34 : decode cX11_forget 34 = .ok (.iload_n 1, 1) := by decide +kernel
theorem dX11_forget_35 : decode cX11_forget 35 = .ok (.ifCond .ne 14, 3) := by decide +kernel
theorem dX11_forget_38 : decode cX11_forget 38 = .ok (.aload_n 0, 1) := by decide +kernel
theorem dX11_forget_39 : decode cX11_forget 39 = .ok (.getfield 44, 3) := by decide +kernel
theorem dX11_forget_42 : decode cX11_forget 42 = .ok (.iconst 0, 1) := by decide +kernel
theorem dX11_forget_43 : decode cX11_forget 43 = .ok (.putfield 221, 3) := by decide +kernel
theorem dX11_forget_46 : decode cX11_forget 46 = .ok (.goto 11, 3) := by decide +kernel
theorem dX11_forget_49 : decode cX11_forget 49 = .ok (.aload_n 0, 1) := by decide +kernel
theorem dX11_forget_50 : decode cX11_forget 50 = .ok (.getfield 44, 3) := by decide +kernel
theorem dX11_forget_53 : decode cX11_forget 53 = .ok (.iconst 0, 1) := by decide +kernel
theorem dX11_forget_54 : decode cX11_forget 54 = .ok (.putfield 234, 3) := by decide +kernel
theorem dX11_forget_57 : decode cX11_forget 57 = .ok (.iload_n 2, 1) := by decide +kernel
theorem dX11_forget_58 : decode cX11_forget 58 = .ok (.ireturn, 1) := by decide +kernel
theorem dX11_split_0 : decode cX11_split 0 = .ok (.iload_n 1, 1) := by decide +kernel
theorem dX11_split_1 : decode cX11_split 1 = .ok (.invokestatic 92, 3) := by decide +kernel
theorem dX11_split_4 : decode cX11_split 4 = .ok (.ifCond .ne 8, 3) := by decide +kernel
theorem dX11_split_7 : decode cX11_split 7 = .ok (.aload_n 0, 1) := by decide +kernel
theorem dX11_split_8 : decode cX11_split 8 = .ok (.invokevirtual 74, 3) := by decide +kernel
theorem dX11_split_11 : decode cX11_split 11 = .ok (.ireturn, 1) := by decide +kernel
theorem dX11_split_12 : decode cX11_split 12 = .ok (.aload_n 0, 1) := by decide +kernel
theorem dX11_split_13 : decode cX11_split 13 = .ok (.getfield 44, 3) := by decide +kernel
theorem dX11_split_16 : decode cX11_split 16 = .ok (.getfield 96, 3) := by decide +kernel
theorem dX11_split_19 : decode cX11_split 19 = .ok (.iload_n 1, 1) := by decide +kernel
theorem dX11_split_20 : decode cX11_split 20 = .ok (.iaload, 1) := by decide +kernel
theorem dX11_split_21 : decode cX11_split 21 = .ok (.istore_n 2, 1) := by decide +kernel
theorem dX11_split_22 : decode cX11_split 22 = .ok (.aload_n 0, 1) := by decide +kernel
theorem dX11_split_23 : decode cX11_split 23 = .ok (.iload_n 1, 1) := by decide +kernel
theorem dX11_split_24 : decode cX11_split 24 = .ok (.invokevirtual 244, 3) := by decide +kernel
theorem dX11_split_27 : decode cX11_split 27 = .ok (.istore_n 3, 1) := by decide +kernel
theorem dX11_split_28 : decode cX11_split 28 = .ok (.iload_n 2, 1) := by decide +kernel
theorem dX11_split_29 : decode cX11_split 29 = .ok (.iconst 2, 1) := by decide +kernel
theorem dX11_split_30 : decode cX11_split 30 = .ok (.if_icmp .lt 8, 3) := by decide +kernel
theorem dX11_split_33 : decode cX11_split 33 = .ok (.iload_n 3, 1) := by decide +kernel
theorem dX11_split_34 : decode cX11_split 34 = .ok (.iconst (-1), 1) := by decide +kernel
theorem dX11_split_35 : decode cX11_split 35 = .ok (.if_icmp .ne 5, 3) := by decide +kernel
theorem dX11_split_38 : decode cX11_split 38 = .ok (.iconst (-1), 1) := by decide +kernel
theorem dX11_split_39 : decode cX11_split 39 = .ok (.ireturn, 1) := by decide +kernel
theorem dX11_split_40 : decode cX11_split 40 = .ok (.aload_n 0, 1) := by decide +kernel
theorem dX11_split_41 : decode cX11_split 41 = .ok (.getfield 44, 3) := by decide +kernel
theorem dX11_split_44 : decode cX11_split 44 = .ok (.getfield 96, 3) := by decide +kernel
theorem dX11_split_47 : decode cX11_split 47 = .ok (.iconst 0, 1) := by decide +kernel
theorem dX11_split_48 : decode cX11_split 48 = .ok (.aload_n 0, 1) := by decide +kernel
theorem dX11_split_49 : decode cX11_split 49 = .ok (.getfield 56, 3) := by decide +kernel
theorem dX11_split_52 : decode cX11_split 52 = .ok (.iconst 0, 1) := by decide +kernel
theorem dX11_split_53 : decode cX11_split 53 = .ok (.bipush 8, 2) := by decide +kernel
theorem dX11_split_55 : decode cX11_split 55 = .ok (.invokestatic 123, 3) := by decide +kernel
theorem dX11_split_58 : decode cX11_split 58 = .ok (.aload_n 0, 1) := by decide +kernel
theorem dX11_split_59 : decode cX11_split 59 = .ok (.getfield 56, 3) := by decide +kernel
theorem dX11_split_62 : decode cX11_split 62 = .ok (.iload_n 1, 1) := by decide +kernel
theorem dX11_split_63 : decode cX11_split 63 = .ok (.iload_n 2, 1) := by decide +kernel
theorem dX11_split_64 : decode cX11_split 64 = .ok (.iconst 2, 1) := by decide +kernel
theorem dX11_split_65 : decode cX11_split 65 = .ok (.idiv, 1) := by decide +kernel
theorem dX11_split_66 : decode cX11_split 66 = .ok (.iastore, 1) := by decide +kernel
theorem dX11_split_67 : decode cX11_split 67 = .ok (.aload_n 0, 1) := by decide +kernel
theorem dX11_split_68 : decode cX11_split 68 = .ok (.getfield 56, 3) := by decide +kernel
theorem dX11_split_71 : decode cX11_split 71 = .ok (.iload_n 3, 1) := by decide +kernel
theorem dX11_split_72 : decode cX11_split 72 = .ok (.iload_n 2, 1) := by decide +kernel
theorem dX11_split_73 : decode cX11_split 73 = .ok (.iload_n 2, 1) := by decide +kernel
theorem dX11_split_74 : decode cX11_split 74 = .ok (.iconst 2, 1) := by decide +kernel
theorem dX11_split_75 : decode cX11_split 75 = .ok (.idiv, 1) := by decide +kernel
theorem dX11_split_76 : decode cX11_split 76 = .ok (.isub, 1) := by decide +kernel
theorem dX11_split_77 : decode cX11_split 77 = .ok (.iastore, 1) := by decide +kernel
theorem dX11_split_78 : decode cX11_split 78 = .ok (.aload_n 0, 1) := by decide +kernel
theorem dX11_split_79 : decode cX11_split 79 = .ok (.getfield 21, 3) := by decide +kernel
theorem dX11_split_82 : decode cX11_split 82 = .ok (.aload_n 0, 1) := by decide +kernel
theorem dX11_split_83 : decode cX11_split 83 = .ok (.getfield 44, 3) := by decide +kernel
theorem dX11_split_86 : decode cX11_split 86 = .ok (.getfield 85, 3) := by decide +kernel
theorem dX11_split_89 : decode cX11_split 89 = .ok (.aload_n 0, 1) := by decide +kernel
theorem dX11_split_90 : decode cX11_split 90 = .ok (.getfield 56, 3) := by decide +kernel
theorem dX11_split_93 : decode cX11_split 93 = .ok (.invokevirtual 146, 3) := by decide +kernel
theorem dX11_split_96 : decode cX11_split 96 = .ok (.invokestatic 163, 3) := by decide +kernel
theorem dX11_split_99 : decode cX11_split 99 = .ok (.ireturn, 1) := by decide +kernel
theorem dX11_odds_0 : decode cX11_odds 0 = .ok (.iload_n 1, 1) := by decide +kernel
theorem dX11_odds_1 : decode cX11_odds 1 = .ok (.ifCond .lt 9, 3) := by decide +kernel
theorem dX11_odds_4 : decode cX11_odds 4 = .ok (.iload_n 1, 1) := by decide +kernel
theorem dX11_odds_5 : decode cX11_odds 5 = .ok (.bipush 10, 2) := by decide +kernel
theorem dX11_odds_7 : decode cX11_odds 7 = .ok (.if_icmp .le 8, 3) := by decide +kernel
theorem dX11_odds_10 : decode cX11_odds 10 = .ok (.aload_n 0, 1) := by decide +kernel
theorem dX11_odds_11 : decode cX11_odds 11 = .ok (.invokevirtual 74, 3) := by decide +kernel
theorem dX11_odds_14 : decode cX11_odds 14 = .ok (.ireturn, 1) := by decide +kernel
theorem dX11_odds_15 : decode cX11_odds 15 = .ok (.aload_n 0, 1) := by decide +kernel
theorem dX11_odds_16 : decode cX11_odds 16 = .ok (.getfield 21, 3) := by decide +kernel
theorem dX11_odds_19 : decode cX11_odds 19 = .ok (.aload_n 0, 1) := by decide +kernel
theorem dX11_odds_20 : decode cX11_odds 20 = .ok (.getfield 44, 3) := by decide +kernel
theorem dX11_odds_23 : decode cX11_odds 23 = .ok (.getfield 85, 3) := by decide +kernel
theorem dX11_odds_26 : decode cX11_odds 26 = .ok (.aload_n 0, 1) := by decide +kernel
theorem dX11_odds_27 : decode cX11_odds 27 = .ok (.getfield 44, 3) := by decide +kernel
theorem dX11_odds_30 : decode cX11_odds 30 = .ok (.getfield 96, 3) := by decide +kernel
theorem dX11_odds_33 : decode cX11_odds 33 = .ok (.iload_n 1, 1) := by decide +kernel
theorem dX11_odds_34 : decode cX11_odds 34 = .ok (.invokevirtual 247, 3) := by decide +kernel
theorem dX11_odds_37 : decode cX11_odds 37 = .ok (.lstore_n 2, 1) := by decide +kernel
theorem dX11_odds_38 : decode cX11_odds 38 = .ok (.lconst 1, 1) := by decide +kernel
theorem dX11_odds_39 : decode cX11_odds 39 = .ok (.lstore 4, 2) := by decide +kernel
theorem dX11_odds_41 : decode cX11_odds 41 = .ok (.aload_n 0, 1) := by decide +kernel
theorem dX11_odds_42 : decode cX11_odds 42 = .ok (.getfield 44, 3) := by decide +kernel
theorem dX11_odds_45 : decode cX11_odds 45 = .ok (.invokevirtual 78, 3) := by decide +kernel
theorem dX11_odds_48 : decode cX11_odds 48 = .ok (.istore 6, 2) := by decide +kernel
theorem dX11_odds_50 : decode cX11_odds 50 = .ok (.iload 6, 2) := by decide +kernel
theorem dX11_odds_52 : decode cX11_odds 52 = .ok (.ifCond .le 17, 3) := by decide +kernel
theorem dX11_odds_55 : decode cX11_odds 55 = .ok (.lload 4, 2) := by decide +kernel
theorem dX11_odds_57 : decode cX11_odds 57 = .ok (.ldc2_w 251, 3) := by decide +kernel
theorem dX11_odds_60 : decode cX11_odds 60 = .ok (.lmul, 1) := by decide +kernel
theorem dX11_odds_61 : decode cX11_odds 61 = .ok (.lstore 4, 2) := by decide +kernel
theorem dX11_odds_63 : decode cX11_odds 63 = .ok (.iinc 6 (-1), 3) := by decide +kernel
theorem dX11_odds_66 : decode cX11_odds 66 = .ok (.goto (-16), 3) := by decide +kernel
theorem dX11_odds_69 : decode cX11_odds 69 = .ok (.lload 4, 2) := by decide +kernel
theorem dX11_odds_71 : decode cX11_odds 71 = .ok (.lload_n 2, 1) := by decide +kernel
theorem dX11_odds_72 : decode cX11_odds 72 = .ok (.invokestatic 253, 3) := by decide +kernel
theorem dX11_odds_75 : decode cX11_odds 75 = .ok (.lstore 6, 2) := by decide +kernel
theorem dX11_odds_77 : decode cX11_odds 77 = .ok (.lload 6, 2) := by decide +kernel
theorem dX11_odds_79 : decode cX11_odds 79 = .ok (.lconst 0, 1) := by decide +kernel
theorem dX11_odds_80 : decode cX11_odds 80 = .ok (.lcmp, 1) := by decide +kernel
theorem dX11_odds_81 : decode cX11_odds 81 = .ok (.ifCond .le 20, 3) := by decide +kernel
theorem dX11_odds_84 : decode cX11_odds 84 = .ok (.aload_n 0, 1) := by decide +kernel
theorem dX11_odds_85 : decode cX11_odds 85 = .ok (.lload_n 2, 1) := by decide +kernel
theorem dX11_odds_86 : decode cX11_odds 86 = .ok (.lload 6, 2) := by decide +kernel
theorem dX11_odds_88 : decode cX11_odds 88 = .ok (.ldiv, 1) := by decide +kernel
theorem dX11_odds_89 : decode cX11_odds 89 = .ok (.putfield 257, 3) := by decide +kernel
theorem dX11_odds_92 : decode cX11_odds 92 = .ok (.aload_n 0, 1) := by decide +kernel
theorem dX11_odds_93 : decode cX11_odds 93 = .ok (.lload 4, 2) := by decide +kernel
theorem dX11_odds_95 : decode cX11_odds 95 = .ok (.lload 6, 2) := by decide +kernel
theorem dX11_odds_97 : decode cX11_odds 97 = .ok (.ldiv, 1) := by decide +kernel
theorem dX11_odds_98 : decode cX11_odds 98 = .ok (.putfield 66, 3) := by decide +kernel
theorem dX11_odds_101 : decode cX11_odds 101 = .ok (.iconst 1, 1) := by decide +kernel
theorem dX11_odds_102 : decode cX11_odds 102 = .ok (.ireturn, 1) := by decide +kernel
theorem dX11_streets_0 : decode cX11_streets 0 = .ok (.iload_n 1, 1) := by decide +kernel
theorem dX11_streets_1 : decode cX11_streets 1 = .ok (.ifCond .lt 20, 3) := by decide +kernel
theorem dX11_streets_4 : decode cX11_streets 4 = .ok (.iload_n 1, 1) := by decide +kernel
theorem dX11_streets_5 : decode cX11_streets 5 = .ok (.ldc_w 260, 3) := by decide +kernel
theorem dX11_streets_8 : decode cX11_streets 8 = .ok (.if_icmp .gt 13, 3) := by decide +kernel
theorem dX11_streets_11 : decode cX11_streets 11 = .ok (.iload_n 2, 1) := by decide +kernel
theorem dX11_streets_12 : decode cX11_streets 12 = .ok (.ifCond .lt 9, 3) := by decide +kernel
theorem dX11_streets_15 : decode cX11_streets 15 = .ok (.iload_n 2, 1) := by decide +kernel
theorem dX11_streets_16 : decode cX11_streets 16 = .ok (.bipush 30, 2) := by decide +kernel
theorem dX11_streets_18 : decode cX11_streets 18 = .ok (.if_icmp .le 8, 3) := by decide +kernel
theorem dX11_streets_21 : decode cX11_streets 21 = .ok (.aload_n 0, 1) := by decide +kernel
theorem dX11_streets_22 : decode cX11_streets 22 = .ok (.invokevirtual 74, 3) := by decide +kernel
theorem dX11_streets_25 : decode cX11_streets 25 = .ok (.ireturn, 1) := by decide +kernel
theorem dX11_streets_26 : decode cX11_streets 26 = .ok (.iload_n 1, 1) := by decide +kernel
theorem dX11_streets_27 : decode cX11_streets 27 = .ok (.i2l, 1) := by decide +kernel
theorem dX11_streets_28 : decode cX11_streets 28 = .ok (.lstore_n 3, 1) := by decide +kernel
theorem dX11_streets_29 : decode cX11_streets 29 = .ok (.iconst 0, 1) := by decide +kernel
theorem dX11_streets_30 : decode cX11_streets 30 = .ok (.istore 5, 2) := by decide +kernel
theorem dX11_streets_32 : decode cX11_streets 32 = .ok (.iconst 0, 1) := by decide +kernel
theorem dX11_streets_33 : decode cX11_streets 33 = .ok (.istore 6, 2) := by decide +kernel
theorem dX11_streets_35 : decode cX11_streets 35 = .ok (.iload 6, 2) := by decide +kernel
theorem dX11_streets_37 : decode cX11_streets 37 = .ok (.iload_n 2, 1) := by decide +kernel
theorem dX11_streets_38 : decode cX11_streets 38 = .ok (.if_icmp .ge 39, 3) := by decide +kernel
theorem dX11_streets_41 : decode cX11_streets 41 = .ok (.aload_n 0, 1) := by decide +kernel
theorem dX11_streets_42 : decode cX11_streets 42 = .ok (.lload_n 3, 1) := by decide +kernel
theorem dX11_streets_43 : decode cX11_streets 43 = .ok (.invokevirtual 261, 3) := by decide +kernel
theorem dX11_streets_46 : decode cX11_streets 46 = .ok (.lstore_n 3, 1) := by decide +kernel
theorem dX11_streets_47 : decode cX11_streets 47 = .ok (.aload_n 0, 1) := by decide +kernel
theorem dX11_streets_48 : decode cX11_streets 48 = .ok (.getfield 21, 3) := by decide +kernel
theorem dX11_streets_51 : decode cX11_streets 51 = .ok (.aload_n 0, 1) := by decide +kernel
theorem dX11_streets_52 : decode cX11_streets 52 = .ok (.getfield 44, 3) := by decide +kernel
theorem dX11_streets_55 : decode cX11_streets 55 = .ok (.getfield 85, 3) := by decide +kernel
theorem dX11_streets_58 : decode cX11_streets 58 = .ok (.aload_n 0, 1) := by decide +kernel
theorem dX11_streets_59 : decode cX11_streets 59 = .ok (.getfield 56, 3) := by decide +kernel
theorem dX11_streets_62 : decode cX11_streets 62 = .ok (.invokevirtual 146, 3) := by decide +kernel
theorem dX11_streets_65 : decode cX11_streets 65 = .ok (.ifCond .ne 6, 3) := by decide +kernel
theorem dX11_streets_68 : decode cX11_streets 68 = .ok (.iinc 5 1, 3) := by decide +kernel
theorem dX11_streets_71 : decode cX11_streets 71 = .ok (.iinc 6 1, 3) := by decide +kernel
theorem dX11_streets_74 : decode cX11_streets 74 = .ok (.goto (-39), 3) := by decide +kernel
theorem dX11_streets_77 : decode cX11_streets 77 = .ok (.iload 5, 2) := by decide +kernel
theorem dX11_streets_79 : decode cX11_streets 79 = .ok (.ireturn, 1) := by decide +kernel
theorem dX11_part_0 : decode cX11_part 0 = .ok (.iload_n 1, 1) := by decide +kernel
theorem dX11_part_1 : decode cX11_part 1 = .ok (.invokestatic 160, 3) := by decide +kernel
theorem dX11_part_4 : decode cX11_part 4 = .ok (.ifCond .ne 9, 3) := by decide +kernel
theorem dX11_part_7 : decode cX11_part 7 = .ok (.aload_n 0, 1) := by decide +kernel
theorem dX11_part_8 : decode cX11_part 8 = .ok (.invokevirtual 74, 3) := by decide +kernel
theorem dX11_part_11 : decode cX11_part 11 = .ok (.i2l, 1) := by decide +kernel
theorem dX11_part_12 : decode cX11_part 12 = .ok (.lreturn, 1) := by decide +kernel
theorem dX11_part_13 : decode cX11_part 13 = .ok (.iload_n 1, 1) := by decide +kernel
theorem dX11_part_14 : decode cX11_part 14 = .ok (.ifCond .ne 10, 3) := by decide +kernel
theorem dX11_part_17 : decode cX11_part 17 = .ok (.aload_n 0, 1) := by decide +kernel
theorem dX11_part_18 : decode cX11_part 18 = .ok (.getfield 257, 3) := by decide +kernel
theorem dX11_part_21 : decode cX11_part 21 = .ok (.goto 7, 3) := by decide +kernel
theorem dX11_part_24 : decode cX11_part 24 = .ok (.aload_n 0, 1) := by decide +kernel
theorem dX11_part_25 : decode cX11_part 25 = .ok (.getfield 66, 3) := by decide +kernel
theorem dX11_part_28 : decode cX11_part 28 = .ok (.lreturn, 1) := by decide +kernel
theorem dX11_image_0 : decode cX11_image 0 = .ok (.aload_n 0, 1) := by decide +kernel
theorem dX11_image_1 : decode cX11_image 1 = .ok (.iload_n 1, 1) := by decide +kernel
theorem dX11_image_2 : decode cX11_image 2 = .ok (.invokevirtual 265, 3) := by decide +kernel
theorem dX11_image_5 : decode cX11_image 5 = .ok (.astore_n 2, 1) := by decide +kernel
theorem dX11_image_6 : decode cX11_image 6 = .ok (.aload_n 2, 1) := by decide +kernel
theorem dX11_image_7 : decode cX11_image 7 = .ok (.ifnonnull 8, 3) := by decide +kernel
theorem dX11_image_10 : decode cX11_image 10 = .ok (.aload_n 0, 1) := by decide +kernel
theorem dX11_image_11 : decode cX11_image 11 = .ok (.invokevirtual 74, 3) := by decide +kernel
theorem dX11_image_14 : decode cX11_image 14 = .ok (.ireturn, 1) := by decide +kernel
theorem dX11_image_15 : decode cX11_image 15 = .ok (.aload_n 2, 1) := by decide +kernel
theorem dX11_image_16 : decode cX11_image 16 = .ok (.aload_n 0, 1) := by decide +kernel
theorem dX11_image_17 : decode cX11_image 17 = .ok (.getfield 44, 3) := by decide +kernel
theorem dX11_image_20 : decode cX11_image 20 = .ok (.invokevirtual 269, 3) := by decide +kernel
theorem dX11_image_23 : decode cX11_image 23 = .ok (.aload_n 0, 1) := by decide +kernel
theorem dX11_image_24 : decode cX11_image 24 = .ok (.getfield 52, 3) := by decide +kernel
theorem dX11_image_27 : decode cX11_image 27 = .ok (.iload_n 1, 1) := by decide +kernel
theorem dX11_image_28 : decode cX11_image 28 = .ok (.iconst 1, 1) := by decide +kernel
theorem dX11_image_29 : decode cX11_image 29 = .ok (.bastore, 1) := by decide +kernel
theorem dX11_image_30 : decode cX11_image 30 = .ok (.iconst 1, 1) := by decide +kernel
theorem dX11_image_31 : decode cX11_image 31 = .ok (.ireturn, 1) := by decide +kernel
theorem dX11_from_0 : decode cX11_from 0 = .ok (.aload_n 0, 1) := by decide +kernel
theorem dX11_from_1 : decode cX11_from 1 = .ok (.iload_n 1, 1) := by decide +kernel
theorem dX11_from_2 : decode cX11_from 2 = .ok (.invokevirtual 265, 3) := by decide +kernel
theorem dX11_from_5 : decode cX11_from 5 = .ok (.astore_n 2, 1) := by decide +kernel
theorem dX11_from_6 : decode cX11_from 6 = .ok (.aload_n 2, 1) := by decide +kernel
theorem dX11_from_7 : decode cX11_from 7 = .ok (.ifnonnull 8, 3) := by decide +kernel
theorem dX11_from_10 : decode cX11_from 10 = .ok (.aload_n 0, 1) := by decide +kernel
theorem dX11_from_11 : decode cX11_from 11 = .ok (.invokevirtual 74, 3) := by decide +kernel
theorem dX11_from_14 : decode cX11_from 14 = .ok (.ireturn, 1) := by decide +kernel
theorem dX11_from_15 : decode cX11_from 15 = .ok (.aload_n 0, 1) := by decide +kernel
theorem dX11_from_16 : decode cX11_from 16 = .ok (.getfield 52, 3) := by decide +kernel
theorem dX11_from_19 : decode cX11_from 19 = .ok (.iload_n 1, 1) := by decide +kernel
theorem dX11_from_20 : decode cX11_from 20 = .ok (.baload, 1) := by decide +kernel
theorem dX11_from_21 : decode cX11_from 21 = .ok (.ifCond .ne 8, 3) := by decide +kernel
theorem dX11_from_24 : decode cX11_from 24 = .ok (.aload_n 0, 1) := by decide +kernel
theorem dX11_from_25 : decode cX11_from 25 = .ok (.invokevirtual 99, 3) := by decide +kernel
theorem dX11_from_28 : decode cX11_from 28 = .ok (.ireturn, 1) := by decide +kernel
theorem dX11_from_29 : decode cX11_from 29 = .ok (.aload_n 0, 1) := by decide +kernel
theorem dX11_from_30 : decode cX11_from 30 = .ok (.getfield 44, 3) := by decide +kernel
theorem dX11_from_33 : decode cX11_from 33 = .ok (.aload_n 2, 1) := by decide +kernel
theorem dX11_from_34 : decode cX11_from 34 = .ok (.invokevirtual 269, 3) := by decide +kernel
theorem dX11_from_37 : decode cX11_from 37 = .ok (.iconst 1, 1) := by decide +kernel
theorem dX11_from_38 : decode cX11_from 38 = .ok (.ireturn, 1) := by decide +kernel
theorem dX11_status_0 : decode cX11_status 0 = .ok (.iload_n 1, 1) := by decide +kernel
theorem dX11_status_1 : decode cX11_status 1 = .ok (.tableswitch 42 0 2 #[27, 32, 37], 27) := by decide +kernel
theorem dX11_status_28 : decode cX11_status 28 = .ok (.aload_n 0, 1) := by decide +kernel
theorem dX11_status_29 : decode cX11_status 29 = .ok (.getfield 273, 3) := by decide +kernel
theorem dX11_status_32 : decode cX11_status 32 = .ok (.ireturn, 1) := by decide +kernel
theorem dX11_status_33 : decode cX11_status 33 = .ok (.aload_n 0, 1) := by decide +kernel
theorem dX11_status_34 : decode cX11_status 34 = .ok (.getfield 276, 3) := by decide +kernel
theorem dX11_status_37 : decode cX11_status 37 = .ok (.ireturn, 1) := by decide +kernel
theorem dX11_status_38 : decode cX11_status 38 = .ok (.aload_n 0, 1) := by decide +kernel
theorem dX11_status_39 : decode cX11_status 39 = .ok (.getfield 279, 3) := by decide +kernel
theorem dX11_status_42 : decode cX11_status 42 = .ok (.ireturn, 1) := by decide +kernel
theorem dX11_status_43 : decode cX11_status 43 = .ok (.aload_n 0, 1) := by decide +kernel
theorem dX11_status_44 : decode cX11_status 44 = .ok (.dup, 1) := by decide +kernel
theorem dX11_status_45 : decode cX11_status 45 = .ok (.getfield 273, 3) := by decide +kernel
theorem dX11_status_48 : decode cX11_status 48 = .ok (.iconst 1, 1) := by decide +kernel
theorem dX11_status_49 : decode cX11_status 49 = .ok (.iadd, 1) := by decide +kernel
theorem dX11_status_50 : decode cX11_status 50 = .ok (.putfield 273, 3) := by decide +kernel
theorem dX11_status_53 : decode cX11_status 53 = .ok (.iconst (-1), 1) := by decide +kernel
theorem dX11_status_54 : decode cX11_status 54 = .ok (.ireturn, 1) := by decide +kernel
theorem dX11_count_0 : decode cX11_count 0 = .ok (.iload_n 1, 1) := by decide +kernel
theorem dX11_count_1 : decode cX11_count 1 = .ok (.ifCond .lt 8, 3) := by decide +kernel
theorem dX11_count_4 : decode cX11_count 4 = .ok (.iload_n 1, 1) := by decide +kernel
theorem dX11_count_5 : decode cX11_count 5 = .ok (.iconst 5, 1) := by decide +kernel
theorem dX11_count_6 : decode cX11_count 6 = .ok (.if_icmp .le 8, 3) := by decide +kernel
theorem dX11_count_9 : decode cX11_count 9 = .ok (.aload_n 0, 1) := by decide +kernel
theorem dX11_count_10 : decode cX11_count 10 = .ok (.invokevirtual 74, 3) := by decide +kernel
theorem dX11_count_13 : decode cX11_count 13 = .ok (.ireturn, 1) := by decide +kernel
theorem dX11_count_14 : decode cX11_count 14 = .ok (.aload_n 0, 1) := by decide +kernel
theorem dX11_count_15 : decode cX11_count 15 = .ok (.iload_n 1, 1) := by decide +kernel
theorem dX11_count_16 : decode cX11_count 16 = .ok (.invokevirtual 282, 3) := by decide +kernel
theorem dX11_count_19 : decode cX11_count 19 = .ok (.ireturn, 1) := by decide +kernel
theorem dX11_digest_0 : decode cX11_digest 0 = .ok (.ldc2_w 285, 3) := by decide +kernel
theorem dX11_digest_3 : decode cX11_digest 3 = .ok (.lstore_n 1, 1) := by decide +kernel
theorem dX11_digest_4 : decode cX11_digest 4 = .ok (.iconst 0, 1) := by decide +kernel
theorem dX11_digest_5 : decode cX11_digest 5 = .ok (.istore_n 3, 1) := by decide +kernel
theorem dX11_digest_6 : decode cX11_digest 6 = .ok (.iload_n 3, 1) := by decide +kernel
theorem dX11_digest_7 : decode cX11_digest 7 = .ok (.iconst 5, 1) := by decide +kernel
theorem dX11_digest_8 : decode cX11_digest 8 = .ok (.if_icmp .gt 22, 3) := by decide +kernel
theorem dX11_digest_11 : decode cX11_digest 11 = .ok (.ldc2_w 287, 3) := by decide +kernel
theorem dX11_digest_14 : decode cX11_digest 14 = .ok (.lload_n 1, 1) := by decide +kernel
theorem dX11_digest_15 : decode cX11_digest 15 = .ok (.lmul, 1) := by decide +kernel
theorem dX11_digest_16 : decode cX11_digest 16 = .ok (.aload_n 0, 1) := by decide +kernel
theorem dX11_digest_17 : decode cX11_digest 17 = .ok (.iload_n 3, 1) := by decide +kernel
theorem dX11_digest_18 : decode cX11_digest 18 = .ok (.invokevirtual 282, 3) := by decide +kernel
theorem dX11_digest_21 : decode cX11_digest 21 = .ok (.i2l, 1) := by decide +kernel
theorem dX11_digest_22 : decode cX11_digest 22 = .ok (.ladd, 1) := by decide +kernel
theorem dX11_digest_23 : decode cX11_digest 23 = .ok (.lstore_n 1, 1) := by decide +kernel
theorem dX11_digest_24 : decode cX11_digest 24 = .ok (.iinc 3 1, 3) := by decide +kernel
theorem dX11_digest_27 : decode cX11_digest 27 = .ok (.goto (-21), 3) := by decide +kernel
theorem dX11_digest_30 : decode cX11_digest 30 = .ok (.lload_n 1, 1) := by decide +kernel
theorem dX11_digest_31 : decode cX11_digest 31 = .ok (.aload_n 0, 1) := by decide +kernel
theorem dX11_digest_32 : decode cX11_digest 32 = .ok (.getfield 44, 3) := by decide +kernel
theorem dX11_digest_35 : decode cX11_digest 35 = .ok (.getfield 96, 3) := by decide +kernel
theorem dX11_digest_38 : decode cX11_digest 38 = .ok (.bipush 8, 2) := by decide +kernel
theorem dX11_digest_40 : decode cX11_digest 40 = .ok (.invokestatic 289, 3) := by decide +kernel
theorem dX11_digest_43 : decode cX11_digest 43 = .ok (.lstore_n 1, 1) := by decide +kernel
theorem dX11_digest_44 : decode cX11_digest 44 = .ok (.lload_n 1, 1) := by decide +kernel
theorem dX11_digest_45 : decode cX11_digest 45 = .ok (.aload_n 0, 1) := by decide +kernel
theorem dX11_digest_46 : decode cX11_digest 46 = .ok (.getfield 44, 3) := by decide +kernel
theorem dX11_digest_49 : decode cX11_digest 49 = .ok (.getfield 293, 3) := by decide +kernel
theorem dX11_digest_52 : decode cX11_digest 52 = .ok (.iconst 3, 1) := by decide +kernel
theorem dX11_digest_53 : decode cX11_digest 53 = .ok (.aload_n 0, 1) := by decide +kernel
theorem dX11_digest_54 : decode cX11_digest 54 = .ok (.getfield 44, 3) := by decide +kernel
theorem dX11_digest_57 : decode cX11_digest 57 = .ok (.getfield 221, 3) := by decide +kernel
theorem dX11_digest_60 : decode cX11_digest 60 = .ok (.imul, 1) := by decide +kernel
theorem dX11_digest_61 : decode cX11_digest 61 = .ok (.invokestatic 289, 3) := by decide +kernel
theorem dX11_digest_64 : decode cX11_digest 64 = .ok (.lstore_n 1, 1) := by decide +kernel
theorem dX11_digest_65 : decode cX11_digest 65 = .ok (.lload_n 1, 1) := by decide +kernel
theorem dX11_digest_66 : decode cX11_digest 66 = .ok (.aload_n 0, 1) := by decide +kernel
theorem dX11_digest_67 : decode cX11_digest 67 = .ok (.getfield 44, 3) := by decide +kernel
theorem dX11_digest_70 : decode cX11_digest 70 = .ok (.getfield 296, 3) := by decide +kernel
theorem dX11_digest_73 : decode cX11_digest 73 = .ok (.iconst 3, 1) := by decide +kernel
theorem dX11_digest_74 : decode cX11_digest 74 = .ok (.aload_n 0, 1) := by decide +kernel
theorem dX11_digest_75 : decode cX11_digest 75 = .ok (.getfield 44, 3) := by decide +kernel
theorem dX11_digest_78 : decode cX11_digest 78 = .ok (.getfield 234, 3) := by decide +kernel
theorem dX11_digest_81 : decode cX11_digest 81 = .ok (.imul, 1) := by decide +kernel
theorem dX11_digest_82 : decode cX11_digest 82 = .ok (.invokestatic 289, 3) := by decide +kernel
theorem dX11_digest_85 : decode cX11_digest 85 = .ok (.lstore_n 1, 1) := by decide +kernel
theorem dX11_digest_86 : decode cX11_digest 86 = .ok (.ldc2_w 287, 3) := by decide +kernel
theorem dX11_digest_89 : decode cX11_digest 89 = .ok (.lload_n 1, 1) := by decide +kernel
theorem dX11_digest_90 : decode cX11_digest 90 = .ok (.lmul, 1) := by decide +kernel
theorem dX11_digest_91 : decode cX11_digest 91 = .ok (.aload_n 0, 1) := by decide +kernel
theorem dX11_digest_92 : decode cX11_digest 92 = .ok (.getfield 257, 3) := by decide +kernel
theorem dX11_digest_95 : decode cX11_digest 95 = .ok (.ladd, 1) := by decide +kernel
theorem dX11_digest_96 : decode cX11_digest 96 = .ok (.lstore_n 1, 1) := by decide +kernel
theorem dX11_digest_97 : decode cX11_digest 97 = .ok (.ldc2_w 287, 3) := by decide +kernel
theorem dX11_digest_100 : decode cX11_digest 100 = .ok (.lload_n 1, 1) := by decide +kernel
theorem dX11_digest_101 : decode cX11_digest 101 = .ok (.lmul, 1) := by decide +kernel
theorem dX11_digest_102 : decode cX11_digest 102 = .ok (.aload_n 0, 1) := by decide +kernel
theorem dX11_digest_103 : decode cX11_digest 103 = .ok (.getfield 66, 3) := by decide +kernel
theorem dX11_digest_106 : decode cX11_digest 106 = .ok (.ladd, 1) := by decide +kernel
theorem dX11_digest_107 : decode cX11_digest 107 = .ok (.lreturn, 1) := by decide +kernel
theorem dX11_refuseBad_0 : decode cX11_refuseBad 0 = .ok (.aload_n 0, 1) := by decide +kernel
theorem dX11_refuseBad_1 : decode cX11_refuseBad 1 = .ok (.dup, 1) := by decide +kernel
theorem dX11_refuseBad_2 : decode cX11_refuseBad 2 = .ok (.getfield 273, 3) := by decide +kernel
theorem dX11_refuseBad_5 : decode cX11_refuseBad 5 = .ok (.iconst 1, 1) := by decide +kernel
theorem dX11_refuseBad_6 : decode cX11_refuseBad 6 = .ok (.iadd, 1) := by decide +kernel
theorem dX11_refuseBad_7 : decode cX11_refuseBad 7 = .ok (.putfield 273, 3) := by decide +kernel
theorem dX11_refuseBad_10 : decode cX11_refuseBad 10 = .ok (.bipush (-2), 2) := by decide +kernel
theorem dX11_refuseBad_12 : decode cX11_refuseBad 12 = .ok (.ireturn, 1) := by decide +kernel
theorem dX11_refuseBadApart_0 : decode cX11_refuseBadApart 0 = .ok (.aload_n 0, 1) := by decide +kernel
theorem dX11_refuseBadApart_1 : decode cX11_refuseBadApart 1 = .ok (.dup, 1) := by decide +kernel
theorem dX11_refuseBadApart_2 : decode cX11_refuseBadApart 2 = .ok (.getfield 273, 3) := by decide +kernel
theorem dX11_refuseBadApart_5 : decode cX11_refuseBadApart 5 = .ok (.iconst 1, 1) := by decide +kernel
theorem dX11_refuseBadApart_6 : decode cX11_refuseBadApart 6 = .ok (.iadd, 1) := by decide +kernel
theorem dX11_refuseBadApart_7 : decode cX11_refuseBadApart 7 = .ok (.putfield 273, 3) := by decide +kernel
theorem dX11_refuseBadApart_10 : decode cX11_refuseBadApart 10 = .ok (.bipush (-10), 2) := by decide +kernel
theorem dX11_refuseBadApart_12 : decode cX11_refuseBadApart 12 = .ok (.ireturn, 1) := by decide +kernel
theorem dX11_refuseNo_0 : decode cX11_refuseNo 0 = .ok (.aload_n 0, 1) := by decide +kernel
theorem dX11_refuseNo_1 : decode cX11_refuseNo 1 = .ok (.dup, 1) := by decide +kernel
theorem dX11_refuseNo_2 : decode cX11_refuseNo 2 = .ok (.getfield 276, 3) := by decide +kernel
theorem dX11_refuseNo_5 : decode cX11_refuseNo 5 = .ok (.iconst 1, 1) := by decide +kernel
theorem dX11_refuseNo_6 : decode cX11_refuseNo 6 = .ok (.iadd, 1) := by decide +kernel
theorem dX11_refuseNo_7 : decode cX11_refuseNo 7 = .ok (.putfield 276, 3) := by decide +kernel
theorem dX11_refuseNo_10 : decode cX11_refuseNo 10 = .ok (.bipush (-3), 2) := by decide +kernel
theorem dX11_refuseNo_12 : decode cX11_refuseNo 12 = .ok (.ireturn, 1) := by decide +kernel
theorem dX11_refuseFull_0 : decode cX11_refuseFull 0 = .ok (.aload_n 0, 1) := by decide +kernel
theorem dX11_refuseFull_1 : decode cX11_refuseFull 1 = .ok (.dup, 1) := by decide +kernel
theorem dX11_refuseFull_2 : decode cX11_refuseFull 2 = .ok (.getfield 279, 3) := by decide +kernel
theorem dX11_refuseFull_5 : decode cX11_refuseFull 5 = .ok (.iconst 1, 1) := by decide +kernel
theorem dX11_refuseFull_6 : decode cX11_refuseFull 6 = .ok (.iadd, 1) := by decide +kernel
theorem dX11_refuseFull_7 : decode cX11_refuseFull 7 = .ok (.putfield 279, 3) := by decide +kernel
theorem dX11_refuseFull_10 : decode cX11_refuseFull 10 = .ok (.bipush (-4), 2) := by decide +kernel
theorem dX11_refuseFull_12 : decode cX11_refuseFull 12 = .ok (.ireturn, 1) := by decide +kernel
theorem dX11_isLaw_0 : decode cX11_isLaw 0 = .ok (.iload_n 0, 1) := by decide +kernel
theorem dX11_isLaw_1 : decode cX11_isLaw 1 = .ok (.ifCond .lt 23, 3) := by decide +kernel
theorem dX11_isLaw_4 : decode cX11_isLaw 4 = .ok (.iload_n 0, 1) := by decide +kernel
theorem dX11_isLaw_5 : decode cX11_isLaw 5 = .ok (.bipush 6, 2) := by decide +kernel
theorem dX11_isLaw_7 : decode cX11_isLaw 7 = .ok (.if_icmp .ge 17, 3) := by decide +kernel
theorem dX11_isLaw_10 : decode cX11_isLaw 10 = .ok (.iload_n 1, 1) := by decide +kernel
theorem dX11_isLaw_11 : decode cX11_isLaw 11 = .ok (.ifCond .lt 13, 3) := by decide +kernel
theorem dX11_isLaw_14 : decode cX11_isLaw 14 = .ok (.iload_n 1, 1) := by decide +kernel
theorem dX11_isLaw_15 : decode cX11_isLaw 15 = .ok (.bipush 9, 2) := by decide +kernel
theorem dX11_isLaw_17 : decode cX11_isLaw 17 = .ok (.if_icmp .gt 7, 3) := by decide +kernel
theorem dX11_isLaw_20 : decode cX11_isLaw 20 = .ok (.iconst 1, 1) := by decide +kernel
theorem dX11_isLaw_21 : decode cX11_isLaw 21 = .ok (.goto 4, 3) := by decide +kernel
theorem dX11_isLaw_24 : decode cX11_isLaw 24 = .ok (.iconst 0, 1) := by decide +kernel
theorem dX11_isLaw_25 : decode cX11_isLaw 25 = .ok (.ireturn, 1) := by decide +kernel
theorem dX11_isHouse_0 : decode cX11_isHouse 0 = .ok (.iload_n 0, 1) := by decide +kernel
theorem dX11_isHouse_1 : decode cX11_isHouse 1 = .ok (.ifCond .lt 13, 3) := by decide +kernel
theorem dX11_isHouse_4 : decode cX11_isHouse 4 = .ok (.iload_n 0, 1) := by decide +kernel
theorem dX11_isHouse_5 : decode cX11_isHouse 5 = .ok (.bipush 8, 2) := by decide +kernel
theorem dX11_isHouse_7 : decode cX11_isHouse 7 = .ok (.if_icmp .ge 7, 3) := by decide +kernel
theorem dX11_isHouse_10 : decode cX11_isHouse 10 = .ok (.iconst 1, 1) := by decide +kernel
theorem dX11_isHouse_11 : decode cX11_isHouse 11 = .ok (.goto 4, 3) := by decide +kernel
theorem dX11_isHouse_14 : decode cX11_isHouse 14 = .ok (.iconst 0, 1) := by decide +kernel
theorem dX11_isHouse_15 : decode cX11_isHouse 15 = .ok (.ireturn, 1) := by decide +kernel
theorem dX11_isNumber_0 : decode cX11_isNumber 0 = .ok (.iload_n 0, 1) := by decide +kernel
theorem dX11_isNumber_1 : decode cX11_isNumber 1 = .ok (.iconst 1, 1) := by decide +kernel
theorem dX11_isNumber_2 : decode cX11_isNumber 2 = .ok (.if_icmp .lt 14, 3) := by decide +kernel
theorem dX11_isNumber_5 : decode cX11_isNumber 5 = .ok (.iload_n 0, 1) := by decide +kernel
theorem dX11_isNumber_6 : decode cX11_isNumber 6 = .ok (.sipush 300, 3) := by decide +kernel
theorem dX11_isNumber_9 : decode cX11_isNumber 9 = .ok (.if_icmp .gt 7, 3) := by decide +kernel
theorem dX11_isNumber_12 : decode cX11_isNumber 12 = .ok (.iconst 1, 1) := by decide +kernel
theorem dX11_isNumber_13 : decode cX11_isNumber 13 = .ok (.goto 4, 3) := by decide +kernel
theorem dX11_isNumber_16 : decode cX11_isNumber 16 = .ok (.iconst 0, 1) := by decide +kernel
theorem dX11_isNumber_17 : decode cX11_isNumber 17 = .ok (.ireturn, 1) := by decide +kernel
theorem dX11_isBit_0 : decode cX11_isBit 0 = .ok (.iload_n 0, 1) := by decide +kernel
theorem dX11_isBit_1 : decode cX11_isBit 1 = .ok (.ifCond .eq 8, 3) := by decide +kernel
theorem dX11_isBit_4 : decode cX11_isBit 4 = .ok (.iload_n 0, 1) := by decide +kernel
theorem dX11_isBit_5 : decode cX11_isBit 5 = .ok (.iconst 1, 1) := by decide +kernel
theorem dX11_isBit_6 : decode cX11_isBit 6 = .ok (.if_icmp .ne 7, 3) := by decide +kernel
theorem dX11_isBit_9 : decode cX11_isBit 9 = .ok (.iconst 1, 1) := by decide +kernel
theorem dX11_isBit_10 : decode cX11_isBit 10 = .ok (.goto 4, 3) := by decide +kernel
theorem dX11_isBit_13 : decode cX11_isBit 13 = .ok (.iconst 0, 1) := by decide +kernel
theorem dX11_isBit_14 : decode cX11_isBit 14 = .ok (.ireturn, 1) := by decide +kernel
theorem dX11_bit_0 : decode cX11_bit 0 = .ok (.iload_n 0, 1) := by decide +kernel
theorem dX11_bit_1 : decode cX11_bit 1 = .ok (.ifCond .eq 7, 3) := by decide +kernel
theorem dX11_bit_4 : decode cX11_bit 4 = .ok (.iconst 1, 1) := by decide +kernel
theorem dX11_bit_5 : decode cX11_bit 5 = .ok (.goto 4, 3) := by decide +kernel
theorem dX11_bit_8 : decode cX11_bit 8 = .ok (.iconst 0, 1) := by decide +kernel
theorem dX11_bit_9 : decode cX11_bit 9 = .ok (.ireturn, 1) := by decide +kernel
theorem dX11_followChain_0 : decode cX11_followChain 0 = .ok (.aload_n 0, 1) := by decide +kernel
theorem dX11_followChain_1 : decode cX11_followChain 1 = .ok (.getfield 63, 3) := by decide +kernel
theorem dX11_followChain_4 : decode cX11_followChain 4 = .ok (.iconst 0, 1) := by decide +kernel
theorem dX11_followChain_5 : decode cX11_followChain 5 = .ok (.iload_n 1, 1) := by decide +kernel
theorem dX11_followChain_6 : decode cX11_followChain 6 = .ok (.iastore, 1) := by decide +kernel
theorem dX11_followChain_7 : decode cX11_followChain 7 = .ok (.aload_n 0, 1) := by decide +kernel
theorem dX11_followChain_8 : decode cX11_followChain 8 = .ok (.iconst 1, 1) := by decide +kernel
theorem dX11_followChain_9 : decode cX11_followChain 9 = .ok (.putfield 200, 3) := by decide +kernel
theorem dX11_followChain_12 : decode cX11_followChain 12 = .ok (.iload_n 1, 1) := by decide +kernel
theorem dX11_followChain_13 : decode cX11_followChain 13 = .ok (.istore_n 2, 1) := by decide +kernel
theorem dX11_followChain_14 : decode cX11_followChain 14 = .ok (.iconst 0, 1) := by decide +kernel
theorem dX11_followChain_15 : decode cX11_followChain 15 = .ok (.istore_n 3, 1) := by decide +kernel
theorem dX11_followChain_16 : decode cX11_followChain 16 = .ok (.iconst 1, 1) := by decide +kernel
theorem dX11_followChain_17 : decode cX11_followChain 17 = .ok (.istore 4, 2) := by decide +kernel
theorem dX11_followChain_19 : decode cX11_followChain 19 = .ok (.iload 4, 2) := by decide +kernel
theorem dX11_followChain_21 : decode cX11_followChain 21 = .ok (.bipush 20, 2) := by decide +kernel
theorem dX11_followChain_23 : decode cX11_followChain 23 = .ok (.if_icmp .gt 63, 3) := by decide +kernel
theorem dX11_followChain_26 : decode cX11_followChain 26 = .ok (.iload_n 3, 1) := by decide +kernel
theorem dX11_followChain_27 : decode cX11_followChain 27 = .ok (.ifCond .ne 59, 3) := by decide +kernel
theorem dX11_followChain_30 : decode cX11_followChain 30 = .ok (.aload_n 0, 1) := by decide +kernel
theorem dX11_followChain_31 : decode cX11_followChain 31 = .ok (.getfield 10, 3) := by decide +kernel
theorem dX11_followChain_34 : decode cX11_followChain 34 = .ok (.iload_n 2, 1) := by decide +kernel
theorem dX11_followChain_35 : decode cX11_followChain 35 = .ok (.invokevirtual 132, 3) := by decide +kernel
theorem dX11_followChain_38 : decode cX11_followChain 38 = .ok (.istore_n 2, 1) := by decide +kernel
theorem dX11_followChain_39 : decode cX11_followChain 39 = .ok (.iload_n 2, 1) := by decide +kernel
theorem dX11_followChain_40 : decode cX11_followChain 40 = .ok (.ifCond .eq 18, 3) := by decide +kernel
theorem dX11_followChain_43 : decode cX11_followChain 43 = .ok (.iload_n 2, 1) := by decide +kernel
theorem dX11_followChain_44 : decode cX11_followChain 44 = .ok (.sipush 9999, 3) := by decide +kernel
theorem dX11_followChain_47 : decode cX11_followChain 47 = .ok (.if_icmp .gt 11, 3) := by decide +kernel
theorem dX11_followChain_50 : decode cX11_followChain 50 = .ok (.aload_n 0, 1) := by decide +kernel
theorem dX11_followChain_51 : decode cX11_followChain 51 = .ok (.iload_n 2, 1) := by decide +kernel
theorem dX11_followChain_52 : decode cX11_followChain 52 = .ok (.invokevirtual 299, 3) := by decide +kernel
theorem dX11_followChain_55 : decode cX11_followChain 55 = .ok (.ifCond .eq 7, 3) := by decide +kernel
theorem dX11_followChain_58 : decode cX11_followChain 58 = .ok (.iconst 1, 1) := by decide +kernel
theorem dX11_followChain_59 : decode cX11_followChain 59 = .ok (.goto 4, 3) := by decide +kernel
theorem dX11_followChain_62 : decode cX11_followChain 62 = .ok (.iconst 0, 1) := by decide +kernel
theorem dX11_followChain_63 : decode cX11_followChain 63 = .ok (.istore_n 3, 1) := by decide +kernel
theorem dX11_followChain_64 : decode cX11_followChain 64 = .ok (.aload_n 0, 1) := by decide +kernel
theorem dX11_followChain_65 : decode cX11_followChain 65 = .ok (.getfield 63, 3) := by decide +kernel
theorem dX11_followChain_68 : decode cX11_followChain 68 = .ok (.iload 4, 2) := by decide +kernel
theorem dX11_followChain_70 : decode cX11_followChain 70 = .ok (.iload_n 2, 1) := by decide +kernel
theorem dX11_followChain_71 : decode cX11_followChain 71 = .ok (.iastore, 1) := by decide +kernel
theorem dX11_followChain_72 : decode cX11_followChain 72 = .ok (.aload_n 0, 1) := by decide +kernel
theorem dX11_followChain_73 : decode cX11_followChain 73 = .ok (.iload 4, 2) := by decide +kernel
theorem dX11_followChain_75 : decode cX11_followChain 75 = .ok (.iconst 1, 1) := by decide +kernel
theorem dX11_followChain_76 : decode cX11_followChain 76 = .ok (.iadd, 1) := by decide +kernel
theorem dX11_followChain_77 : decode cX11_followChain 77 = .ok (.putfield 200, 3) := by decide +kernel
theorem dX11_followChain_80 : decode cX11_followChain 80 = .ok (.iinc 4 1, 3) := by decide +kernel
theorem dX11_followChain_83 : decode cX11_followChain 83 = .ok (.goto (-64), 3) := by decide +kernel
theorem dX11_followChain_86 : decode cX11_followChain 86 = .ok (.iload_n 2, 1) := by decide +kernel
theorem dX11_followChain_87 : decode cX11_followChain 87 = .ok (.ireturn, 1) := by decide +kernel
theorem dX11_isLink_0 : decode cX11_isLink 0 = .ok (.iconst 0, 1) := by decide +kernel
theorem dX11_isLink_1 : decode cX11_isLink 1 = .ok (.istore_n 2, 1) := by decide +kernel
theorem dX11_isLink_2 : decode cX11_isLink 2 = .ok (.iload_n 2, 1) := by decide +kernel
theorem dX11_isLink_3 : decode cX11_isLink 3 = .ok (.aload_n 0, 1) := by decide +kernel
theorem dX11_isLink_4 : decode cX11_isLink 4 = .ok (.getfield 200, 3) := by decide +kernel
theorem dX11_isLink_7 : decode cX11_isLink 7 = .ok (.if_icmp .ge 30, 3) := by decide +kernel
theorem dX11_isLink_10 : decode cX11_isLink 10 = .ok (.iload_n 2, 1) := by decide +kernel
theorem dX11_isLink_11 : decode cX11_isLink 11 = .ok (.aload_n 0, 1) := by decide +kernel
theorem dX11_isLink_12 : decode cX11_isLink 12 = .ok (.getfield 63, 3) := by decide +kernel
theorem dX11_isLink_15 : decode cX11_isLink 15 = .ok (.arraylength, 1) := by decide +kernel
theorem dX11_isLink_16 : decode cX11_isLink 16 = .ok (.if_icmp .ge 21, 3) := by decide +kernel
theorem dX11_isLink_19 : decode cX11_isLink 19 = .ok (.aload_n 0, 1) := by decide +kernel
theorem dX11_isLink_20 : decode cX11_isLink 20 = .ok (.getfield 63, 3) := by decide +kernel
theorem dX11_isLink_23 : decode cX11_isLink 23 = .ok (.iload_n 2, 1) := by decide +kernel
theorem dX11_isLink_24 : decode cX11_isLink 24 = .ok (.iaload, 1) := by decide +kernel
theorem dX11_isLink_25 : decode cX11_isLink 25 = .ok (.iload_n 1, 1) := by decide +kernel
theorem dX11_isLink_26 : decode cX11_isLink 26 = .ok (.if_icmp .ne 5, 3) := by decide +kernel
theorem dX11_isLink_29 : decode cX11_isLink 29 = .ok (.iconst 1, 1) := by decide +kernel
theorem dX11_isLink_30 : decode cX11_isLink 30 = .ok (.ireturn, 1) := by decide +kernel
theorem dX11_isLink_31 : decode cX11_isLink 31 = .ok (.iinc 2 1, 3) := by decide +kernel
theorem dX11_isLink_34 : decode cX11_isLink 34 = .ok (.goto (-32), 3) := by decide +kernel
theorem dX11_isLink_37 : decode cX11_isLink 37 = .ok (.iconst 0, 1) := by decide +kernel
theorem dX11_isLink_38 : decode cX11_isLink 38 = .ok (.ireturn, 1) := by decide +kernel
theorem dX11_firstShared_0 : decode cX11_firstShared 0 = .ok (.iload_n 0, 1) := by decide +kernel
theorem dX11_firstShared_1 : decode cX11_firstShared 1 = .ok (.istore 4, 2) := by decide +kernel
theorem dX11_firstShared_3 : decode cX11_firstShared 3 = .ok (.iconst 0, 1) := by decide +kernel
theorem dX11_firstShared_4 : decode cX11_firstShared 4 = .ok (.istore 5, 2) := by decide +kernel
theorem dX11_firstShared_6 : decode cX11_firstShared 6 = .ok (.iload 5, 2) := by decide +kernel
theorem dX11_firstShared_8 : decode cX11_firstShared 8 = .ok (.ldc 211, 2) := by decide +kernel
theorem dX11_firstShared_10 : decode cX11_firstShared 10 = .ok (.if_icmp .gt 32, 3) := by decide +kernel
theorem dX11_firstShared_13 : decode cX11_firstShared 13 = .ok (.iload 4, 2) := by decide +kernel
theorem dX11_firstShared_15 : decode cX11_firstShared 15 = .ok (.ldc 211, 2) := by decide +kernel
theorem dX11_firstShared_17 : decode cX11_firstShared 17 = .ok (.if_icmp .gt 25, 3) := by decide +kernel
theorem dX11_firstShared_20 : decode cX11_firstShared 20 = .ok (.iload 4, 2) := by decide +kernel
theorem dX11_firstShared_22 : decode cX11_firstShared 22 = .ok (.iload_n 2, 1) := by decide +kernel
theorem dX11_firstShared_23 : decode cX11_firstShared 23 = .ok (.iload_n 3, 1) := by decide +kernel
theorem dX11_firstShared_24 : decode cX11_firstShared 24 = .ok (.invokestatic 302, 3) := by decide +kernel
theorem dX11_firstShared_27 : decode cX11_firstShared 27 = .ok (.ifCond .ne 15, 3) := by decide +kernel
theorem dX11_firstShared_30 : decode cX11_firstShared 30 = .ok (.iload 4, 2) := by decide +kernel
theorem dX11_firstShared_32 : decode cX11_firstShared 32 = .ok (.iload_n 1, 1) := by decide +kernel
theorem dX11_firstShared_33 : decode cX11_firstShared 33 = .ok (.iadd, 1) := by decide +kernel
theorem dX11_firstShared_34 : decode cX11_firstShared 34 = .ok (.istore 4, 2) := by decide +kernel
theorem dX11_firstShared_36 : decode cX11_firstShared 36 = .ok (.iinc 5 1, 3) := by decide +kernel
theorem dX11_firstShared_39 : decode cX11_firstShared 39 = .ok (.goto (-33), 3) := by decide +kernel
theorem dX11_firstShared_42 : decode cX11_firstShared 42 = .ok (.iload 4, 2) := by decide +kernel
theorem dX11_firstShared_44 : decode cX11_firstShared 44 = .ok (.ireturn, 1) := by decide +kernel
theorem dX11_isThere_0 : decode cX11_isThere 0 = .ok (.iload_n 0, 1) := by decide +kernel
theorem dX11_isThere_1 : decode cX11_isThere 1 = .ok (.iload_n 1, 1) := by decide +kernel
theorem dX11_isThere_2 : decode cX11_isThere 2 = .ok (.if_icmp .lt 19, 3) := by decide +kernel
theorem dX11_isThere_5 : decode cX11_isThere 5 = .ok (.iload_n 2, 1) := by decide +kernel
theorem dX11_isThere_6 : decode cX11_isThere 6 = .ok (.ifCond .le 15, 3) := by decide +kernel
theorem dX11_isThere_9 : decode cX11_isThere 9 = .ok (.iload_n 0, 1) := by decide +kernel
theorem dX11_isThere_10 : decode cX11_isThere 10 = .ok (.iload_n 1, 1) := by decide +kernel
theorem dX11_isThere_11 : decode cX11_isThere 11 = .ok (.isub, 1) := by decide +kernel
theorem dX11_isThere_12 : decode cX11_isThere 12 = .ok (.iload_n 2, 1) := by decide +kernel
theorem dX11_isThere_13 : decode cX11_isThere 13 = .ok (.irem, 1) := by decide +kernel
theorem dX11_isThere_14 : decode cX11_isThere 14 = .ok (.ifCond .ne 7, 3) := by decide +kernel
theorem dX11_isThere_17 : decode cX11_isThere 17 = .ok (.iconst 1, 1) := by decide +kernel
theorem dX11_isThere_18 : decode cX11_isThere 18 = .ok (.goto 4, 3) := by decide +kernel
theorem dX11_isThere_21 : decode cX11_isThere 21 = .ok (.iconst 0, 1) := by decide +kernel
theorem dX11_isThere_22 : decode cX11_isThere 22 = .ok (.ireturn, 1) := by decide +kernel
theorem dX11_sharedStep_0 : decode cX11_sharedStep 0 = .ok (.iload_n 0, 1) := by decide +kernel
theorem dX11_sharedStep_1 : decode cX11_sharedStep 1 = .ok (.i2l, 1) := by decide +kernel
theorem dX11_sharedStep_2 : decode cX11_sharedStep 2 = .ok (.iload_n 1, 1) := by decide +kernel
theorem dX11_sharedStep_3 : decode cX11_sharedStep 3 = .ok (.i2l, 1) := by decide +kernel
theorem dX11_sharedStep_4 : decode cX11_sharedStep 4 = .ok (.invokestatic 253, 3) := by decide +kernel
theorem dX11_sharedStep_7 : decode cX11_sharedStep 7 = .ok (.lstore_n 2, 1) := by decide +kernel
theorem dX11_sharedStep_8 : decode cX11_sharedStep 8 = .ok (.lload_n 2, 1) := by decide +kernel
theorem dX11_sharedStep_9 : decode cX11_sharedStep 9 = .ok (.lconst 1, 1) := by decide +kernel
theorem dX11_sharedStep_10 : decode cX11_sharedStep 10 = .ok (.lcmp, 1) := by decide +kernel
theorem dX11_sharedStep_11 : decode cX11_sharedStep 11 = .ok (.ifCond .ge 5, 3) := by decide +kernel
theorem dX11_sharedStep_14 : decode cX11_sharedStep 14 = .ok (.iload_n 0, 1) := by decide +kernel
theorem dX11_sharedStep_15 : decode cX11_sharedStep 15 = .ok (.ireturn, 1) := by decide +kernel
theorem dX11_sharedStep_16 : decode cX11_sharedStep 16 = .ok (.iload_n 0, 1) := by decide +kernel
theorem dX11_sharedStep_17 : decode cX11_sharedStep 17 = .ok (.i2l, 1) := by decide +kernel
theorem dX11_sharedStep_18 : decode cX11_sharedStep 18 = .ok (.lload_n 2, 1) := by decide +kernel
theorem dX11_sharedStep_19 : decode cX11_sharedStep 19 = .ok (.ldiv, 1) := by decide +kernel
theorem dX11_sharedStep_20 : decode cX11_sharedStep 20 = .ok (.iload_n 1, 1) := by decide +kernel
theorem dX11_sharedStep_21 : decode cX11_sharedStep 21 = .ok (.i2l, 1) := by decide +kernel
theorem dX11_sharedStep_22 : decode cX11_sharedStep 22 = .ok (.lmul, 1) := by decide +kernel
theorem dX11_sharedStep_23 : decode cX11_sharedStep 23 = .ok (.ldc2_w 305, 3) := by decide +kernel
theorem dX11_sharedStep_26 : decode cX11_sharedStep 26 = .ok (.invokestatic 307, 3) := by decide +kernel
theorem dX11_sharedStep_29 : decode cX11_sharedStep 29 = .ok (.l2i, 1) := by decide +kernel
theorem dX11_sharedStep_30 : decode cX11_sharedStep 30 = .ok (.ireturn, 1) := by decide +kernel
theorem dX11_waitFrom_0 : decode cX11_waitFrom 0 = .ok (.iload_n 0, 1) := by decide +kernel
theorem dX11_waitFrom_1 : decode cX11_waitFrom 1 = .ok (.iload_n 1, 1) := by decide +kernel
theorem dX11_waitFrom_2 : decode cX11_waitFrom 2 = .ok (.if_icmp .le 8, 3) := by decide +kernel
theorem dX11_waitFrom_5 : decode cX11_waitFrom 5 = .ok (.iload_n 2, 1) := by decide +kernel
theorem dX11_waitFrom_6 : decode cX11_waitFrom 6 = .ok (.iconst 1, 1) := by decide +kernel
theorem dX11_waitFrom_7 : decode cX11_waitFrom 7 = .ok (.if_icmp .ge 7, 3) := by decide +kernel
theorem dX11_waitFrom_10 : decode cX11_waitFrom 10 = .ok (.iload_n 1, 1) := by decide +kernel
theorem dX11_waitFrom_11 : decode cX11_waitFrom 11 = .ok (.iload_n 0, 1) := by decide +kernel
theorem dX11_waitFrom_12 : decode cX11_waitFrom 12 = .ok (.isub, 1) := by decide +kernel
theorem dX11_waitFrom_13 : decode cX11_waitFrom 13 = .ok (.ireturn, 1) := by decide +kernel
theorem dX11_waitFrom_14 : decode cX11_waitFrom 14 = .ok (.iload_n 0, 1) := by decide +kernel
theorem dX11_waitFrom_15 : decode cX11_waitFrom 15 = .ok (.iload_n 1, 1) := by decide +kernel
theorem dX11_waitFrom_16 : decode cX11_waitFrom 16 = .ok (.isub, 1) := by decide +kernel
theorem dX11_waitFrom_17 : decode cX11_waitFrom 17 = .ok (.iload_n 2, 1) := by decide +kernel
theorem dX11_waitFrom_18 : decode cX11_waitFrom 18 = .ok (.irem, 1) := by decide +kernel
theorem dX11_waitFrom_19 : decode cX11_waitFrom 19 = .ok (.istore_n 3, 1) := by decide +kernel
theorem dX11_waitFrom_20 : decode cX11_waitFrom 20 = .ok (.iload_n 3, 1) := by decide +kernel
theorem dX11_waitFrom_21 : decode cX11_waitFrom 21 = .ok (.ifCond .ne 7, 3) := by decide +kernel
theorem dX11_waitFrom_24 : decode cX11_waitFrom 24 = .ok (.iconst 0, 1) := by decide +kernel
theorem dX11_waitFrom_25 : decode cX11_waitFrom 25 = .ok (.goto 6, 3) := by decide +kernel
theorem dX11_waitFrom_28 : decode cX11_waitFrom 28 = .ok (.iload_n 2, 1) := by decide +kernel
theorem dX11_waitFrom_29 : decode cX11_waitFrom 29 = .ok (.iload_n 3, 1) := by decide +kernel
theorem dX11_waitFrom_30 : decode cX11_waitFrom 30 = .ok (.isub, 1) := by decide +kernel
theorem dX11_waitFrom_31 : decode cX11_waitFrom 31 = .ok (.ireturn, 1) := by decide +kernel
theorem dX11_commonDivisor_0 : decode cX11_commonDivisor 0 = .ok (.lload_n 0, 1) := by decide +kernel
theorem dX11_commonDivisor_1 : decode cX11_commonDivisor 1 = .ok (.lstore 4, 2) := by decide +kernel
theorem dX11_commonDivisor_3 : decode cX11_commonDivisor 3 = .ok (.lload_n 2, 1) := by decide +kernel
theorem dX11_commonDivisor_4 : decode cX11_commonDivisor 4 = .ok (.lstore 6, 2) := by decide +kernel
theorem dX11_commonDivisor_6 : decode cX11_commonDivisor 6 = .ok (.iconst 0, 1) := by decide +kernel
theorem dX11_commonDivisor_7 : decode cX11_commonDivisor 7 = .ok (.istore 8, 2) := by decide +kernel
theorem dX11_commonDivisor_9 : decode cX11_commonDivisor 9 = .ok (.iload 8, 2) := by decide +kernel
theorem dX11_commonDivisor_11 : decode cX11_commonDivisor 11 = .ok (.bipush 100, 2) := by decide +kernel
theorem dX11_commonDivisor_13 : decode cX11_commonDivisor 13 = .ok (.if_icmp .ge 31, 3) := by decide +kernel
theorem dX11_commonDivisor_16 : decode cX11_commonDivisor 16 = .ok (.lload 6, 2) := by decide +kernel
theorem dX11_commonDivisor_18 : decode cX11_commonDivisor 18 = .ok (.lconst 0, 1) := by decide +kernel
theorem dX11_commonDivisor_19 : decode cX11_commonDivisor 19 = .ok (.lcmp, 1) := by decide +kernel
theorem dX11_commonDivisor_20 : decode cX11_commonDivisor 20 = .ok (.ifCond .eq 24, 3) := by decide +kernel
theorem dX11_commonDivisor_23 : decode cX11_commonDivisor 23 = .ok (.lload 4, 2) := by decide +kernel
theorem dX11_commonDivisor_25 : decode cX11_commonDivisor 25 = .ok (.lload 6, 2) := by decide +kernel
theorem dX11_commonDivisor_27 : decode cX11_commonDivisor 27 = .ok (.lrem, 1) := by decide +kernel
theorem dX11_commonDivisor_28 : decode cX11_commonDivisor 28 = .ok (.lstore 9, 2) := by decide +kernel
theorem dX11_commonDivisor_30 : decode cX11_commonDivisor 30 = .ok (.lload 6, 2) := by decide +kernel
theorem dX11_commonDivisor_32 : decode cX11_commonDivisor 32 = .ok (.lstore 4, 2) := by decide +kernel
theorem dX11_commonDivisor_34 : decode cX11_commonDivisor 34 = .ok (.lload 9, 2) := by decide +kernel
theorem dX11_commonDivisor_36 : decode cX11_commonDivisor 36 = .ok (.lstore 6, 2) := by decide +kernel
theorem dX11_commonDivisor_38 : decode cX11_commonDivisor 38 = .ok (.iinc 8 1, 3) := by decide +kernel
theorem dX11_commonDivisor_41 : decode cX11_commonDivisor 41 = .ok (.goto (-32), 3) := by decide +kernel
theorem dX11_commonDivisor_44 : decode cX11_commonDivisor 44 = .ok (.lload 4, 2) := by decide +kernel
theorem dX11_commonDivisor_46 : decode cX11_commonDivisor 46 = .ok (.lreturn, 1) := by decide +kernel
theorem dX11_gatherFits_0 : decode cX11_gatherFits 0 = .ok (.iconst 0, 1) := by decide +kernel
theorem dX11_gatherFits_1 : decode cX11_gatherFits 1 = .ok (.istore_n 1, 1) := by decide +kernel
theorem dX11_gatherFits_2 : decode cX11_gatherFits 2 = .ok (.iconst 1, 1) := by decide +kernel
theorem dX11_gatherFits_3 : decode cX11_gatherFits 3 = .ok (.istore_n 2, 1) := by decide +kernel
theorem dX11_gatherFits_4 : decode cX11_gatherFits 4 = .ok (.iload_n 2, 1) := by decide +kernel
theorem dX11_gatherFits_5 : decode cX11_gatherFits 5 = .ok (.sipush 300, 3) := by decide +kernel
theorem dX11_gatherFits_8 : decode cX11_gatherFits 8 = .ok (.if_icmp .gt 36, 3) := by decide +kernel
theorem dX11_gatherFits_11 : decode cX11_gatherFits 11 = .ok (.aload_n 0, 1) := by decide +kernel
theorem dX11_gatherFits_12 : decode cX11_gatherFits 12 = .ok (.iload_n 2, 1) := by decide +kernel
theorem dX11_gatherFits_13 : decode cX11_gatherFits 13 = .ok (.invokevirtual 309, 3) := by decide +kernel
theorem dX11_gatherFits_16 : decode cX11_gatherFits 16 = .ok (.ifCond .eq 22, 3) := by decide +kernel
theorem dX11_gatherFits_19 : decode cX11_gatherFits 19 = .ok (.iload_n 1, 1) := by decide +kernel
theorem dX11_gatherFits_20 : decode cX11_gatherFits 20 = .ok (.aload_n 0, 1) := by decide +kernel
theorem dX11_gatherFits_21 : decode cX11_gatherFits 21 = .ok (.getfield 60, 3) := by decide +kernel
theorem dX11_gatherFits_24 : decode cX11_gatherFits 24 = .ok (.arraylength, 1) := by decide +kernel
theorem dX11_gatherFits_25 : decode cX11_gatherFits 25 = .ok (.if_icmp .ge 13, 3) := by decide +kernel
theorem dX11_gatherFits_28 : decode cX11_gatherFits 28 = .ok (.aload_n 0, 1) := by decide +kernel
theorem dX11_gatherFits_29 : decode cX11_gatherFits 29 = .ok (.getfield 60, 3) := by decide +kernel
theorem dX11_gatherFits_32 : decode cX11_gatherFits 32 = .ok (.iload_n 1, 1) := by decide +kernel
theorem dX11_gatherFits_33 : decode cX11_gatherFits 33 = .ok (.iload_n 2, 1) := by decide +kernel
theorem dX11_gatherFits_34 : decode cX11_gatherFits 34 = .ok (.iastore, 1) := by decide +kernel
theorem dX11_gatherFits_35 : decode cX11_gatherFits 35 = .ok (.iinc 1 1, 3) := by decide +kernel
theorem dX11_gatherFits_38 : decode cX11_gatherFits 38 = .ok (.iinc 2 1, 3) := by decide +kernel
theorem dX11_gatherFits_41 : decode cX11_gatherFits 41 = .ok (.goto (-37), 3) := by decide +kernel
theorem dX11_gatherFits_44 : decode cX11_gatherFits 44 = .ok (.iload_n 1, 1) := by decide +kernel
theorem dX11_gatherFits_45 : decode cX11_gatherFits 45 = .ok (.ireturn, 1) := by decide +kernel
theorem dX11_agreesWithReadings_0 : decode cX11_agreesWithReadings 0 = .ok (.iconst 0, 1) := by decide +kernel
theorem dX11_agreesWithReadings_1 : decode cX11_agreesWithReadings 1 = .ok (.istore_n 2, 1) := by decide +kernel
theorem dX11_agreesWithReadings_2 : decode cX11_agreesWithReadings 2 = .ok (.iload_n 2, 1) := by decide +kernel
theorem dX11_agreesWithReadings_3 : decode cX11_agreesWithReadings 3 = .ok (.aload_n 0, 1) := by decide +kernel
theorem dX11_agreesWithReadings_4 : decode cX11_agreesWithReadings 4 = .ok (.getfield 44, 3) := by decide +kernel
theorem dX11_agreesWithReadings_7 : decode cX11_agreesWithReadings 7 = .ok (.getfield 221, 3) := by decide +kernel
theorem dX11_agreesWithReadings_10 : decode cX11_agreesWithReadings 10 = .ok (.if_icmp .ge 70, 3) := by decide +kernel
theorem dX11_agreesWithReadings_13 : decode cX11_agreesWithReadings 13 = .ok (.iload_n 2, 1) := by decide +kernel
theorem dX11_agreesWithReadings_14 : decode cX11_agreesWithReadings 14 = .ok (.bipush 8, 2) := by decide +kernel
theorem dX11_agreesWithReadings_16 : decode cX11_agreesWithReadings 16 = .ok (.if_icmp .ge 64, 3) := by decide +kernel
theorem dX11_agreesWithReadings_19 : decode cX11_agreesWithReadings 19 = .ok (.aload_n 0, 1) := by decide +kernel
theorem dX11_agreesWithReadings_20 : decode cX11_agreesWithReadings 20 = .ok (.getfield 21, 3) := by decide +kernel
theorem dX11_agreesWithReadings_23 : decode cX11_agreesWithReadings 23 = .ok (.aload_n 0, 1) := by decide +kernel
theorem dX11_agreesWithReadings_24 : decode cX11_agreesWithReadings 24 = .ok (.getfield 44, 3) := by decide +kernel
theorem dX11_agreesWithReadings_27 : decode cX11_agreesWithReadings 27 = .ok (.getfield 293, 3) := by decide +kernel
theorem dX11_agreesWithReadings_30 : decode cX11_agreesWithReadings 30 = .ok (.iconst 3, 1) := by decide +kernel
theorem dX11_agreesWithReadings_31 : decode cX11_agreesWithReadings 31 = .ok (.iload_n 2, 1) := by decide +kernel
theorem dX11_agreesWithReadings_32 : decode cX11_agreesWithReadings 32 = .ok (.imul, 1) := by decide +kernel
theorem dX11_agreesWithReadings_33 : decode cX11_agreesWithReadings 33 = .ok (.iconst 2, 1) := by decide +kernel
theorem dX11_agreesWithReadings_34 : decode cX11_agreesWithReadings 34 = .ok (.iadd, 1) := by decide +kernel
theorem dX11_agreesWithReadings_35 : decode cX11_agreesWithReadings 35 = .ok (.iaload, 1) := by decide +kernel
theorem dX11_agreesWithReadings_36 : decode cX11_agreesWithReadings 36 = .ok (.iload_n 1, 1) := by decide +kernel
theorem dX11_agreesWithReadings_37 : decode cX11_agreesWithReadings 37 = .ok (.aload_n 0, 1) := by decide +kernel
theorem dX11_agreesWithReadings_38 : decode cX11_agreesWithReadings 38 = .ok (.getfield 44, 3) := by decide +kernel
theorem dX11_agreesWithReadings_41 : decode cX11_agreesWithReadings 41 = .ok (.getfield 293, 3) := by decide +kernel
theorem dX11_agreesWithReadings_44 : decode cX11_agreesWithReadings 44 = .ok (.iconst 3, 1) := by decide +kernel
theorem dX11_agreesWithReadings_45 : decode cX11_agreesWithReadings 45 = .ok (.iload_n 2, 1) := by decide +kernel
theorem dX11_agreesWithReadings_46 : decode cX11_agreesWithReadings 46 = .ok (.imul, 1) := by decide +kernel
theorem dX11_agreesWithReadings_47 : decode cX11_agreesWithReadings 47 = .ok (.iaload, 1) := by decide +kernel
theorem dX11_agreesWithReadings_48 : decode cX11_agreesWithReadings 48 = .ok (.invokevirtual 156, 3) := by decide +kernel
theorem dX11_agreesWithReadings_51 : decode cX11_agreesWithReadings 51 = .ok (.istore_n 3, 1) := by decide +kernel
theorem dX11_agreesWithReadings_52 : decode cX11_agreesWithReadings 52 = .ok (.iload_n 3, 1) := by decide +kernel
theorem dX11_agreesWithReadings_53 : decode cX11_agreesWithReadings 53 = .ok (.invokestatic 139, 3) := by decide +kernel
theorem dX11_agreesWithReadings_56 : decode cX11_agreesWithReadings 56 = .ok (.aload_n 0, 1) := by decide +kernel
theorem dX11_agreesWithReadings_57 : decode cX11_agreesWithReadings 57 = .ok (.getfield 44, 3) := by decide +kernel
theorem dX11_agreesWithReadings_60 : decode cX11_agreesWithReadings 60 = .ok (.getfield 293, 3) := by decide +kernel
theorem dX11_agreesWithReadings_63 : decode cX11_agreesWithReadings 63 = .ok (.iconst 3, 1) := by decide +kernel
theorem dX11_agreesWithReadings_64 : decode cX11_agreesWithReadings 64 = .ok (.iload_n 2, 1) := by decide +kernel
theorem dX11_agreesWithReadings_65 : decode cX11_agreesWithReadings 65 = .ok (.imul, 1) := by decide +kernel
theorem dX11_agreesWithReadings_66 : decode cX11_agreesWithReadings 66 = .ok (.iconst 1, 1) := by decide +kernel
theorem dX11_agreesWithReadings_67 : decode cX11_agreesWithReadings 67 = .ok (.iadd, 1) := by decide +kernel
theorem dX11_agreesWithReadings_68 : decode cX11_agreesWithReadings 68 = .ok (.iaload, 1) := by decide +kernel
theorem dX11_agreesWithReadings_69 : decode cX11_agreesWithReadings 69 = .ok (.if_icmp .eq 5, 3) := by decide +kernel
theorem dX11_agreesWithReadings_72 : decode cX11_agreesWithReadings 72 = .ok (.iconst 0, 1) := by decide +kernel
theorem dX11_agreesWithReadings_73 : decode cX11_agreesWithReadings 73 = .ok (.ireturn, 1) := by decide +kernel
theorem dX11_agreesWithReadings_74 : decode cX11_agreesWithReadings 74 = .ok (.iinc 2 1, 3) := by decide +kernel
theorem dX11_agreesWithReadings_77 : decode cX11_agreesWithReadings 77 = .ok (.goto (-75), 3) := by decide +kernel
theorem dX11_agreesWithReadings_80 : decode cX11_agreesWithReadings 80 = .ok (.iconst 1, 1) := by decide +kernel
theorem dX11_agreesWithReadings_81 : decode cX11_agreesWithReadings 81 = .ok (.ireturn, 1) := by decide +kernel
theorem dX11_greaterPart_0 : decode cX11_greaterPart 0 = .ok (.iconst 0, 1) := by decide +kernel
theorem dX11_greaterPart_1 : decode cX11_greaterPart 1 = .ok (.istore 4, 2) := by decide +kernel
theorem dX11_greaterPart_3 : decode cX11_greaterPart 3 = .ok (.iconst 0, 1) := by decide +kernel
theorem dX11_greaterPart_4 : decode cX11_greaterPart 4 = .ok (.istore 5, 2) := by decide +kernel
theorem dX11_greaterPart_6 : decode cX11_greaterPart 6 = .ok (.iconst 0, 1) := by decide +kernel
theorem dX11_greaterPart_7 : decode cX11_greaterPart 7 = .ok (.istore 6, 2) := by decide +kernel
theorem dX11_greaterPart_9 : decode cX11_greaterPart 9 = .ok (.iload 6, 2) := by decide +kernel
theorem dX11_greaterPart_11 : decode cX11_greaterPart 11 = .ok (.iload_n 2, 1) := by decide +kernel
theorem dX11_greaterPart_12 : decode cX11_greaterPart 12 = .ok (.if_icmp .ge 65, 3) := by decide +kernel
theorem dX11_greaterPart_15 : decode cX11_greaterPart 15 = .ok (.iload 6, 2) := by decide +kernel
theorem dX11_greaterPart_17 : decode cX11_greaterPart 17 = .ok (.aload_n 0, 1) := by decide +kernel
theorem dX11_greaterPart_18 : decode cX11_greaterPart 18 = .ok (.getfield 60, 3) := by decide +kernel
theorem dX11_greaterPart_21 : decode cX11_greaterPart 21 = .ok (.arraylength, 1) := by decide +kernel
theorem dX11_greaterPart_22 : decode cX11_greaterPart 22 = .ok (.if_icmp .ge 55, 3) := by decide +kernel
theorem dX11_greaterPart_25 : decode cX11_greaterPart 25 = .ok (.iload 4, 2) := by decide +kernel
theorem dX11_greaterPart_27 : decode cX11_greaterPart 27 = .ok (.iload_n 3, 1) := by decide +kernel
theorem dX11_greaterPart_28 : decode cX11_greaterPart 28 = .ok (.if_icmp .ge 49, 3) := by decide +kernel
theorem dX11_greaterPart_31 : decode cX11_greaterPart 31 = .ok (.iload 5, 2) := by decide +kernel
theorem dX11_greaterPart_33 : decode cX11_greaterPart 33 = .ok (.iload_n 3, 1) := by decide +kernel
theorem dX11_greaterPart_34 : decode cX11_greaterPart 34 = .ok (.if_icmp .ge 43, 3) := by decide +kernel
theorem dX11_greaterPart_37 : decode cX11_greaterPart 37 = .ok (.aload_n 0, 1) := by decide +kernel
theorem dX11_greaterPart_38 : decode cX11_greaterPart 38 = .ok (.getfield 21, 3) := by decide +kernel
theorem dX11_greaterPart_41 : decode cX11_greaterPart 41 = .ok (.aload_n 0, 1) := by decide +kernel
theorem dX11_greaterPart_42 : decode cX11_greaterPart 42 = .ok (.getfield 44, 3) := by decide +kernel
theorem dX11_greaterPart_45 : decode cX11_greaterPart 45 = .ok (.getfield 85, 3) := by decide +kernel
theorem dX11_greaterPart_48 : decode cX11_greaterPart 48 = .ok (.iload_n 1, 1) := by decide +kernel
theorem dX11_greaterPart_49 : decode cX11_greaterPart 49 = .ok (.aload_n 0, 1) := by decide +kernel
theorem dX11_greaterPart_50 : decode cX11_greaterPart 50 = .ok (.getfield 60, 3) := by decide +kernel
theorem dX11_greaterPart_53 : decode cX11_greaterPart 53 = .ok (.iload 6, 2) := by decide +kernel
theorem dX11_greaterPart_55 : decode cX11_greaterPart 55 = .ok (.iaload, 1) := by decide +kernel
theorem dX11_greaterPart_56 : decode cX11_greaterPart 56 = .ok (.invokevirtual 156, 3) := by decide +kernel
theorem dX11_greaterPart_59 : decode cX11_greaterPart 59 = .ok (.ifCond .eq 9, 3) := by decide +kernel
theorem dX11_greaterPart_62 : decode cX11_greaterPart 62 = .ok (.iinc 4 1, 3) := by decide +kernel
theorem dX11_greaterPart_65 : decode cX11_greaterPart 65 = .ok (.goto 6, 3) := by decide +kernel
theorem dX11_greaterPart_68 : decode cX11_greaterPart 68 = .ok (.iinc 5 1, 3) := by decide +kernel
theorem dX11_greaterPart_71 : decode cX11_greaterPart 71 = .ok (.iinc 6 1, 3) := by decide +kernel
theorem dX11_greaterPart_74 : decode cX11_greaterPart 74 = .ok (.goto (-65), 3) := by decide +kernel
theorem dX11_greaterPart_77 : decode cX11_greaterPart 77 = .ok (.iload 4, 2) := by decide +kernel
theorem dX11_greaterPart_79 : decode cX11_greaterPart 79 = .ok (.iload 5, 2) := by decide +kernel
theorem dX11_greaterPart_81 : decode cX11_greaterPart 81 = .ok (.invokestatic 312, 3) := by decide +kernel
theorem dX11_greaterPart_84 : decode cX11_greaterPart 84 = .ok (.ireturn, 1) := by decide +kernel
theorem dX11_agreesWithNotes_0 : decode cX11_agreesWithNotes 0 = .ok (.iconst 0, 1) := by decide +kernel
theorem dX11_agreesWithNotes_1 : decode cX11_agreesWithNotes 1 = .ok (.istore_n 2, 1) := by decide +kernel
theorem dX11_agreesWithNotes_2 : decode cX11_agreesWithNotes 2 = .ok (.iload_n 2, 1) := by decide +kernel
theorem dX11_agreesWithNotes_3 : decode cX11_agreesWithNotes 3 = .ok (.aload_n 0, 1) := by decide +kernel
theorem dX11_agreesWithNotes_4 : decode cX11_agreesWithNotes 4 = .ok (.getfield 44, 3) := by decide +kernel
theorem dX11_agreesWithNotes_7 : decode cX11_agreesWithNotes 7 = .ok (.getfield 234, 3) := by decide +kernel
theorem dX11_agreesWithNotes_10 : decode cX11_agreesWithNotes 10 = .ok (.if_icmp .ge 70, 3) := by decide +kernel
theorem dX11_agreesWithNotes_13 : decode cX11_agreesWithNotes 13 = .ok (.iload_n 2, 1) := by decide +kernel
theorem dX11_agreesWithNotes_14 : decode cX11_agreesWithNotes 14 = .ok (.bipush 8, 2) := by decide +kernel
theorem dX11_agreesWithNotes_16 : decode cX11_agreesWithNotes 16 = .ok (.if_icmp .ge 64, 3) := by decide +kernel
theorem dX11_agreesWithNotes_19 : decode cX11_agreesWithNotes 19 = .ok (.aload_n 0, 1) := by decide +kernel
theorem dX11_agreesWithNotes_20 : decode cX11_agreesWithNotes 20 = .ok (.getfield 21, 3) := by decide +kernel
theorem dX11_agreesWithNotes_23 : decode cX11_agreesWithNotes 23 = .ok (.iload_n 1, 1) := by decide +kernel
theorem dX11_agreesWithNotes_24 : decode cX11_agreesWithNotes 24 = .ok (.aload_n 0, 1) := by decide +kernel
theorem dX11_agreesWithNotes_25 : decode cX11_agreesWithNotes 25 = .ok (.getfield 44, 3) := by decide +kernel
theorem dX11_agreesWithNotes_28 : decode cX11_agreesWithNotes 28 = .ok (.getfield 296, 3) := by decide +kernel
theorem dX11_agreesWithNotes_31 : decode cX11_agreesWithNotes 31 = .ok (.iconst 3, 1) := by decide +kernel
theorem dX11_agreesWithNotes_32 : decode cX11_agreesWithNotes 32 = .ok (.iload_n 2, 1) := by decide +kernel
theorem dX11_agreesWithNotes_33 : decode cX11_agreesWithNotes 33 = .ok (.imul, 1) := by decide +kernel
theorem dX11_agreesWithNotes_34 : decode cX11_agreesWithNotes 34 = .ok (.iaload, 1) := by decide +kernel
theorem dX11_agreesWithNotes_35 : decode cX11_agreesWithNotes 35 = .ok (.aload_n 0, 1) := by decide +kernel
theorem dX11_agreesWithNotes_36 : decode cX11_agreesWithNotes 36 = .ok (.getfield 44, 3) := by decide +kernel
theorem dX11_agreesWithNotes_39 : decode cX11_agreesWithNotes 39 = .ok (.getfield 296, 3) := by decide +kernel
theorem dX11_agreesWithNotes_42 : decode cX11_agreesWithNotes 42 = .ok (.iconst 3, 1) := by decide +kernel
theorem dX11_agreesWithNotes_43 : decode cX11_agreesWithNotes 43 = .ok (.iload_n 2, 1) := by decide +kernel
theorem dX11_agreesWithNotes_44 : decode cX11_agreesWithNotes 44 = .ok (.imul, 1) := by decide +kernel
theorem dX11_agreesWithNotes_45 : decode cX11_agreesWithNotes 45 = .ok (.iconst 1, 1) := by decide +kernel
theorem dX11_agreesWithNotes_46 : decode cX11_agreesWithNotes 46 = .ok (.iadd, 1) := by decide +kernel
theorem dX11_agreesWithNotes_47 : decode cX11_agreesWithNotes 47 = .ok (.iaload, 1) := by decide +kernel
theorem dX11_agreesWithNotes_48 : decode cX11_agreesWithNotes 48 = .ok (.invokevirtual 156, 3) := by decide +kernel
theorem dX11_agreesWithNotes_51 : decode cX11_agreesWithNotes 51 = .ok (.istore_n 3, 1) := by decide +kernel
theorem dX11_agreesWithNotes_52 : decode cX11_agreesWithNotes 52 = .ok (.iload_n 3, 1) := by decide +kernel
theorem dX11_agreesWithNotes_53 : decode cX11_agreesWithNotes 53 = .ok (.invokestatic 139, 3) := by decide +kernel
theorem dX11_agreesWithNotes_56 : decode cX11_agreesWithNotes 56 = .ok (.aload_n 0, 1) := by decide +kernel
theorem dX11_agreesWithNotes_57 : decode cX11_agreesWithNotes 57 = .ok (.getfield 44, 3) := by decide +kernel
theorem dX11_agreesWithNotes_60 : decode cX11_agreesWithNotes 60 = .ok (.getfield 296, 3) := by decide +kernel
theorem dX11_agreesWithNotes_63 : decode cX11_agreesWithNotes 63 = .ok (.iconst 3, 1) := by decide +kernel
theorem dX11_agreesWithNotes_64 : decode cX11_agreesWithNotes 64 = .ok (.iload_n 2, 1) := by decide +kernel
theorem dX11_agreesWithNotes_65 : decode cX11_agreesWithNotes 65 = .ok (.imul, 1) := by decide +kernel
theorem dX11_agreesWithNotes_66 : decode cX11_agreesWithNotes 66 = .ok (.iconst 2, 1) := by decide +kernel
theorem dX11_agreesWithNotes_67 : decode cX11_agreesWithNotes 67 = .ok (.iadd, 1) := by decide +kernel
theorem dX11_agreesWithNotes_68 : decode cX11_agreesWithNotes 68 = .ok (.iaload, 1) := by decide +kernel
theorem dX11_agreesWithNotes_69 : decode cX11_agreesWithNotes 69 = .ok (.if_icmp .eq 5, 3) := by decide +kernel
theorem dX11_agreesWithNotes_72 : decode cX11_agreesWithNotes 72 = .ok (.iconst 0, 1) := by decide +kernel
theorem dX11_agreesWithNotes_73 : decode cX11_agreesWithNotes 73 = .ok (.ireturn, 1) := by decide +kernel
theorem dX11_agreesWithNotes_74 : decode cX11_agreesWithNotes 74 = .ok (.iinc 2 1, 3) := by decide +kernel
theorem dX11_agreesWithNotes_77 : decode cX11_agreesWithNotes 77 = .ok (.goto (-75), 3) := by decide +kernel
theorem dX11_agreesWithNotes_80 : decode cX11_agreesWithNotes 80 = .ok (.iconst 1, 1) := by decide +kernel
theorem dX11_agreesWithNotes_81 : decode cX11_agreesWithNotes 81 = .ok (.ireturn, 1) := by decide +kernel
theorem dX11_emptyBehind_0 : decode cX11_emptyBehind 0 = .ok (.iconst 1, 1) := by decide +kernel
theorem dX11_emptyBehind_1 : decode cX11_emptyBehind 1 = .ok (.istore_n 2, 1) := by decide +kernel
theorem dX11_emptyBehind_2 : decode cX11_emptyBehind 2 = .ok (.iload_n 2, 1) := by decide +kernel
theorem dX11_emptyBehind_3 : decode cX11_emptyBehind 3 = .ok (.bipush 8, 2) := by decide +kernel
theorem dX11_emptyBehind_5 : decode cX11_emptyBehind 5 = .ok (.if_icmp .ge 51, 3) := by decide +kernel
theorem dX11_emptyBehind_8 : decode cX11_emptyBehind 8 = .ok (.iload_n 1, 1) := by decide +kernel
theorem dX11_emptyBehind_9 : decode cX11_emptyBehind 9 = .ok (.iload_n 2, 1) := by decide +kernel
theorem dX11_emptyBehind_10 : decode cX11_emptyBehind 10 = .ok (.iadd, 1) := by decide +kernel
theorem dX11_emptyBehind_11 : decode cX11_emptyBehind 11 = .ok (.bipush 8, 2) := by decide +kernel
theorem dX11_emptyBehind_13 : decode cX11_emptyBehind 13 = .ok (.if_icmp .ge 9, 3) := by decide +kernel
theorem dX11_emptyBehind_16 : decode cX11_emptyBehind 16 = .ok (.iload_n 1, 1) := by decide +kernel
theorem dX11_emptyBehind_17 : decode cX11_emptyBehind 17 = .ok (.iload_n 2, 1) := by decide +kernel
theorem dX11_emptyBehind_18 : decode cX11_emptyBehind 18 = .ok (.iadd, 1) := by decide +kernel
theorem dX11_emptyBehind_19 : decode cX11_emptyBehind 19 = .ok (.goto 9, 3) := by decide +kernel
theorem dX11_emptyBehind_22 : decode cX11_emptyBehind 22 = .ok (.iload_n 1, 1) := by decide +kernel
theorem dX11_emptyBehind_23 : decode cX11_emptyBehind 23 = .ok (.iload_n 2, 1) := by decide +kernel
theorem dX11_emptyBehind_24 : decode cX11_emptyBehind 24 = .ok (.iadd, 1) := by decide +kernel
theorem dX11_emptyBehind_25 : decode cX11_emptyBehind 25 = .ok (.bipush 8, 2) := by decide +kernel
theorem dX11_emptyBehind_27 : decode cX11_emptyBehind 27 = .ok (.isub, 1) := by decide +kernel
theorem dX11_emptyBehind_28 : decode cX11_emptyBehind 28 = .ok (.istore_n 3, 1) := by decide +kernel
theorem dX11_emptyBehind_29 : decode cX11_emptyBehind 29 = .ok (.iload_n 3, 1) := by decide +kernel
theorem dX11_emptyBehind_30 : decode cX11_emptyBehind 30 = .ok (.invokestatic 92, 3) := by decide +kernel
theorem dX11_emptyBehind_33 : decode cX11_emptyBehind 33 = .ok (.ifCond .eq 17, 3) := by decide +kernel
theorem dX11_emptyBehind_36 : decode cX11_emptyBehind 36 = .ok (.aload_n 0, 1) := by decide +kernel
theorem dX11_emptyBehind_37 : decode cX11_emptyBehind 37 = .ok (.getfield 44, 3) := by decide +kernel
theorem dX11_emptyBehind_40 : decode cX11_emptyBehind 40 = .ok (.getfield 96, 3) := by decide +kernel
theorem dX11_emptyBehind_43 : decode cX11_emptyBehind 43 = .ok (.iload_n 3, 1) := by decide +kernel
theorem dX11_emptyBehind_44 : decode cX11_emptyBehind 44 = .ok (.iaload, 1) := by decide +kernel
theorem dX11_emptyBehind_45 : decode cX11_emptyBehind 45 = .ok (.ifCond .ne 5, 3) := by decide +kernel
theorem dX11_emptyBehind_48 : decode cX11_emptyBehind 48 = .ok (.iload_n 3, 1) := by decide +kernel
theorem dX11_emptyBehind_49 : decode cX11_emptyBehind 49 = .ok (.ireturn, 1) := by decide +kernel
theorem dX11_emptyBehind_50 : decode cX11_emptyBehind 50 = .ok (.iinc 2 1, 3) := by decide +kernel
theorem dX11_emptyBehind_53 : decode cX11_emptyBehind 53 = .ok (.goto (-51), 3) := by decide +kernel
theorem dX11_emptyBehind_56 : decode cX11_emptyBehind 56 = .ok (.iconst (-1), 1) := by decide +kernel
theorem dX11_emptyBehind_57 : decode cX11_emptyBehind 57 = .ok (.ireturn, 1) := by decide +kernel
theorem dX11_fillTrial_0 : decode cX11_fillTrial 0 = .ok (.lload_n 1, 1) := by decide +kernel
theorem dX11_fillTrial_1 : decode cX11_fillTrial 1 = .ok (.lstore_n 3, 1) := by decide +kernel
theorem dX11_fillTrial_2 : decode cX11_fillTrial 2 = .ok (.iconst 0, 1) := by decide +kernel
theorem dX11_fillTrial_3 : decode cX11_fillTrial 3 = .ok (.istore 5, 2) := by decide +kernel
theorem dX11_fillTrial_5 : decode cX11_fillTrial 5 = .ok (.iload 5, 2) := by decide +kernel
theorem dX11_fillTrial_7 : decode cX11_fillTrial 7 = .ok (.bipush 8, 2) := by decide +kernel
theorem dX11_fillTrial_9 : decode cX11_fillTrial 9 = .ok (.if_icmp .ge 40, 3) := by decide +kernel
theorem dX11_fillTrial_12 : decode cX11_fillTrial 12 = .ok (.lload_n 3, 1) := by decide +kernel
theorem dX11_fillTrial_13 : decode cX11_fillTrial 13 = .ok (.ldc2_w 315, 3) := by decide +kernel
theorem dX11_fillTrial_16 : decode cX11_fillTrial 16 = .ok (.lmul, 1) := by decide +kernel
theorem dX11_fillTrial_17 : decode cX11_fillTrial 17 = .ok (.ldc2_w 317, 3) := by decide +kernel
theorem dX11_fillTrial_20 : decode cX11_fillTrial 20 = .ok (.ladd, 1) := by decide +kernel
theorem dX11_fillTrial_21 : decode cX11_fillTrial 21 = .ok (.ldc2_w 319, 3) := by decide +kernel
theorem dX11_fillTrial_24 : decode cX11_fillTrial 24 = .ok (.lrem, 1) := by decide +kernel
theorem dX11_fillTrial_25 : decode cX11_fillTrial 25 = .ok (.lstore_n 3, 1) := by decide +kernel
theorem dX11_fillTrial_26 : decode cX11_fillTrial 26 = .ok (.aload_n 0, 1) := by decide +kernel
theorem dX11_fillTrial_27 : decode cX11_fillTrial 27 = .ok (.getfield 56, 3) := by decide +kernel
theorem dX11_fillTrial_30 : decode cX11_fillTrial 30 = .ok (.iload 5, 2) := by decide +kernel
theorem dX11_fillTrial_32 : decode cX11_fillTrial 32 = .ok (.lload_n 3, 1) := by decide +kernel
theorem dX11_fillTrial_33 : decode cX11_fillTrial 33 = .ok (.ldc2_w 321, 3) := by decide +kernel
theorem dX11_fillTrial_36 : decode cX11_fillTrial 36 = .ok (.ldiv, 1) := by decide +kernel
theorem dX11_fillTrial_37 : decode cX11_fillTrial 37 = .ok (.ldc2_w 323, 3) := by decide +kernel
theorem dX11_fillTrial_40 : decode cX11_fillTrial 40 = .ok (.lrem, 1) := by decide +kernel
theorem dX11_fillTrial_41 : decode cX11_fillTrial 41 = .ok (.l2i, 1) := by decide +kernel
theorem dX11_fillTrial_42 : decode cX11_fillTrial 42 = .ok (.iastore, 1) := by decide +kernel
theorem dX11_fillTrial_43 : decode cX11_fillTrial 43 = .ok (.iinc 5 1, 3) := by decide +kernel
theorem dX11_fillTrial_46 : decode cX11_fillTrial 46 = .ok (.goto (-41), 3) := by decide +kernel
theorem dX11_fillTrial_49 : decode cX11_fillTrial 49 = .ok (.lload_n 3, 1) := by decide +kernel
theorem dX11_fillTrial_50 : decode cX11_fillTrial 50 = .ok (.lreturn, 1) := by decide +kernel
theorem dX11_imageAt_0 : decode cX11_imageAt 0 = .ok (.iload_n 1, 1) := by decide +kernel
theorem dX11_imageAt_1 : decode cX11_imageAt 1 = .ok (.ifCond .lt 17, 3) := by decide +kernel
theorem dX11_imageAt_4 : decode cX11_imageAt 4 = .ok (.iload_n 1, 1) := by decide +kernel
theorem dX11_imageAt_5 : decode cX11_imageAt 5 = .ok (.iconst 2, 1) := by decide +kernel
theorem dX11_imageAt_6 : decode cX11_imageAt 6 = .ok (.if_icmp .ge 12, 3) := by decide +kernel
theorem dX11_imageAt_9 : decode cX11_imageAt 9 = .ok (.aload_n 0, 1) := by decide +kernel
theorem dX11_imageAt_10 : decode cX11_imageAt 10 = .ok (.getfield 48, 3) := by decide +kernel
theorem dX11_imageAt_13 : decode cX11_imageAt 13 = .ok (.iload_n 1, 1) := by decide +kernel
theorem dX11_imageAt_14 : decode cX11_imageAt 14 = .ok (.aaload, 1) := by decide +kernel
theorem dX11_imageAt_15 : decode cX11_imageAt 15 = .ok (.goto 4, 3) := by decide +kernel
theorem dX11_imageAt_18 : decode cX11_imageAt 18 = .ok (.aconst_null, 1) := by decide +kernel
theorem dX11_imageAt_19 : decode cX11_imageAt 19 = .ok (.areturn, 1) := by decide +kernel
theorem dX11_tally_0 : decode cX11_tally 0 = .ok (.iload_n 1, 1) := by decide +kernel
theorem dX11_tally_1 : decode cX11_tally 1 = .ok (.tableswitch 75 0 4 #[35, 43, 51, 59, 67], 35) := by decide +kernel
theorem dX11_tally_36 : decode cX11_tally 36 = .ok (.aload_n 0, 1) := by decide +kernel
theorem dX11_tally_37 : decode cX11_tally 37 = .ok (.getfield 44, 3) := by decide +kernel
theorem dX11_tally_40 : decode cX11_tally 40 = .ok (.invokevirtual 78, 3) := by decide +kernel
theorem dX11_tally_43 : decode cX11_tally 43 = .ok (.ireturn, 1) := by decide +kernel
theorem dX11_tally_44 : decode cX11_tally 44 = .ok (.aload_n 0, 1) := by decide +kernel
theorem dX11_tally_45 : decode cX11_tally 45 = .ok (.getfield 44, 3) := by decide +kernel
theorem dX11_tally_48 : decode cX11_tally 48 = .ok (.getfield 85, 3) := by decide +kernel
theorem dX11_tally_51 : decode cX11_tally 51 = .ok (.ireturn, 1) := by decide +kernel
theorem dX11_tally_52 : decode cX11_tally 52 = .ok (.aload_n 0, 1) := by decide +kernel
theorem dX11_tally_53 : decode cX11_tally 53 = .ok (.getfield 44, 3) := by decide +kernel
theorem dX11_tally_56 : decode cX11_tally 56 = .ok (.getfield 221, 3) := by decide +kernel
theorem dX11_tally_59 : decode cX11_tally 59 = .ok (.ireturn, 1) := by decide +kernel
theorem dX11_tally_60 : decode cX11_tally 60 = .ok (.aload_n 0, 1) := by decide +kernel
theorem dX11_tally_61 : decode cX11_tally 61 = .ok (.getfield 44, 3) := by decide +kernel
theorem dX11_tally_64 : decode cX11_tally 64 = .ok (.getfield 234, 3) := by decide +kernel
theorem dX11_tally_67 : decode cX11_tally 67 = .ok (.ireturn, 1) := by decide +kernel
theorem dX11_tally_68 : decode cX11_tally 68 = .ok (.aload_n 0, 1) := by decide +kernel
theorem dX11_tally_69 : decode cX11_tally 69 = .ok (.getfield 44, 3) := by decide +kernel
theorem dX11_tally_72 : decode cX11_tally 72 = .ok (.getfield 325, 3) := by decide +kernel
theorem dX11_tally_75 : decode cX11_tally 75 = .ok (.ireturn, 1) := by decide +kernel
theorem dX11_tally_76 : decode cX11_tally 76 = .ok (.aload_n 0, 1) := by decide +kernel
theorem dX11_tally_77 : decode cX11_tally 77 = .ok (.getfield 37, 3) := by decide +kernel
theorem dX11_tally_80 : decode cX11_tally 80 = .ok (.getfield 112, 3) := by decide +kernel
theorem dX11_tally_83 : decode cX11_tally 83 = .ok (.ireturn, 1) := by decide +kernel
theorem dX11_fold_0 : decode cX11_fold 0 = .ok (.lload_n 0, 1) := by decide +kernel
theorem dX11_fold_1 : decode cX11_fold 1 = .ok (.lstore 4, 2) := by decide +kernel
theorem dX11_fold_3 : decode cX11_fold 3 = .ok (.iconst 0, 1) := by decide +kernel
theorem dX11_fold_4 : decode cX11_fold 4 = .ok (.istore 6, 2) := by decide +kernel
theorem dX11_fold_6 : decode cX11_fold 6 = .ok (.iload 6, 2) := by decide +kernel
theorem dX11_fold_8 : decode cX11_fold 8 = .ok (.iload_n 3, 1) := by decide +kernel
theorem dX11_fold_9 : decode cX11_fold 9 = .ok (.if_icmp .ge 30, 3) := by decide +kernel
theorem dX11_fold_12 : decode cX11_fold 12 = .ok (.iload 6, 2) := by decide +kernel
theorem dX11_fold_14 : decode cX11_fold 14 = .ok (.aload_n 2, 1) := by decide +kernel
theorem dX11_fold_15 : decode cX11_fold 15 = .ok (.arraylength, 1) := by decide +kernel
theorem dX11_fold_16 : decode cX11_fold 16 = .ok (.if_icmp .ge 23, 3) := by decide +kernel
theorem dX11_fold_19 : decode cX11_fold 19 = .ok (.ldc2_w 287, 3) := by decide +kernel
theorem dX11_fold_22 : decode cX11_fold 22 = .ok (.lload 4, 2) := by decide +kernel
theorem dX11_fold_24 : decode cX11_fold 24 = .ok (.lmul, 1) := by decide +kernel
theorem dX11_fold_25 : decode cX11_fold 25 = .ok (.aload_n 2, 1) := by decide +kernel
theorem dX11_fold_26 : decode cX11_fold 26 = .ok (.iload 6, 2) := by decide +kernel
theorem dX11_fold_28 : decode cX11_fold 28 = .ok (.iaload, 1) := by decide +kernel
theorem dX11_fold_29 : decode cX11_fold 29 = .ok (.i2l, 1) := by decide +kernel
theorem dX11_fold_30 : decode cX11_fold 30 = .ok (.ladd, 1) := by decide +kernel
theorem dX11_fold_31 : decode cX11_fold 31 = .ok (.lstore 4, 2) := by decide +kernel
theorem dX11_fold_33 : decode cX11_fold 33 = .ok (.iinc 6 1, 3) := by decide +kernel
theorem dX11_fold_36 : decode cX11_fold 36 = .ok (.goto (-30), 3) := by decide +kernel
theorem dX11_fold_39 : decode cX11_fold 39 = .ok (.lload 4, 2) := by decide +kernel
theorem dX11_fold_41 : decode cX11_fold 41 = .ok (.lreturn, 1) := by decide +kernel

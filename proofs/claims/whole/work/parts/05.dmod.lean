theorem dX12_init_0 : decode cX12_init 0 = .ok (.aload_n 0, 1) := by decide +kernel
theorem dX12_init_1 : decode cX12_init 1 = .ok (.invokespecial 1, 3) := by decide +kernel
theorem dX12_init_4 : decode cX12_init 4 = .ok (.aload_n 0, 1) := by decide +kernel
theorem dX12_init_5 : decode cX12_init 5 = .ok (.iconst 2, 1) := by decide +kernel
theorem dX12_init_6 : decode cX12_init 6 = .ok (.putfield 7, 3) := by decide +kernel
theorem dX12_init_9 : decode cX12_init 9 = .ok (.aload_n 0, 1) := by decide +kernel
theorem dX12_init_10 : decode cX12_init 10 = .ok (.bipush 8, 2) := by decide +kernel
theorem dX12_init_12 : decode cX12_init 12 = .ok (.newarray .int, 2) := by decide +kernel
theorem dX12_init_14 : decode cX12_init 14 = .ok (.putfield 13, 3) := by decide +kernel
theorem dX12_init_17 : decode cX12_init 17 = .ok (.aload_n 0, 1) := by decide +kernel
theorem dX12_init_18 : decode cX12_init 18 = .ok (.bipush 8, 2) := by decide +kernel
theorem dX12_init_20 : decode cX12_init 20 = .ok (.newarray .int, 2) := by decide +kernel
theorem dX12_init_22 : decode cX12_init 22 = .ok (.putfield 17, 3) := by decide +kernel
theorem dX12_init_25 : decode cX12_init 25 = .ok (.aload_n 0, 1) := by decide +kernel
theorem dX12_init_26 : decode cX12_init 26 = .ok (.bipush 6, 2) := by decide +kernel
theorem dX12_init_28 : decode cX12_init 28 = .ok (.newarray .int, 2) := by decide +kernel
theorem dX12_init_30 : decode cX12_init 30 = .ok (.putfield 20, 3) := by decide +kernel
theorem dX12_init_33 : decode cX12_init 33 = .ok (.aload_n 0, 1) := by decide +kernel
theorem dX12_init_34 : decode cX12_init 34 = .ok (.sipush 189, 3) := by decide +kernel
theorem dX12_init_37 : decode cX12_init 37 = .ok (.newarray .int, 2) := by decide +kernel
theorem dX12_init_39 : decode cX12_init 39 = .ok (.putfield 23, 3) := by decide +kernel
theorem dX12_init_42 : decode cX12_init 42 = .ok (.aload_n 0, 1) := by decide +kernel
theorem dX12_init_43 : decode cX12_init 43 = .ok (.bipush 60, 2) := by decide +kernel
theorem dX12_init_45 : decode cX12_init 45 = .ok (.newarray .int, 2) := by decide +kernel
theorem dX12_init_47 : decode cX12_init 47 = .ok (.putfield 26, 3) := by decide +kernel
theorem dX12_init_50 : decode cX12_init 50 = .ok (.aload_n 0, 1) := by decide +kernel
theorem dX12_init_51 : decode cX12_init 51 = .ok (.iconst 3, 1) := by decide +kernel
theorem dX12_init_52 : decode cX12_init 52 = .ok (.newarray .int, 2) := by decide +kernel
theorem dX12_init_54 : decode cX12_init 54 = .ok (.putfield 29, 3) := by decide +kernel
theorem dX12_init_57 : decode cX12_init 57 = .ok (.aload_n 0, 1) := by decide +kernel
theorem dX12_init_58 : decode cX12_init 58 = .ok (.bipush 20, 2) := by decide +kernel
theorem dX12_init_60 : decode cX12_init 60 = .ok (.newarray .int, 2) := by decide +kernel
theorem dX12_init_62 : decode cX12_init 62 = .ok (.putfield 32, 3) := by decide +kernel
theorem dX12_init_65 : decode cX12_init 65 = .ok (.aload_n 0, 1) := by decide +kernel
theorem dX12_init_66 : decode cX12_init 66 = .ok (.bipush 60, 2) := by decide +kernel
theorem dX12_init_68 : decode cX12_init 68 = .ok (.newarray .int, 2) := by decide +kernel
theorem dX12_init_70 : decode cX12_init 70 = .ok (.putfield 35, 3) := by decide +kernel
theorem dX12_init_73 : decode cX12_init 73 = .ok (.aload_n 0, 1) := by decide +kernel
theorem dX12_init_74 : decode cX12_init 74 = .ok (.iconst 1, 1) := by decide +kernel
theorem dX12_init_75 : decode cX12_init 75 = .ok (.putfield 38, 3) := by decide +kernel
theorem dX12_init_78 : decode cX12_init 78 = .ok (.aload_n 0, 1) := by decide +kernel
theorem dX12_init_79 : decode cX12_init 79 = .ok (.bipush 16, 2) := by decide +kernel
theorem dX12_init_81 : decode cX12_init 81 = .ok (.newarray .int, 2) := by decide +kernel
theorem dX12_init_83 : decode cX12_init 83 = .ok (.putfield 41, 3) := by decide +kernel
theorem dX12_init_86 : decode cX12_init 86 = .ok (.aload_n 0, 1) := by decide +kernel
theorem dX12_init_87 : decode cX12_init 87 = .ok (.bipush 48, 2) := by decide +kernel
theorem dX12_init_89 : decode cX12_init 89 = .ok (.newarray .int, 2) := by decide +kernel
theorem dX12_init_91 : decode cX12_init 91 = .ok (.putfield 44, 3) := by decide +kernel
theorem dX12_init_94 : decode cX12_init 94 = .ok (.aload_n 0, 1) := by decide +kernel
theorem dX12_init_95 : decode cX12_init 95 = .ok (.iconst 3, 1) := by decide +kernel
theorem dX12_init_96 : decode cX12_init 96 = .ok (.newarray .int, 2) := by decide +kernel
theorem dX12_init_98 : decode cX12_init 98 = .ok (.putfield 47, 3) := by decide +kernel
theorem dX12_init_101 : decode cX12_init 101 = .ok (.aload_n 0, 1) := by decide +kernel
theorem dX12_init_102 : decode cX12_init 102 = .ok (.bipush 6, 2) := by decide +kernel
theorem dX12_init_104 : decode cX12_init 104 = .ok (.newarray .int, 2) := by decide +kernel
theorem dX12_init_106 : decode cX12_init 106 = .ok (.putfield 50, 3) := by decide +kernel
theorem dX12_init_109 : decode cX12_init 109 = .ok (.aload_n 0, 1) := by decide +kernel
theorem dX12_init_110 : decode cX12_init 110 = .ok (.bipush 36, 2) := by decide +kernel
theorem dX12_init_112 : decode cX12_init 112 = .ok (.newarray .int, 2) := by decide +kernel
theorem dX12_init_114 : decode cX12_init 114 = .ok (.putfield 53, 3) := by decide +kernel
theorem dX12_init_117 : decode cX12_init 117 = .ok (.return_, 1) := by decide +kernel
theorem dX12_thrown_0 : decode cX12_thrown 0 = .ok (.aload_n 0, 1) := by decide +kernel
theorem dX12_thrown_1 : decode cX12_thrown 1 = .ok (.getfield 56, 3) := by decide +kernel
theorem dX12_thrown_4 : decode cX12_thrown 4 = .ok (.ireturn, 1) := by decide +kernel
theorem dX12_in_0 : decode cX12_in 0 = .ok (.iload_n 0, 1) := by decide +kernel
theorem dX12_in_1 : decode cX12_in 1 = .ok (.iload_n 1, 1) := by decide +kernel
theorem dX12_in_2 : decode cX12_in 2 = .ok (.if_icmp .lt 12, 3) := by decide +kernel
theorem dX12_in_5 : decode cX12_in 5 = .ok (.iload_n 0, 1) := by decide +kernel
theorem dX12_in_6 : decode cX12_in 6 = .ok (.iload_n 2, 1) := by decide +kernel
theorem dX12_in_7 : decode cX12_in 7 = .ok (.if_icmp .gt 7, 3) := by decide +kernel
theorem dX12_in_10 : decode cX12_in 10 = .ok (.iconst 1, 1) := by decide +kernel
theorem dX12_in_11 : decode cX12_in 11 = .ok (.goto 4, 3) := by decide +kernel
theorem dX12_in_14 : decode cX12_in 14 = .ok (.iconst 0, 1) := by decide +kernel
theorem dX12_in_15 : decode cX12_in 15 = .ok (.ireturn, 1) := by decide +kernel
theorem dX12_power_0 : decode cX12_power 0 = .ok (.iconst 1, 1) := by decide +kernel
theorem dX12_power_1 : decode cX12_power 1 = .ok (.istore_n 2, 1) := by decide +kernel
theorem dX12_power_2 : decode cX12_power 2 = .ok (.iconst 0, 1) := by decide +kernel
theorem dX12_power_3 : decode cX12_power 3 = .ok (.istore_n 3, 1) := by decide +kernel
theorem dX12_power_4 : decode cX12_power 4 = .ok (.iload_n 3, 1) := by decide +kernel
theorem dX12_power_5 : decode cX12_power 5 = .ok (.iload_n 1, 1) := by decide +kernel
theorem dX12_power_6 : decode cX12_power 6 = .ok (.if_icmp .ge 16, 3) := by decide +kernel
theorem dX12_power_9 : decode cX12_power 9 = .ok (.iload_n 2, 1) := by decide +kernel
theorem dX12_power_10 : decode cX12_power 10 = .ok (.aload_n 0, 1) := by decide +kernel
theorem dX12_power_11 : decode cX12_power 11 = .ok (.getfield 7, 3) := by decide +kernel
theorem dX12_power_14 : decode cX12_power 14 = .ok (.imul, 1) := by decide +kernel
theorem dX12_power_15 : decode cX12_power 15 = .ok (.istore_n 2, 1) := by decide +kernel
theorem dX12_power_16 : decode cX12_power 16 = .ok (.iinc 3 1, 3) := by decide +kernel
theorem dX12_power_19 : decode cX12_power 19 = .ok (.goto (-15), 3) := by decide +kernel
theorem dX12_power_22 : decode cX12_power 22 = .ok (.iload_n 2, 1) := by decide +kernel
theorem dX12_power_23 : decode cX12_power 23 = .ok (.ireturn, 1) := by decide +kernel
theorem dX12_on_0 : decode cX12_on 0 = .ok (.iload_n 1, 1) := by decide +kernel
theorem dX12_on_1 : decode cX12_on 1 = .ok (.aload_n 0, 1) := by decide +kernel
theorem dX12_on_2 : decode cX12_on 2 = .ok (.iload_n 2, 1) := by decide +kernel
theorem dX12_on_3 : decode cX12_on 3 = .ok (.invokevirtual 59, 3) := by decide +kernel
theorem dX12_on_6 : decode cX12_on 6 = .ok (.idiv, 1) := by decide +kernel
theorem dX12_on_7 : decode cX12_on 7 = .ok (.aload_n 0, 1) := by decide +kernel
theorem dX12_on_8 : decode cX12_on 8 = .ok (.getfield 7, 3) := by decide +kernel
theorem dX12_on_11 : decode cX12_on 11 = .ok (.irem, 1) := by decide +kernel
theorem dX12_on_12 : decode cX12_on 12 = .ok (.ireturn, 1) := by decide +kernel
theorem dX12_isIn_0 : decode cX12_isIn 0 = .ok (.iload_n 0, 1) := by decide +kernel
theorem dX12_isIn_1 : decode cX12_isIn 1 = .ok (.iload_n 1, 1) := by decide +kernel
theorem dX12_isIn_2 : decode cX12_isIn 2 = .ok (.ishr, 1) := by decide +kernel
theorem dX12_isIn_3 : decode cX12_isIn 3 = .ok (.iconst 1, 1) := by decide +kernel
theorem dX12_isIn_4 : decode cX12_isIn 4 = .ok (.iand, 1) := by decide +kernel
theorem dX12_isIn_5 : decode cX12_isIn 5 = .ok (.iconst 1, 1) := by decide +kernel
theorem dX12_isIn_6 : decode cX12_isIn 6 = .ok (.if_icmp .ne 7, 3) := by decide +kernel
theorem dX12_isIn_9 : decode cX12_isIn 9 = .ok (.iconst 1, 1) := by decide +kernel
theorem dX12_isIn_10 : decode cX12_isIn 10 = .ok (.goto 4, 3) := by decide +kernel
theorem dX12_isIn_13 : decode cX12_isIn 13 = .ok (.iconst 0, 1) := by decide +kernel
theorem dX12_isIn_14 : decode cX12_isIn 14 = .ok (.ireturn, 1) := by decide +kernel
theorem dX12_count_0 : decode cX12_count 0 = .ok (.iconst 0, 1) := by decide +kernel
theorem dX12_count_1 : decode cX12_count 1 = .ok (.istore_n 1, 1) := by decide +kernel
theorem dX12_count_2 : decode cX12_count 2 = .ok (.iconst 0, 1) := by decide +kernel
theorem dX12_count_3 : decode cX12_count 3 = .ok (.istore_n 2, 1) := by decide +kernel
theorem dX12_count_4 : decode cX12_count 4 = .ok (.iload_n 2, 1) := by decide +kernel
theorem dX12_count_5 : decode cX12_count 5 = .ok (.bipush 31, 2) := by decide +kernel
theorem dX12_count_7 : decode cX12_count 7 = .ok (.if_icmp .ge 17, 3) := by decide +kernel
theorem dX12_count_10 : decode cX12_count 10 = .ok (.iload_n 1, 1) := by decide +kernel
theorem dX12_count_11 : decode cX12_count 11 = .ok (.iload_n 0, 1) := by decide +kernel
theorem dX12_count_12 : decode cX12_count 12 = .ok (.iload_n 2, 1) := by decide +kernel
theorem dX12_count_13 : decode cX12_count 13 = .ok (.ishr, 1) := by decide +kernel
theorem dX12_count_14 : decode cX12_count 14 = .ok (.iconst 1, 1) := by decide +kernel
theorem dX12_count_15 : decode cX12_count 15 = .ok (.iand, 1) := by decide +kernel
theorem dX12_count_16 : decode cX12_count 16 = .ok (.iadd, 1) := by decide +kernel
theorem dX12_count_17 : decode cX12_count 17 = .ok (.istore_n 1, 1) := by decide +kernel
theorem dX12_count_18 : decode cX12_count 18 = .ok (.iinc 2 1, 3) := by decide +kernel
theorem dX12_count_21 : decode cX12_count 21 = .ok (.goto (-17), 3) := by decide +kernel
theorem dX12_count_24 : decode cX12_count 24 = .ok (.iload_n 1, 1) := by decide +kernel
theorem dX12_count_25 : decode cX12_count 25 = .ok (.ireturn, 1) := by decide +kernel
theorem dX12_values_0 : decode cX12_values 0 = .ok (.aload_n 0, 1) := by decide +kernel
theorem dX12_values_1 : decode cX12_values 1 = .ok (.iload_n 1, 1) := by decide +kernel
theorem dX12_values_2 : decode cX12_values 2 = .ok (.iconst 2, 1) := by decide +kernel
theorem dX12_values_3 : decode cX12_values 3 = .ok (.iconst 3, 1) := by decide +kernel
theorem dX12_values_4 : decode cX12_values 4 = .ok (.invokestatic 63, 3) := by decide +kernel
theorem dX12_values_7 : decode cX12_values 7 = .ok (.ifCond .eq 7, 3) := by decide +kernel
theorem dX12_values_10 : decode cX12_values 10 = .ok (.iconst 0, 1) := by decide +kernel
theorem dX12_values_11 : decode cX12_values 11 = .ok (.goto 4, 3) := by decide +kernel
theorem dX12_values_14 : decode cX12_values 14 = .ok (.iconst 1, 1) := by decide +kernel
theorem dX12_values_15 : decode cX12_values 15 = .ok (.putfield 56, 3) := by decide +kernel
theorem dX12_values_18 : decode cX12_values 18 = .ok (.aload_n 0, 1) := by decide +kernel
theorem dX12_values_19 : decode cX12_values 19 = .ok (.getfield 56, 3) := by decide +kernel
theorem dX12_values_22 : decode cX12_values 22 = .ok (.ifCond .le 5, 3) := by decide +kernel
theorem dX12_values_25 : decode cX12_values 25 = .ok (.iconst 0, 1) := by decide +kernel
theorem dX12_values_26 : decode cX12_values 26 = .ok (.ireturn, 1) := by decide +kernel
theorem dX12_values_27 : decode cX12_values 27 = .ok (.aload_n 0, 1) := by decide +kernel
theorem dX12_values_28 : decode cX12_values 28 = .ok (.getfield 7, 3) := by decide +kernel
theorem dX12_values_31 : decode cX12_values 31 = .ok (.istore_n 2, 1) := by decide +kernel
theorem dX12_values_32 : decode cX12_values 32 = .ok (.aload_n 0, 1) := by decide +kernel
theorem dX12_values_33 : decode cX12_values 33 = .ok (.iload_n 1, 1) := by decide +kernel
theorem dX12_values_34 : decode cX12_values 34 = .ok (.putfield 7, 3) := by decide +kernel
theorem dX12_values_37 : decode cX12_values 37 = .ok (.aload_n 0, 1) := by decide +kernel
theorem dX12_values_38 : decode cX12_values 38 = .ok (.iconst 0, 1) := by decide +kernel
theorem dX12_values_39 : decode cX12_values 39 = .ok (.putfield 67, 3) := by decide +kernel
theorem dX12_values_42 : decode cX12_values 42 = .ok (.aload_n 0, 1) := by decide +kernel
theorem dX12_values_43 : decode cX12_values 43 = .ok (.iconst 0, 1) := by decide +kernel
theorem dX12_values_44 : decode cX12_values 44 = .ok (.putfield 70, 3) := by decide +kernel
theorem dX12_values_47 : decode cX12_values 47 = .ok (.aload_n 0, 1) := by decide +kernel
theorem dX12_values_48 : decode cX12_values 48 = .ok (.iconst 1, 1) := by decide +kernel
theorem dX12_values_49 : decode cX12_values 49 = .ok (.putfield 38, 3) := by decide +kernel
theorem dX12_values_52 : decode cX12_values 52 = .ok (.aload_n 0, 1) := by decide +kernel
theorem dX12_values_53 : decode cX12_values 53 = .ok (.iconst 0, 1) := by decide +kernel
theorem dX12_values_54 : decode cX12_values 54 = .ok (.putfield 73, 3) := by decide +kernel
theorem dX12_values_57 : decode cX12_values 57 = .ok (.iload_n 2, 1) := by decide +kernel
theorem dX12_values_58 : decode cX12_values 58 = .ok (.ireturn, 1) := by decide +kernel
theorem dX12_relation_0 : decode cX12_relation 0 = .ok (.aload_n 0, 1) := by decide +kernel
theorem dX12_relation_1 : decode cX12_relation 1 = .ok (.iload_n 1, 1) := by decide +kernel
theorem dX12_relation_2 : decode cX12_relation 2 = .ok (.iconst 1, 1) := by decide +kernel
theorem dX12_relation_3 : decode cX12_relation 3 = .ok (.aload_n 0, 1) := by decide +kernel
theorem dX12_relation_4 : decode cX12_relation 4 = .ok (.getfield 7, 3) := by decide +kernel
theorem dX12_relation_7 : decode cX12_relation 7 = .ok (.iconst 2, 1) := by decide +kernel
theorem dX12_relation_8 : decode cX12_relation 8 = .ok (.if_icmp .ne 7, 3) := by decide +kernel
theorem dX12_relation_11 : decode cX12_relation 11 = .ok (.iconst 3, 1) := by decide +kernel
theorem dX12_relation_12 : decode cX12_relation 12 = .ok (.goto 4, 3) := by decide +kernel
theorem dX12_relation_15 : decode cX12_relation 15 = .ok (.iconst 2, 1) := by decide +kernel
theorem dX12_relation_16 : decode cX12_relation 16 = .ok (.invokestatic 63, 3) := by decide +kernel
theorem dX12_relation_19 : decode cX12_relation 19 = .ok (.ifCond .ne 7, 3) := by decide +kernel
theorem dX12_relation_22 : decode cX12_relation 22 = .ok (.iconst 1, 1) := by decide +kernel
theorem dX12_relation_23 : decode cX12_relation 23 = .ok (.goto 17, 3) := by decide +kernel
theorem dX12_relation_26 : decode cX12_relation 26 = .ok (.aload_n 0, 1) := by decide +kernel
theorem dX12_relation_27 : decode cX12_relation 27 = .ok (.getfield 67, 3) := by decide +kernel
theorem dX12_relation_30 : decode cX12_relation 30 = .ok (.bipush 8, 2) := by decide +kernel
theorem dX12_relation_32 : decode cX12_relation 32 = .ok (.if_icmp .ne 7, 3) := by decide +kernel
theorem dX12_relation_35 : decode cX12_relation 35 = .ok (.iconst 2, 1) := by decide +kernel
theorem dX12_relation_36 : decode cX12_relation 36 = .ok (.goto 4, 3) := by decide +kernel
theorem dX12_relation_39 : decode cX12_relation 39 = .ok (.iconst 0, 1) := by decide +kernel
theorem dX12_relation_40 : decode cX12_relation 40 = .ok (.putfield 56, 3) := by decide +kernel
theorem dX12_relation_43 : decode cX12_relation 43 = .ok (.aload_n 0, 1) := by decide +kernel
theorem dX12_relation_44 : decode cX12_relation 44 = .ok (.getfield 56, 3) := by decide +kernel
theorem dX12_relation_47 : decode cX12_relation 47 = .ok (.ifCond .le 5, 3) := by decide +kernel
theorem dX12_relation_50 : decode cX12_relation 50 = .ok (.iconst 0, 1) := by decide +kernel
theorem dX12_relation_51 : decode cX12_relation 51 = .ok (.ireturn, 1) := by decide +kernel
theorem dX12_relation_52 : decode cX12_relation 52 = .ok (.aload_n 0, 1) := by decide +kernel
theorem dX12_relation_53 : decode cX12_relation 53 = .ok (.getfield 13, 3) := by decide +kernel
theorem dX12_relation_56 : decode cX12_relation 56 = .ok (.aload_n 0, 1) := by decide +kernel
theorem dX12_relation_57 : decode cX12_relation 57 = .ok (.getfield 67, 3) := by decide +kernel
theorem dX12_relation_60 : decode cX12_relation 60 = .ok (.iload_n 1, 1) := by decide +kernel
theorem dX12_relation_61 : decode cX12_relation 61 = .ok (.iastore, 1) := by decide +kernel
theorem dX12_relation_62 : decode cX12_relation 62 = .ok (.aload_n 0, 1) := by decide +kernel
theorem dX12_relation_63 : decode cX12_relation 63 = .ok (.getfield 17, 3) := by decide +kernel
theorem dX12_relation_66 : decode cX12_relation 66 = .ok (.aload_n 0, 1) := by decide +kernel
theorem dX12_relation_67 : decode cX12_relation 67 = .ok (.getfield 67, 3) := by decide +kernel
theorem dX12_relation_70 : decode cX12_relation 70 = .ok (.iconst 0, 1) := by decide +kernel
theorem dX12_relation_71 : decode cX12_relation 71 = .ok (.iastore, 1) := by decide +kernel
theorem dX12_relation_72 : decode cX12_relation 72 = .ok (.aload_n 0, 1) := by decide +kernel
theorem dX12_relation_73 : decode cX12_relation 73 = .ok (.dup, 1) := by decide +kernel
theorem dX12_relation_74 : decode cX12_relation 74 = .ok (.getfield 67, 3) := by decide +kernel
theorem dX12_relation_77 : decode cX12_relation 77 = .ok (.iconst 1, 1) := by decide +kernel
theorem dX12_relation_78 : decode cX12_relation 78 = .ok (.iadd, 1) := by decide +kernel
theorem dX12_relation_79 : decode cX12_relation 79 = .ok (.putfield 67, 3) := by decide +kernel
theorem dX12_relation_82 : decode cX12_relation 82 = .ok (.aload_n 0, 1) := by decide +kernel
theorem dX12_relation_83 : decode cX12_relation 83 = .ok (.getfield 67, 3) := by decide +kernel
theorem dX12_relation_86 : decode cX12_relation 86 = .ok (.iconst 1, 1) := by decide +kernel
theorem dX12_relation_87 : decode cX12_relation 87 = .ok (.isub, 1) := by decide +kernel
theorem dX12_relation_88 : decode cX12_relation 88 = .ok (.ireturn, 1) := by decide +kernel
theorem dX12_isRelation_0 : decode cX12_isRelation 0 = .ok (.iload_n 1, 1) := by decide +kernel
theorem dX12_isRelation_1 : decode cX12_isRelation 1 = .ok (.iconst 0, 1) := by decide +kernel
theorem dX12_isRelation_2 : decode cX12_isRelation 2 = .ok (.aload_n 0, 1) := by decide +kernel
theorem dX12_isRelation_3 : decode cX12_isRelation 3 = .ok (.getfield 67, 3) := by decide +kernel
theorem dX12_isRelation_6 : decode cX12_isRelation 6 = .ok (.iconst 1, 1) := by decide +kernel
theorem dX12_isRelation_7 : decode cX12_isRelation 7 = .ok (.isub, 1) := by decide +kernel
theorem dX12_isRelation_8 : decode cX12_isRelation 8 = .ok (.invokestatic 63, 3) := by decide +kernel
theorem dX12_isRelation_11 : decode cX12_isRelation 11 = .ok (.ireturn, 1) := by decide +kernel
theorem dX12_tuple_0 : decode cX12_tuple 0 = .ok (.aload_n 0, 1) := by decide +kernel
theorem dX12_tuple_1 : decode cX12_tuple 1 = .ok (.aload_n 0, 1) := by decide +kernel
theorem dX12_tuple_2 : decode cX12_tuple 2 = .ok (.iload_n 1, 1) := by decide +kernel
theorem dX12_tuple_3 : decode cX12_tuple 3 = .ok (.invokevirtual 76, 3) := by decide +kernel
theorem dX12_tuple_6 : decode cX12_tuple 6 = .ok (.ifCond .eq 27, 3) := by decide +kernel
theorem dX12_tuple_9 : decode cX12_tuple 9 = .ok (.iload_n 2, 1) := by decide +kernel
theorem dX12_tuple_10 : decode cX12_tuple 10 = .ok (.iconst 0, 1) := by decide +kernel
theorem dX12_tuple_11 : decode cX12_tuple 11 = .ok (.aload_n 0, 1) := by decide +kernel
theorem dX12_tuple_12 : decode cX12_tuple 12 = .ok (.aload_n 0, 1) := by decide +kernel
theorem dX12_tuple_13 : decode cX12_tuple 13 = .ok (.getfield 13, 3) := by decide +kernel
theorem dX12_tuple_16 : decode cX12_tuple 16 = .ok (.iload_n 1, 1) := by decide +kernel
theorem dX12_tuple_17 : decode cX12_tuple 17 = .ok (.iaload, 1) := by decide +kernel
theorem dX12_tuple_18 : decode cX12_tuple 18 = .ok (.invokevirtual 59, 3) := by decide +kernel
theorem dX12_tuple_21 : decode cX12_tuple 21 = .ok (.iconst 1, 1) := by decide +kernel
theorem dX12_tuple_22 : decode cX12_tuple 22 = .ok (.isub, 1) := by decide +kernel
theorem dX12_tuple_23 : decode cX12_tuple 23 = .ok (.invokestatic 63, 3) := by decide +kernel
theorem dX12_tuple_26 : decode cX12_tuple 26 = .ok (.ifCond .eq 7, 3) := by decide +kernel
theorem dX12_tuple_29 : decode cX12_tuple 29 = .ok (.iconst 0, 1) := by decide +kernel
theorem dX12_tuple_30 : decode cX12_tuple 30 = .ok (.goto 4, 3) := by decide +kernel
theorem dX12_tuple_33 : decode cX12_tuple 33 = .ok (.iconst 1, 1) := by decide +kernel
theorem dX12_tuple_34 : decode cX12_tuple 34 = .ok (.putfield 56, 3) := by decide +kernel
theorem dX12_tuple_37 : decode cX12_tuple 37 = .ok (.aload_n 0, 1) := by decide +kernel
theorem dX12_tuple_38 : decode cX12_tuple 38 = .ok (.getfield 56, 3) := by decide +kernel
theorem dX12_tuple_41 : decode cX12_tuple 41 = .ok (.ifCond .le 5, 3) := by decide +kernel
theorem dX12_tuple_44 : decode cX12_tuple 44 = .ok (.iconst 0, 1) := by decide +kernel
theorem dX12_tuple_45 : decode cX12_tuple 45 = .ok (.ireturn, 1) := by decide +kernel
theorem dX12_tuple_46 : decode cX12_tuple 46 = .ok (.aload_n 0, 1) := by decide +kernel
theorem dX12_tuple_47 : decode cX12_tuple 47 = .ok (.getfield 17, 3) := by decide +kernel
theorem dX12_tuple_50 : decode cX12_tuple 50 = .ok (.iload_n 1, 1) := by decide +kernel
theorem dX12_tuple_51 : decode cX12_tuple 51 = .ok (.iaload, 1) := by decide +kernel
theorem dX12_tuple_52 : decode cX12_tuple 52 = .ok (.iload_n 2, 1) := by decide +kernel
theorem dX12_tuple_53 : decode cX12_tuple 53 = .ok (.invokestatic 80, 3) := by decide +kernel
theorem dX12_tuple_56 : decode cX12_tuple 56 = .ok (.istore 4, 2) := by decide +kernel
theorem dX12_tuple_58 : decode cX12_tuple 58 = .ok (.aload_n 0, 1) := by decide +kernel
theorem dX12_tuple_59 : decode cX12_tuple 59 = .ok (.getfield 17, 3) := by decide +kernel
theorem dX12_tuple_62 : decode cX12_tuple 62 = .ok (.iload_n 1, 1) := by decide +kernel
theorem dX12_tuple_63 : decode cX12_tuple 63 = .ok (.iload_n 3, 1) := by decide +kernel
theorem dX12_tuple_64 : decode cX12_tuple 64 = .ok (.ifCond .eq 16, 3) := by decide +kernel
theorem dX12_tuple_67 : decode cX12_tuple 67 = .ok (.aload_n 0, 1) := by decide +kernel
theorem dX12_tuple_68 : decode cX12_tuple 68 = .ok (.getfield 17, 3) := by decide +kernel
theorem dX12_tuple_71 : decode cX12_tuple 71 = .ok (.iload_n 1, 1) := by decide +kernel
theorem dX12_tuple_72 : decode cX12_tuple 72 = .ok (.iaload, 1) := by decide +kernel
theorem dX12_tuple_73 : decode cX12_tuple 73 = .ok (.iconst 1, 1) := by decide +kernel
theorem dX12_tuple_74 : decode cX12_tuple 74 = .ok (.iload_n 2, 1) := by decide +kernel
theorem dX12_tuple_75 : decode cX12_tuple 75 = .ok (.ishl, 1) := by decide +kernel
theorem dX12_tuple_76 : decode cX12_tuple 76 = .ok (.ior, 1) := by decide +kernel
theorem dX12_tuple_77 : decode cX12_tuple 77 = .ok (.goto 15, 3) := by decide +kernel
theorem dX12_tuple_80 : decode cX12_tuple 80 = .ok (.aload_n 0, 1) := by decide +kernel
theorem dX12_tuple_81 : decode cX12_tuple 81 = .ok (.getfield 17, 3) := by decide +kernel
theorem dX12_tuple_84 : decode cX12_tuple 84 = .ok (.iload_n 1, 1) := by decide +kernel
theorem dX12_tuple_85 : decode cX12_tuple 85 = .ok (.iaload, 1) := by decide +kernel
theorem dX12_tuple_86 : decode cX12_tuple 86 = .ok (.iconst 1, 1) := by decide +kernel
theorem dX12_tuple_87 : decode cX12_tuple 87 = .ok (.iload_n 2, 1) := by decide +kernel
theorem dX12_tuple_88 : decode cX12_tuple 88 = .ok (.ishl, 1) := by decide +kernel
theorem dX12_tuple_89 : decode cX12_tuple 89 = .ok (.iconst (-1), 1) := by decide +kernel
theorem dX12_tuple_90 : decode cX12_tuple 90 = .ok (.ixor, 1) := by decide +kernel
theorem dX12_tuple_91 : decode cX12_tuple 91 = .ok (.iand, 1) := by decide +kernel
theorem dX12_tuple_92 : decode cX12_tuple 92 = .ok (.iastore, 1) := by decide +kernel
theorem dX12_tuple_93 : decode cX12_tuple 93 = .ok (.iload 4, 2) := by decide +kernel
theorem dX12_tuple_95 : decode cX12_tuple 95 = .ok (.ireturn, 1) := by decide +kernel
theorem dX12_ofRelation_0 : decode cX12_ofRelation 0 = .ok (.aload_n 0, 1) := by decide +kernel
theorem dX12_ofRelation_1 : decode cX12_ofRelation 1 = .ok (.aload_n 0, 1) := by decide +kernel
theorem dX12_ofRelation_2 : decode cX12_ofRelation 2 = .ok (.iload_n 1, 1) := by decide +kernel
theorem dX12_ofRelation_3 : decode cX12_ofRelation 3 = .ok (.invokevirtual 76, 3) := by decide +kernel
theorem dX12_ofRelation_6 : decode cX12_ofRelation 6 = .ok (.ifCond .ne 7, 3) := by decide +kernel
theorem dX12_ofRelation_9 : decode cX12_ofRelation 9 = .ok (.iconst 1, 1) := by decide +kernel
theorem dX12_ofRelation_10 : decode cX12_ofRelation 10 = .ok (.goto 17, 3) := by decide +kernel
theorem dX12_ofRelation_13 : decode cX12_ofRelation 13 = .ok (.iload_n 2, 1) := by decide +kernel
theorem dX12_ofRelation_14 : decode cX12_ofRelation 14 = .ok (.iconst 0, 1) := by decide +kernel
theorem dX12_ofRelation_15 : decode cX12_ofRelation 15 = .ok (.iconst 2, 1) := by decide +kernel
theorem dX12_ofRelation_16 : decode cX12_ofRelation 16 = .ok (.invokestatic 63, 3) := by decide +kernel
theorem dX12_ofRelation_19 : decode cX12_ofRelation 19 = .ok (.ifCond .ne 7, 3) := by decide +kernel
theorem dX12_ofRelation_22 : decode cX12_ofRelation 22 = .ok (.iconst 2, 1) := by decide +kernel
theorem dX12_ofRelation_23 : decode cX12_ofRelation 23 = .ok (.goto 4, 3) := by decide +kernel
theorem dX12_ofRelation_26 : decode cX12_ofRelation 26 = .ok (.iconst 0, 1) := by decide +kernel
theorem dX12_ofRelation_27 : decode cX12_ofRelation 27 = .ok (.putfield 56, 3) := by decide +kernel
theorem dX12_ofRelation_30 : decode cX12_ofRelation 30 = .ok (.aload_n 0, 1) := by decide +kernel
theorem dX12_ofRelation_31 : decode cX12_ofRelation 31 = .ok (.getfield 56, 3) := by decide +kernel
theorem dX12_ofRelation_34 : decode cX12_ofRelation 34 = .ok (.ifCond .le 5, 3) := by decide +kernel
theorem dX12_ofRelation_37 : decode cX12_ofRelation 37 = .ok (.iconst 0, 1) := by decide +kernel
theorem dX12_ofRelation_38 : decode cX12_ofRelation 38 = .ok (.ireturn, 1) := by decide +kernel
theorem dX12_ofRelation_39 : decode cX12_ofRelation 39 = .ok (.iload_n 2, 1) := by decide +kernel
theorem dX12_ofRelation_40 : decode cX12_ofRelation 40 = .ok (.ifCond .ne 12, 3) := by decide +kernel
theorem dX12_ofRelation_43 : decode cX12_ofRelation 43 = .ok (.aload_n 0, 1) := by decide +kernel
theorem dX12_ofRelation_44 : decode cX12_ofRelation 44 = .ok (.getfield 13, 3) := by decide +kernel
theorem dX12_ofRelation_47 : decode cX12_ofRelation 47 = .ok (.iload_n 1, 1) := by decide +kernel
theorem dX12_ofRelation_48 : decode cX12_ofRelation 48 = .ok (.iaload, 1) := by decide +kernel
theorem dX12_ofRelation_49 : decode cX12_ofRelation 49 = .ok (.goto 26, 3) := by decide +kernel
theorem dX12_ofRelation_52 : decode cX12_ofRelation 52 = .ok (.iload_n 2, 1) := by decide +kernel
theorem dX12_ofRelation_53 : decode cX12_ofRelation 53 = .ok (.iconst 1, 1) := by decide +kernel
theorem dX12_ofRelation_54 : decode cX12_ofRelation 54 = .ok (.if_icmp .ne 12, 3) := by decide +kernel
theorem dX12_ofRelation_57 : decode cX12_ofRelation 57 = .ok (.aload_n 0, 1) := by decide +kernel
theorem dX12_ofRelation_58 : decode cX12_ofRelation 58 = .ok (.getfield 17, 3) := by decide +kernel
theorem dX12_ofRelation_61 : decode cX12_ofRelation 61 = .ok (.iload_n 1, 1) := by decide +kernel
theorem dX12_ofRelation_62 : decode cX12_ofRelation 62 = .ok (.iaload, 1) := by decide +kernel
theorem dX12_ofRelation_63 : decode cX12_ofRelation 63 = .ok (.goto 12, 3) := by decide +kernel
theorem dX12_ofRelation_66 : decode cX12_ofRelation 66 = .ok (.aload_n 0, 1) := by decide +kernel
theorem dX12_ofRelation_67 : decode cX12_ofRelation 67 = .ok (.getfield 17, 3) := by decide +kernel
theorem dX12_ofRelation_70 : decode cX12_ofRelation 70 = .ok (.iload_n 1, 1) := by decide +kernel
theorem dX12_ofRelation_71 : decode cX12_ofRelation 71 = .ok (.iaload, 1) := by decide +kernel
theorem dX12_ofRelation_72 : decode cX12_ofRelation 72 = .ok (.invokestatic 84, 3) := by decide +kernel
theorem dX12_ofRelation_75 : decode cX12_ofRelation 75 = .ok (.ireturn, 1) := by decide +kernel
theorem dX12_takes_0 : decode cX12_takes 0 = .ok (.aload_n 0, 1) := by decide +kernel
theorem dX12_takes_1 : decode cX12_takes 1 = .ok (.getfield 20, 3) := by decide +kernel
theorem dX12_takes_4 : decode cX12_takes 4 = .ok (.aload_n 0, 1) := by decide +kernel
theorem dX12_takes_5 : decode cX12_takes 5 = .ok (.getfield 70, 3) := by decide +kernel
theorem dX12_takes_8 : decode cX12_takes 8 = .ok (.iload_n 1, 1) := by decide +kernel
theorem dX12_takes_9 : decode cX12_takes 9 = .ok (.iastore, 1) := by decide +kernel
theorem dX12_takes_10 : decode cX12_takes 10 = .ok (.iconst 0, 1) := by decide +kernel
theorem dX12_takes_11 : decode cX12_takes 11 = .ok (.istore_n 2, 1) := by decide +kernel
theorem dX12_takes_12 : decode cX12_takes 12 = .ok (.iload_n 2, 1) := by decide +kernel
theorem dX12_takes_13 : decode cX12_takes 13 = .ok (.bipush 27, 2) := by decide +kernel
theorem dX12_takes_15 : decode cX12_takes 15 = .ok (.if_icmp .ge 29, 3) := by decide +kernel
theorem dX12_takes_18 : decode cX12_takes 18 = .ok (.aload_n 0, 1) := by decide +kernel
theorem dX12_takes_19 : decode cX12_takes 19 = .ok (.getfield 23, 3) := by decide +kernel
theorem dX12_takes_22 : decode cX12_takes 22 = .ok (.bipush 27, 2) := by decide +kernel
theorem dX12_takes_24 : decode cX12_takes 24 = .ok (.aload_n 0, 1) := by decide +kernel
theorem dX12_takes_25 : decode cX12_takes 25 = .ok (.getfield 70, 3) := by decide +kernel
theorem dX12_takes_28 : decode cX12_takes 28 = .ok (.imul, 1) := by decide +kernel
theorem dX12_takes_29 : decode cX12_takes 29 = .ok (.iload_n 2, 1) := by decide +kernel
theorem dX12_takes_30 : decode cX12_takes 30 = .ok (.iadd, 1) := by decide +kernel
theorem dX12_takes_31 : decode cX12_takes 31 = .ok (.iload_n 2, 1) := by decide +kernel
theorem dX12_takes_32 : decode cX12_takes 32 = .ok (.aload_n 0, 1) := by decide +kernel
theorem dX12_takes_33 : decode cX12_takes 33 = .ok (.getfield 7, 3) := by decide +kernel
theorem dX12_takes_36 : decode cX12_takes 36 = .ok (.irem, 1) := by decide +kernel
theorem dX12_takes_37 : decode cX12_takes 37 = .ok (.iastore, 1) := by decide +kernel
theorem dX12_takes_38 : decode cX12_takes 38 = .ok (.iinc 2 1, 3) := by decide +kernel
theorem dX12_takes_41 : decode cX12_takes 41 = .ok (.goto (-29), 3) := by decide +kernel
theorem dX12_takes_44 : decode cX12_takes 44 = .ok (.aload_n 0, 1) := by decide +kernel
theorem dX12_takes_45 : decode cX12_takes 45 = .ok (.dup, 1) := by decide +kernel
theorem dX12_takes_46 : decode cX12_takes 46 = .ok (.getfield 70, 3) := by decide +kernel
theorem dX12_takes_49 : decode cX12_takes 49 = .ok (.iconst 1, 1) := by decide +kernel
theorem dX12_takes_50 : decode cX12_takes 50 = .ok (.iadd, 1) := by decide +kernel
theorem dX12_takes_51 : decode cX12_takes 51 = .ok (.putfield 70, 3) := by decide +kernel
theorem dX12_takes_54 : decode cX12_takes 54 = .ok (.aload_n 0, 1) := by decide +kernel
theorem dX12_takes_55 : decode cX12_takes 55 = .ok (.getfield 70, 3) := by decide +kernel
theorem dX12_takes_58 : decode cX12_takes 58 = .ok (.iconst 1, 1) := by decide +kernel
theorem dX12_takes_59 : decode cX12_takes 59 = .ok (.isub, 1) := by decide +kernel
theorem dX12_takes_60 : decode cX12_takes 60 = .ok (.ireturn, 1) := by decide +kernel
theorem dX12_operation_0 : decode cX12_operation 0 = .ok (.aload_n 0, 1) := by decide +kernel
theorem dX12_operation_1 : decode cX12_operation 1 = .ok (.iload_n 1, 1) := by decide +kernel
theorem dX12_operation_2 : decode cX12_operation 2 = .ok (.iconst 1, 1) := by decide +kernel
theorem dX12_operation_3 : decode cX12_operation 3 = .ok (.iconst 3, 1) := by decide +kernel
theorem dX12_operation_4 : decode cX12_operation 4 = .ok (.invokestatic 63, 3) := by decide +kernel
theorem dX12_operation_7 : decode cX12_operation 7 = .ok (.ifCond .ne 7, 3) := by decide +kernel
theorem dX12_operation_10 : decode cX12_operation 10 = .ok (.iconst 1, 1) := by decide +kernel
theorem dX12_operation_11 : decode cX12_operation 11 = .ok (.goto 17, 3) := by decide +kernel
theorem dX12_operation_14 : decode cX12_operation 14 = .ok (.aload_n 0, 1) := by decide +kernel
theorem dX12_operation_15 : decode cX12_operation 15 = .ok (.getfield 70, 3) := by decide +kernel
theorem dX12_operation_18 : decode cX12_operation 18 = .ok (.bipush 6, 2) := by decide +kernel
theorem dX12_operation_20 : decode cX12_operation 20 = .ok (.if_icmp .ne 7, 3) := by decide +kernel
theorem dX12_operation_23 : decode cX12_operation 23 = .ok (.iconst 2, 1) := by decide +kernel
theorem dX12_operation_24 : decode cX12_operation 24 = .ok (.goto 4, 3) := by decide +kernel
theorem dX12_operation_27 : decode cX12_operation 27 = .ok (.iconst 0, 1) := by decide +kernel
theorem dX12_operation_28 : decode cX12_operation 28 = .ok (.putfield 56, 3) := by decide +kernel
theorem dX12_operation_31 : decode cX12_operation 31 = .ok (.aload_n 0, 1) := by decide +kernel
theorem dX12_operation_32 : decode cX12_operation 32 = .ok (.getfield 56, 3) := by decide +kernel
theorem dX12_operation_35 : decode cX12_operation 35 = .ok (.ifCond .le 7, 3) := by decide +kernel
theorem dX12_operation_38 : decode cX12_operation 38 = .ok (.iconst 0, 1) := by decide +kernel
theorem dX12_operation_39 : decode cX12_operation 39 = .ok (.goto 8, 3) := by decide +kernel
theorem dX12_operation_42 : decode cX12_operation 42 = .ok (.aload_n 0, 1) := by decide +kernel
theorem dX12_operation_43 : decode cX12_operation 43 = .ok (.iload_n 1, 1) := by decide +kernel
theorem dX12_operation_44 : decode cX12_operation 44 = .ok (.invokevirtual 87, 3) := by decide +kernel
theorem dX12_operation_47 : decode cX12_operation 47 = .ok (.ireturn, 1) := by decide +kernel
theorem dX12_madeOf_0 : decode cX12_madeOf 0 = .ok (.iload_n 2, 1) := by decide +kernel
theorem dX12_madeOf_1 : decode cX12_madeOf 1 = .ok (.iload_n 3, 1) := by decide +kernel
theorem dX12_madeOf_2 : decode cX12_madeOf 2 = .ok (.if_icmp .ge 7, 3) := by decide +kernel
theorem dX12_madeOf_5 : decode cX12_madeOf 5 = .ok (.iload_n 2, 1) := by decide +kernel
theorem dX12_madeOf_6 : decode cX12_madeOf 6 = .ok (.goto 4, 3) := by decide +kernel
theorem dX12_madeOf_9 : decode cX12_madeOf 9 = .ok (.iload_n 3, 1) := by decide +kernel
theorem dX12_madeOf_10 : decode cX12_madeOf 10 = .ok (.istore 5, 2) := by decide +kernel
theorem dX12_madeOf_12 : decode cX12_madeOf 12 = .ok (.iload_n 2, 1) := by decide +kernel
theorem dX12_madeOf_13 : decode cX12_madeOf 13 = .ok (.iload_n 3, 1) := by decide +kernel
theorem dX12_madeOf_14 : decode cX12_madeOf 14 = .ok (.if_icmp .le 7, 3) := by decide +kernel
theorem dX12_madeOf_17 : decode cX12_madeOf 17 = .ok (.iload_n 2, 1) := by decide +kernel
theorem dX12_madeOf_18 : decode cX12_madeOf 18 = .ok (.goto 4, 3) := by decide +kernel
theorem dX12_madeOf_21 : decode cX12_madeOf 21 = .ok (.iload_n 3, 1) := by decide +kernel
theorem dX12_madeOf_22 : decode cX12_madeOf 22 = .ok (.istore 6, 2) := by decide +kernel
theorem dX12_madeOf_24 : decode cX12_madeOf 24 = .ok (.iload 4, 2) := by decide +kernel
theorem dX12_madeOf_26 : decode cX12_madeOf 26 = .ok (.iload 5, 2) := by decide +kernel
theorem dX12_madeOf_28 : decode cX12_madeOf 28 = .ok (.if_icmp .ge 8, 3) := by decide +kernel
theorem dX12_madeOf_31 : decode cX12_madeOf 31 = .ok (.iload 5, 2) := by decide +kernel
theorem dX12_madeOf_33 : decode cX12_madeOf 33 = .ok (.goto 17, 3) := by decide +kernel
theorem dX12_madeOf_36 : decode cX12_madeOf 36 = .ok (.iload 4, 2) := by decide +kernel
theorem dX12_madeOf_38 : decode cX12_madeOf 38 = .ok (.iload 6, 2) := by decide +kernel
theorem dX12_madeOf_40 : decode cX12_madeOf 40 = .ok (.if_icmp .le 8, 3) := by decide +kernel
theorem dX12_madeOf_43 : decode cX12_madeOf 43 = .ok (.iload 6, 2) := by decide +kernel
theorem dX12_madeOf_45 : decode cX12_madeOf 45 = .ok (.goto 5, 3) := by decide +kernel
theorem dX12_madeOf_48 : decode cX12_madeOf 48 = .ok (.iload 4, 2) := by decide +kernel
theorem dX12_madeOf_50 : decode cX12_madeOf 50 = .ok (.istore 7, 2) := by decide +kernel
theorem dX12_madeOf_52 : decode cX12_madeOf 52 = .ok (.iload_n 1, 1) := by decide +kernel
theorem dX12_madeOf_53 : decode cX12_madeOf 53 = .ok (.ifCond .ne 8, 3) := by decide +kernel
theorem dX12_madeOf_56 : decode cX12_madeOf 56 = .ok (.iload 5, 2) := by decide +kernel
theorem dX12_madeOf_58 : decode cX12_madeOf 58 = .ok (.goto 55, 3) := by decide +kernel
theorem dX12_madeOf_61 : decode cX12_madeOf 61 = .ok (.iload_n 1, 1) := by decide +kernel
theorem dX12_madeOf_62 : decode cX12_madeOf 62 = .ok (.iconst 1, 1) := by decide +kernel
theorem dX12_madeOf_63 : decode cX12_madeOf 63 = .ok (.if_icmp .ne 8, 3) := by decide +kernel
theorem dX12_madeOf_66 : decode cX12_madeOf 66 = .ok (.iload 6, 2) := by decide +kernel
theorem dX12_madeOf_68 : decode cX12_madeOf 68 = .ok (.goto 45, 3) := by decide +kernel
theorem dX12_madeOf_71 : decode cX12_madeOf 71 = .ok (.iload_n 1, 1) := by decide +kernel
theorem dX12_madeOf_72 : decode cX12_madeOf 72 = .ok (.iconst 2, 1) := by decide +kernel
theorem dX12_madeOf_73 : decode cX12_madeOf 73 = .ok (.if_icmp .ne 8, 3) := by decide +kernel
theorem dX12_madeOf_76 : decode cX12_madeOf 76 = .ok (.iload 7, 2) := by decide +kernel
theorem dX12_madeOf_78 : decode cX12_madeOf 78 = .ok (.goto 35, 3) := by decide +kernel
theorem dX12_madeOf_81 : decode cX12_madeOf 81 = .ok (.iload_n 1, 1) := by decide +kernel
theorem dX12_madeOf_82 : decode cX12_madeOf 82 = .ok (.iconst 3, 1) := by decide +kernel
theorem dX12_madeOf_83 : decode cX12_madeOf 83 = .ok (.if_icmp .ne 22, 3) := by decide +kernel
theorem dX12_madeOf_86 : decode cX12_madeOf 86 = .ok (.iload_n 2, 1) := by decide +kernel
theorem dX12_madeOf_87 : decode cX12_madeOf 87 = .ok (.iload_n 3, 1) := by decide +kernel
theorem dX12_madeOf_88 : decode cX12_madeOf 88 = .ok (.isub, 1) := by decide +kernel
theorem dX12_madeOf_89 : decode cX12_madeOf 89 = .ok (.iload 4, 2) := by decide +kernel
theorem dX12_madeOf_91 : decode cX12_madeOf 91 = .ok (.iadd, 1) := by decide +kernel
theorem dX12_madeOf_92 : decode cX12_madeOf 92 = .ok (.aload_n 0, 1) := by decide +kernel
theorem dX12_madeOf_93 : decode cX12_madeOf 93 = .ok (.getfield 7, 3) := by decide +kernel
theorem dX12_madeOf_96 : decode cX12_madeOf 96 = .ok (.iadd, 1) := by decide +kernel
theorem dX12_madeOf_97 : decode cX12_madeOf 97 = .ok (.aload_n 0, 1) := by decide +kernel
theorem dX12_madeOf_98 : decode cX12_madeOf 98 = .ok (.getfield 7, 3) := by decide +kernel
theorem dX12_madeOf_101 : decode cX12_madeOf 101 = .ok (.irem, 1) := by decide +kernel
theorem dX12_madeOf_102 : decode cX12_madeOf 102 = .ok (.goto 11, 3) := by decide +kernel
theorem dX12_madeOf_105 : decode cX12_madeOf 105 = .ok (.iload_n 2, 1) := by decide +kernel
theorem dX12_madeOf_106 : decode cX12_madeOf 106 = .ok (.iconst 1, 1) := by decide +kernel
theorem dX12_madeOf_107 : decode cX12_madeOf 107 = .ok (.iadd, 1) := by decide +kernel
theorem dX12_madeOf_108 : decode cX12_madeOf 108 = .ok (.aload_n 0, 1) := by decide +kernel
theorem dX12_madeOf_109 : decode cX12_madeOf 109 = .ok (.getfield 7, 3) := by decide +kernel
theorem dX12_madeOf_112 : decode cX12_madeOf 112 = .ok (.irem, 1) := by decide +kernel
theorem dX12_madeOf_113 : decode cX12_madeOf 113 = .ok (.ireturn, 1) := by decide +kernel
theorem dX12_lays_0 : decode cX12_lays 0 = .ok (.iconst 0, 1) := by decide +kernel
theorem dX12_lays_1 : decode cX12_lays 1 = .ok (.istore_n 3, 1) := by decide +kernel
theorem dX12_lays_2 : decode cX12_lays 2 = .ok (.iload_n 3, 1) := by decide +kernel
theorem dX12_lays_3 : decode cX12_lays 3 = .ok (.bipush 27, 2) := by decide +kernel
theorem dX12_lays_5 : decode cX12_lays 5 = .ok (.if_icmp .ge 58, 3) := by decide +kernel
theorem dX12_lays_8 : decode cX12_lays 8 = .ok (.aload_n 0, 1) := by decide +kernel
theorem dX12_lays_9 : decode cX12_lays 9 = .ok (.getfield 23, 3) := by decide +kernel
theorem dX12_lays_12 : decode cX12_lays 12 = .ok (.bipush 27, 2) := by decide +kernel
theorem dX12_lays_14 : decode cX12_lays 14 = .ok (.iload_n 1, 1) := by decide +kernel
theorem dX12_lays_15 : decode cX12_lays 15 = .ok (.imul, 1) := by decide +kernel
theorem dX12_lays_16 : decode cX12_lays 16 = .ok (.iload_n 3, 1) := by decide +kernel
theorem dX12_lays_17 : decode cX12_lays 17 = .ok (.iadd, 1) := by decide +kernel
theorem dX12_lays_18 : decode cX12_lays 18 = .ok (.aload_n 0, 1) := by decide +kernel
theorem dX12_lays_19 : decode cX12_lays 19 = .ok (.iload_n 2, 1) := by decide +kernel
theorem dX12_lays_20 : decode cX12_lays 20 = .ok (.iload_n 3, 1) := by decide +kernel
theorem dX12_lays_21 : decode cX12_lays 21 = .ok (.aload_n 0, 1) := by decide +kernel
theorem dX12_lays_22 : decode cX12_lays 22 = .ok (.getfield 7, 3) := by decide +kernel
theorem dX12_lays_25 : decode cX12_lays 25 = .ok (.irem, 1) := by decide +kernel
theorem dX12_lays_26 : decode cX12_lays 26 = .ok (.iload_n 3, 1) := by decide +kernel
theorem dX12_lays_27 : decode cX12_lays 27 = .ok (.aload_n 0, 1) := by decide +kernel
theorem dX12_lays_28 : decode cX12_lays 28 = .ok (.getfield 7, 3) := by decide +kernel
theorem dX12_lays_31 : decode cX12_lays 31 = .ok (.idiv, 1) := by decide +kernel
theorem dX12_lays_32 : decode cX12_lays 32 = .ok (.aload_n 0, 1) := by decide +kernel
theorem dX12_lays_33 : decode cX12_lays 33 = .ok (.getfield 7, 3) := by decide +kernel
theorem dX12_lays_36 : decode cX12_lays 36 = .ok (.irem, 1) := by decide +kernel
theorem dX12_lays_37 : decode cX12_lays 37 = .ok (.iload_n 3, 1) := by decide +kernel
theorem dX12_lays_38 : decode cX12_lays 38 = .ok (.aload_n 0, 1) := by decide +kernel
theorem dX12_lays_39 : decode cX12_lays 39 = .ok (.getfield 7, 3) := by decide +kernel
theorem dX12_lays_42 : decode cX12_lays 42 = .ok (.idiv, 1) := by decide +kernel
theorem dX12_lays_43 : decode cX12_lays 43 = .ok (.aload_n 0, 1) := by decide +kernel
theorem dX12_lays_44 : decode cX12_lays 44 = .ok (.getfield 7, 3) := by decide +kernel
theorem dX12_lays_47 : decode cX12_lays 47 = .ok (.idiv, 1) := by decide +kernel
theorem dX12_lays_48 : decode cX12_lays 48 = .ok (.aload_n 0, 1) := by decide +kernel
theorem dX12_lays_49 : decode cX12_lays 49 = .ok (.getfield 7, 3) := by decide +kernel
theorem dX12_lays_52 : decode cX12_lays 52 = .ok (.irem, 1) := by decide +kernel
theorem dX12_lays_53 : decode cX12_lays 53 = .ok (.invokevirtual 90, 3) := by decide +kernel
theorem dX12_lays_56 : decode cX12_lays 56 = .ok (.iastore, 1) := by decide +kernel
theorem dX12_lays_57 : decode cX12_lays 57 = .ok (.iinc 3 1, 3) := by decide +kernel
theorem dX12_lays_60 : decode cX12_lays 60 = .ok (.goto (-58), 3) := by decide +kernel
theorem dX12_lays_63 : decode cX12_lays 63 = .ok (.return_, 1) := by decide +kernel
theorem dX12_make_0 : decode cX12_make 0 = .ok (.aload_n 0, 1) := by decide +kernel
theorem dX12_make_1 : decode cX12_make 1 = .ok (.iload_n 1, 1) := by decide +kernel
theorem dX12_make_2 : decode cX12_make 2 = .ok (.iconst 0, 1) := by decide +kernel
theorem dX12_make_3 : decode cX12_make 3 = .ok (.iconst 4, 1) := by decide +kernel
theorem dX12_make_4 : decode cX12_make 4 = .ok (.invokestatic 63, 3) := by decide +kernel
theorem dX12_make_7 : decode cX12_make 7 = .ok (.ifCond .ne 7, 3) := by decide +kernel
theorem dX12_make_10 : decode cX12_make 10 = .ok (.iconst 1, 1) := by decide +kernel
theorem dX12_make_11 : decode cX12_make 11 = .ok (.goto 17, 3) := by decide +kernel
theorem dX12_make_14 : decode cX12_make 14 = .ok (.aload_n 0, 1) := by decide +kernel
theorem dX12_make_15 : decode cX12_make 15 = .ok (.getfield 70, 3) := by decide +kernel
theorem dX12_make_18 : decode cX12_make 18 = .ok (.bipush 6, 2) := by decide +kernel
theorem dX12_make_20 : decode cX12_make 20 = .ok (.if_icmp .ne 7, 3) := by decide +kernel
theorem dX12_make_23 : decode cX12_make 23 = .ok (.iconst 2, 1) := by decide +kernel
theorem dX12_make_24 : decode cX12_make 24 = .ok (.goto 4, 3) := by decide +kernel
theorem dX12_make_27 : decode cX12_make 27 = .ok (.iconst 0, 1) := by decide +kernel
theorem dX12_make_28 : decode cX12_make 28 = .ok (.putfield 56, 3) := by decide +kernel
theorem dX12_make_31 : decode cX12_make 31 = .ok (.aload_n 0, 1) := by decide +kernel
theorem dX12_make_32 : decode cX12_make 32 = .ok (.getfield 56, 3) := by decide +kernel
theorem dX12_make_35 : decode cX12_make 35 = .ok (.ifCond .le 5, 3) := by decide +kernel
theorem dX12_make_38 : decode cX12_make 38 = .ok (.iconst 0, 1) := by decide +kernel
theorem dX12_make_39 : decode cX12_make 39 = .ok (.ireturn, 1) := by decide +kernel
theorem dX12_make_40 : decode cX12_make 40 = .ok (.aload_n 0, 1) := by decide +kernel
theorem dX12_make_41 : decode cX12_make 41 = .ok (.iload_n 1, 1) := by decide +kernel
theorem dX12_make_42 : decode cX12_make 42 = .ok (.iconst 2, 1) := by decide +kernel
theorem dX12_make_43 : decode cX12_make 43 = .ok (.if_icmp .ge 7, 3) := by decide +kernel
theorem dX12_make_46 : decode cX12_make 46 = .ok (.iconst 2, 1) := by decide +kernel
theorem dX12_make_47 : decode cX12_make 47 = .ok (.goto 13, 3) := by decide +kernel
theorem dX12_make_50 : decode cX12_make 50 = .ok (.iload_n 1, 1) := by decide +kernel
theorem dX12_make_51 : decode cX12_make 51 = .ok (.iconst 4, 1) := by decide +kernel
theorem dX12_make_52 : decode cX12_make 52 = .ok (.if_icmp .ge 7, 3) := by decide +kernel
theorem dX12_make_55 : decode cX12_make 55 = .ok (.iconst 3, 1) := by decide +kernel
theorem dX12_make_56 : decode cX12_make 56 = .ok (.goto 4, 3) := by decide +kernel
theorem dX12_make_59 : decode cX12_make 59 = .ok (.iconst 1, 1) := by decide +kernel
theorem dX12_make_60 : decode cX12_make 60 = .ok (.invokevirtual 87, 3) := by decide +kernel
theorem dX12_make_63 : decode cX12_make 63 = .ok (.istore_n 2, 1) := by decide +kernel
theorem dX12_make_64 : decode cX12_make 64 = .ok (.aload_n 0, 1) := by decide +kernel
theorem dX12_make_65 : decode cX12_make 65 = .ok (.iload_n 2, 1) := by decide +kernel
theorem dX12_make_66 : decode cX12_make 66 = .ok (.iload_n 1, 1) := by decide +kernel
theorem dX12_make_67 : decode cX12_make 67 = .ok (.invokevirtual 94, 3) := by decide +kernel
theorem dX12_make_70 : decode cX12_make 70 = .ok (.iload_n 2, 1) := by decide +kernel
theorem dX12_make_71 : decode cX12_make 71 = .ok (.ireturn, 1) := by decide +kernel
theorem dX12_isOperation_0 : decode cX12_isOperation 0 = .ok (.iload_n 1, 1) := by decide +kernel
theorem dX12_isOperation_1 : decode cX12_isOperation 1 = .ok (.iconst 0, 1) := by decide +kernel
theorem dX12_isOperation_2 : decode cX12_isOperation 2 = .ok (.aload_n 0, 1) := by decide +kernel
theorem dX12_isOperation_3 : decode cX12_isOperation 3 = .ok (.getfield 70, 3) := by decide +kernel
theorem dX12_isOperation_6 : decode cX12_isOperation 6 = .ok (.iconst 1, 1) := by decide +kernel
theorem dX12_isOperation_7 : decode cX12_isOperation 7 = .ok (.isub, 1) := by decide +kernel
theorem dX12_isOperation_8 : decode cX12_isOperation 8 = .ok (.invokestatic 63, 3) := by decide +kernel
theorem dX12_isOperation_11 : decode cX12_isOperation 11 = .ok (.ireturn, 1) := by decide +kernel
theorem dX12_answers_0 : decode cX12_answers 0 = .ok (.aload_n 0, 1) := by decide +kernel
theorem dX12_answers_1 : decode cX12_answers 1 = .ok (.aload_n 0, 1) := by decide +kernel
theorem dX12_answers_2 : decode cX12_answers 2 = .ok (.iload_n 1, 1) := by decide +kernel
theorem dX12_answers_3 : decode cX12_answers 3 = .ok (.invokevirtual 98, 3) := by decide +kernel
theorem dX12_answers_6 : decode cX12_answers 6 = .ok (.ifCond .eq 35, 3) := by decide +kernel
theorem dX12_answers_9 : decode cX12_answers 9 = .ok (.iload_n 2, 1) := by decide +kernel
theorem dX12_answers_10 : decode cX12_answers 10 = .ok (.iconst 0, 1) := by decide +kernel
theorem dX12_answers_11 : decode cX12_answers 11 = .ok (.aload_n 0, 1) := by decide +kernel
theorem dX12_answers_12 : decode cX12_answers 12 = .ok (.aload_n 0, 1) := by decide +kernel
theorem dX12_answers_13 : decode cX12_answers 13 = .ok (.getfield 20, 3) := by decide +kernel
theorem dX12_answers_16 : decode cX12_answers 16 = .ok (.aload_n 0, 1) := by decide +kernel
theorem dX12_answers_17 : decode cX12_answers 17 = .ok (.iload_n 1, 1) := by decide +kernel
theorem dX12_answers_18 : decode cX12_answers 18 = .ok (.invokevirtual 98, 3) := by decide +kernel
theorem dX12_answers_21 : decode cX12_answers 21 = .ok (.ifCond .eq 7, 3) := by decide +kernel
theorem dX12_answers_24 : decode cX12_answers 24 = .ok (.iload_n 1, 1) := by decide +kernel
theorem dX12_answers_25 : decode cX12_answers 25 = .ok (.goto 4, 3) := by decide +kernel
theorem dX12_answers_28 : decode cX12_answers 28 = .ok (.iconst 0, 1) := by decide +kernel
theorem dX12_answers_29 : decode cX12_answers 29 = .ok (.iaload, 1) := by decide +kernel
theorem dX12_answers_30 : decode cX12_answers 30 = .ok (.invokevirtual 59, 3) := by decide +kernel
theorem dX12_answers_33 : decode cX12_answers 33 = .ok (.iconst 1, 1) := by decide +kernel
theorem dX12_answers_34 : decode cX12_answers 34 = .ok (.isub, 1) := by decide +kernel
theorem dX12_answers_35 : decode cX12_answers 35 = .ok (.invokestatic 63, 3) := by decide +kernel
theorem dX12_answers_38 : decode cX12_answers 38 = .ok (.ifCond .ne 7, 3) := by decide +kernel
theorem dX12_answers_41 : decode cX12_answers 41 = .ok (.iconst 1, 1) := by decide +kernel
theorem dX12_answers_42 : decode cX12_answers 42 = .ok (.goto 22, 3) := by decide +kernel
theorem dX12_answers_45 : decode cX12_answers 45 = .ok (.iload_n 3, 1) := by decide +kernel
theorem dX12_answers_46 : decode cX12_answers 46 = .ok (.iconst 0, 1) := by decide +kernel
theorem dX12_answers_47 : decode cX12_answers 47 = .ok (.aload_n 0, 1) := by decide +kernel
theorem dX12_answers_48 : decode cX12_answers 48 = .ok (.getfield 7, 3) := by decide +kernel
theorem dX12_answers_51 : decode cX12_answers 51 = .ok (.iconst 1, 1) := by decide +kernel
theorem dX12_answers_52 : decode cX12_answers 52 = .ok (.isub, 1) := by decide +kernel
theorem dX12_answers_53 : decode cX12_answers 53 = .ok (.invokestatic 63, 3) := by decide +kernel
theorem dX12_answers_56 : decode cX12_answers 56 = .ok (.ifCond .ne 7, 3) := by decide +kernel
theorem dX12_answers_59 : decode cX12_answers 59 = .ok (.iconst 2, 1) := by decide +kernel
theorem dX12_answers_60 : decode cX12_answers 60 = .ok (.goto 4, 3) := by decide +kernel
theorem dX12_answers_63 : decode cX12_answers 63 = .ok (.iconst 0, 1) := by decide +kernel
theorem dX12_answers_64 : decode cX12_answers 64 = .ok (.putfield 56, 3) := by decide +kernel
theorem dX12_answers_67 : decode cX12_answers 67 = .ok (.aload_n 0, 1) := by decide +kernel
theorem dX12_answers_68 : decode cX12_answers 68 = .ok (.getfield 56, 3) := by decide +kernel
theorem dX12_answers_71 : decode cX12_answers 71 = .ok (.ifCond .le 5, 3) := by decide +kernel
theorem dX12_answers_74 : decode cX12_answers 74 = .ok (.iconst 0, 1) := by decide +kernel
theorem dX12_answers_75 : decode cX12_answers 75 = .ok (.ireturn, 1) := by decide +kernel
theorem dX12_answers_76 : decode cX12_answers 76 = .ok (.aload_n 0, 1) := by decide +kernel
theorem dX12_answers_77 : decode cX12_answers 77 = .ok (.getfield 23, 3) := by decide +kernel
theorem dX12_answers_80 : decode cX12_answers 80 = .ok (.bipush 27, 2) := by decide +kernel
theorem dX12_answers_82 : decode cX12_answers 82 = .ok (.iload_n 1, 1) := by decide +kernel
theorem dX12_answers_83 : decode cX12_answers 83 = .ok (.imul, 1) := by decide +kernel
theorem dX12_answers_84 : decode cX12_answers 84 = .ok (.iload_n 2, 1) := by decide +kernel
theorem dX12_answers_85 : decode cX12_answers 85 = .ok (.iadd, 1) := by decide +kernel
theorem dX12_answers_86 : decode cX12_answers 86 = .ok (.iaload, 1) := by decide +kernel
theorem dX12_answers_87 : decode cX12_answers 87 = .ok (.istore 4, 2) := by decide +kernel
theorem dX12_answers_89 : decode cX12_answers 89 = .ok (.aload_n 0, 1) := by decide +kernel
theorem dX12_answers_90 : decode cX12_answers 90 = .ok (.getfield 23, 3) := by decide +kernel
theorem dX12_answers_93 : decode cX12_answers 93 = .ok (.bipush 27, 2) := by decide +kernel
theorem dX12_answers_95 : decode cX12_answers 95 = .ok (.iload_n 1, 1) := by decide +kernel
theorem dX12_answers_96 : decode cX12_answers 96 = .ok (.imul, 1) := by decide +kernel
theorem dX12_answers_97 : decode cX12_answers 97 = .ok (.iload_n 2, 1) := by decide +kernel
theorem dX12_answers_98 : decode cX12_answers 98 = .ok (.iadd, 1) := by decide +kernel
theorem dX12_answers_99 : decode cX12_answers 99 = .ok (.iload_n 3, 1) := by decide +kernel
theorem dX12_answers_100 : decode cX12_answers 100 = .ok (.iastore, 1) := by decide +kernel
theorem dX12_answers_101 : decode cX12_answers 101 = .ok (.iload 4, 2) := by decide +kernel
theorem dX12_answers_103 : decode cX12_answers 103 = .ok (.ireturn, 1) := by decide +kernel
theorem dX12_codeOf_0 : decode cX12_codeOf 0 = .ok (.lconst 0, 1) := by decide +kernel
theorem dX12_codeOf_1 : decode cX12_codeOf 1 = .ok (.lstore_n 3, 1) := by decide +kernel
theorem dX12_codeOf_2 : decode cX12_codeOf 2 = .ok (.aload_n 0, 1) := by decide +kernel
theorem dX12_codeOf_3 : decode cX12_codeOf 3 = .ok (.iload_n 2, 1) := by decide +kernel
theorem dX12_codeOf_4 : decode cX12_codeOf 4 = .ok (.invokevirtual 59, 3) := by decide +kernel
theorem dX12_codeOf_7 : decode cX12_codeOf 7 = .ok (.iconst 1, 1) := by decide +kernel
theorem dX12_codeOf_8 : decode cX12_codeOf 8 = .ok (.isub, 1) := by decide +kernel
theorem dX12_codeOf_9 : decode cX12_codeOf 9 = .ok (.istore 5, 2) := by decide +kernel
theorem dX12_codeOf_11 : decode cX12_codeOf 11 = .ok (.iload 5, 2) := by decide +kernel
theorem dX12_codeOf_13 : decode cX12_codeOf 13 = .ok (.ifCond .lt 31, 3) := by decide +kernel
theorem dX12_codeOf_16 : decode cX12_codeOf 16 = .ok (.lload_n 3, 1) := by decide +kernel
theorem dX12_codeOf_17 : decode cX12_codeOf 17 = .ok (.aload_n 0, 1) := by decide +kernel
theorem dX12_codeOf_18 : decode cX12_codeOf 18 = .ok (.getfield 7, 3) := by decide +kernel
theorem dX12_codeOf_21 : decode cX12_codeOf 21 = .ok (.i2l, 1) := by decide +kernel
theorem dX12_codeOf_22 : decode cX12_codeOf 22 = .ok (.lmul, 1) := by decide +kernel
theorem dX12_codeOf_23 : decode cX12_codeOf 23 = .ok (.aload_n 0, 1) := by decide +kernel
theorem dX12_codeOf_24 : decode cX12_codeOf 24 = .ok (.getfield 23, 3) := by decide +kernel
theorem dX12_codeOf_27 : decode cX12_codeOf 27 = .ok (.bipush 27, 2) := by decide +kernel
theorem dX12_codeOf_29 : decode cX12_codeOf 29 = .ok (.iload_n 1, 1) := by decide +kernel
theorem dX12_codeOf_30 : decode cX12_codeOf 30 = .ok (.imul, 1) := by decide +kernel
theorem dX12_codeOf_31 : decode cX12_codeOf 31 = .ok (.iload 5, 2) := by decide +kernel
theorem dX12_codeOf_33 : decode cX12_codeOf 33 = .ok (.iadd, 1) := by decide +kernel
theorem dX12_codeOf_34 : decode cX12_codeOf 34 = .ok (.iaload, 1) := by decide +kernel
theorem dX12_codeOf_35 : decode cX12_codeOf 35 = .ok (.i2l, 1) := by decide +kernel
theorem dX12_codeOf_36 : decode cX12_codeOf 36 = .ok (.ladd, 1) := by decide +kernel
theorem dX12_codeOf_37 : decode cX12_codeOf 37 = .ok (.lstore_n 3, 1) := by decide +kernel
theorem dX12_codeOf_38 : decode cX12_codeOf 38 = .ok (.iinc 5 (-1), 3) := by decide +kernel
theorem dX12_codeOf_41 : decode cX12_codeOf 41 = .ok (.goto (-30), 3) := by decide +kernel
theorem dX12_codeOf_44 : decode cX12_codeOf 44 = .ok (.lload_n 3, 1) := by decide +kernel
theorem dX12_codeOf_45 : decode cX12_codeOf 45 = .ok (.lreturn, 1) := by decide +kernel
theorem dX12_code_0 : decode cX12_code 0 = .ok (.aload_n 0, 1) := by decide +kernel
theorem dX12_code_1 : decode cX12_code 1 = .ok (.aload_n 0, 1) := by decide +kernel
theorem dX12_code_2 : decode cX12_code 2 = .ok (.iload_n 1, 1) := by decide +kernel
theorem dX12_code_3 : decode cX12_code 3 = .ok (.invokevirtual 98, 3) := by decide +kernel
theorem dX12_code_6 : decode cX12_code 6 = .ok (.ifCond .eq 7, 3) := by decide +kernel
theorem dX12_code_9 : decode cX12_code 9 = .ok (.iconst 0, 1) := by decide +kernel
theorem dX12_code_10 : decode cX12_code 10 = .ok (.goto 4, 3) := by decide +kernel
theorem dX12_code_13 : decode cX12_code 13 = .ok (.iconst 1, 1) := by decide +kernel
theorem dX12_code_14 : decode cX12_code 14 = .ok (.putfield 56, 3) := by decide +kernel
theorem dX12_code_17 : decode cX12_code 17 = .ok (.aload_n 0, 1) := by decide +kernel
theorem dX12_code_18 : decode cX12_code 18 = .ok (.getfield 56, 3) := by decide +kernel
theorem dX12_code_21 : decode cX12_code 21 = .ok (.ifCond .ne 17, 3) := by decide +kernel
theorem dX12_code_24 : decode cX12_code 24 = .ok (.aload_n 0, 1) := by decide +kernel
theorem dX12_code_25 : decode cX12_code 25 = .ok (.iload_n 1, 1) := by decide +kernel
theorem dX12_code_26 : decode cX12_code 26 = .ok (.aload_n 0, 1) := by decide +kernel
theorem dX12_code_27 : decode cX12_code 27 = .ok (.getfield 20, 3) := by decide +kernel
theorem dX12_code_30 : decode cX12_code 30 = .ok (.iload_n 1, 1) := by decide +kernel
theorem dX12_code_31 : decode cX12_code 31 = .ok (.iaload, 1) := by decide +kernel
theorem dX12_code_32 : decode cX12_code 32 = .ok (.invokevirtual 101, 3) := by decide +kernel
theorem dX12_code_35 : decode cX12_code 35 = .ok (.goto 4, 3) := by decide +kernel
theorem dX12_code_38 : decode cX12_code 38 = .ok (.lconst 0, 1) := by decide +kernel
theorem dX12_code_39 : decode cX12_code 39 = .ok (.lreturn, 1) := by decide +kernel
theorem dX12_applied_0 : decode cX12_applied 0 = .ok (.iconst 0, 1) := by decide +kernel
theorem dX12_applied_1 : decode cX12_applied 1 = .ok (.istore 4, 2) := by decide +kernel
theorem dX12_applied_3 : decode cX12_applied 3 = .ok (.iload_n 3, 1) := by decide +kernel
theorem dX12_applied_4 : decode cX12_applied 4 = .ok (.iconst 1, 1) := by decide +kernel
theorem dX12_applied_5 : decode cX12_applied 5 = .ok (.isub, 1) := by decide +kernel
theorem dX12_applied_6 : decode cX12_applied 6 = .ok (.istore 5, 2) := by decide +kernel
theorem dX12_applied_8 : decode cX12_applied 8 = .ok (.iload 5, 2) := by decide +kernel
theorem dX12_applied_10 : decode cX12_applied 10 = .ok (.ifCond .lt 73, 3) := by decide +kernel
theorem dX12_applied_13 : decode cX12_applied 13 = .ok (.iconst 0, 1) := by decide +kernel
theorem dX12_applied_14 : decode cX12_applied 14 = .ok (.istore 6, 2) := by decide +kernel
theorem dX12_applied_16 : decode cX12_applied 16 = .ok (.iload_n 2, 1) := by decide +kernel
theorem dX12_applied_17 : decode cX12_applied 17 = .ok (.iconst 1, 1) := by decide +kernel
theorem dX12_applied_18 : decode cX12_applied 18 = .ok (.isub, 1) := by decide +kernel
theorem dX12_applied_19 : decode cX12_applied 19 = .ok (.istore 7, 2) := by decide +kernel
theorem dX12_applied_21 : decode cX12_applied 21 = .ok (.iload 7, 2) := by decide +kernel
theorem dX12_applied_23 : decode cX12_applied 23 = .ok (.ifCond .lt 32, 3) := by decide +kernel
theorem dX12_applied_26 : decode cX12_applied 26 = .ok (.iload 6, 2) := by decide +kernel
theorem dX12_applied_28 : decode cX12_applied 28 = .ok (.aload_n 0, 1) := by decide +kernel
theorem dX12_applied_29 : decode cX12_applied 29 = .ok (.getfield 7, 3) := by decide +kernel
theorem dX12_applied_32 : decode cX12_applied 32 = .ok (.imul, 1) := by decide +kernel
theorem dX12_applied_33 : decode cX12_applied 33 = .ok (.aload_n 0, 1) := by decide +kernel
theorem dX12_applied_34 : decode cX12_applied 34 = .ok (.aload_n 0, 1) := by decide +kernel
theorem dX12_applied_35 : decode cX12_applied 35 = .ok (.getfield 47, 3) := by decide +kernel
theorem dX12_applied_38 : decode cX12_applied 38 = .ok (.iload 7, 2) := by decide +kernel
theorem dX12_applied_40 : decode cX12_applied 40 = .ok (.iaload, 1) := by decide +kernel
theorem dX12_applied_41 : decode cX12_applied 41 = .ok (.iload 5, 2) := by decide +kernel
theorem dX12_applied_43 : decode cX12_applied 43 = .ok (.invokevirtual 105, 3) := by decide +kernel
theorem dX12_applied_46 : decode cX12_applied 46 = .ok (.iadd, 1) := by decide +kernel
theorem dX12_applied_47 : decode cX12_applied 47 = .ok (.istore 6, 2) := by decide +kernel
theorem dX12_applied_49 : decode cX12_applied 49 = .ok (.iinc 7 (-1), 3) := by decide +kernel
theorem dX12_applied_52 : decode cX12_applied 52 = .ok (.goto (-31), 3) := by decide +kernel
theorem dX12_applied_55 : decode cX12_applied 55 = .ok (.iload 4, 2) := by decide +kernel
theorem dX12_applied_57 : decode cX12_applied 57 = .ok (.aload_n 0, 1) := by decide +kernel
theorem dX12_applied_58 : decode cX12_applied 58 = .ok (.getfield 7, 3) := by decide +kernel
theorem dX12_applied_61 : decode cX12_applied 61 = .ok (.imul, 1) := by decide +kernel
theorem dX12_applied_62 : decode cX12_applied 62 = .ok (.aload_n 0, 1) := by decide +kernel
theorem dX12_applied_63 : decode cX12_applied 63 = .ok (.getfield 23, 3) := by decide +kernel
theorem dX12_applied_66 : decode cX12_applied 66 = .ok (.bipush 27, 2) := by decide +kernel
theorem dX12_applied_68 : decode cX12_applied 68 = .ok (.iload_n 1, 1) := by decide +kernel
theorem dX12_applied_69 : decode cX12_applied 69 = .ok (.imul, 1) := by decide +kernel
theorem dX12_applied_70 : decode cX12_applied 70 = .ok (.iload 6, 2) := by decide +kernel
theorem dX12_applied_72 : decode cX12_applied 72 = .ok (.iadd, 1) := by decide +kernel
theorem dX12_applied_73 : decode cX12_applied 73 = .ok (.iaload, 1) := by decide +kernel
theorem dX12_applied_74 : decode cX12_applied 74 = .ok (.iadd, 1) := by decide +kernel
theorem dX12_applied_75 : decode cX12_applied 75 = .ok (.istore 4, 2) := by decide +kernel
theorem dX12_applied_77 : decode cX12_applied 77 = .ok (.iinc 5 (-1), 3) := by decide +kernel
theorem dX12_applied_80 : decode cX12_applied 80 = .ok (.goto (-72), 3) := by decide +kernel
theorem dX12_applied_83 : decode cX12_applied 83 = .ok (.iload 4, 2) := by decide +kernel
theorem dX12_applied_85 : decode cX12_applied 85 = .ok (.ireturn, 1) := by decide +kernel
theorem dX12_picksBy_0 : decode cX12_picksBy 0 = .ok (.iload_n 1, 1) := by decide +kernel
theorem dX12_picksBy_1 : decode cX12_picksBy 1 = .ok (.istore 5, 2) := by decide +kernel
theorem dX12_picksBy_3 : decode cX12_picksBy 3 = .ok (.iconst 1, 1) := by decide +kernel
theorem dX12_picksBy_4 : decode cX12_picksBy 4 = .ok (.istore 6, 2) := by decide +kernel
theorem dX12_picksBy_6 : decode cX12_picksBy 6 = .ok (.iconst 0, 1) := by decide +kernel
theorem dX12_picksBy_7 : decode cX12_picksBy 7 = .ok (.istore 7, 2) := by decide +kernel
theorem dX12_picksBy_9 : decode cX12_picksBy 9 = .ok (.iload 7, 2) := by decide +kernel
theorem dX12_picksBy_11 : decode cX12_picksBy 11 = .ok (.iload_n 2, 1) := by decide +kernel
theorem dX12_picksBy_12 : decode cX12_picksBy 12 = .ok (.if_icmp .ge 53, 3) := by decide +kernel
theorem dX12_picksBy_15 : decode cX12_picksBy 15 = .ok (.aload_n 0, 1) := by decide +kernel
theorem dX12_picksBy_16 : decode cX12_picksBy 16 = .ok (.getfield 47, 3) := by decide +kernel
theorem dX12_picksBy_19 : decode cX12_picksBy 19 = .ok (.iload 7, 2) := by decide +kernel
theorem dX12_picksBy_21 : decode cX12_picksBy 21 = .ok (.iload 5, 2) := by decide +kernel
theorem dX12_picksBy_23 : decode cX12_picksBy 23 = .ok (.iload_n 3, 1) := by decide +kernel
theorem dX12_picksBy_24 : decode cX12_picksBy 24 = .ok (.irem, 1) := by decide +kernel
theorem dX12_picksBy_25 : decode cX12_picksBy 25 = .ok (.iastore, 1) := by decide +kernel
theorem dX12_picksBy_26 : decode cX12_picksBy 26 = .ok (.iload 5, 2) := by decide +kernel
theorem dX12_picksBy_28 : decode cX12_picksBy 28 = .ok (.iload_n 3, 1) := by decide +kernel
theorem dX12_picksBy_29 : decode cX12_picksBy 29 = .ok (.idiv, 1) := by decide +kernel
theorem dX12_picksBy_30 : decode cX12_picksBy 30 = .ok (.istore 5, 2) := by decide +kernel
theorem dX12_picksBy_32 : decode cX12_picksBy 32 = .ok (.iload 6, 2) := by decide +kernel
theorem dX12_picksBy_34 : decode cX12_picksBy 34 = .ok (.ifCond .eq 22, 3) := by decide +kernel
theorem dX12_picksBy_37 : decode cX12_picksBy 37 = .ok (.iload 4, 2) := by decide +kernel
theorem dX12_picksBy_39 : decode cX12_picksBy 39 = .ok (.aload_n 0, 1) := by decide +kernel
theorem dX12_picksBy_40 : decode cX12_picksBy 40 = .ok (.getfield 47, 3) := by decide +kernel
theorem dX12_picksBy_43 : decode cX12_picksBy 43 = .ok (.iload 7, 2) := by decide +kernel
theorem dX12_picksBy_45 : decode cX12_picksBy 45 = .ok (.iaload, 1) := by decide +kernel
theorem dX12_picksBy_46 : decode cX12_picksBy 46 = .ok (.invokestatic 80, 3) := by decide +kernel
theorem dX12_picksBy_49 : decode cX12_picksBy 49 = .ok (.ifCond .eq 7, 3) := by decide +kernel
theorem dX12_picksBy_52 : decode cX12_picksBy 52 = .ok (.iconst 1, 1) := by decide +kernel
theorem dX12_picksBy_53 : decode cX12_picksBy 53 = .ok (.goto 4, 3) := by decide +kernel
theorem dX12_picksBy_56 : decode cX12_picksBy 56 = .ok (.iconst 0, 1) := by decide +kernel
theorem dX12_picksBy_57 : decode cX12_picksBy 57 = .ok (.istore 6, 2) := by decide +kernel
theorem dX12_picksBy_59 : decode cX12_picksBy 59 = .ok (.iinc 7 1, 3) := by decide +kernel
theorem dX12_picksBy_62 : decode cX12_picksBy 62 = .ok (.goto (-53), 3) := by decide +kernel
theorem dX12_picksBy_65 : decode cX12_picksBy 65 = .ok (.iload 6, 2) := by decide +kernel
theorem dX12_picksBy_67 : decode cX12_picksBy 67 = .ok (.ireturn, 1) := by decide +kernel
theorem dX12_come_0 : decode cX12_come 0 = .ok (.aload_n 0, 1) := by decide +kernel
theorem dX12_come_1 : decode cX12_come 1 = .ok (.iload_n 3, 1) := by decide +kernel
theorem dX12_come_2 : decode cX12_come 2 = .ok (.invokevirtual 59, 3) := by decide +kernel
theorem dX12_come_5 : decode cX12_come 5 = .ok (.istore 5, 2) := by decide +kernel
theorem dX12_come_7 : decode cX12_come 7 = .ok (.iload_n 2, 1) := by decide +kernel
theorem dX12_come_8 : decode cX12_come 8 = .ok (.iconst 1, 1) := by decide +kernel
theorem dX12_come_9 : decode cX12_come 9 = .ok (.if_icmp .ne 8, 3) := by decide +kernel
theorem dX12_come_12 : decode cX12_come 12 = .ok (.iload 5, 2) := by decide +kernel
theorem dX12_come_14 : decode cX12_come 14 = .ok (.goto 24, 3) := by decide +kernel
theorem dX12_come_17 : decode cX12_come 17 = .ok (.iload_n 2, 1) := by decide +kernel
theorem dX12_come_18 : decode cX12_come 18 = .ok (.iconst 2, 1) := by decide +kernel
theorem dX12_come_19 : decode cX12_come 19 = .ok (.if_icmp .ne 11, 3) := by decide +kernel
theorem dX12_come_22 : decode cX12_come 22 = .ok (.iload 5, 2) := by decide +kernel
theorem dX12_come_24 : decode cX12_come 24 = .ok (.iload 5, 2) := by decide +kernel
theorem dX12_come_26 : decode cX12_come 26 = .ok (.imul, 1) := by decide +kernel
theorem dX12_come_27 : decode cX12_come 27 = .ok (.goto 11, 3) := by decide +kernel
theorem dX12_come_30 : decode cX12_come 30 = .ok (.iload 5, 2) := by decide +kernel
theorem dX12_come_32 : decode cX12_come 32 = .ok (.iload 5, 2) := by decide +kernel
theorem dX12_come_34 : decode cX12_come 34 = .ok (.imul, 1) := by decide +kernel
theorem dX12_come_35 : decode cX12_come 35 = .ok (.iload 5, 2) := by decide +kernel
theorem dX12_come_37 : decode cX12_come 37 = .ok (.imul, 1) := by decide +kernel
theorem dX12_come_38 : decode cX12_come 38 = .ok (.istore 6, 2) := by decide +kernel
theorem dX12_come_40 : decode cX12_come 40 = .ok (.iconst 0, 1) := by decide +kernel
theorem dX12_come_41 : decode cX12_come 41 = .ok (.istore 7, 2) := by decide +kernel
theorem dX12_come_43 : decode cX12_come 43 = .ok (.iconst 0, 1) := by decide +kernel
theorem dX12_come_44 : decode cX12_come 44 = .ok (.istore 8, 2) := by decide +kernel
theorem dX12_come_46 : decode cX12_come 46 = .ok (.iload 8, 2) := by decide +kernel
theorem dX12_come_48 : decode cX12_come 48 = .ok (.iload 6, 2) := by decide +kernel
theorem dX12_come_50 : decode cX12_come 50 = .ok (.if_icmp .ge 37, 3) := by decide +kernel
theorem dX12_come_53 : decode cX12_come 53 = .ok (.aload_n 0, 1) := by decide +kernel
theorem dX12_come_54 : decode cX12_come 54 = .ok (.iload 8, 2) := by decide +kernel
theorem dX12_come_56 : decode cX12_come 56 = .ok (.iload_n 2, 1) := by decide +kernel
theorem dX12_come_57 : decode cX12_come 57 = .ok (.iload 5, 2) := by decide +kernel
theorem dX12_come_59 : decode cX12_come 59 = .ok (.iload 4, 2) := by decide +kernel
theorem dX12_come_61 : decode cX12_come 61 = .ok (.invokevirtual 109, 3) := by decide +kernel
theorem dX12_come_64 : decode cX12_come 64 = .ok (.ifCond .eq 17, 3) := by decide +kernel
theorem dX12_come_67 : decode cX12_come 67 = .ok (.iload 7, 2) := by decide +kernel
theorem dX12_come_69 : decode cX12_come 69 = .ok (.iconst 1, 1) := by decide +kernel
theorem dX12_come_70 : decode cX12_come 70 = .ok (.aload_n 0, 1) := by decide +kernel
theorem dX12_come_71 : decode cX12_come 71 = .ok (.iload_n 1, 1) := by decide +kernel
theorem dX12_come_72 : decode cX12_come 72 = .ok (.iload_n 2, 1) := by decide +kernel
theorem dX12_come_73 : decode cX12_come 73 = .ok (.iload_n 3, 1) := by decide +kernel
theorem dX12_come_74 : decode cX12_come 74 = .ok (.invokevirtual 113, 3) := by decide +kernel
theorem dX12_come_77 : decode cX12_come 77 = .ok (.ishl, 1) := by decide +kernel
theorem dX12_come_78 : decode cX12_come 78 = .ok (.ior, 1) := by decide +kernel
theorem dX12_come_79 : decode cX12_come 79 = .ok (.istore 7, 2) := by decide +kernel
theorem dX12_come_81 : decode cX12_come 81 = .ok (.iinc 8 1, 3) := by decide +kernel
theorem dX12_come_84 : decode cX12_come 84 = .ok (.goto (-38), 3) := by decide +kernel
theorem dX12_come_87 : decode cX12_come 87 = .ok (.iload 7, 2) := by decide +kernel
theorem dX12_come_89 : decode cX12_come 89 = .ok (.ireturn, 1) := by decide +kernel
theorem dX12_doesKeep_0 : decode cX12_doesKeep 0 = .ok (.aload_n 0, 1) := by decide +kernel
theorem dX12_doesKeep_1 : decode cX12_doesKeep 1 = .ok (.iload_n 1, 1) := by decide +kernel
theorem dX12_doesKeep_2 : decode cX12_doesKeep 2 = .ok (.iload_n 2, 1) := by decide +kernel
theorem dX12_doesKeep_3 : decode cX12_doesKeep 3 = .ok (.aload_n 0, 1) := by decide +kernel
theorem dX12_doesKeep_4 : decode cX12_doesKeep 4 = .ok (.getfield 13, 3) := by decide +kernel
theorem dX12_doesKeep_7 : decode cX12_doesKeep 7 = .ok (.iload_n 3, 1) := by decide +kernel
theorem dX12_doesKeep_8 : decode cX12_doesKeep 8 = .ok (.iaload, 1) := by decide +kernel
theorem dX12_doesKeep_9 : decode cX12_doesKeep 9 = .ok (.aload_n 0, 1) := by decide +kernel
theorem dX12_doesKeep_10 : decode cX12_doesKeep 10 = .ok (.getfield 17, 3) := by decide +kernel
theorem dX12_doesKeep_13 : decode cX12_doesKeep 13 = .ok (.iload_n 3, 1) := by decide +kernel
theorem dX12_doesKeep_14 : decode cX12_doesKeep 14 = .ok (.iaload, 1) := by decide +kernel
theorem dX12_doesKeep_15 : decode cX12_doesKeep 15 = .ok (.invokevirtual 117, 3) := by decide +kernel
theorem dX12_doesKeep_18 : decode cX12_doesKeep 18 = .ok (.aload_n 0, 1) := by decide +kernel
theorem dX12_doesKeep_19 : decode cX12_doesKeep 19 = .ok (.getfield 17, 3) := by decide +kernel
theorem dX12_doesKeep_22 : decode cX12_doesKeep 22 = .ok (.iload_n 3, 1) := by decide +kernel
theorem dX12_doesKeep_23 : decode cX12_doesKeep 23 = .ok (.iaload, 1) := by decide +kernel
theorem dX12_doesKeep_24 : decode cX12_doesKeep 24 = .ok (.iconst (-1), 1) := by decide +kernel
theorem dX12_doesKeep_25 : decode cX12_doesKeep 25 = .ok (.ixor, 1) := by decide +kernel
theorem dX12_doesKeep_26 : decode cX12_doesKeep 26 = .ok (.iand, 1) := by decide +kernel
theorem dX12_doesKeep_27 : decode cX12_doesKeep 27 = .ok (.ifCond .ne 7, 3) := by decide +kernel
theorem dX12_doesKeep_30 : decode cX12_doesKeep 30 = .ok (.iconst 1, 1) := by decide +kernel
theorem dX12_doesKeep_31 : decode cX12_doesKeep 31 = .ok (.goto 4, 3) := by decide +kernel
theorem dX12_doesKeep_34 : decode cX12_doesKeep 34 = .ok (.iconst 0, 1) := by decide +kernel
theorem dX12_doesKeep_35 : decode cX12_doesKeep 35 = .ok (.ireturn, 1) := by decide +kernel
theorem dX12_keepsAll_0 : decode cX12_keepsAll 0 = .ok (.iconst 1, 1) := by decide +kernel
theorem dX12_keepsAll_1 : decode cX12_keepsAll 1 = .ok (.istore_n 3, 1) := by decide +kernel
theorem dX12_keepsAll_2 : decode cX12_keepsAll 2 = .ok (.iconst 0, 1) := by decide +kernel
theorem dX12_keepsAll_3 : decode cX12_keepsAll 3 = .ok (.istore 4, 2) := by decide +kernel
theorem dX12_keepsAll_5 : decode cX12_keepsAll 5 = .ok (.iload 4, 2) := by decide +kernel
theorem dX12_keepsAll_7 : decode cX12_keepsAll 7 = .ok (.aload_n 0, 1) := by decide +kernel
theorem dX12_keepsAll_8 : decode cX12_keepsAll 8 = .ok (.getfield 67, 3) := by decide +kernel
theorem dX12_keepsAll_11 : decode cX12_keepsAll 11 = .ok (.if_icmp .ge 22, 3) := by decide +kernel
theorem dX12_keepsAll_14 : decode cX12_keepsAll 14 = .ok (.iload_n 3, 1) := by decide +kernel
theorem dX12_keepsAll_15 : decode cX12_keepsAll 15 = .ok (.ifCond .eq 18, 3) := by decide +kernel
theorem dX12_keepsAll_18 : decode cX12_keepsAll 18 = .ok (.aload_n 0, 1) := by decide +kernel
theorem dX12_keepsAll_19 : decode cX12_keepsAll 19 = .ok (.iload_n 1, 1) := by decide +kernel
theorem dX12_keepsAll_20 : decode cX12_keepsAll 20 = .ok (.iload_n 2, 1) := by decide +kernel
theorem dX12_keepsAll_21 : decode cX12_keepsAll 21 = .ok (.iload 4, 2) := by decide +kernel
theorem dX12_keepsAll_23 : decode cX12_keepsAll 23 = .ok (.invokevirtual 120, 3) := by decide +kernel
theorem dX12_keepsAll_26 : decode cX12_keepsAll 26 = .ok (.istore_n 3, 1) := by decide +kernel
theorem dX12_keepsAll_27 : decode cX12_keepsAll 27 = .ok (.iinc 4 1, 3) := by decide +kernel
theorem dX12_keepsAll_30 : decode cX12_keepsAll 30 = .ok (.goto (-25), 3) := by decide +kernel
theorem dX12_keepsAll_33 : decode cX12_keepsAll 33 = .ok (.iload_n 3, 1) := by decide +kernel
theorem dX12_keepsAll_34 : decode cX12_keepsAll 34 = .ok (.ireturn, 1) := by decide +kernel
theorem dX12_areBoth_0 : decode cX12_areBoth 0 = .ok (.aload_n 0, 1) := by decide +kernel
theorem dX12_areBoth_1 : decode cX12_areBoth 1 = .ok (.aload_n 0, 1) := by decide +kernel
theorem dX12_areBoth_2 : decode cX12_areBoth 2 = .ok (.iload_n 1, 1) := by decide +kernel
theorem dX12_areBoth_3 : decode cX12_areBoth 3 = .ok (.invokevirtual 98, 3) := by decide +kernel
theorem dX12_areBoth_6 : decode cX12_areBoth 6 = .ok (.ifCond .eq 15, 3) := by decide +kernel
theorem dX12_areBoth_9 : decode cX12_areBoth 9 = .ok (.aload_n 0, 1) := by decide +kernel
theorem dX12_areBoth_10 : decode cX12_areBoth 10 = .ok (.iload_n 2, 1) := by decide +kernel
theorem dX12_areBoth_11 : decode cX12_areBoth 11 = .ok (.invokevirtual 76, 3) := by decide +kernel
theorem dX12_areBoth_14 : decode cX12_areBoth 14 = .ok (.ifCond .eq 7, 3) := by decide +kernel
theorem dX12_areBoth_17 : decode cX12_areBoth 17 = .ok (.iconst 0, 1) := by decide +kernel
theorem dX12_areBoth_18 : decode cX12_areBoth 18 = .ok (.goto 4, 3) := by decide +kernel
theorem dX12_areBoth_21 : decode cX12_areBoth 21 = .ok (.iconst 1, 1) := by decide +kernel
theorem dX12_areBoth_22 : decode cX12_areBoth 22 = .ok (.putfield 56, 3) := by decide +kernel
theorem dX12_areBoth_25 : decode cX12_areBoth 25 = .ok (.aload_n 0, 1) := by decide +kernel
theorem dX12_areBoth_26 : decode cX12_areBoth 26 = .ok (.getfield 56, 3) := by decide +kernel
theorem dX12_areBoth_29 : decode cX12_areBoth 29 = .ok (.ifCond .ne 7, 3) := by decide +kernel
theorem dX12_areBoth_32 : decode cX12_areBoth 32 = .ok (.iconst 1, 1) := by decide +kernel
theorem dX12_areBoth_33 : decode cX12_areBoth 33 = .ok (.goto 4, 3) := by decide +kernel
theorem dX12_areBoth_36 : decode cX12_areBoth 36 = .ok (.iconst 0, 1) := by decide +kernel
theorem dX12_areBoth_37 : decode cX12_areBoth 37 = .ok (.ireturn, 1) := by decide +kernel
theorem dX12_keeps_0 : decode cX12_keeps 0 = .ok (.aload_n 0, 1) := by decide +kernel
theorem dX12_keeps_1 : decode cX12_keeps 1 = .ok (.iload_n 1, 1) := by decide +kernel
theorem dX12_keeps_2 : decode cX12_keeps 2 = .ok (.iload_n 2, 1) := by decide +kernel
theorem dX12_keeps_3 : decode cX12_keeps 3 = .ok (.invokevirtual 123, 3) := by decide +kernel
theorem dX12_keeps_6 : decode cX12_keeps 6 = .ok (.ifCond .eq 22, 3) := by decide +kernel
theorem dX12_keeps_9 : decode cX12_keeps 9 = .ok (.aload_n 0, 1) := by decide +kernel
theorem dX12_keeps_10 : decode cX12_keeps 10 = .ok (.iload_n 1, 1) := by decide +kernel
theorem dX12_keeps_11 : decode cX12_keeps 11 = .ok (.aload_n 0, 1) := by decide +kernel
theorem dX12_keeps_12 : decode cX12_keeps 12 = .ok (.getfield 20, 3) := by decide +kernel
theorem dX12_keeps_15 : decode cX12_keeps 15 = .ok (.iload_n 1, 1) := by decide +kernel
theorem dX12_keeps_16 : decode cX12_keeps 16 = .ok (.iaload, 1) := by decide +kernel
theorem dX12_keeps_17 : decode cX12_keeps 17 = .ok (.iload_n 2, 1) := by decide +kernel
theorem dX12_keeps_18 : decode cX12_keeps 18 = .ok (.invokevirtual 120, 3) := by decide +kernel
theorem dX12_keeps_21 : decode cX12_keeps 21 = .ok (.ifCond .eq 7, 3) := by decide +kernel
theorem dX12_keeps_24 : decode cX12_keeps 24 = .ok (.iconst 1, 1) := by decide +kernel
theorem dX12_keeps_25 : decode cX12_keeps 25 = .ok (.goto 4, 3) := by decide +kernel
theorem dX12_keeps_28 : decode cX12_keeps 28 = .ok (.iconst 0, 1) := by decide +kernel
theorem dX12_keeps_29 : decode cX12_keeps 29 = .ok (.ireturn, 1) := by decide +kernel
theorem dX12_breaks_0 : decode cX12_breaks 0 = .ok (.aload_n 0, 1) := by decide +kernel
theorem dX12_breaks_1 : decode cX12_breaks 1 = .ok (.iload_n 1, 1) := by decide +kernel
theorem dX12_breaks_2 : decode cX12_breaks 2 = .ok (.iload_n 2, 1) := by decide +kernel
theorem dX12_breaks_3 : decode cX12_breaks 3 = .ok (.invokevirtual 123, 3) := by decide +kernel
theorem dX12_breaks_6 : decode cX12_breaks 6 = .ok (.ifCond .ne 5, 3) := by decide +kernel
theorem dX12_breaks_9 : decode cX12_breaks 9 = .ok (.iconst 0, 1) := by decide +kernel
theorem dX12_breaks_10 : decode cX12_breaks 10 = .ok (.ireturn, 1) := by decide +kernel
theorem dX12_breaks_11 : decode cX12_breaks 11 = .ok (.aload_n 0, 1) := by decide +kernel
theorem dX12_breaks_12 : decode cX12_breaks 12 = .ok (.iload_n 1, 1) := by decide +kernel
theorem dX12_breaks_13 : decode cX12_breaks 13 = .ok (.aload_n 0, 1) := by decide +kernel
theorem dX12_breaks_14 : decode cX12_breaks 14 = .ok (.getfield 20, 3) := by decide +kernel
theorem dX12_breaks_17 : decode cX12_breaks 17 = .ok (.iload_n 1, 1) := by decide +kernel
theorem dX12_breaks_18 : decode cX12_breaks 18 = .ok (.iaload, 1) := by decide +kernel
theorem dX12_breaks_19 : decode cX12_breaks 19 = .ok (.aload_n 0, 1) := by decide +kernel
theorem dX12_breaks_20 : decode cX12_breaks 20 = .ok (.getfield 13, 3) := by decide +kernel
theorem dX12_breaks_23 : decode cX12_breaks 23 = .ok (.iload_n 2, 1) := by decide +kernel
theorem dX12_breaks_24 : decode cX12_breaks 24 = .ok (.iaload, 1) := by decide +kernel
theorem dX12_breaks_25 : decode cX12_breaks 25 = .ok (.aload_n 0, 1) := by decide +kernel
theorem dX12_breaks_26 : decode cX12_breaks 26 = .ok (.getfield 17, 3) := by decide +kernel
theorem dX12_breaks_29 : decode cX12_breaks 29 = .ok (.iload_n 2, 1) := by decide +kernel
theorem dX12_breaks_30 : decode cX12_breaks 30 = .ok (.iaload, 1) := by decide +kernel
theorem dX12_breaks_31 : decode cX12_breaks 31 = .ok (.invokevirtual 117, 3) := by decide +kernel
theorem dX12_breaks_34 : decode cX12_breaks 34 = .ok (.aload_n 0, 1) := by decide +kernel
theorem dX12_breaks_35 : decode cX12_breaks 35 = .ok (.getfield 17, 3) := by decide +kernel
theorem dX12_breaks_38 : decode cX12_breaks 38 = .ok (.iload_n 2, 1) := by decide +kernel
theorem dX12_breaks_39 : decode cX12_breaks 39 = .ok (.iaload, 1) := by decide +kernel
theorem dX12_breaks_40 : decode cX12_breaks 40 = .ok (.iconst (-1), 1) := by decide +kernel
theorem dX12_breaks_41 : decode cX12_breaks 41 = .ok (.ixor, 1) := by decide +kernel
theorem dX12_breaks_42 : decode cX12_breaks 42 = .ok (.iand, 1) := by decide +kernel
theorem dX12_breaks_43 : decode cX12_breaks 43 = .ok (.istore_n 3, 1) := by decide +kernel
theorem dX12_breaks_44 : decode cX12_breaks 44 = .ok (.iconst 0, 1) := by decide +kernel
theorem dX12_breaks_45 : decode cX12_breaks 45 = .ok (.istore 4, 2) := by decide +kernel
theorem dX12_breaks_47 : decode cX12_breaks 47 = .ok (.iload 4, 2) := by decide +kernel
theorem dX12_breaks_49 : decode cX12_breaks 49 = .ok (.bipush 9, 2) := by decide +kernel
theorem dX12_breaks_51 : decode cX12_breaks 51 = .ok (.if_icmp .ge 21, 3) := by decide +kernel
theorem dX12_breaks_54 : decode cX12_breaks 54 = .ok (.iload_n 3, 1) := by decide +kernel
theorem dX12_breaks_55 : decode cX12_breaks 55 = .ok (.iload 4, 2) := by decide +kernel
theorem dX12_breaks_57 : decode cX12_breaks 57 = .ok (.invokestatic 80, 3) := by decide +kernel
theorem dX12_breaks_60 : decode cX12_breaks 60 = .ok (.ifCond .eq 6, 3) := by decide +kernel
theorem dX12_breaks_63 : decode cX12_breaks 63 = .ok (.iload 4, 2) := by decide +kernel
theorem dX12_breaks_65 : decode cX12_breaks 65 = .ok (.ireturn, 1) := by decide +kernel
theorem dX12_breaks_66 : decode cX12_breaks 66 = .ok (.iinc 4 1, 3) := by decide +kernel
theorem dX12_breaks_69 : decode cX12_breaks 69 = .ok (.goto (-22), 3) := by decide +kernel
theorem dX12_breaks_72 : decode cX12_breaks 72 = .ok (.iconst (-1), 1) := by decide +kernel
theorem dX12_breaks_73 : decode cX12_breaks 73 = .ok (.ireturn, 1) := by decide +kernel
theorem dX12_answer_0 : decode cX12_answer 0 = .ok (.aload_n 0, 1) := by decide +kernel
theorem dX12_answer_1 : decode cX12_answer 1 = .ok (.getfield 23, 3) := by decide +kernel
theorem dX12_answer_4 : decode cX12_answer 4 = .ok (.bipush 27, 2) := by decide +kernel
theorem dX12_answer_6 : decode cX12_answer 6 = .ok (.iload_n 1, 1) := by decide +kernel
theorem dX12_answer_7 : decode cX12_answer 7 = .ok (.imul, 1) := by decide +kernel
theorem dX12_answer_8 : decode cX12_answer 8 = .ok (.iload_n 2, 1) := by decide +kernel
theorem dX12_answer_9 : decode cX12_answer 9 = .ok (.iadd, 1) := by decide +kernel
theorem dX12_answer_10 : decode cX12_answer 10 = .ok (.aload_n 0, 1) := by decide +kernel
theorem dX12_answer_11 : decode cX12_answer 11 = .ok (.getfield 7, 3) := by decide +kernel
theorem dX12_answer_14 : decode cX12_answer 14 = .ok (.iload_n 3, 1) := by decide +kernel
theorem dX12_answer_15 : decode cX12_answer 15 = .ok (.imul, 1) := by decide +kernel
theorem dX12_answer_16 : decode cX12_answer 16 = .ok (.iadd, 1) := by decide +kernel
theorem dX12_answer_17 : decode cX12_answer 17 = .ok (.aload_n 0, 1) := by decide +kernel
theorem dX12_answer_18 : decode cX12_answer 18 = .ok (.getfield 7, 3) := by decide +kernel
theorem dX12_answer_21 : decode cX12_answer 21 = .ok (.aload_n 0, 1) := by decide +kernel
theorem dX12_answer_22 : decode cX12_answer 22 = .ok (.getfield 7, 3) := by decide +kernel
theorem dX12_answer_25 : decode cX12_answer 25 = .ok (.imul, 1) := by decide +kernel
theorem dX12_answer_26 : decode cX12_answer 26 = .ok (.iload 4, 2) := by decide +kernel
theorem dX12_answer_28 : decode cX12_answer 28 = .ok (.imul, 1) := by decide +kernel
theorem dX12_answer_29 : decode cX12_answer 29 = .ok (.iadd, 1) := by decide +kernel
theorem dX12_answer_30 : decode cX12_answer 30 = .ok (.iaload, 1) := by decide +kernel
theorem dX12_answer_31 : decode cX12_answer 31 = .ok (.ireturn, 1) := by decide +kernel
theorem dX12_isIdempotent_0 : decode cX12_isIdempotent 0 = .ok (.iconst 1, 1) := by decide +kernel
theorem dX12_isIdempotent_1 : decode cX12_isIdempotent 1 = .ok (.istore_n 3, 1) := by decide +kernel
theorem dX12_isIdempotent_2 : decode cX12_isIdempotent 2 = .ok (.iconst 0, 1) := by decide +kernel
theorem dX12_isIdempotent_3 : decode cX12_isIdempotent 3 = .ok (.istore 4, 2) := by decide +kernel
theorem dX12_isIdempotent_5 : decode cX12_isIdempotent 5 = .ok (.iload 4, 2) := by decide +kernel
theorem dX12_isIdempotent_7 : decode cX12_isIdempotent 7 = .ok (.aload_n 0, 1) := by decide +kernel
theorem dX12_isIdempotent_8 : decode cX12_isIdempotent 8 = .ok (.getfield 7, 3) := by decide +kernel
theorem dX12_isIdempotent_11 : decode cX12_isIdempotent 11 = .ok (.if_icmp .ge 53, 3) := by decide +kernel
theorem dX12_isIdempotent_14 : decode cX12_isIdempotent 14 = .ok (.iload_n 3, 1) := by decide +kernel
theorem dX12_isIdempotent_15 : decode cX12_isIdempotent 15 = .ok (.ifCond .eq 41, 3) := by decide +kernel
theorem dX12_isIdempotent_18 : decode cX12_isIdempotent 18 = .ok (.aload_n 0, 1) := by decide +kernel
theorem dX12_isIdempotent_19 : decode cX12_isIdempotent 19 = .ok (.iload_n 1, 1) := by decide +kernel
theorem dX12_isIdempotent_20 : decode cX12_isIdempotent 20 = .ok (.iload 4, 2) := by decide +kernel
theorem dX12_isIdempotent_22 : decode cX12_isIdempotent 22 = .ok (.iload_n 2, 1) := by decide +kernel
theorem dX12_isIdempotent_23 : decode cX12_isIdempotent 23 = .ok (.iconst 1, 1) := by decide +kernel
theorem dX12_isIdempotent_24 : decode cX12_isIdempotent 24 = .ok (.if_icmp .le 8, 3) := by decide +kernel
theorem dX12_isIdempotent_27 : decode cX12_isIdempotent 27 = .ok (.iload 4, 2) := by decide +kernel
theorem dX12_isIdempotent_29 : decode cX12_isIdempotent 29 = .ok (.goto 4, 3) := by decide +kernel
theorem dX12_isIdempotent_32 : decode cX12_isIdempotent 32 = .ok (.iconst 0, 1) := by decide +kernel
theorem dX12_isIdempotent_33 : decode cX12_isIdempotent 33 = .ok (.iload_n 2, 1) := by decide +kernel
theorem dX12_isIdempotent_34 : decode cX12_isIdempotent 34 = .ok (.iconst 2, 1) := by decide +kernel
theorem dX12_isIdempotent_35 : decode cX12_isIdempotent 35 = .ok (.if_icmp .le 8, 3) := by decide +kernel
theorem dX12_isIdempotent_38 : decode cX12_isIdempotent 38 = .ok (.iload 4, 2) := by decide +kernel
theorem dX12_isIdempotent_40 : decode cX12_isIdempotent 40 = .ok (.goto 4, 3) := by decide +kernel
theorem dX12_isIdempotent_43 : decode cX12_isIdempotent 43 = .ok (.iconst 0, 1) := by decide +kernel
theorem dX12_isIdempotent_44 : decode cX12_isIdempotent 44 = .ok (.invokevirtual 126, 3) := by decide +kernel
theorem dX12_isIdempotent_47 : decode cX12_isIdempotent 47 = .ok (.iload 4, 2) := by decide +kernel
theorem dX12_isIdempotent_49 : decode cX12_isIdempotent 49 = .ok (.if_icmp .ne 7, 3) := by decide +kernel
theorem dX12_isIdempotent_52 : decode cX12_isIdempotent 52 = .ok (.iconst 1, 1) := by decide +kernel
theorem dX12_isIdempotent_53 : decode cX12_isIdempotent 53 = .ok (.goto 4, 3) := by decide +kernel
theorem dX12_isIdempotent_56 : decode cX12_isIdempotent 56 = .ok (.iconst 0, 1) := by decide +kernel
theorem dX12_isIdempotent_57 : decode cX12_isIdempotent 57 = .ok (.istore_n 3, 1) := by decide +kernel
theorem dX12_isIdempotent_58 : decode cX12_isIdempotent 58 = .ok (.iinc 4 1, 3) := by decide +kernel
theorem dX12_isIdempotent_61 : decode cX12_isIdempotent 61 = .ok (.goto (-56), 3) := by decide +kernel
theorem dX12_isIdempotent_64 : decode cX12_isIdempotent 64 = .ok (.iload_n 3, 1) := by decide +kernel
theorem dX12_isIdempotent_65 : decode cX12_isIdempotent 65 = .ok (.ireturn, 1) := by decide +kernel
theorem dX12_isSymmetric_0 : decode cX12_isSymmetric 0 = .ok (.iconst 1, 1) := by decide +kernel
theorem dX12_isSymmetric_1 : decode cX12_isSymmetric 1 = .ok (.istore_n 3, 1) := by decide +kernel
theorem dX12_isSymmetric_2 : decode cX12_isSymmetric 2 = .ok (.iconst 0, 1) := by decide +kernel
theorem dX12_isSymmetric_3 : decode cX12_isSymmetric 3 = .ok (.istore 4, 2) := by decide +kernel
theorem dX12_isSymmetric_5 : decode cX12_isSymmetric 5 = .ok (.iload 4, 2) := by decide +kernel
theorem dX12_isSymmetric_7 : decode cX12_isSymmetric 7 = .ok (.aload_n 0, 1) := by decide +kernel
theorem dX12_isSymmetric_8 : decode cX12_isSymmetric 8 = .ok (.iload_n 2, 1) := by decide +kernel
theorem dX12_isSymmetric_9 : decode cX12_isSymmetric 9 = .ok (.invokevirtual 59, 3) := by decide +kernel
theorem dX12_isSymmetric_12 : decode cX12_isSymmetric 12 = .ok (.if_icmp .ge 111, 3) := by decide +kernel
theorem dX12_isSymmetric_15 : decode cX12_isSymmetric 15 = .ok (.iload_n 2, 1) := by decide +kernel
theorem dX12_isSymmetric_16 : decode cX12_isSymmetric 16 = .ok (.iconst 1, 1) := by decide +kernel
theorem dX12_isSymmetric_17 : decode cX12_isSymmetric 17 = .ok (.if_icmp .le 106, 3) := by decide +kernel
theorem dX12_isSymmetric_20 : decode cX12_isSymmetric 20 = .ok (.iload 4, 2) := by decide +kernel
theorem dX12_isSymmetric_22 : decode cX12_isSymmetric 22 = .ok (.aload_n 0, 1) := by decide +kernel
theorem dX12_isSymmetric_23 : decode cX12_isSymmetric 23 = .ok (.getfield 7, 3) := by decide +kernel
theorem dX12_isSymmetric_26 : decode cX12_isSymmetric 26 = .ok (.irem, 1) := by decide +kernel
theorem dX12_isSymmetric_27 : decode cX12_isSymmetric 27 = .ok (.istore 5, 2) := by decide +kernel
theorem dX12_isSymmetric_29 : decode cX12_isSymmetric 29 = .ok (.iload 4, 2) := by decide +kernel
theorem dX12_isSymmetric_31 : decode cX12_isSymmetric 31 = .ok (.aload_n 0, 1) := by decide +kernel
theorem dX12_isSymmetric_32 : decode cX12_isSymmetric 32 = .ok (.getfield 7, 3) := by decide +kernel
theorem dX12_isSymmetric_35 : decode cX12_isSymmetric 35 = .ok (.idiv, 1) := by decide +kernel
theorem dX12_isSymmetric_36 : decode cX12_isSymmetric 36 = .ok (.aload_n 0, 1) := by decide +kernel
theorem dX12_isSymmetric_37 : decode cX12_isSymmetric 37 = .ok (.getfield 7, 3) := by decide +kernel
theorem dX12_isSymmetric_40 : decode cX12_isSymmetric 40 = .ok (.irem, 1) := by decide +kernel
theorem dX12_isSymmetric_41 : decode cX12_isSymmetric 41 = .ok (.istore 6, 2) := by decide +kernel
theorem dX12_isSymmetric_43 : decode cX12_isSymmetric 43 = .ok (.iload 4, 2) := by decide +kernel
theorem dX12_isSymmetric_45 : decode cX12_isSymmetric 45 = .ok (.aload_n 0, 1) := by decide +kernel
theorem dX12_isSymmetric_46 : decode cX12_isSymmetric 46 = .ok (.getfield 7, 3) := by decide +kernel
theorem dX12_isSymmetric_49 : decode cX12_isSymmetric 49 = .ok (.idiv, 1) := by decide +kernel
theorem dX12_isSymmetric_50 : decode cX12_isSymmetric 50 = .ok (.aload_n 0, 1) := by decide +kernel
theorem dX12_isSymmetric_51 : decode cX12_isSymmetric 51 = .ok (.getfield 7, 3) := by decide +kernel
theorem dX12_isSymmetric_54 : decode cX12_isSymmetric 54 = .ok (.idiv, 1) := by decide +kernel
theorem dX12_isSymmetric_55 : decode cX12_isSymmetric 55 = .ok (.istore 7, 2) := by decide +kernel
theorem dX12_isSymmetric_57 : decode cX12_isSymmetric 57 = .ok (.aload_n 0, 1) := by decide +kernel
theorem dX12_isSymmetric_58 : decode cX12_isSymmetric 58 = .ok (.iload_n 1, 1) := by decide +kernel
theorem dX12_isSymmetric_59 : decode cX12_isSymmetric 59 = .ok (.iload 5, 2) := by decide +kernel
theorem dX12_isSymmetric_61 : decode cX12_isSymmetric 61 = .ok (.iload 6, 2) := by decide +kernel
theorem dX12_isSymmetric_63 : decode cX12_isSymmetric 63 = .ok (.iload 7, 2) := by decide +kernel
theorem dX12_isSymmetric_65 : decode cX12_isSymmetric 65 = .ok (.invokevirtual 126, 3) := by decide +kernel
theorem dX12_isSymmetric_68 : decode cX12_isSymmetric 68 = .ok (.istore 8, 2) := by decide +kernel
theorem dX12_isSymmetric_70 : decode cX12_isSymmetric 70 = .ok (.iload_n 3, 1) := by decide +kernel
theorem dX12_isSymmetric_71 : decode cX12_isSymmetric 71 = .ok (.ifCond .eq 44, 3) := by decide +kernel
theorem dX12_isSymmetric_74 : decode cX12_isSymmetric 74 = .ok (.iload 8, 2) := by decide +kernel
theorem dX12_isSymmetric_76 : decode cX12_isSymmetric 76 = .ok (.aload_n 0, 1) := by decide +kernel
theorem dX12_isSymmetric_77 : decode cX12_isSymmetric 77 = .ok (.iload_n 1, 1) := by decide +kernel
theorem dX12_isSymmetric_78 : decode cX12_isSymmetric 78 = .ok (.iload 6, 2) := by decide +kernel
theorem dX12_isSymmetric_80 : decode cX12_isSymmetric 80 = .ok (.iload 5, 2) := by decide +kernel
theorem dX12_isSymmetric_82 : decode cX12_isSymmetric 82 = .ok (.iload 7, 2) := by decide +kernel
theorem dX12_isSymmetric_84 : decode cX12_isSymmetric 84 = .ok (.invokevirtual 126, 3) := by decide +kernel
theorem dX12_isSymmetric_87 : decode cX12_isSymmetric 87 = .ok (.if_icmp .ne 28, 3) := by decide +kernel
theorem dX12_isSymmetric_90 : decode cX12_isSymmetric 90 = .ok (.iload_n 2, 1) := by decide +kernel
theorem dX12_isSymmetric_91 : decode cX12_isSymmetric 91 = .ok (.iconst 3, 1) := by decide +kernel
theorem dX12_isSymmetric_92 : decode cX12_isSymmetric 92 = .ok (.if_icmp .lt 19, 3) := by decide +kernel
theorem dX12_isSymmetric_95 : decode cX12_isSymmetric 95 = .ok (.iload 8, 2) := by decide +kernel
theorem dX12_isSymmetric_97 : decode cX12_isSymmetric 97 = .ok (.aload_n 0, 1) := by decide +kernel
theorem dX12_isSymmetric_98 : decode cX12_isSymmetric 98 = .ok (.iload_n 1, 1) := by decide +kernel
theorem dX12_isSymmetric_99 : decode cX12_isSymmetric 99 = .ok (.iload 5, 2) := by decide +kernel
theorem dX12_isSymmetric_101 : decode cX12_isSymmetric 101 = .ok (.iload 7, 2) := by decide +kernel
theorem dX12_isSymmetric_103 : decode cX12_isSymmetric 103 = .ok (.iload 6, 2) := by decide +kernel
theorem dX12_isSymmetric_105 : decode cX12_isSymmetric 105 = .ok (.invokevirtual 126, 3) := by decide +kernel
theorem dX12_isSymmetric_108 : decode cX12_isSymmetric 108 = .ok (.if_icmp .ne 7, 3) := by decide +kernel
theorem dX12_isSymmetric_111 : decode cX12_isSymmetric 111 = .ok (.iconst 1, 1) := by decide +kernel
theorem dX12_isSymmetric_112 : decode cX12_isSymmetric 112 = .ok (.goto 4, 3) := by decide +kernel
theorem dX12_isSymmetric_115 : decode cX12_isSymmetric 115 = .ok (.iconst 0, 1) := by decide +kernel
theorem dX12_isSymmetric_116 : decode cX12_isSymmetric 116 = .ok (.istore_n 3, 1) := by decide +kernel
theorem dX12_isSymmetric_117 : decode cX12_isSymmetric 117 = .ok (.iinc 4 1, 3) := by decide +kernel
theorem dX12_isSymmetric_120 : decode cX12_isSymmetric 120 = .ok (.goto (-115), 3) := by decide +kernel
theorem dX12_isSymmetric_123 : decode cX12_isSymmetric 123 = .ok (.iload_n 3, 1) := by decide +kernel
theorem dX12_isSymmetric_124 : decode cX12_isSymmetric 124 = .ok (.ireturn, 1) := by decide +kernel
theorem dX12_associates_0 : decode cX12_associates 0 = .ok (.iconst 1, 1) := by decide +kernel
theorem dX12_associates_1 : decode cX12_associates 1 = .ok (.istore_n 2, 1) := by decide +kernel
theorem dX12_associates_2 : decode cX12_associates 2 = .ok (.iconst 0, 1) := by decide +kernel
theorem dX12_associates_3 : decode cX12_associates 3 = .ok (.istore_n 3, 1) := by decide +kernel
theorem dX12_associates_4 : decode cX12_associates 4 = .ok (.iload_n 3, 1) := by decide +kernel
theorem dX12_associates_5 : decode cX12_associates 5 = .ok (.aload_n 0, 1) := by decide +kernel
theorem dX12_associates_6 : decode cX12_associates 6 = .ok (.getfield 7, 3) := by decide +kernel
theorem dX12_associates_9 : decode cX12_associates 9 = .ok (.aload_n 0, 1) := by decide +kernel
theorem dX12_associates_10 : decode cX12_associates 10 = .ok (.getfield 7, 3) := by decide +kernel
theorem dX12_associates_13 : decode cX12_associates 13 = .ok (.imul, 1) := by decide +kernel
theorem dX12_associates_14 : decode cX12_associates 14 = .ok (.aload_n 0, 1) := by decide +kernel
theorem dX12_associates_15 : decode cX12_associates 15 = .ok (.getfield 7, 3) := by decide +kernel
theorem dX12_associates_18 : decode cX12_associates 18 = .ok (.imul, 1) := by decide +kernel
theorem dX12_associates_19 : decode cX12_associates 19 = .ok (.if_icmp .ge 92, 3) := by decide +kernel
theorem dX12_associates_22 : decode cX12_associates 22 = .ok (.iload_n 3, 1) := by decide +kernel
theorem dX12_associates_23 : decode cX12_associates 23 = .ok (.aload_n 0, 1) := by decide +kernel
theorem dX12_associates_24 : decode cX12_associates 24 = .ok (.getfield 7, 3) := by decide +kernel
theorem dX12_associates_27 : decode cX12_associates 27 = .ok (.irem, 1) := by decide +kernel
theorem dX12_associates_28 : decode cX12_associates 28 = .ok (.istore 4, 2) := by decide +kernel
theorem dX12_associates_30 : decode cX12_associates 30 = .ok (.iload_n 3, 1) := by decide +kernel
theorem dX12_associates_31 : decode cX12_associates 31 = .ok (.aload_n 0, 1) := by decide +kernel
theorem dX12_associates_32 : decode cX12_associates 32 = .ok (.getfield 7, 3) := by decide +kernel
theorem dX12_associates_35 : decode cX12_associates 35 = .ok (.idiv, 1) := by decide +kernel
theorem dX12_associates_36 : decode cX12_associates 36 = .ok (.aload_n 0, 1) := by decide +kernel
theorem dX12_associates_37 : decode cX12_associates 37 = .ok (.getfield 7, 3) := by decide +kernel
theorem dX12_associates_40 : decode cX12_associates 40 = .ok (.irem, 1) := by decide +kernel
theorem dX12_associates_41 : decode cX12_associates 41 = .ok (.istore 5, 2) := by decide +kernel
theorem dX12_associates_43 : decode cX12_associates 43 = .ok (.iload_n 3, 1) := by decide +kernel
theorem dX12_associates_44 : decode cX12_associates 44 = .ok (.aload_n 0, 1) := by decide +kernel
theorem dX12_associates_45 : decode cX12_associates 45 = .ok (.getfield 7, 3) := by decide +kernel
theorem dX12_associates_48 : decode cX12_associates 48 = .ok (.idiv, 1) := by decide +kernel
theorem dX12_associates_49 : decode cX12_associates 49 = .ok (.aload_n 0, 1) := by decide +kernel
theorem dX12_associates_50 : decode cX12_associates 50 = .ok (.getfield 7, 3) := by decide +kernel
theorem dX12_associates_53 : decode cX12_associates 53 = .ok (.idiv, 1) := by decide +kernel
theorem dX12_associates_54 : decode cX12_associates 54 = .ok (.istore 6, 2) := by decide +kernel
theorem dX12_associates_56 : decode cX12_associates 56 = .ok (.iload_n 2, 1) := by decide +kernel
theorem dX12_associates_57 : decode cX12_associates 57 = .ok (.ifCond .eq 46, 3) := by decide +kernel
theorem dX12_associates_60 : decode cX12_associates 60 = .ok (.aload_n 0, 1) := by decide +kernel
theorem dX12_associates_61 : decode cX12_associates 61 = .ok (.iload_n 1, 1) := by decide +kernel
theorem dX12_associates_62 : decode cX12_associates 62 = .ok (.iload 4, 2) := by decide +kernel
theorem dX12_associates_64 : decode cX12_associates 64 = .ok (.aload_n 0, 1) := by decide +kernel
theorem dX12_associates_65 : decode cX12_associates 65 = .ok (.iload_n 1, 1) := by decide +kernel
theorem dX12_associates_66 : decode cX12_associates 66 = .ok (.iload 5, 2) := by decide +kernel
theorem dX12_associates_68 : decode cX12_associates 68 = .ok (.iload 6, 2) := by decide +kernel
theorem dX12_associates_70 : decode cX12_associates 70 = .ok (.iconst 0, 1) := by decide +kernel
theorem dX12_associates_71 : decode cX12_associates 71 = .ok (.invokevirtual 126, 3) := by decide +kernel
theorem dX12_associates_74 : decode cX12_associates 74 = .ok (.iconst 0, 1) := by decide +kernel
theorem dX12_associates_75 : decode cX12_associates 75 = .ok (.invokevirtual 126, 3) := by decide +kernel
theorem dX12_associates_78 : decode cX12_associates 78 = .ok (.aload_n 0, 1) := by decide +kernel
theorem dX12_associates_79 : decode cX12_associates 79 = .ok (.iload_n 1, 1) := by decide +kernel
theorem dX12_associates_80 : decode cX12_associates 80 = .ok (.aload_n 0, 1) := by decide +kernel
theorem dX12_associates_81 : decode cX12_associates 81 = .ok (.iload_n 1, 1) := by decide +kernel
theorem dX12_associates_82 : decode cX12_associates 82 = .ok (.iload 4, 2) := by decide +kernel
theorem dX12_associates_84 : decode cX12_associates 84 = .ok (.iload 5, 2) := by decide +kernel
theorem dX12_associates_86 : decode cX12_associates 86 = .ok (.iconst 0, 1) := by decide +kernel
theorem dX12_associates_87 : decode cX12_associates 87 = .ok (.invokevirtual 126, 3) := by decide +kernel
theorem dX12_associates_90 : decode cX12_associates 90 = .ok (.iload 6, 2) := by decide +kernel
theorem dX12_associates_92 : decode cX12_associates 92 = .ok (.iconst 0, 1) := by decide +kernel
theorem dX12_associates_93 : decode cX12_associates 93 = .ok (.invokevirtual 126, 3) := by decide +kernel
theorem dX12_associates_96 : decode cX12_associates 96 = .ok (.if_icmp .ne 7, 3) := by decide +kernel
theorem dX12_associates_99 : decode cX12_associates 99 = .ok (.iconst 1, 1) := by decide +kernel
theorem dX12_associates_100 : decode cX12_associates 100 = .ok (.goto 4, 3) := by decide +kernel
theorem dX12_associates_103 : decode cX12_associates 103 = .ok (.iconst 0, 1) := by decide +kernel
theorem dX12_associates_104 : decode cX12_associates 104 = .ok (.istore_n 2, 1) := by decide +kernel
theorem dX12_associates_105 : decode cX12_associates 105 = .ok (.iinc 3 1, 3) := by decide +kernel
theorem dX12_associates_108 : decode cX12_associates 108 = .ok (.goto (-104), 3) := by decide +kernel
theorem dX12_associates_111 : decode cX12_associates 111 = .ok (.iload_n 2, 1) := by decide +kernel
theorem dX12_associates_112 : decode cX12_associates 112 = .ok (.ireturn, 1) := by decide +kernel
theorem dX12_isMajority_0 : decode cX12_isMajority 0 = .ok (.iconst 1, 1) := by decide +kernel
theorem dX12_isMajority_1 : decode cX12_isMajority 1 = .ok (.istore_n 2, 1) := by decide +kernel
theorem dX12_isMajority_2 : decode cX12_isMajority 2 = .ok (.iconst 0, 1) := by decide +kernel
theorem dX12_isMajority_3 : decode cX12_isMajority 3 = .ok (.istore_n 3, 1) := by decide +kernel
theorem dX12_isMajority_4 : decode cX12_isMajority 4 = .ok (.iload_n 3, 1) := by decide +kernel
theorem dX12_isMajority_5 : decode cX12_isMajority 5 = .ok (.aload_n 0, 1) := by decide +kernel
theorem dX12_isMajority_6 : decode cX12_isMajority 6 = .ok (.getfield 7, 3) := by decide +kernel
theorem dX12_isMajority_9 : decode cX12_isMajority 9 = .ok (.if_icmp .ge 76, 3) := by decide +kernel
theorem dX12_isMajority_12 : decode cX12_isMajority 12 = .ok (.iconst 0, 1) := by decide +kernel
theorem dX12_isMajority_13 : decode cX12_isMajority 13 = .ok (.istore 4, 2) := by decide +kernel
theorem dX12_isMajority_15 : decode cX12_isMajority 15 = .ok (.iload 4, 2) := by decide +kernel
theorem dX12_isMajority_17 : decode cX12_isMajority 17 = .ok (.aload_n 0, 1) := by decide +kernel
theorem dX12_isMajority_18 : decode cX12_isMajority 18 = .ok (.getfield 7, 3) := by decide +kernel
theorem dX12_isMajority_21 : decode cX12_isMajority 21 = .ok (.if_icmp .ge 58, 3) := by decide +kernel
theorem dX12_isMajority_24 : decode cX12_isMajority 24 = .ok (.iload_n 2, 1) := by decide +kernel
theorem dX12_isMajority_25 : decode cX12_isMajority 25 = .ok (.ifCond .eq 46, 3) := by decide +kernel
theorem dX12_isMajority_28 : decode cX12_isMajority 28 = .ok (.aload_n 0, 1) := by decide +kernel
theorem dX12_isMajority_29 : decode cX12_isMajority 29 = .ok (.iload_n 1, 1) := by decide +kernel
theorem dX12_isMajority_30 : decode cX12_isMajority 30 = .ok (.iload_n 3, 1) := by decide +kernel
theorem dX12_isMajority_31 : decode cX12_isMajority 31 = .ok (.iload_n 3, 1) := by decide +kernel
theorem dX12_isMajority_32 : decode cX12_isMajority 32 = .ok (.iload 4, 2) := by decide +kernel
theorem dX12_isMajority_34 : decode cX12_isMajority 34 = .ok (.invokevirtual 126, 3) := by decide +kernel
theorem dX12_isMajority_37 : decode cX12_isMajority 37 = .ok (.iload_n 3, 1) := by decide +kernel
theorem dX12_isMajority_38 : decode cX12_isMajority 38 = .ok (.if_icmp .ne 33, 3) := by decide +kernel
theorem dX12_isMajority_41 : decode cX12_isMajority 41 = .ok (.aload_n 0, 1) := by decide +kernel
theorem dX12_isMajority_42 : decode cX12_isMajority 42 = .ok (.iload_n 1, 1) := by decide +kernel
theorem dX12_isMajority_43 : decode cX12_isMajority 43 = .ok (.iload_n 3, 1) := by decide +kernel
theorem dX12_isMajority_44 : decode cX12_isMajority 44 = .ok (.iload 4, 2) := by decide +kernel
theorem dX12_isMajority_46 : decode cX12_isMajority 46 = .ok (.iload_n 3, 1) := by decide +kernel
theorem dX12_isMajority_47 : decode cX12_isMajority 47 = .ok (.invokevirtual 126, 3) := by decide +kernel
theorem dX12_isMajority_50 : decode cX12_isMajority 50 = .ok (.iload_n 3, 1) := by decide +kernel
theorem dX12_isMajority_51 : decode cX12_isMajority 51 = .ok (.if_icmp .ne 20, 3) := by decide +kernel
theorem dX12_isMajority_54 : decode cX12_isMajority 54 = .ok (.aload_n 0, 1) := by decide +kernel
theorem dX12_isMajority_55 : decode cX12_isMajority 55 = .ok (.iload_n 1, 1) := by decide +kernel
theorem dX12_isMajority_56 : decode cX12_isMajority 56 = .ok (.iload 4, 2) := by decide +kernel
theorem dX12_isMajority_58 : decode cX12_isMajority 58 = .ok (.iload_n 3, 1) := by decide +kernel
theorem dX12_isMajority_59 : decode cX12_isMajority 59 = .ok (.iload_n 3, 1) := by decide +kernel
theorem dX12_isMajority_60 : decode cX12_isMajority 60 = .ok (.invokevirtual 126, 3) := by decide +kernel
theorem dX12_isMajority_63 : decode cX12_isMajority 63 = .ok (.iload_n 3, 1) := by decide +kernel
theorem dX12_isMajority_64 : decode cX12_isMajority 64 = .ok (.if_icmp .ne 7, 3) := by decide +kernel
theorem dX12_isMajority_67 : decode cX12_isMajority 67 = .ok (.iconst 1, 1) := by decide +kernel
theorem dX12_isMajority_68 : decode cX12_isMajority 68 = .ok (.goto 4, 3) := by decide +kernel
theorem dX12_isMajority_71 : decode cX12_isMajority 71 = .ok (.iconst 0, 1) := by decide +kernel
theorem dX12_isMajority_72 : decode cX12_isMajority 72 = .ok (.istore_n 2, 1) := by decide +kernel
theorem dX12_isMajority_73 : decode cX12_isMajority 73 = .ok (.iinc 4 1, 3) := by decide +kernel
theorem dX12_isMajority_76 : decode cX12_isMajority 76 = .ok (.goto (-61), 3) := by decide +kernel
theorem dX12_isMajority_79 : decode cX12_isMajority 79 = .ok (.iinc 3 1, 3) := by decide +kernel
theorem dX12_isMajority_82 : decode cX12_isMajority 82 = .ok (.goto (-78), 3) := by decide +kernel
theorem dX12_isMajority_85 : decode cX12_isMajority 85 = .ok (.iload_n 2, 1) := by decide +kernel
theorem dX12_isMajority_86 : decode cX12_isMajority 86 = .ok (.ireturn, 1) := by decide +kernel
theorem dX12_isMaltsev_0 : decode cX12_isMaltsev 0 = .ok (.iconst 1, 1) := by decide +kernel
theorem dX12_isMaltsev_1 : decode cX12_isMaltsev 1 = .ok (.istore_n 2, 1) := by decide +kernel
theorem dX12_isMaltsev_2 : decode cX12_isMaltsev 2 = .ok (.iconst 0, 1) := by decide +kernel
theorem dX12_isMaltsev_3 : decode cX12_isMaltsev 3 = .ok (.istore_n 3, 1) := by decide +kernel
theorem dX12_isMaltsev_4 : decode cX12_isMaltsev 4 = .ok (.iload_n 3, 1) := by decide +kernel
theorem dX12_isMaltsev_5 : decode cX12_isMaltsev 5 = .ok (.aload_n 0, 1) := by decide +kernel
theorem dX12_isMaltsev_6 : decode cX12_isMaltsev 6 = .ok (.getfield 7, 3) := by decide +kernel
theorem dX12_isMaltsev_9 : decode cX12_isMaltsev 9 = .ok (.if_icmp .ge 65, 3) := by decide +kernel
theorem dX12_isMaltsev_12 : decode cX12_isMaltsev 12 = .ok (.iconst 0, 1) := by decide +kernel
theorem dX12_isMaltsev_13 : decode cX12_isMaltsev 13 = .ok (.istore 4, 2) := by decide +kernel
theorem dX12_isMaltsev_15 : decode cX12_isMaltsev 15 = .ok (.iload 4, 2) := by decide +kernel
theorem dX12_isMaltsev_17 : decode cX12_isMaltsev 17 = .ok (.aload_n 0, 1) := by decide +kernel
theorem dX12_isMaltsev_18 : decode cX12_isMaltsev 18 = .ok (.getfield 7, 3) := by decide +kernel
theorem dX12_isMaltsev_21 : decode cX12_isMaltsev 21 = .ok (.if_icmp .ge 47, 3) := by decide +kernel
theorem dX12_isMaltsev_24 : decode cX12_isMaltsev 24 = .ok (.iload_n 2, 1) := by decide +kernel
theorem dX12_isMaltsev_25 : decode cX12_isMaltsev 25 = .ok (.ifCond .eq 35, 3) := by decide +kernel
theorem dX12_isMaltsev_28 : decode cX12_isMaltsev 28 = .ok (.aload_n 0, 1) := by decide +kernel
theorem dX12_isMaltsev_29 : decode cX12_isMaltsev 29 = .ok (.iload_n 1, 1) := by decide +kernel
theorem dX12_isMaltsev_30 : decode cX12_isMaltsev 30 = .ok (.iload_n 3, 1) := by decide +kernel
theorem dX12_isMaltsev_31 : decode cX12_isMaltsev 31 = .ok (.iload 4, 2) := by decide +kernel
theorem dX12_isMaltsev_33 : decode cX12_isMaltsev 33 = .ok (.iload 4, 2) := by decide +kernel
theorem dX12_isMaltsev_35 : decode cX12_isMaltsev 35 = .ok (.invokevirtual 126, 3) := by decide +kernel
theorem dX12_isMaltsev_38 : decode cX12_isMaltsev 38 = .ok (.iload_n 3, 1) := by decide +kernel
theorem dX12_isMaltsev_39 : decode cX12_isMaltsev 39 = .ok (.if_icmp .ne 21, 3) := by decide +kernel
theorem dX12_isMaltsev_42 : decode cX12_isMaltsev 42 = .ok (.aload_n 0, 1) := by decide +kernel
theorem dX12_isMaltsev_43 : decode cX12_isMaltsev 43 = .ok (.iload_n 1, 1) := by decide +kernel
theorem dX12_isMaltsev_44 : decode cX12_isMaltsev 44 = .ok (.iload 4, 2) := by decide +kernel
theorem dX12_isMaltsev_46 : decode cX12_isMaltsev 46 = .ok (.iload 4, 2) := by decide +kernel
theorem dX12_isMaltsev_48 : decode cX12_isMaltsev 48 = .ok (.iload_n 3, 1) := by decide +kernel
theorem dX12_isMaltsev_49 : decode cX12_isMaltsev 49 = .ok (.invokevirtual 126, 3) := by decide +kernel
theorem dX12_isMaltsev_52 : decode cX12_isMaltsev 52 = .ok (.iload_n 3, 1) := by decide +kernel
theorem dX12_isMaltsev_53 : decode cX12_isMaltsev 53 = .ok (.if_icmp .ne 7, 3) := by decide +kernel
theorem dX12_isMaltsev_56 : decode cX12_isMaltsev 56 = .ok (.iconst 1, 1) := by decide +kernel
theorem dX12_isMaltsev_57 : decode cX12_isMaltsev 57 = .ok (.goto 4, 3) := by decide +kernel
theorem dX12_isMaltsev_60 : decode cX12_isMaltsev 60 = .ok (.iconst 0, 1) := by decide +kernel
theorem dX12_isMaltsev_61 : decode cX12_isMaltsev 61 = .ok (.istore_n 2, 1) := by decide +kernel
theorem dX12_isMaltsev_62 : decode cX12_isMaltsev 62 = .ok (.iinc 4 1, 3) := by decide +kernel
theorem dX12_isMaltsev_65 : decode cX12_isMaltsev 65 = .ok (.goto (-50), 3) := by decide +kernel
theorem dX12_isMaltsev_68 : decode cX12_isMaltsev 68 = .ok (.iinc 3 1, 3) := by decide +kernel
theorem dX12_isMaltsev_71 : decode cX12_isMaltsev 71 = .ok (.goto (-67), 3) := by decide +kernel
theorem dX12_isMaltsev_74 : decode cX12_isMaltsev 74 = .ok (.iload_n 2, 1) := by decide +kernel
theorem dX12_isMaltsev_75 : decode cX12_isMaltsev 75 = .ok (.ireturn, 1) := by decide +kernel
theorem dX12_has_0 : decode cX12_has 0 = .ok (.aload_n 0, 1) := by decide +kernel
theorem dX12_has_1 : decode cX12_has 1 = .ok (.aload_n 0, 1) := by decide +kernel
theorem dX12_has_2 : decode cX12_has 2 = .ok (.iload_n 1, 1) := by decide +kernel
theorem dX12_has_3 : decode cX12_has 3 = .ok (.invokevirtual 98, 3) := by decide +kernel
theorem dX12_has_6 : decode cX12_has 6 = .ok (.ifCond .ne 7, 3) := by decide +kernel
theorem dX12_has_9 : decode cX12_has 9 = .ok (.iconst 1, 1) := by decide +kernel
theorem dX12_has_10 : decode cX12_has 10 = .ok (.goto 17, 3) := by decide +kernel
theorem dX12_has_13 : decode cX12_has 13 = .ok (.iload_n 2, 1) := by decide +kernel
theorem dX12_has_14 : decode cX12_has 14 = .ok (.iconst 0, 1) := by decide +kernel
theorem dX12_has_15 : decode cX12_has 15 = .ok (.iconst 4, 1) := by decide +kernel
theorem dX12_has_16 : decode cX12_has 16 = .ok (.invokestatic 63, 3) := by decide +kernel
theorem dX12_has_19 : decode cX12_has 19 = .ok (.ifCond .ne 7, 3) := by decide +kernel
theorem dX12_has_22 : decode cX12_has 22 = .ok (.iconst 2, 1) := by decide +kernel
theorem dX12_has_23 : decode cX12_has 23 = .ok (.goto 4, 3) := by decide +kernel
theorem dX12_has_26 : decode cX12_has 26 = .ok (.iconst 0, 1) := by decide +kernel
theorem dX12_has_27 : decode cX12_has 27 = .ok (.putfield 56, 3) := by decide +kernel
theorem dX12_has_30 : decode cX12_has 30 = .ok (.aload_n 0, 1) := by decide +kernel
theorem dX12_has_31 : decode cX12_has 31 = .ok (.getfield 56, 3) := by decide +kernel
theorem dX12_has_34 : decode cX12_has 34 = .ok (.ifCond .le 5, 3) := by decide +kernel
theorem dX12_has_37 : decode cX12_has 37 = .ok (.iconst 0, 1) := by decide +kernel
theorem dX12_has_38 : decode cX12_has 38 = .ok (.ireturn, 1) := by decide +kernel
theorem dX12_has_39 : decode cX12_has 39 = .ok (.aload_n 0, 1) := by decide +kernel
theorem dX12_has_40 : decode cX12_has 40 = .ok (.getfield 20, 3) := by decide +kernel
theorem dX12_has_43 : decode cX12_has 43 = .ok (.iload_n 1, 1) := by decide +kernel
theorem dX12_has_44 : decode cX12_has 44 = .ok (.iaload, 1) := by decide +kernel
theorem dX12_has_45 : decode cX12_has 45 = .ok (.istore_n 3, 1) := by decide +kernel
theorem dX12_has_46 : decode cX12_has 46 = .ok (.iload_n 2, 1) := by decide +kernel
theorem dX12_has_47 : decode cX12_has 47 = .ok (.iconst 2, 1) := by decide +kernel
theorem dX12_has_48 : decode cX12_has 48 = .ok (.if_icmp .ge 23, 3) := by decide +kernel
theorem dX12_has_51 : decode cX12_has 51 = .ok (.iload_n 2, 1) := by decide +kernel
theorem dX12_has_52 : decode cX12_has 52 = .ok (.ifCond .ne 12, 3) := by decide +kernel
theorem dX12_has_55 : decode cX12_has 55 = .ok (.aload_n 0, 1) := by decide +kernel
theorem dX12_has_56 : decode cX12_has 56 = .ok (.iload_n 1, 1) := by decide +kernel
theorem dX12_has_57 : decode cX12_has 57 = .ok (.iload_n 3, 1) := by decide +kernel
theorem dX12_has_58 : decode cX12_has 58 = .ok (.invokevirtual 129, 3) := by decide +kernel
theorem dX12_has_61 : decode cX12_has 61 = .ok (.goto 9, 3) := by decide +kernel
theorem dX12_has_64 : decode cX12_has 64 = .ok (.aload_n 0, 1) := by decide +kernel
theorem dX12_has_65 : decode cX12_has 65 = .ok (.iload_n 1, 1) := by decide +kernel
theorem dX12_has_66 : decode cX12_has 66 = .ok (.iload_n 3, 1) := by decide +kernel
theorem dX12_has_67 : decode cX12_has 67 = .ok (.invokevirtual 132, 3) := by decide +kernel
theorem dX12_has_70 : decode cX12_has 70 = .ok (.ireturn, 1) := by decide +kernel
theorem dX12_has_71 : decode cX12_has 71 = .ok (.iload_n 2, 1) := by decide +kernel
theorem dX12_has_72 : decode cX12_has 72 = .ok (.iconst 2, 1) := by decide +kernel
theorem dX12_has_73 : decode cX12_has 73 = .ok (.if_icmp .ne 22, 3) := by decide +kernel
theorem dX12_has_76 : decode cX12_has 76 = .ok (.iload_n 3, 1) := by decide +kernel
theorem dX12_has_77 : decode cX12_has 77 = .ok (.iconst 2, 1) := by decide +kernel
theorem dX12_has_78 : decode cX12_has 78 = .ok (.if_icmp .ne 15, 3) := by decide +kernel
theorem dX12_has_81 : decode cX12_has 81 = .ok (.aload_n 0, 1) := by decide +kernel
theorem dX12_has_82 : decode cX12_has 82 = .ok (.iload_n 1, 1) := by decide +kernel
theorem dX12_has_83 : decode cX12_has 83 = .ok (.invokevirtual 135, 3) := by decide +kernel
theorem dX12_has_86 : decode cX12_has 86 = .ok (.ifCond .eq 7, 3) := by decide +kernel
theorem dX12_has_89 : decode cX12_has 89 = .ok (.iconst 1, 1) := by decide +kernel
theorem dX12_has_90 : decode cX12_has 90 = .ok (.goto 4, 3) := by decide +kernel
theorem dX12_has_93 : decode cX12_has 93 = .ok (.iconst 0, 1) := by decide +kernel
theorem dX12_has_94 : decode cX12_has 94 = .ok (.ireturn, 1) := by decide +kernel
theorem dX12_has_95 : decode cX12_has 95 = .ok (.iload_n 3, 1) := by decide +kernel
theorem dX12_has_96 : decode cX12_has 96 = .ok (.iconst 3, 1) := by decide +kernel
theorem dX12_has_97 : decode cX12_has 97 = .ok (.if_icmp .ne 31, 3) := by decide +kernel
theorem dX12_has_100 : decode cX12_has 100 = .ok (.iload_n 2, 1) := by decide +kernel
theorem dX12_has_101 : decode cX12_has 101 = .ok (.iconst 3, 1) := by decide +kernel
theorem dX12_has_102 : decode cX12_has 102 = .ok (.if_icmp .ne 14, 3) := by decide +kernel
theorem dX12_has_105 : decode cX12_has 105 = .ok (.aload_n 0, 1) := by decide +kernel
theorem dX12_has_106 : decode cX12_has 106 = .ok (.iload_n 1, 1) := by decide +kernel
theorem dX12_has_107 : decode cX12_has 107 = .ok (.invokevirtual 138, 3) := by decide +kernel
theorem dX12_has_110 : decode cX12_has 110 = .ok (.ifCond .eq 18, 3) := by decide +kernel
theorem dX12_has_113 : decode cX12_has 113 = .ok (.goto 11, 3) := by decide +kernel
theorem dX12_has_116 : decode cX12_has 116 = .ok (.aload_n 0, 1) := by decide +kernel
theorem dX12_has_117 : decode cX12_has 117 = .ok (.iload_n 1, 1) := by decide +kernel
theorem dX12_has_118 : decode cX12_has 118 = .ok (.invokevirtual 141, 3) := by decide +kernel
theorem dX12_has_121 : decode cX12_has 121 = .ok (.ifCond .eq 7, 3) := by decide +kernel
theorem dX12_has_124 : decode cX12_has 124 = .ok (.iconst 1, 1) := by decide +kernel
theorem dX12_has_125 : decode cX12_has 125 = .ok (.goto 4, 3) := by decide +kernel
theorem dX12_has_128 : decode cX12_has 128 = .ok (.iconst 0, 1) := by decide +kernel
theorem dX12_has_129 : decode cX12_has 129 = .ok (.ireturn, 1) := by decide +kernel
theorem dX12_closes_0 : decode cX12_closes 0 = .ok (.iload_n 3, 1) := by decide +kernel
theorem dX12_closes_1 : decode cX12_closes 1 = .ok (.istore 4, 2) := by decide +kernel
theorem dX12_closes_3 : decode cX12_closes 3 = .ok (.aload_n 0, 1) := by decide +kernel
theorem dX12_closes_4 : decode cX12_closes 4 = .ok (.iload_n 1, 1) := by decide +kernel
theorem dX12_closes_5 : decode cX12_closes 5 = .ok (.aload_n 0, 1) := by decide +kernel
theorem dX12_closes_6 : decode cX12_closes 6 = .ok (.getfield 20, 3) := by decide +kernel
theorem dX12_closes_9 : decode cX12_closes 9 = .ok (.iload_n 1, 1) := by decide +kernel
theorem dX12_closes_10 : decode cX12_closes 10 = .ok (.iaload, 1) := by decide +kernel
theorem dX12_closes_11 : decode cX12_closes 11 = .ok (.iload_n 2, 1) := by decide +kernel
theorem dX12_closes_12 : decode cX12_closes 12 = .ok (.iload 4, 2) := by decide +kernel
theorem dX12_closes_14 : decode cX12_closes 14 = .ok (.invokevirtual 117, 3) := by decide +kernel
theorem dX12_closes_17 : decode cX12_closes 17 = .ok (.istore 5, 2) := by decide +kernel
theorem dX12_closes_19 : decode cX12_closes 19 = .ok (.iload 5, 2) := by decide +kernel
theorem dX12_closes_21 : decode cX12_closes 21 = .ok (.iload 4, 2) := by decide +kernel
theorem dX12_closes_23 : decode cX12_closes 23 = .ok (.iconst (-1), 1) := by decide +kernel
theorem dX12_closes_24 : decode cX12_closes 24 = .ok (.ixor, 1) := by decide +kernel
theorem dX12_closes_25 : decode cX12_closes 25 = .ok (.iand, 1) := by decide +kernel
theorem dX12_closes_26 : decode cX12_closes 26 = .ok (.ifCond .eq 29, 3) := by decide +kernel
theorem dX12_closes_29 : decode cX12_closes 29 = .ok (.iload 4, 2) := by decide +kernel
theorem dX12_closes_31 : decode cX12_closes 31 = .ok (.iload 5, 2) := by decide +kernel
theorem dX12_closes_33 : decode cX12_closes 33 = .ok (.ior, 1) := by decide +kernel
theorem dX12_closes_34 : decode cX12_closes 34 = .ok (.istore 4, 2) := by decide +kernel
theorem dX12_closes_36 : decode cX12_closes 36 = .ok (.aload_n 0, 1) := by decide +kernel
theorem dX12_closes_37 : decode cX12_closes 37 = .ok (.iload_n 1, 1) := by decide +kernel
theorem dX12_closes_38 : decode cX12_closes 38 = .ok (.aload_n 0, 1) := by decide +kernel
theorem dX12_closes_39 : decode cX12_closes 39 = .ok (.getfield 20, 3) := by decide +kernel
theorem dX12_closes_42 : decode cX12_closes 42 = .ok (.iload_n 1, 1) := by decide +kernel
theorem dX12_closes_43 : decode cX12_closes 43 = .ok (.iaload, 1) := by decide +kernel
theorem dX12_closes_44 : decode cX12_closes 44 = .ok (.iload_n 2, 1) := by decide +kernel
theorem dX12_closes_45 : decode cX12_closes 45 = .ok (.iload 4, 2) := by decide +kernel
theorem dX12_closes_47 : decode cX12_closes 47 = .ok (.invokevirtual 117, 3) := by decide +kernel
theorem dX12_closes_50 : decode cX12_closes 50 = .ok (.istore 5, 2) := by decide +kernel
theorem dX12_closes_52 : decode cX12_closes 52 = .ok (.goto (-33), 3) := by decide +kernel
theorem dX12_closes_55 : decode cX12_closes 55 = .ok (.iload 4, 2) := by decide +kernel
theorem dX12_closes_57 : decode cX12_closes 57 = .ok (.ireturn, 1) := by decide +kernel
theorem dX12_closed_0 : decode cX12_closed 0 = .ok (.aload_n 0, 1) := by decide +kernel
theorem dX12_closed_1 : decode cX12_closed 1 = .ok (.iload_n 1, 1) := by decide +kernel
theorem dX12_closed_2 : decode cX12_closed 2 = .ok (.iload_n 2, 1) := by decide +kernel
theorem dX12_closed_3 : decode cX12_closed 3 = .ok (.invokevirtual 123, 3) := by decide +kernel
theorem dX12_closed_6 : decode cX12_closed 6 = .ok (.ifCond .eq 23, 3) := by decide +kernel
theorem dX12_closed_9 : decode cX12_closed 9 = .ok (.aload_n 0, 1) := by decide +kernel
theorem dX12_closed_10 : decode cX12_closed 10 = .ok (.iload_n 1, 1) := by decide +kernel
theorem dX12_closed_11 : decode cX12_closed 11 = .ok (.aload_n 0, 1) := by decide +kernel
theorem dX12_closed_12 : decode cX12_closed 12 = .ok (.getfield 13, 3) := by decide +kernel
theorem dX12_closed_15 : decode cX12_closed 15 = .ok (.iload_n 2, 1) := by decide +kernel
theorem dX12_closed_16 : decode cX12_closed 16 = .ok (.iaload, 1) := by decide +kernel
theorem dX12_closed_17 : decode cX12_closed 17 = .ok (.aload_n 0, 1) := by decide +kernel
theorem dX12_closed_18 : decode cX12_closed 18 = .ok (.getfield 17, 3) := by decide +kernel
theorem dX12_closed_21 : decode cX12_closed 21 = .ok (.iload_n 2, 1) := by decide +kernel
theorem dX12_closed_22 : decode cX12_closed 22 = .ok (.iaload, 1) := by decide +kernel
theorem dX12_closed_23 : decode cX12_closed 23 = .ok (.invokevirtual 144, 3) := by decide +kernel
theorem dX12_closed_26 : decode cX12_closed 26 = .ok (.goto 4, 3) := by decide +kernel
theorem dX12_closed_29 : decode cX12_closed 29 = .ok (.iconst 0, 1) := by decide +kernel
theorem dX12_closed_30 : decode cX12_closed 30 = .ok (.ireturn, 1) := by decide +kernel
theorem dX12_monoid_0 : decode cX12_monoid 0 = .ok (.aload_n 0, 1) := by decide +kernel
theorem dX12_monoid_1 : decode cX12_monoid 1 = .ok (.iconst 0, 1) := by decide +kernel
theorem dX12_monoid_2 : decode cX12_monoid 2 = .ok (.putfield 56, 3) := by decide +kernel
theorem dX12_monoid_5 : decode cX12_monoid 5 = .ok (.aload_n 0, 1) := by decide +kernel
theorem dX12_monoid_6 : decode cX12_monoid 6 = .ok (.aload_n 0, 1) := by decide +kernel
theorem dX12_monoid_7 : decode cX12_monoid 7 = .ok (.getfield 7, 3) := by decide +kernel
theorem dX12_monoid_10 : decode cX12_monoid 10 = .ok (.invokevirtual 59, 3) := by decide +kernel
theorem dX12_monoid_13 : decode cX12_monoid 13 = .ok (.istore_n 1, 1) := by decide +kernel
theorem dX12_monoid_14 : decode cX12_monoid 14 = .ok (.bipush 27, 2) := by decide +kernel
theorem dX12_monoid_16 : decode cX12_monoid 16 = .ok (.newarray .int, 2) := by decide +kernel
theorem dX12_monoid_18 : decode cX12_monoid 18 = .ok (.astore_n 2, 1) := by decide +kernel
theorem dX12_monoid_19 : decode cX12_monoid 19 = .ok (.bipush 27, 2) := by decide +kernel
theorem dX12_monoid_21 : decode cX12_monoid 21 = .ok (.newarray .int, 2) := by decide +kernel
theorem dX12_monoid_23 : decode cX12_monoid 23 = .ok (.astore_n 3, 1) := by decide +kernel
theorem dX12_monoid_24 : decode cX12_monoid 24 = .ok (.iconst 0, 1) := by decide +kernel
theorem dX12_monoid_25 : decode cX12_monoid 25 = .ok (.istore 4, 2) := by decide +kernel
theorem dX12_monoid_27 : decode cX12_monoid 27 = .ok (.aload_n 0, 1) := by decide +kernel
theorem dX12_monoid_28 : decode cX12_monoid 28 = .ok (.getfield 7, 3) := by decide +kernel
theorem dX12_monoid_31 : decode cX12_monoid 31 = .ok (.iconst 1, 1) := by decide +kernel
theorem dX12_monoid_32 : decode cX12_monoid 32 = .ok (.isub, 1) := by decide +kernel
theorem dX12_monoid_33 : decode cX12_monoid 33 = .ok (.istore 5, 2) := by decide +kernel
theorem dX12_monoid_35 : decode cX12_monoid 35 = .ok (.iload 5, 2) := by decide +kernel
theorem dX12_monoid_37 : decode cX12_monoid 37 = .ok (.ifCond .lt 21, 3) := by decide +kernel
theorem dX12_monoid_40 : decode cX12_monoid 40 = .ok (.iload 4, 2) := by decide +kernel
theorem dX12_monoid_42 : decode cX12_monoid 42 = .ok (.aload_n 0, 1) := by decide +kernel
theorem dX12_monoid_43 : decode cX12_monoid 43 = .ok (.getfield 7, 3) := by decide +kernel
theorem dX12_monoid_46 : decode cX12_monoid 46 = .ok (.imul, 1) := by decide +kernel
theorem dX12_monoid_47 : decode cX12_monoid 47 = .ok (.iload 5, 2) := by decide +kernel
theorem dX12_monoid_49 : decode cX12_monoid 49 = .ok (.iadd, 1) := by decide +kernel
theorem dX12_monoid_50 : decode cX12_monoid 50 = .ok (.istore 4, 2) := by decide +kernel
theorem dX12_monoid_52 : decode cX12_monoid 52 = .ok (.iinc 5 (-1), 3) := by decide +kernel
theorem dX12_monoid_55 : decode cX12_monoid 55 = .ok (.goto (-20), 3) := by decide +kernel
theorem dX12_monoid_58 : decode cX12_monoid 58 = .ok (.iload 4, 2) := by decide +kernel
theorem dX12_monoid_60 : decode cX12_monoid 60 = .ok (.iload_n 1, 1) := by decide +kernel
theorem dX12_monoid_61 : decode cX12_monoid 61 = .ok (.if_icmp .ge 7, 3) := by decide +kernel
theorem dX12_monoid_64 : decode cX12_monoid 64 = .ok (.iconst 1, 1) := by decide +kernel
theorem dX12_monoid_65 : decode cX12_monoid 65 = .ok (.goto 4, 3) := by decide +kernel
theorem dX12_monoid_68 : decode cX12_monoid 68 = .ok (.iconst 0, 1) := by decide +kernel
theorem dX12_monoid_69 : decode cX12_monoid 69 = .ok (.istore 5, 2) := by decide +kernel
theorem dX12_monoid_71 : decode cX12_monoid 71 = .ok (.aload_n 3, 1) := by decide +kernel
theorem dX12_monoid_72 : decode cX12_monoid 72 = .ok (.iconst 0, 1) := by decide +kernel
theorem dX12_monoid_73 : decode cX12_monoid 73 = .ok (.iload 4, 2) := by decide +kernel
theorem dX12_monoid_75 : decode cX12_monoid 75 = .ok (.iastore, 1) := by decide +kernel
theorem dX12_monoid_76 : decode cX12_monoid 76 = .ok (.aload_n 2, 1) := by decide +kernel
theorem dX12_monoid_77 : decode cX12_monoid 77 = .ok (.iload 4, 2) := by decide +kernel
theorem dX12_monoid_79 : decode cX12_monoid 79 = .ok (.iconst 1, 1) := by decide +kernel
theorem dX12_monoid_80 : decode cX12_monoid 80 = .ok (.iastore, 1) := by decide +kernel
theorem dX12_monoid_81 : decode cX12_monoid 81 = .ok (.iconst 0, 1) := by decide +kernel
theorem dX12_monoid_82 : decode cX12_monoid 82 = .ok (.istore 6, 2) := by decide +kernel
theorem dX12_monoid_84 : decode cX12_monoid 84 = .ok (.iload 6, 2) := by decide +kernel
theorem dX12_monoid_86 : decode cX12_monoid 86 = .ok (.iload 5, 2) := by decide +kernel
theorem dX12_monoid_88 : decode cX12_monoid 88 = .ok (.if_icmp .ge 112, 3) := by decide +kernel
theorem dX12_monoid_91 : decode cX12_monoid 91 = .ok (.iconst 0, 1) := by decide +kernel
theorem dX12_monoid_92 : decode cX12_monoid 92 = .ok (.istore 7, 2) := by decide +kernel
theorem dX12_monoid_94 : decode cX12_monoid 94 = .ok (.iload 7, 2) := by decide +kernel
theorem dX12_monoid_96 : decode cX12_monoid 96 = .ok (.aload_n 0, 1) := by decide +kernel
theorem dX12_monoid_97 : decode cX12_monoid 97 = .ok (.getfield 70, 3) := by decide +kernel
theorem dX12_monoid_100 : decode cX12_monoid 100 = .ok (.if_icmp .ge 94, 3) := by decide +kernel
theorem dX12_monoid_103 : decode cX12_monoid 103 = .ok (.iconst 0, 1) := by decide +kernel
theorem dX12_monoid_104 : decode cX12_monoid 104 = .ok (.istore 8, 2) := by decide +kernel
theorem dX12_monoid_106 : decode cX12_monoid 106 = .ok (.aload_n 0, 1) := by decide +kernel
theorem dX12_monoid_107 : decode cX12_monoid 107 = .ok (.getfield 7, 3) := by decide +kernel
theorem dX12_monoid_110 : decode cX12_monoid 110 = .ok (.iconst 1, 1) := by decide +kernel
theorem dX12_monoid_111 : decode cX12_monoid 111 = .ok (.isub, 1) := by decide +kernel
theorem dX12_monoid_112 : decode cX12_monoid 112 = .ok (.istore 9, 2) := by decide +kernel
theorem dX12_monoid_114 : decode cX12_monoid 114 = .ok (.iload 9, 2) := by decide +kernel
theorem dX12_monoid_116 : decode cX12_monoid 116 = .ok (.ifCond .lt 40, 3) := by decide +kernel
theorem dX12_monoid_119 : decode cX12_monoid 119 = .ok (.iload 8, 2) := by decide +kernel
theorem dX12_monoid_121 : decode cX12_monoid 121 = .ok (.aload_n 0, 1) := by decide +kernel
theorem dX12_monoid_122 : decode cX12_monoid 122 = .ok (.getfield 7, 3) := by decide +kernel
theorem dX12_monoid_125 : decode cX12_monoid 125 = .ok (.imul, 1) := by decide +kernel
theorem dX12_monoid_126 : decode cX12_monoid 126 = .ok (.aload_n 0, 1) := by decide +kernel
theorem dX12_monoid_127 : decode cX12_monoid 127 = .ok (.getfield 23, 3) := by decide +kernel
theorem dX12_monoid_130 : decode cX12_monoid 130 = .ok (.bipush 27, 2) := by decide +kernel
theorem dX12_monoid_132 : decode cX12_monoid 132 = .ok (.iload 7, 2) := by decide +kernel
theorem dX12_monoid_134 : decode cX12_monoid 134 = .ok (.imul, 1) := by decide +kernel
theorem dX12_monoid_135 : decode cX12_monoid 135 = .ok (.aload_n 0, 1) := by decide +kernel
theorem dX12_monoid_136 : decode cX12_monoid 136 = .ok (.aload_n 3, 1) := by decide +kernel
theorem dX12_monoid_137 : decode cX12_monoid 137 = .ok (.iload 6, 2) := by decide +kernel
theorem dX12_monoid_139 : decode cX12_monoid 139 = .ok (.iaload, 1) := by decide +kernel
theorem dX12_monoid_140 : decode cX12_monoid 140 = .ok (.iload 9, 2) := by decide +kernel
theorem dX12_monoid_142 : decode cX12_monoid 142 = .ok (.invokevirtual 105, 3) := by decide +kernel
theorem dX12_monoid_145 : decode cX12_monoid 145 = .ok (.iadd, 1) := by decide +kernel
theorem dX12_monoid_146 : decode cX12_monoid 146 = .ok (.iaload, 1) := by decide +kernel
theorem dX12_monoid_147 : decode cX12_monoid 147 = .ok (.iadd, 1) := by decide +kernel
theorem dX12_monoid_148 : decode cX12_monoid 148 = .ok (.istore 8, 2) := by decide +kernel
theorem dX12_monoid_150 : decode cX12_monoid 150 = .ok (.iinc 9 (-1), 3) := by decide +kernel
theorem dX12_monoid_153 : decode cX12_monoid 153 = .ok (.goto (-39), 3) := by decide +kernel
theorem dX12_monoid_156 : decode cX12_monoid 156 = .ok (.aload_n 0, 1) := by decide +kernel
theorem dX12_monoid_157 : decode cX12_monoid 157 = .ok (.getfield 20, 3) := by decide +kernel
theorem dX12_monoid_160 : decode cX12_monoid 160 = .ok (.iload 7, 2) := by decide +kernel
theorem dX12_monoid_162 : decode cX12_monoid 162 = .ok (.iaload, 1) := by decide +kernel
theorem dX12_monoid_163 : decode cX12_monoid 163 = .ok (.iconst 1, 1) := by decide +kernel
theorem dX12_monoid_164 : decode cX12_monoid 164 = .ok (.if_icmp .ne 24, 3) := by decide +kernel
theorem dX12_monoid_167 : decode cX12_monoid 167 = .ok (.aload_n 2, 1) := by decide +kernel
theorem dX12_monoid_168 : decode cX12_monoid 168 = .ok (.iload 8, 2) := by decide +kernel
theorem dX12_monoid_170 : decode cX12_monoid 170 = .ok (.iaload, 1) := by decide +kernel
theorem dX12_monoid_171 : decode cX12_monoid 171 = .ok (.ifCond .ne 17, 3) := by decide +kernel
theorem dX12_monoid_174 : decode cX12_monoid 174 = .ok (.aload_n 2, 1) := by decide +kernel
theorem dX12_monoid_175 : decode cX12_monoid 175 = .ok (.iload 8, 2) := by decide +kernel
theorem dX12_monoid_177 : decode cX12_monoid 177 = .ok (.iconst 1, 1) := by decide +kernel
theorem dX12_monoid_178 : decode cX12_monoid 178 = .ok (.iastore, 1) := by decide +kernel
theorem dX12_monoid_179 : decode cX12_monoid 179 = .ok (.aload_n 3, 1) := by decide +kernel
theorem dX12_monoid_180 : decode cX12_monoid 180 = .ok (.iload 5, 2) := by decide +kernel
theorem dX12_monoid_182 : decode cX12_monoid 182 = .ok (.iload 8, 2) := by decide +kernel
theorem dX12_monoid_184 : decode cX12_monoid 184 = .ok (.iastore, 1) := by decide +kernel
theorem dX12_monoid_185 : decode cX12_monoid 185 = .ok (.iinc 5 1, 3) := by decide +kernel
theorem dX12_monoid_188 : decode cX12_monoid 188 = .ok (.iinc 7 1, 3) := by decide +kernel
theorem dX12_monoid_191 : decode cX12_monoid 191 = .ok (.goto (-97), 3) := by decide +kernel
theorem dX12_monoid_194 : decode cX12_monoid 194 = .ok (.iinc 6 1, 3) := by decide +kernel
theorem dX12_monoid_197 : decode cX12_monoid 197 = .ok (.goto (-113), 3) := by decide +kernel
theorem dX12_monoid_200 : decode cX12_monoid 200 = .ok (.iload 5, 2) := by decide +kernel
theorem dX12_monoid_202 : decode cX12_monoid 202 = .ok (.ireturn, 1) := by decide +kernel
theorem dX12_binary_0 : decode cX12_binary 0 = .ok (.aload_n 0, 1) := by decide +kernel
theorem dX12_binary_1 : decode cX12_binary 1 = .ok (.aload_n 0, 1) := by decide +kernel
theorem dX12_binary_2 : decode cX12_binary 2 = .ok (.getfield 7, 3) := by decide +kernel
theorem dX12_binary_5 : decode cX12_binary 5 = .ok (.iconst 3, 1) := by decide +kernel
theorem dX12_binary_6 : decode cX12_binary 6 = .ok (.if_icmp .ne 7, 3) := by decide +kernel
theorem dX12_binary_9 : decode cX12_binary 9 = .ok (.iconst 1, 1) := by decide +kernel
theorem dX12_binary_10 : decode cX12_binary 10 = .ok (.goto 4, 3) := by decide +kernel
theorem dX12_binary_13 : decode cX12_binary 13 = .ok (.iconst 0, 1) := by decide +kernel
theorem dX12_binary_14 : decode cX12_binary 14 = .ok (.putfield 56, 3) := by decide +kernel
theorem dX12_binary_17 : decode cX12_binary 17 = .ok (.aload_n 0, 1) := by decide +kernel
theorem dX12_binary_18 : decode cX12_binary 18 = .ok (.getfield 56, 3) := by decide +kernel
theorem dX12_binary_21 : decode cX12_binary 21 = .ok (.ifCond .le 5, 3) := by decide +kernel
theorem dX12_binary_24 : decode cX12_binary 24 = .ok (.iconst 0, 1) := by decide +kernel
theorem dX12_binary_25 : decode cX12_binary 25 = .ok (.ireturn, 1) := by decide +kernel
theorem dX12_binary_26 : decode cX12_binary 26 = .ok (.sipush 5120, 3) := by decide +kernel
theorem dX12_binary_29 : decode cX12_binary 29 = .ok (.istore_n 1, 1) := by decide +kernel
theorem dX12_binary_30 : decode cX12_binary 30 = .ok (.iconst 0, 1) := by decide +kernel
theorem dX12_binary_31 : decode cX12_binary 31 = .ok (.istore_n 2, 1) := by decide +kernel
theorem dX12_binary_32 : decode cX12_binary 32 = .ok (.iload_n 1, 1) := by decide +kernel
theorem dX12_binary_33 : decode cX12_binary 33 = .ok (.iload_n 2, 1) := by decide +kernel
theorem dX12_binary_34 : decode cX12_binary 34 = .ok (.if_icmp .eq 33, 3) := by decide +kernel
theorem dX12_binary_37 : decode cX12_binary 37 = .ok (.iload_n 1, 1) := by decide +kernel
theorem dX12_binary_38 : decode cX12_binary 38 = .ok (.istore_n 2, 1) := by decide +kernel
theorem dX12_binary_39 : decode cX12_binary 39 = .ok (.iconst 0, 1) := by decide +kernel
theorem dX12_binary_40 : decode cX12_binary 40 = .ok (.istore_n 3, 1) := by decide +kernel
theorem dX12_binary_41 : decode cX12_binary 41 = .ok (.iload_n 3, 1) := by decide +kernel
theorem dX12_binary_42 : decode cX12_binary 42 = .ok (.aload_n 0, 1) := by decide +kernel
theorem dX12_binary_43 : decode cX12_binary 43 = .ok (.getfield 70, 3) := by decide +kernel
theorem dX12_binary_46 : decode cX12_binary 46 = .ok (.if_icmp .ge 18, 3) := by decide +kernel
theorem dX12_binary_49 : decode cX12_binary 49 = .ok (.iload_n 1, 1) := by decide +kernel
theorem dX12_binary_50 : decode cX12_binary 50 = .ok (.aload_n 0, 1) := by decide +kernel
theorem dX12_binary_51 : decode cX12_binary 51 = .ok (.iload_n 3, 1) := by decide +kernel
theorem dX12_binary_52 : decode cX12_binary 52 = .ok (.iload_n 2, 1) := by decide +kernel
theorem dX12_binary_53 : decode cX12_binary 53 = .ok (.invokevirtual 147, 3) := by decide +kernel
theorem dX12_binary_56 : decode cX12_binary 56 = .ok (.ior, 1) := by decide +kernel
theorem dX12_binary_57 : decode cX12_binary 57 = .ok (.istore_n 1, 1) := by decide +kernel
theorem dX12_binary_58 : decode cX12_binary 58 = .ok (.iinc 3 1, 3) := by decide +kernel
theorem dX12_binary_61 : decode cX12_binary 61 = .ok (.goto (-20), 3) := by decide +kernel
theorem dX12_binary_64 : decode cX12_binary 64 = .ok (.goto (-32), 3) := by decide +kernel
theorem dX12_binary_67 : decode cX12_binary 67 = .ok (.iload_n 1, 1) := by decide +kernel
theorem dX12_binary_68 : decode cX12_binary 68 = .ok (.ireturn, 1) := by decide +kernel
theorem dX12_comeTwo_0 : decode cX12_comeTwo 0 = .ok (.aload_n 0, 1) := by decide +kernel
theorem dX12_comeTwo_1 : decode cX12_comeTwo 1 = .ok (.getfield 20, 3) := by decide +kernel
theorem dX12_comeTwo_4 : decode cX12_comeTwo 4 = .ok (.iload_n 1, 1) := by decide +kernel
theorem dX12_comeTwo_5 : decode cX12_comeTwo 5 = .ok (.iaload, 1) := by decide +kernel
theorem dX12_comeTwo_6 : decode cX12_comeTwo 6 = .ok (.istore_n 3, 1) := by decide +kernel
theorem dX12_comeTwo_7 : decode cX12_comeTwo 7 = .ok (.iload_n 3, 1) := by decide +kernel
theorem dX12_comeTwo_8 : decode cX12_comeTwo 8 = .ok (.iconst 1, 1) := by decide +kernel
theorem dX12_comeTwo_9 : decode cX12_comeTwo 9 = .ok (.if_icmp .ne 8, 3) := by decide +kernel
theorem dX12_comeTwo_12 : decode cX12_comeTwo 12 = .ok (.bipush 16, 2) := by decide +kernel
theorem dX12_comeTwo_14 : decode cX12_comeTwo 14 = .ok (.goto 17, 3) := by decide +kernel
theorem dX12_comeTwo_17 : decode cX12_comeTwo 17 = .ok (.iload_n 3, 1) := by decide +kernel
theorem dX12_comeTwo_18 : decode cX12_comeTwo 18 = .ok (.iconst 2, 1) := by decide +kernel
theorem dX12_comeTwo_19 : decode cX12_comeTwo 19 = .ok (.if_icmp .ne 9, 3) := by decide +kernel
theorem dX12_comeTwo_22 : decode cX12_comeTwo 22 = .ok (.sipush 256, 3) := by decide +kernel
theorem dX12_comeTwo_25 : decode cX12_comeTwo 25 = .ok (.goto 6, 3) := by decide +kernel
theorem dX12_comeTwo_28 : decode cX12_comeTwo 28 = .ok (.sipush 4096, 3) := by decide +kernel
theorem dX12_comeTwo_31 : decode cX12_comeTwo 31 = .ok (.istore 4, 2) := by decide +kernel
theorem dX12_comeTwo_33 : decode cX12_comeTwo 33 = .ok (.iconst 0, 1) := by decide +kernel
theorem dX12_comeTwo_34 : decode cX12_comeTwo 34 = .ok (.istore 5, 2) := by decide +kernel
theorem dX12_comeTwo_36 : decode cX12_comeTwo 36 = .ok (.iconst 0, 1) := by decide +kernel
theorem dX12_comeTwo_37 : decode cX12_comeTwo 37 = .ok (.istore 6, 2) := by decide +kernel
theorem dX12_comeTwo_39 : decode cX12_comeTwo 39 = .ok (.iload 6, 2) := by decide +kernel
theorem dX12_comeTwo_41 : decode cX12_comeTwo 41 = .ok (.iload 4, 2) := by decide +kernel
theorem dX12_comeTwo_43 : decode cX12_comeTwo 43 = .ok (.if_icmp .ge 107, 3) := by decide +kernel
theorem dX12_comeTwo_46 : decode cX12_comeTwo 46 = .ok (.aload_n 0, 1) := by decide +kernel
theorem dX12_comeTwo_47 : decode cX12_comeTwo 47 = .ok (.iload 6, 2) := by decide +kernel
theorem dX12_comeTwo_49 : decode cX12_comeTwo 49 = .ok (.iload_n 3, 1) := by decide +kernel
theorem dX12_comeTwo_50 : decode cX12_comeTwo 50 = .ok (.bipush 16, 2) := by decide +kernel
theorem dX12_comeTwo_52 : decode cX12_comeTwo 52 = .ok (.iload_n 2, 1) := by decide +kernel
theorem dX12_comeTwo_53 : decode cX12_comeTwo 53 = .ok (.invokevirtual 109, 3) := by decide +kernel
theorem dX12_comeTwo_56 : decode cX12_comeTwo 56 = .ok (.ifCond .eq 88, 3) := by decide +kernel
theorem dX12_comeTwo_59 : decode cX12_comeTwo 59 = .ok (.iconst 0, 1) := by decide +kernel
theorem dX12_comeTwo_60 : decode cX12_comeTwo 60 = .ok (.istore 7, 2) := by decide +kernel
theorem dX12_comeTwo_62 : decode cX12_comeTwo 62 = .ok (.iconst 0, 1) := by decide +kernel
theorem dX12_comeTwo_63 : decode cX12_comeTwo 63 = .ok (.istore 8, 2) := by decide +kernel
theorem dX12_comeTwo_65 : decode cX12_comeTwo 65 = .ok (.iload 8, 2) := by decide +kernel
theorem dX12_comeTwo_67 : decode cX12_comeTwo 67 = .ok (.iconst 4, 1) := by decide +kernel
theorem dX12_comeTwo_68 : decode cX12_comeTwo 68 = .ok (.if_icmp .ge 67, 3) := by decide +kernel
theorem dX12_comeTwo_71 : decode cX12_comeTwo 71 = .ok (.iconst 0, 1) := by decide +kernel
theorem dX12_comeTwo_72 : decode cX12_comeTwo 72 = .ok (.istore 9, 2) := by decide +kernel
theorem dX12_comeTwo_74 : decode cX12_comeTwo 74 = .ok (.iload_n 3, 1) := by decide +kernel
theorem dX12_comeTwo_75 : decode cX12_comeTwo 75 = .ok (.iconst 1, 1) := by decide +kernel
theorem dX12_comeTwo_76 : decode cX12_comeTwo 76 = .ok (.isub, 1) := by decide +kernel
theorem dX12_comeTwo_77 : decode cX12_comeTwo 77 = .ok (.istore 10, 2) := by decide +kernel
theorem dX12_comeTwo_79 : decode cX12_comeTwo 79 = .ok (.iload 10, 2) := by decide +kernel
theorem dX12_comeTwo_81 : decode cX12_comeTwo 81 = .ok (.ifCond .lt 28, 3) := by decide +kernel
theorem dX12_comeTwo_84 : decode cX12_comeTwo 84 = .ok (.iconst 2, 1) := by decide +kernel
theorem dX12_comeTwo_85 : decode cX12_comeTwo 85 = .ok (.iload 9, 2) := by decide +kernel
theorem dX12_comeTwo_87 : decode cX12_comeTwo 87 = .ok (.imul, 1) := by decide +kernel
theorem dX12_comeTwo_88 : decode cX12_comeTwo 88 = .ok (.aload_n 0, 1) := by decide +kernel
theorem dX12_comeTwo_89 : decode cX12_comeTwo 89 = .ok (.getfield 47, 3) := by decide +kernel
theorem dX12_comeTwo_92 : decode cX12_comeTwo 92 = .ok (.iload 10, 2) := by decide +kernel
theorem dX12_comeTwo_94 : decode cX12_comeTwo 94 = .ok (.iaload, 1) := by decide +kernel
theorem dX12_comeTwo_95 : decode cX12_comeTwo 95 = .ok (.iload 8, 2) := by decide +kernel
theorem dX12_comeTwo_97 : decode cX12_comeTwo 97 = .ok (.ishr, 1) := by decide +kernel
theorem dX12_comeTwo_98 : decode cX12_comeTwo 98 = .ok (.iconst 1, 1) := by decide +kernel
theorem dX12_comeTwo_99 : decode cX12_comeTwo 99 = .ok (.iand, 1) := by decide +kernel
theorem dX12_comeTwo_100 : decode cX12_comeTwo 100 = .ok (.iadd, 1) := by decide +kernel
theorem dX12_comeTwo_101 : decode cX12_comeTwo 101 = .ok (.istore 9, 2) := by decide +kernel
theorem dX12_comeTwo_103 : decode cX12_comeTwo 103 = .ok (.iinc 10 (-1), 3) := by decide +kernel
theorem dX12_comeTwo_106 : decode cX12_comeTwo 106 = .ok (.goto (-27), 3) := by decide +kernel
theorem dX12_comeTwo_109 : decode cX12_comeTwo 109 = .ok (.iload 7, 2) := by decide +kernel
theorem dX12_comeTwo_111 : decode cX12_comeTwo 111 = .ok (.aload_n 0, 1) := by decide +kernel
theorem dX12_comeTwo_112 : decode cX12_comeTwo 112 = .ok (.getfield 23, 3) := by decide +kernel
theorem dX12_comeTwo_115 : decode cX12_comeTwo 115 = .ok (.bipush 27, 2) := by decide +kernel
theorem dX12_comeTwo_117 : decode cX12_comeTwo 117 = .ok (.iload_n 1, 1) := by decide +kernel
theorem dX12_comeTwo_118 : decode cX12_comeTwo 118 = .ok (.imul, 1) := by decide +kernel
theorem dX12_comeTwo_119 : decode cX12_comeTwo 119 = .ok (.iload 9, 2) := by decide +kernel
theorem dX12_comeTwo_121 : decode cX12_comeTwo 121 = .ok (.iadd, 1) := by decide +kernel
theorem dX12_comeTwo_122 : decode cX12_comeTwo 122 = .ok (.iaload, 1) := by decide +kernel
theorem dX12_comeTwo_123 : decode cX12_comeTwo 123 = .ok (.iload 8, 2) := by decide +kernel
theorem dX12_comeTwo_125 : decode cX12_comeTwo 125 = .ok (.ishl, 1) := by decide +kernel
theorem dX12_comeTwo_126 : decode cX12_comeTwo 126 = .ok (.ior, 1) := by decide +kernel
theorem dX12_comeTwo_127 : decode cX12_comeTwo 127 = .ok (.istore 7, 2) := by decide +kernel
theorem dX12_comeTwo_129 : decode cX12_comeTwo 129 = .ok (.iinc 8 1, 3) := by decide +kernel
theorem dX12_comeTwo_132 : decode cX12_comeTwo 132 = .ok (.goto (-67), 3) := by decide +kernel
theorem dX12_comeTwo_135 : decode cX12_comeTwo 135 = .ok (.iload 5, 2) := by decide +kernel
theorem dX12_comeTwo_137 : decode cX12_comeTwo 137 = .ok (.iconst 1, 1) := by decide +kernel
theorem dX12_comeTwo_138 : decode cX12_comeTwo 138 = .ok (.iload 7, 2) := by decide +kernel
theorem dX12_comeTwo_140 : decode cX12_comeTwo 140 = .ok (.ishl, 1) := by decide +kernel
theorem dX12_comeTwo_141 : decode cX12_comeTwo 141 = .ok (.ior, 1) := by decide +kernel
theorem dX12_comeTwo_142 : decode cX12_comeTwo 142 = .ok (.istore 5, 2) := by decide +kernel
theorem dX12_comeTwo_144 : decode cX12_comeTwo 144 = .ok (.iinc 6 1, 3) := by decide +kernel
theorem dX12_comeTwo_147 : decode cX12_comeTwo 147 = .ok (.goto (-108), 3) := by decide +kernel
theorem dX12_comeTwo_150 : decode cX12_comeTwo 150 = .ok (.iload 5, 2) := by decide +kernel
theorem dX12_comeTwo_152 : decode cX12_comeTwo 152 = .ok (.ireturn, 1) := by decide +kernel
theorem dX12_kept_0 : decode cX12_kept 0 = .ok (.aload_n 0, 1) := by decide +kernel
theorem dX12_kept_1 : decode cX12_kept 1 = .ok (.iload_n 1, 1) := by decide +kernel
theorem dX12_kept_2 : decode cX12_kept 2 = .ok (.iconst 1, 1) := by decide +kernel
theorem dX12_kept_3 : decode cX12_kept 3 = .ok (.iconst 2, 1) := by decide +kernel
theorem dX12_kept_4 : decode cX12_kept 4 = .ok (.invokestatic 63, 3) := by decide +kernel
theorem dX12_kept_7 : decode cX12_kept 7 = .ok (.ifCond .eq 7, 3) := by decide +kernel
theorem dX12_kept_10 : decode cX12_kept 10 = .ok (.iconst 0, 1) := by decide +kernel
theorem dX12_kept_11 : decode cX12_kept 11 = .ok (.goto 4, 3) := by decide +kernel
theorem dX12_kept_14 : decode cX12_kept 14 = .ok (.iconst 1, 1) := by decide +kernel
theorem dX12_kept_15 : decode cX12_kept 15 = .ok (.putfield 56, 3) := by decide +kernel
theorem dX12_kept_18 : decode cX12_kept 18 = .ok (.iconst 0, 1) := by decide +kernel
theorem dX12_kept_19 : decode cX12_kept 19 = .ok (.istore_n 2, 1) := by decide +kernel
theorem dX12_kept_20 : decode cX12_kept 20 = .ok (.iconst 0, 1) := by decide +kernel
theorem dX12_kept_21 : decode cX12_kept 21 = .ok (.istore_n 3, 1) := by decide +kernel
theorem dX12_kept_22 : decode cX12_kept 22 = .ok (.aload_n 0, 1) := by decide +kernel
theorem dX12_kept_23 : decode cX12_kept 23 = .ok (.getfield 56, 3) := by decide +kernel
theorem dX12_kept_26 : decode cX12_kept 26 = .ok (.ifCond .ne 88, 3) := by decide +kernel
theorem dX12_kept_29 : decode cX12_kept 29 = .ok (.iload_n 3, 1) := by decide +kernel
theorem dX12_kept_30 : decode cX12_kept 30 = .ok (.iconst 1, 1) := by decide +kernel
theorem dX12_kept_31 : decode cX12_kept 31 = .ok (.aload_n 0, 1) := by decide +kernel
theorem dX12_kept_32 : decode cX12_kept 32 = .ok (.iload_n 1, 1) := by decide +kernel
theorem dX12_kept_33 : decode cX12_kept 33 = .ok (.invokevirtual 59, 3) := by decide +kernel
theorem dX12_kept_36 : decode cX12_kept 36 = .ok (.ishl, 1) := by decide +kernel
theorem dX12_kept_37 : decode cX12_kept 37 = .ok (.if_icmp .ge 77, 3) := by decide +kernel
theorem dX12_kept_40 : decode cX12_kept 40 = .ok (.iconst 1, 1) := by decide +kernel
theorem dX12_kept_41 : decode cX12_kept 41 = .ok (.istore 4, 2) := by decide +kernel
theorem dX12_kept_43 : decode cX12_kept 43 = .ok (.iconst 0, 1) := by decide +kernel
theorem dX12_kept_44 : decode cX12_kept 44 = .ok (.istore 5, 2) := by decide +kernel
theorem dX12_kept_46 : decode cX12_kept 46 = .ok (.iload 5, 2) := by decide +kernel
theorem dX12_kept_48 : decode cX12_kept 48 = .ok (.aload_n 0, 1) := by decide +kernel
theorem dX12_kept_49 : decode cX12_kept 49 = .ok (.getfield 70, 3) := by decide +kernel
theorem dX12_kept_52 : decode cX12_kept 52 = .ok (.if_icmp .ge 43, 3) := by decide +kernel
theorem dX12_kept_55 : decode cX12_kept 55 = .ok (.iload 4, 2) := by decide +kernel
theorem dX12_kept_57 : decode cX12_kept 57 = .ok (.ifCond .eq 38, 3) := by decide +kernel
theorem dX12_kept_60 : decode cX12_kept 60 = .ok (.aload_n 0, 1) := by decide +kernel
theorem dX12_kept_61 : decode cX12_kept 61 = .ok (.iload 5, 2) := by decide +kernel
theorem dX12_kept_63 : decode cX12_kept 63 = .ok (.aload_n 0, 1) := by decide +kernel
theorem dX12_kept_64 : decode cX12_kept 64 = .ok (.getfield 20, 3) := by decide +kernel
theorem dX12_kept_67 : decode cX12_kept 67 = .ok (.iload 5, 2) := by decide +kernel
theorem dX12_kept_69 : decode cX12_kept 69 = .ok (.iaload, 1) := by decide +kernel
theorem dX12_kept_70 : decode cX12_kept 70 = .ok (.iload_n 1, 1) := by decide +kernel
theorem dX12_kept_71 : decode cX12_kept 71 = .ok (.iload_n 3, 1) := by decide +kernel
theorem dX12_kept_72 : decode cX12_kept 72 = .ok (.invokevirtual 117, 3) := by decide +kernel
theorem dX12_kept_75 : decode cX12_kept 75 = .ok (.iload_n 3, 1) := by decide +kernel
theorem dX12_kept_76 : decode cX12_kept 76 = .ok (.iconst (-1), 1) := by decide +kernel
theorem dX12_kept_77 : decode cX12_kept 77 = .ok (.ixor, 1) := by decide +kernel
theorem dX12_kept_78 : decode cX12_kept 78 = .ok (.iand, 1) := by decide +kernel
theorem dX12_kept_79 : decode cX12_kept 79 = .ok (.ifCond .ne 7, 3) := by decide +kernel
theorem dX12_kept_82 : decode cX12_kept 82 = .ok (.iconst 1, 1) := by decide +kernel
theorem dX12_kept_83 : decode cX12_kept 83 = .ok (.goto 4, 3) := by decide +kernel
theorem dX12_kept_86 : decode cX12_kept 86 = .ok (.iconst 0, 1) := by decide +kernel
theorem dX12_kept_87 : decode cX12_kept 87 = .ok (.istore 4, 2) := by decide +kernel
theorem dX12_kept_89 : decode cX12_kept 89 = .ok (.iinc 5 1, 3) := by decide +kernel
theorem dX12_kept_92 : decode cX12_kept 92 = .ok (.goto (-46), 3) := by decide +kernel
theorem dX12_kept_95 : decode cX12_kept 95 = .ok (.iload_n 2, 1) := by decide +kernel
theorem dX12_kept_96 : decode cX12_kept 96 = .ok (.iload 4, 2) := by decide +kernel
theorem dX12_kept_98 : decode cX12_kept 98 = .ok (.ifCond .eq 7, 3) := by decide +kernel
theorem dX12_kept_101 : decode cX12_kept 101 = .ok (.iconst 1, 1) := by decide +kernel
theorem dX12_kept_102 : decode cX12_kept 102 = .ok (.goto 4, 3) := by decide +kernel
theorem dX12_kept_105 : decode cX12_kept 105 = .ok (.iconst 0, 1) := by decide +kernel
theorem dX12_kept_106 : decode cX12_kept 106 = .ok (.iadd, 1) := by decide +kernel
theorem dX12_kept_107 : decode cX12_kept 107 = .ok (.istore_n 2, 1) := by decide +kernel
theorem dX12_kept_108 : decode cX12_kept 108 = .ok (.iinc 3 1, 3) := by decide +kernel
theorem dX12_kept_111 : decode cX12_kept 111 = .ok (.goto (-89), 3) := by decide +kernel
theorem dX12_kept_114 : decode cX12_kept 114 = .ok (.iload_n 2, 1) := by decide +kernel
theorem dX12_kept_115 : decode cX12_kept 115 = .ok (.ireturn, 1) := by decide +kernel
theorem dX12_triesCode_0 : decode cX12_triesCode 0 = .ok (.iload_n 1, 1) := by decide +kernel
theorem dX12_triesCode_1 : decode cX12_triesCode 1 = .ok (.istore_n 3, 1) := by decide +kernel
theorem dX12_triesCode_2 : decode cX12_triesCode 2 = .ok (.iconst 0, 1) := by decide +kernel
theorem dX12_triesCode_3 : decode cX12_triesCode 3 = .ok (.istore 4, 2) := by decide +kernel
theorem dX12_triesCode_5 : decode cX12_triesCode 5 = .ok (.iload 4, 2) := by decide +kernel
theorem dX12_triesCode_7 : decode cX12_triesCode 7 = .ok (.aload_n 0, 1) := by decide +kernel
theorem dX12_triesCode_8 : decode cX12_triesCode 8 = .ok (.iload_n 2, 1) := by decide +kernel
theorem dX12_triesCode_9 : decode cX12_triesCode 9 = .ok (.invokevirtual 59, 3) := by decide +kernel
theorem dX12_triesCode_12 : decode cX12_triesCode 12 = .ok (.if_icmp .ge 33, 3) := by decide +kernel
theorem dX12_triesCode_15 : decode cX12_triesCode 15 = .ok (.aload_n 0, 1) := by decide +kernel
theorem dX12_triesCode_16 : decode cX12_triesCode 16 = .ok (.getfield 23, 3) := by decide +kernel
theorem dX12_triesCode_19 : decode cX12_triesCode 19 = .ok (.sipush 162, 3) := by decide +kernel
theorem dX12_triesCode_22 : decode cX12_triesCode 22 = .ok (.iload 4, 2) := by decide +kernel
theorem dX12_triesCode_24 : decode cX12_triesCode 24 = .ok (.iadd, 1) := by decide +kernel
theorem dX12_triesCode_25 : decode cX12_triesCode 25 = .ok (.iload_n 3, 1) := by decide +kernel
theorem dX12_triesCode_26 : decode cX12_triesCode 26 = .ok (.aload_n 0, 1) := by decide +kernel
theorem dX12_triesCode_27 : decode cX12_triesCode 27 = .ok (.getfield 7, 3) := by decide +kernel
theorem dX12_triesCode_30 : decode cX12_triesCode 30 = .ok (.irem, 1) := by decide +kernel
theorem dX12_triesCode_31 : decode cX12_triesCode 31 = .ok (.iastore, 1) := by decide +kernel
theorem dX12_triesCode_32 : decode cX12_triesCode 32 = .ok (.iload_n 3, 1) := by decide +kernel
theorem dX12_triesCode_33 : decode cX12_triesCode 33 = .ok (.aload_n 0, 1) := by decide +kernel
theorem dX12_triesCode_34 : decode cX12_triesCode 34 = .ok (.getfield 7, 3) := by decide +kernel
theorem dX12_triesCode_37 : decode cX12_triesCode 37 = .ok (.idiv, 1) := by decide +kernel
theorem dX12_triesCode_38 : decode cX12_triesCode 38 = .ok (.istore_n 3, 1) := by decide +kernel
theorem dX12_triesCode_39 : decode cX12_triesCode 39 = .ok (.iinc 4 1, 3) := by decide +kernel
theorem dX12_triesCode_42 : decode cX12_triesCode 42 = .ok (.goto (-37), 3) := by decide +kernel
theorem dX12_triesCode_45 : decode cX12_triesCode 45 = .ok (.return_, 1) := by decide +kernel
theorem dX12_firstOfTwo_0 : decode cX12_firstOfTwo 0 = .ok (.aload_n 0, 1) := by decide +kernel
theorem dX12_firstOfTwo_1 : decode cX12_firstOfTwo 1 = .ok (.getfield 7, 3) := by decide +kernel
theorem dX12_firstOfTwo_4 : decode cX12_firstOfTwo 4 = .ok (.iconst 2, 1) := by decide +kernel
theorem dX12_firstOfTwo_5 : decode cX12_firstOfTwo 5 = .ok (.if_icmp .ne 8, 3) := by decide +kernel
theorem dX12_firstOfTwo_8 : decode cX12_firstOfTwo 8 = .ok (.bipush 16, 2) := by decide +kernel
theorem dX12_firstOfTwo_10 : decode cX12_firstOfTwo 10 = .ok (.goto 6, 3) := by decide +kernel
theorem dX12_firstOfTwo_13 : decode cX12_firstOfTwo 13 = .ok (.sipush 19683, 3) := by decide +kernel
theorem dX12_firstOfTwo_16 : decode cX12_firstOfTwo 16 = .ok (.istore_n 1, 1) := by decide +kernel
theorem dX12_firstOfTwo_17 : decode cX12_firstOfTwo 17 = .ok (.iconst 0, 1) := by decide +kernel
theorem dX12_firstOfTwo_18 : decode cX12_firstOfTwo 18 = .ok (.istore_n 2, 1) := by decide +kernel
theorem dX12_firstOfTwo_19 : decode cX12_firstOfTwo 19 = .ok (.iload_n 2, 1) := by decide +kernel
theorem dX12_firstOfTwo_20 : decode cX12_firstOfTwo 20 = .ok (.iload_n 1, 1) := by decide +kernel
theorem dX12_firstOfTwo_21 : decode cX12_firstOfTwo 21 = .ok (.if_icmp .ge 57, 3) := by decide +kernel
theorem dX12_firstOfTwo_24 : decode cX12_firstOfTwo 24 = .ok (.aload_n 0, 1) := by decide +kernel
theorem dX12_firstOfTwo_25 : decode cX12_firstOfTwo 25 = .ok (.iload_n 2, 1) := by decide +kernel
theorem dX12_firstOfTwo_26 : decode cX12_firstOfTwo 26 = .ok (.iconst 2, 1) := by decide +kernel
theorem dX12_firstOfTwo_27 : decode cX12_firstOfTwo 27 = .ok (.invokevirtual 150, 3) := by decide +kernel
theorem dX12_firstOfTwo_30 : decode cX12_firstOfTwo 30 = .ok (.aload_n 0, 1) := by decide +kernel
theorem dX12_firstOfTwo_31 : decode cX12_firstOfTwo 31 = .ok (.bipush 6, 2) := by decide +kernel
theorem dX12_firstOfTwo_33 : decode cX12_firstOfTwo 33 = .ok (.iconst 2, 1) := by decide +kernel
theorem dX12_firstOfTwo_34 : decode cX12_firstOfTwo 34 = .ok (.invokevirtual 129, 3) := by decide +kernel
theorem dX12_firstOfTwo_37 : decode cX12_firstOfTwo 37 = .ok (.ifCond .eq 35, 3) := by decide +kernel
theorem dX12_firstOfTwo_40 : decode cX12_firstOfTwo 40 = .ok (.aload_n 0, 1) := by decide +kernel
theorem dX12_firstOfTwo_41 : decode cX12_firstOfTwo 41 = .ok (.bipush 6, 2) := by decide +kernel
theorem dX12_firstOfTwo_43 : decode cX12_firstOfTwo 43 = .ok (.iconst 2, 1) := by decide +kernel
theorem dX12_firstOfTwo_44 : decode cX12_firstOfTwo 44 = .ok (.invokevirtual 132, 3) := by decide +kernel
theorem dX12_firstOfTwo_47 : decode cX12_firstOfTwo 47 = .ok (.ifCond .eq 25, 3) := by decide +kernel
theorem dX12_firstOfTwo_50 : decode cX12_firstOfTwo 50 = .ok (.aload_n 0, 1) := by decide +kernel
theorem dX12_firstOfTwo_51 : decode cX12_firstOfTwo 51 = .ok (.bipush 6, 2) := by decide +kernel
theorem dX12_firstOfTwo_53 : decode cX12_firstOfTwo 53 = .ok (.invokevirtual 135, 3) := by decide +kernel
theorem dX12_firstOfTwo_56 : decode cX12_firstOfTwo 56 = .ok (.ifCond .eq 16, 3) := by decide +kernel
theorem dX12_firstOfTwo_59 : decode cX12_firstOfTwo 59 = .ok (.aload_n 0, 1) := by decide +kernel
theorem dX12_firstOfTwo_60 : decode cX12_firstOfTwo 60 = .ok (.bipush 6, 2) := by decide +kernel
theorem dX12_firstOfTwo_62 : decode cX12_firstOfTwo 62 = .ok (.iconst 2, 1) := by decide +kernel
theorem dX12_firstOfTwo_63 : decode cX12_firstOfTwo 63 = .ok (.invokevirtual 153, 3) := by decide +kernel
theorem dX12_firstOfTwo_66 : decode cX12_firstOfTwo 66 = .ok (.ifCond .eq 6, 3) := by decide +kernel
theorem dX12_firstOfTwo_69 : decode cX12_firstOfTwo 69 = .ok (.iload_n 2, 1) := by decide +kernel
theorem dX12_firstOfTwo_70 : decode cX12_firstOfTwo 70 = .ok (.i2l, 1) := by decide +kernel
theorem dX12_firstOfTwo_71 : decode cX12_firstOfTwo 71 = .ok (.lreturn, 1) := by decide +kernel
theorem dX12_firstOfTwo_72 : decode cX12_firstOfTwo 72 = .ok (.iinc 2 1, 3) := by decide +kernel
theorem dX12_firstOfTwo_75 : decode cX12_firstOfTwo 75 = .ok (.goto (-56), 3) := by decide +kernel
theorem dX12_firstOfTwo_78 : decode cX12_firstOfTwo 78 = .ok (.ldc2_w 156, 3) := by decide +kernel
theorem dX12_firstOfTwo_81 : decode cX12_firstOfTwo 81 = .ok (.lreturn, 1) := by decide +kernel
theorem dX12_triesVote_0 : decode cX12_triesVote 0 = .ok (.iload_n 1, 1) := by decide +kernel
theorem dX12_triesVote_1 : decode cX12_triesVote 1 = .ok (.istore_n 2, 1) := by decide +kernel
theorem dX12_triesVote_2 : decode cX12_triesVote 2 = .ok (.iconst 0, 1) := by decide +kernel
theorem dX12_triesVote_3 : decode cX12_triesVote 3 = .ok (.istore_n 3, 1) := by decide +kernel
theorem dX12_triesVote_4 : decode cX12_triesVote 4 = .ok (.iload_n 3, 1) := by decide +kernel
theorem dX12_triesVote_5 : decode cX12_triesVote 5 = .ok (.aload_n 0, 1) := by decide +kernel
theorem dX12_triesVote_6 : decode cX12_triesVote 6 = .ok (.iconst 3, 1) := by decide +kernel
theorem dX12_triesVote_7 : decode cX12_triesVote 7 = .ok (.invokevirtual 59, 3) := by decide +kernel
theorem dX12_triesVote_10 : decode cX12_triesVote 10 = .ok (.if_icmp .ge 132, 3) := by decide +kernel
theorem dX12_triesVote_13 : decode cX12_triesVote 13 = .ok (.iload_n 3, 1) := by decide +kernel
theorem dX12_triesVote_14 : decode cX12_triesVote 14 = .ok (.aload_n 0, 1) := by decide +kernel
theorem dX12_triesVote_15 : decode cX12_triesVote 15 = .ok (.getfield 7, 3) := by decide +kernel
theorem dX12_triesVote_18 : decode cX12_triesVote 18 = .ok (.irem, 1) := by decide +kernel
theorem dX12_triesVote_19 : decode cX12_triesVote 19 = .ok (.istore 4, 2) := by decide +kernel
theorem dX12_triesVote_21 : decode cX12_triesVote 21 = .ok (.iload_n 3, 1) := by decide +kernel
theorem dX12_triesVote_22 : decode cX12_triesVote 22 = .ok (.aload_n 0, 1) := by decide +kernel
theorem dX12_triesVote_23 : decode cX12_triesVote 23 = .ok (.getfield 7, 3) := by decide +kernel
theorem dX12_triesVote_26 : decode cX12_triesVote 26 = .ok (.idiv, 1) := by decide +kernel
theorem dX12_triesVote_27 : decode cX12_triesVote 27 = .ok (.aload_n 0, 1) := by decide +kernel
theorem dX12_triesVote_28 : decode cX12_triesVote 28 = .ok (.getfield 7, 3) := by decide +kernel
theorem dX12_triesVote_31 : decode cX12_triesVote 31 = .ok (.irem, 1) := by decide +kernel
theorem dX12_triesVote_32 : decode cX12_triesVote 32 = .ok (.istore 5, 2) := by decide +kernel
theorem dX12_triesVote_34 : decode cX12_triesVote 34 = .ok (.iload_n 3, 1) := by decide +kernel
theorem dX12_triesVote_35 : decode cX12_triesVote 35 = .ok (.aload_n 0, 1) := by decide +kernel
theorem dX12_triesVote_36 : decode cX12_triesVote 36 = .ok (.getfield 7, 3) := by decide +kernel
theorem dX12_triesVote_39 : decode cX12_triesVote 39 = .ok (.idiv, 1) := by decide +kernel
theorem dX12_triesVote_40 : decode cX12_triesVote 40 = .ok (.aload_n 0, 1) := by decide +kernel
theorem dX12_triesVote_41 : decode cX12_triesVote 41 = .ok (.getfield 7, 3) := by decide +kernel
theorem dX12_triesVote_44 : decode cX12_triesVote 44 = .ok (.idiv, 1) := by decide +kernel
theorem dX12_triesVote_45 : decode cX12_triesVote 45 = .ok (.istore 6, 2) := by decide +kernel
theorem dX12_triesVote_47 : decode cX12_triesVote 47 = .ok (.iload 4, 2) := by decide +kernel
theorem dX12_triesVote_49 : decode cX12_triesVote 49 = .ok (.iload 5, 2) := by decide +kernel
theorem dX12_triesVote_51 : decode cX12_triesVote 51 = .ok (.if_icmp .eq 21, 3) := by decide +kernel
theorem dX12_triesVote_54 : decode cX12_triesVote 54 = .ok (.iload 5, 2) := by decide +kernel
theorem dX12_triesVote_56 : decode cX12_triesVote 56 = .ok (.iload 6, 2) := by decide +kernel
theorem dX12_triesVote_58 : decode cX12_triesVote 58 = .ok (.if_icmp .eq 14, 3) := by decide +kernel
theorem dX12_triesVote_61 : decode cX12_triesVote 61 = .ok (.iload 4, 2) := by decide +kernel
theorem dX12_triesVote_63 : decode cX12_triesVote 63 = .ok (.iload 6, 2) := by decide +kernel
theorem dX12_triesVote_65 : decode cX12_triesVote 65 = .ok (.if_icmp .eq 7, 3) := by decide +kernel
theorem dX12_triesVote_68 : decode cX12_triesVote 68 = .ok (.iconst 1, 1) := by decide +kernel
theorem dX12_triesVote_69 : decode cX12_triesVote 69 = .ok (.goto 4, 3) := by decide +kernel
theorem dX12_triesVote_72 : decode cX12_triesVote 72 = .ok (.iconst 0, 1) := by decide +kernel
theorem dX12_triesVote_73 : decode cX12_triesVote 73 = .ok (.istore 7, 2) := by decide +kernel
theorem dX12_triesVote_75 : decode cX12_triesVote 75 = .ok (.aload_n 0, 1) := by decide +kernel
theorem dX12_triesVote_76 : decode cX12_triesVote 76 = .ok (.getfield 23, 3) := by decide +kernel
theorem dX12_triesVote_79 : decode cX12_triesVote 79 = .ok (.sipush 162, 3) := by decide +kernel
theorem dX12_triesVote_82 : decode cX12_triesVote 82 = .ok (.iload_n 3, 1) := by decide +kernel
theorem dX12_triesVote_83 : decode cX12_triesVote 83 = .ok (.iadd, 1) := by decide +kernel
theorem dX12_triesVote_84 : decode cX12_triesVote 84 = .ok (.iload 7, 2) := by decide +kernel
theorem dX12_triesVote_86 : decode cX12_triesVote 86 = .ok (.ifCond .eq 12, 3) := by decide +kernel
theorem dX12_triesVote_89 : decode cX12_triesVote 89 = .ok (.iload_n 2, 1) := by decide +kernel
theorem dX12_triesVote_90 : decode cX12_triesVote 90 = .ok (.aload_n 0, 1) := by decide +kernel
theorem dX12_triesVote_91 : decode cX12_triesVote 91 = .ok (.getfield 7, 3) := by decide +kernel
theorem dX12_triesVote_94 : decode cX12_triesVote 94 = .ok (.irem, 1) := by decide +kernel
theorem dX12_triesVote_95 : decode cX12_triesVote 95 = .ok (.goto 24, 3) := by decide +kernel
theorem dX12_triesVote_98 : decode cX12_triesVote 98 = .ok (.iload 4, 2) := by decide +kernel
theorem dX12_triesVote_100 : decode cX12_triesVote 100 = .ok (.iload 5, 2) := by decide +kernel
theorem dX12_triesVote_102 : decode cX12_triesVote 102 = .ok (.if_icmp .eq 10, 3) := by decide +kernel
theorem dX12_triesVote_105 : decode cX12_triesVote 105 = .ok (.iload 4, 2) := by decide +kernel
theorem dX12_triesVote_107 : decode cX12_triesVote 107 = .ok (.iload 6, 2) := by decide +kernel
theorem dX12_triesVote_109 : decode cX12_triesVote 109 = .ok (.if_icmp .ne 8, 3) := by decide +kernel
theorem dX12_triesVote_112 : decode cX12_triesVote 112 = .ok (.iload 4, 2) := by decide +kernel
theorem dX12_triesVote_114 : decode cX12_triesVote 114 = .ok (.goto 5, 3) := by decide +kernel
theorem dX12_triesVote_117 : decode cX12_triesVote 117 = .ok (.iload 5, 2) := by decide +kernel
theorem dX12_triesVote_119 : decode cX12_triesVote 119 = .ok (.iastore, 1) := by decide +kernel
theorem dX12_triesVote_120 : decode cX12_triesVote 120 = .ok (.iload 7, 2) := by decide +kernel
theorem dX12_triesVote_122 : decode cX12_triesVote 122 = .ok (.ifCond .eq 12, 3) := by decide +kernel
theorem dX12_triesVote_125 : decode cX12_triesVote 125 = .ok (.iload_n 2, 1) := by decide +kernel
theorem dX12_triesVote_126 : decode cX12_triesVote 126 = .ok (.aload_n 0, 1) := by decide +kernel
theorem dX12_triesVote_127 : decode cX12_triesVote 127 = .ok (.getfield 7, 3) := by decide +kernel
theorem dX12_triesVote_130 : decode cX12_triesVote 130 = .ok (.idiv, 1) := by decide +kernel
theorem dX12_triesVote_131 : decode cX12_triesVote 131 = .ok (.goto 4, 3) := by decide +kernel
theorem dX12_triesVote_134 : decode cX12_triesVote 134 = .ok (.iload_n 2, 1) := by decide +kernel
theorem dX12_triesVote_135 : decode cX12_triesVote 135 = .ok (.istore_n 2, 1) := by decide +kernel
theorem dX12_triesVote_136 : decode cX12_triesVote 136 = .ok (.iinc 3 1, 3) := by decide +kernel
theorem dX12_triesVote_139 : decode cX12_triesVote 139 = .ok (.goto (-135), 3) := by decide +kernel
theorem dX12_triesVote_142 : decode cX12_triesVote 142 = .ok (.return_, 1) := by decide +kernel
theorem dX12_firstVote_0 : decode cX12_firstVote 0 = .ok (.aload_n 0, 1) := by decide +kernel
theorem dX12_firstVote_1 : decode cX12_firstVote 1 = .ok (.getfield 7, 3) := by decide +kernel
theorem dX12_firstVote_4 : decode cX12_firstVote 4 = .ok (.iconst 2, 1) := by decide +kernel
theorem dX12_firstVote_5 : decode cX12_firstVote 5 = .ok (.if_icmp .ne 7, 3) := by decide +kernel
theorem dX12_firstVote_8 : decode cX12_firstVote 8 = .ok (.iconst 1, 1) := by decide +kernel
theorem dX12_firstVote_9 : decode cX12_firstVote 9 = .ok (.goto 6, 3) := by decide +kernel
theorem dX12_firstVote_12 : decode cX12_firstVote 12 = .ok (.sipush 729, 3) := by decide +kernel
theorem dX12_firstVote_15 : decode cX12_firstVote 15 = .ok (.istore_n 1, 1) := by decide +kernel
theorem dX12_firstVote_16 : decode cX12_firstVote 16 = .ok (.iconst 0, 1) := by decide +kernel
theorem dX12_firstVote_17 : decode cX12_firstVote 17 = .ok (.istore_n 2, 1) := by decide +kernel
theorem dX12_firstVote_18 : decode cX12_firstVote 18 = .ok (.iload_n 2, 1) := by decide +kernel
theorem dX12_firstVote_19 : decode cX12_firstVote 19 = .ok (.iload_n 1, 1) := by decide +kernel
theorem dX12_firstVote_20 : decode cX12_firstVote 20 = .ok (.if_icmp .ge 32, 3) := by decide +kernel
theorem dX12_firstVote_23 : decode cX12_firstVote 23 = .ok (.aload_n 0, 1) := by decide +kernel
theorem dX12_firstVote_24 : decode cX12_firstVote 24 = .ok (.iload_n 2, 1) := by decide +kernel
theorem dX12_firstVote_25 : decode cX12_firstVote 25 = .ok (.invokevirtual 158, 3) := by decide +kernel
theorem dX12_firstVote_28 : decode cX12_firstVote 28 = .ok (.aload_n 0, 1) := by decide +kernel
theorem dX12_firstVote_29 : decode cX12_firstVote 29 = .ok (.bipush 6, 2) := by decide +kernel
theorem dX12_firstVote_31 : decode cX12_firstVote 31 = .ok (.iconst 3, 1) := by decide +kernel
theorem dX12_firstVote_32 : decode cX12_firstVote 32 = .ok (.invokevirtual 153, 3) := by decide +kernel
theorem dX12_firstVote_35 : decode cX12_firstVote 35 = .ok (.ifCond .eq 11, 3) := by decide +kernel
theorem dX12_firstVote_38 : decode cX12_firstVote 38 = .ok (.aload_n 0, 1) := by decide +kernel
theorem dX12_firstVote_39 : decode cX12_firstVote 39 = .ok (.bipush 6, 2) := by decide +kernel
theorem dX12_firstVote_41 : decode cX12_firstVote 41 = .ok (.iconst 3, 1) := by decide +kernel
theorem dX12_firstVote_42 : decode cX12_firstVote 42 = .ok (.invokevirtual 101, 3) := by decide +kernel
theorem dX12_firstVote_45 : decode cX12_firstVote 45 = .ok (.lreturn, 1) := by decide +kernel
theorem dX12_firstVote_46 : decode cX12_firstVote 46 = .ok (.iinc 2 1, 3) := by decide +kernel
theorem dX12_firstVote_49 : decode cX12_firstVote 49 = .ok (.goto (-31), 3) := by decide +kernel
theorem dX12_firstVote_52 : decode cX12_firstVote 52 = .ok (.ldc2_w 156, 3) := by decide +kernel
theorem dX12_firstVote_55 : decode cX12_firstVote 55 = .ok (.lreturn, 1) := by decide +kernel
theorem dX12_firstConstant_0 : decode cX12_firstConstant 0 = .ok (.iconst 0, 1) := by decide +kernel
theorem dX12_firstConstant_1 : decode cX12_firstConstant 1 = .ok (.istore_n 1, 1) := by decide +kernel
theorem dX12_firstConstant_2 : decode cX12_firstConstant 2 = .ok (.iload_n 1, 1) := by decide +kernel
theorem dX12_firstConstant_3 : decode cX12_firstConstant 3 = .ok (.aload_n 0, 1) := by decide +kernel
theorem dX12_firstConstant_4 : decode cX12_firstConstant 4 = .ok (.getfield 7, 3) := by decide +kernel
theorem dX12_firstConstant_7 : decode cX12_firstConstant 7 = .ok (.if_icmp .ge 54, 3) := by decide +kernel
theorem dX12_firstConstant_10 : decode cX12_firstConstant 10 = .ok (.iconst 0, 1) := by decide +kernel
theorem dX12_firstConstant_11 : decode cX12_firstConstant 11 = .ok (.istore_n 2, 1) := by decide +kernel
theorem dX12_firstConstant_12 : decode cX12_firstConstant 12 = .ok (.iload_n 2, 1) := by decide +kernel
theorem dX12_firstConstant_13 : decode cX12_firstConstant 13 = .ok (.aload_n 0, 1) := by decide +kernel
theorem dX12_firstConstant_14 : decode cX12_firstConstant 14 = .ok (.getfield 7, 3) := by decide +kernel
theorem dX12_firstConstant_17 : decode cX12_firstConstant 17 = .ok (.if_icmp .ge 20, 3) := by decide +kernel
theorem dX12_firstConstant_20 : decode cX12_firstConstant 20 = .ok (.aload_n 0, 1) := by decide +kernel
theorem dX12_firstConstant_21 : decode cX12_firstConstant 21 = .ok (.getfield 23, 3) := by decide +kernel
theorem dX12_firstConstant_24 : decode cX12_firstConstant 24 = .ok (.sipush 162, 3) := by decide +kernel
theorem dX12_firstConstant_27 : decode cX12_firstConstant 27 = .ok (.iload_n 2, 1) := by decide +kernel
theorem dX12_firstConstant_28 : decode cX12_firstConstant 28 = .ok (.iadd, 1) := by decide +kernel
theorem dX12_firstConstant_29 : decode cX12_firstConstant 29 = .ok (.iload_n 1, 1) := by decide +kernel
theorem dX12_firstConstant_30 : decode cX12_firstConstant 30 = .ok (.iastore, 1) := by decide +kernel
theorem dX12_firstConstant_31 : decode cX12_firstConstant 31 = .ok (.iinc 2 1, 3) := by decide +kernel
theorem dX12_firstConstant_34 : decode cX12_firstConstant 34 = .ok (.goto (-22), 3) := by decide +kernel
theorem dX12_firstConstant_37 : decode cX12_firstConstant 37 = .ok (.aload_n 0, 1) := by decide +kernel
theorem dX12_firstConstant_38 : decode cX12_firstConstant 38 = .ok (.bipush 6, 2) := by decide +kernel
theorem dX12_firstConstant_40 : decode cX12_firstConstant 40 = .ok (.iconst 1, 1) := by decide +kernel
theorem dX12_firstConstant_41 : decode cX12_firstConstant 41 = .ok (.invokevirtual 153, 3) := by decide +kernel
theorem dX12_firstConstant_44 : decode cX12_firstConstant 44 = .ok (.ifCond .eq 11, 3) := by decide +kernel
theorem dX12_firstConstant_47 : decode cX12_firstConstant 47 = .ok (.aload_n 0, 1) := by decide +kernel
theorem dX12_firstConstant_48 : decode cX12_firstConstant 48 = .ok (.bipush 6, 2) := by decide +kernel
theorem dX12_firstConstant_50 : decode cX12_firstConstant 50 = .ok (.iconst 1, 1) := by decide +kernel
theorem dX12_firstConstant_51 : decode cX12_firstConstant 51 = .ok (.invokevirtual 101, 3) := by decide +kernel
theorem dX12_firstConstant_54 : decode cX12_firstConstant 54 = .ok (.lreturn, 1) := by decide +kernel
theorem dX12_firstConstant_55 : decode cX12_firstConstant 55 = .ok (.iinc 1 1, 3) := by decide +kernel
theorem dX12_firstConstant_58 : decode cX12_firstConstant 58 = .ok (.goto (-56), 3) := by decide +kernel
theorem dX12_firstConstant_61 : decode cX12_firstConstant 61 = .ok (.ldc2_w 156, 3) := by decide +kernel
theorem dX12_firstConstant_64 : decode cX12_firstConstant 64 = .ok (.lreturn, 1) := by decide +kernel
theorem dX12_first_0 : decode cX12_first 0 = .ok (.aload_n 0, 1) := by decide +kernel
theorem dX12_first_1 : decode cX12_first 1 = .ok (.iload_n 1, 1) := by decide +kernel
theorem dX12_first_2 : decode cX12_first 2 = .ok (.iconst 0, 1) := by decide +kernel
theorem dX12_first_3 : decode cX12_first 3 = .ok (.iconst 3, 1) := by decide +kernel
theorem dX12_first_4 : decode cX12_first 4 = .ok (.invokestatic 63, 3) := by decide +kernel
theorem dX12_first_7 : decode cX12_first 7 = .ok (.ifCond .eq 7, 3) := by decide +kernel
theorem dX12_first_10 : decode cX12_first 10 = .ok (.iconst 0, 1) := by decide +kernel
theorem dX12_first_11 : decode cX12_first 11 = .ok (.goto 4, 3) := by decide +kernel
theorem dX12_first_14 : decode cX12_first 14 = .ok (.iconst 1, 1) := by decide +kernel
theorem dX12_first_15 : decode cX12_first 15 = .ok (.putfield 56, 3) := by decide +kernel
theorem dX12_first_18 : decode cX12_first 18 = .ok (.aload_n 0, 1) := by decide +kernel
theorem dX12_first_19 : decode cX12_first 19 = .ok (.getfield 56, 3) := by decide +kernel
theorem dX12_first_22 : decode cX12_first 22 = .ok (.ifCond .le 5, 3) := by decide +kernel
theorem dX12_first_25 : decode cX12_first 25 = .ok (.lconst 0, 1) := by decide +kernel
theorem dX12_first_26 : decode cX12_first 26 = .ok (.lreturn, 1) := by decide +kernel
theorem dX12_first_27 : decode cX12_first 27 = .ok (.iload_n 1, 1) := by decide +kernel
theorem dX12_first_28 : decode cX12_first 28 = .ok (.ifCond .ne 8, 3) := by decide +kernel
theorem dX12_first_31 : decode cX12_first 31 = .ok (.aload_n 0, 1) := by decide +kernel
theorem dX12_first_32 : decode cX12_first 32 = .ok (.invokevirtual 162, 3) := by decide +kernel
theorem dX12_first_35 : decode cX12_first 35 = .ok (.lreturn, 1) := by decide +kernel
theorem dX12_first_36 : decode cX12_first 36 = .ok (.iload_n 1, 1) := by decide +kernel
theorem dX12_first_37 : decode cX12_first 37 = .ok (.iconst 3, 1) := by decide +kernel
theorem dX12_first_38 : decode cX12_first 38 = .ok (.if_icmp .ge 20, 3) := by decide +kernel
theorem dX12_first_41 : decode cX12_first 41 = .ok (.iload_n 1, 1) := by decide +kernel
theorem dX12_first_42 : decode cX12_first 42 = .ok (.iconst 1, 1) := by decide +kernel
theorem dX12_first_43 : decode cX12_first 43 = .ok (.if_icmp .ne 10, 3) := by decide +kernel
theorem dX12_first_46 : decode cX12_first 46 = .ok (.aload_n 0, 1) := by decide +kernel
theorem dX12_first_47 : decode cX12_first 47 = .ok (.invokevirtual 166, 3) := by decide +kernel
theorem dX12_first_50 : decode cX12_first 50 = .ok (.goto 7, 3) := by decide +kernel
theorem dX12_first_53 : decode cX12_first 53 = .ok (.aload_n 0, 1) := by decide +kernel
theorem dX12_first_54 : decode cX12_first 54 = .ok (.invokevirtual 169, 3) := by decide +kernel
theorem dX12_first_57 : decode cX12_first 57 = .ok (.lreturn, 1) := by decide +kernel
theorem dX12_first_58 : decode cX12_first 58 = .ok (.aload_n 0, 1) := by decide +kernel
theorem dX12_first_59 : decode cX12_first 59 = .ok (.bipush 6, 2) := by decide +kernel
theorem dX12_first_61 : decode cX12_first 61 = .ok (.iconst 3, 1) := by decide +kernel
theorem dX12_first_62 : decode cX12_first 62 = .ok (.invokevirtual 94, 3) := by decide +kernel
theorem dX12_first_65 : decode cX12_first 65 = .ok (.aload_n 0, 1) := by decide +kernel
theorem dX12_first_66 : decode cX12_first 66 = .ok (.bipush 6, 2) := by decide +kernel
theorem dX12_first_68 : decode cX12_first 68 = .ok (.iconst 3, 1) := by decide +kernel
theorem dX12_first_69 : decode cX12_first 69 = .ok (.invokevirtual 153, 3) := by decide +kernel
theorem dX12_first_72 : decode cX12_first 72 = .ok (.ifCond .eq 13, 3) := by decide +kernel
theorem dX12_first_75 : decode cX12_first 75 = .ok (.aload_n 0, 1) := by decide +kernel
theorem dX12_first_76 : decode cX12_first 76 = .ok (.bipush 6, 2) := by decide +kernel
theorem dX12_first_78 : decode cX12_first 78 = .ok (.iconst 3, 1) := by decide +kernel
theorem dX12_first_79 : decode cX12_first 79 = .ok (.invokevirtual 101, 3) := by decide +kernel
theorem dX12_first_82 : decode cX12_first 82 = .ok (.goto 6, 3) := by decide +kernel
theorem dX12_first_85 : decode cX12_first 85 = .ok (.ldc2_w 156, 3) := by decide +kernel
theorem dX12_first_88 : decode cX12_first 88 = .ok (.lreturn, 1) := by decide +kernel
theorem dX12_endsOf_0 : decode cX12_endsOf 0 = .ok (.iconst 0, 1) := by decide +kernel
theorem dX12_endsOf_1 : decode cX12_endsOf 1 = .ok (.istore_n 2, 1) := by decide +kernel
theorem dX12_endsOf_2 : decode cX12_endsOf 2 = .ok (.aload_n 0, 1) := by decide +kernel
theorem dX12_endsOf_3 : decode cX12_endsOf 3 = .ok (.getfield 7, 3) := by decide +kernel
theorem dX12_endsOf_6 : decode cX12_endsOf 6 = .ok (.istore_n 3, 1) := by decide +kernel
theorem dX12_endsOf_7 : decode cX12_endsOf 7 = .ok (.iconst 0, 1) := by decide +kernel
theorem dX12_endsOf_8 : decode cX12_endsOf 8 = .ok (.istore 4, 2) := by decide +kernel
theorem dX12_endsOf_10 : decode cX12_endsOf 10 = .ok (.iload 4, 2) := by decide +kernel
theorem dX12_endsOf_12 : decode cX12_endsOf 12 = .ok (.aload_n 0, 1) := by decide +kernel
theorem dX12_endsOf_13 : decode cX12_endsOf 13 = .ok (.aload_n 0, 1) := by decide +kernel
theorem dX12_endsOf_14 : decode cX12_endsOf 14 = .ok (.getfield 7, 3) := by decide +kernel
theorem dX12_endsOf_17 : decode cX12_endsOf 17 = .ok (.invokevirtual 59, 3) := by decide +kernel
theorem dX12_endsOf_20 : decode cX12_endsOf 20 = .ok (.if_icmp .ge 87, 3) := by decide +kernel
theorem dX12_endsOf_23 : decode cX12_endsOf 23 = .ok (.aload_n 0, 1) := by decide +kernel
theorem dX12_endsOf_24 : decode cX12_endsOf 24 = .ok (.iload 4, 2) := by decide +kernel
theorem dX12_endsOf_26 : decode cX12_endsOf 26 = .ok (.iconst 1, 1) := by decide +kernel
theorem dX12_endsOf_27 : decode cX12_endsOf 27 = .ok (.invokevirtual 150, 3) := by decide +kernel
theorem dX12_endsOf_30 : decode cX12_endsOf 30 = .ok (.aload_n 0, 1) := by decide +kernel
theorem dX12_endsOf_31 : decode cX12_endsOf 31 = .ok (.bipush 6, 2) := by decide +kernel
theorem dX12_endsOf_33 : decode cX12_endsOf 33 = .ok (.iconst 1, 1) := by decide +kernel
theorem dX12_endsOf_34 : decode cX12_endsOf 34 = .ok (.invokevirtual 153, 3) := by decide +kernel
theorem dX12_endsOf_37 : decode cX12_endsOf 37 = .ok (.ifCond .eq 64, 3) := by decide +kernel
theorem dX12_endsOf_40 : decode cX12_endsOf 40 = .ok (.iinc 2 1, 3) := by decide +kernel
theorem dX12_endsOf_43 : decode cX12_endsOf 43 = .ok (.iconst 0, 1) := by decide +kernel
theorem dX12_endsOf_44 : decode cX12_endsOf 44 = .ok (.istore 5, 2) := by decide +kernel
theorem dX12_endsOf_46 : decode cX12_endsOf 46 = .ok (.iconst 0, 1) := by decide +kernel
theorem dX12_endsOf_47 : decode cX12_endsOf 47 = .ok (.istore 6, 2) := by decide +kernel
theorem dX12_endsOf_49 : decode cX12_endsOf 49 = .ok (.iload 6, 2) := by decide +kernel
theorem dX12_endsOf_51 : decode cX12_endsOf 51 = .ok (.aload_n 0, 1) := by decide +kernel
theorem dX12_endsOf_52 : decode cX12_endsOf 52 = .ok (.getfield 7, 3) := by decide +kernel
theorem dX12_endsOf_55 : decode cX12_endsOf 55 = .ok (.if_icmp .ge 27, 3) := by decide +kernel
theorem dX12_endsOf_58 : decode cX12_endsOf 58 = .ok (.iload 5, 2) := by decide +kernel
theorem dX12_endsOf_60 : decode cX12_endsOf 60 = .ok (.iconst 1, 1) := by decide +kernel
theorem dX12_endsOf_61 : decode cX12_endsOf 61 = .ok (.aload_n 0, 1) := by decide +kernel
theorem dX12_endsOf_62 : decode cX12_endsOf 62 = .ok (.getfield 23, 3) := by decide +kernel
theorem dX12_endsOf_65 : decode cX12_endsOf 65 = .ok (.sipush 162, 3) := by decide +kernel
theorem dX12_endsOf_68 : decode cX12_endsOf 68 = .ok (.iload 6, 2) := by decide +kernel
theorem dX12_endsOf_70 : decode cX12_endsOf 70 = .ok (.iadd, 1) := by decide +kernel
theorem dX12_endsOf_71 : decode cX12_endsOf 71 = .ok (.iaload, 1) := by decide +kernel
theorem dX12_endsOf_72 : decode cX12_endsOf 72 = .ok (.ishl, 1) := by decide +kernel
theorem dX12_endsOf_73 : decode cX12_endsOf 73 = .ok (.ior, 1) := by decide +kernel
theorem dX12_endsOf_74 : decode cX12_endsOf 74 = .ok (.istore 5, 2) := by decide +kernel
theorem dX12_endsOf_76 : decode cX12_endsOf 76 = .ok (.iinc 6 1, 3) := by decide +kernel
theorem dX12_endsOf_79 : decode cX12_endsOf 79 = .ok (.goto (-30), 3) := by decide +kernel
theorem dX12_endsOf_82 : decode cX12_endsOf 82 = .ok (.iload 5, 2) := by decide +kernel
theorem dX12_endsOf_84 : decode cX12_endsOf 84 = .ok (.invokestatic 84, 3) := by decide +kernel
theorem dX12_endsOf_87 : decode cX12_endsOf 87 = .ok (.iload_n 3, 1) := by decide +kernel
theorem dX12_endsOf_88 : decode cX12_endsOf 88 = .ok (.if_icmp .ge 11, 3) := by decide +kernel
theorem dX12_endsOf_91 : decode cX12_endsOf 91 = .ok (.iload 5, 2) := by decide +kernel
theorem dX12_endsOf_93 : decode cX12_endsOf 93 = .ok (.invokestatic 84, 3) := by decide +kernel
theorem dX12_endsOf_96 : decode cX12_endsOf 96 = .ok (.goto 4, 3) := by decide +kernel
theorem dX12_endsOf_99 : decode cX12_endsOf 99 = .ok (.iload_n 3, 1) := by decide +kernel
theorem dX12_endsOf_100 : decode cX12_endsOf 100 = .ok (.istore_n 3, 1) := by decide +kernel
theorem dX12_endsOf_101 : decode cX12_endsOf 101 = .ok (.iinc 4 1, 3) := by decide +kernel
theorem dX12_endsOf_104 : decode cX12_endsOf 104 = .ok (.goto (-94), 3) := by decide +kernel
theorem dX12_endsOf_107 : decode cX12_endsOf 107 = .ok (.iload_n 1, 1) := by decide +kernel
theorem dX12_endsOf_108 : decode cX12_endsOf 108 = .ok (.ifCond .eq 7, 3) := by decide +kernel
theorem dX12_endsOf_111 : decode cX12_endsOf 111 = .ok (.iload_n 3, 1) := by decide +kernel
theorem dX12_endsOf_112 : decode cX12_endsOf 112 = .ok (.goto 4, 3) := by decide +kernel
theorem dX12_endsOf_115 : decode cX12_endsOf 115 = .ok (.iload_n 2, 1) := by decide +kernel
theorem dX12_endsOf_116 : decode cX12_endsOf 116 = .ok (.ireturn, 1) := by decide +kernel
theorem dX12_ends_0 : decode cX12_ends 0 = .ok (.aload_n 0, 1) := by decide +kernel
theorem dX12_ends_1 : decode cX12_ends 1 = .ok (.iconst 0, 1) := by decide +kernel
theorem dX12_ends_2 : decode cX12_ends 2 = .ok (.putfield 56, 3) := by decide +kernel
theorem dX12_ends_5 : decode cX12_ends 5 = .ok (.aload_n 0, 1) := by decide +kernel
theorem dX12_ends_6 : decode cX12_ends 6 = .ok (.iconst 0, 1) := by decide +kernel
theorem dX12_ends_7 : decode cX12_ends 7 = .ok (.invokevirtual 172, 3) := by decide +kernel
theorem dX12_ends_10 : decode cX12_ends 10 = .ok (.ireturn, 1) := by decide +kernel
theorem dX12_core_0 : decode cX12_core 0 = .ok (.aload_n 0, 1) := by decide +kernel
theorem dX12_core_1 : decode cX12_core 1 = .ok (.iconst 0, 1) := by decide +kernel
theorem dX12_core_2 : decode cX12_core 2 = .ok (.putfield 56, 3) := by decide +kernel
theorem dX12_core_5 : decode cX12_core 5 = .ok (.aload_n 0, 1) := by decide +kernel
theorem dX12_core_6 : decode cX12_core 6 = .ok (.iconst 1, 1) := by decide +kernel
theorem dX12_core_7 : decode cX12_core 7 = .ok (.invokevirtual 172, 3) := by decide +kernel
theorem dX12_core_10 : decode cX12_core 10 = .ok (.ireturn, 1) := by decide +kernel
theorem dX12_around_0 : decode cX12_around 0 = .ok (.aload_n 0, 1) := by decide +kernel
theorem dX12_around_1 : decode cX12_around 1 = .ok (.aload_n 0, 1) := by decide +kernel
theorem dX12_around_2 : decode cX12_around 2 = .ok (.iload_n 1, 1) := by decide +kernel
theorem dX12_around_3 : decode cX12_around 3 = .ok (.invokevirtual 76, 3) := by decide +kernel
theorem dX12_around_6 : decode cX12_around 6 = .ok (.ifCond .eq 7, 3) := by decide +kernel
theorem dX12_around_9 : decode cX12_around 9 = .ok (.iconst 0, 1) := by decide +kernel
theorem dX12_around_10 : decode cX12_around 10 = .ok (.goto 4, 3) := by decide +kernel
theorem dX12_around_13 : decode cX12_around 13 = .ok (.iconst 1, 1) := by decide +kernel
theorem dX12_around_14 : decode cX12_around 14 = .ok (.putfield 56, 3) := by decide +kernel
theorem dX12_around_17 : decode cX12_around 17 = .ok (.aload_n 0, 1) := by decide +kernel
theorem dX12_around_18 : decode cX12_around 18 = .ok (.getfield 56, 3) := by decide +kernel
theorem dX12_around_21 : decode cX12_around 21 = .ok (.ifCond .le 5, 3) := by decide +kernel
theorem dX12_around_24 : decode cX12_around 24 = .ok (.iconst 0, 1) := by decide +kernel
theorem dX12_around_25 : decode cX12_around 25 = .ok (.ireturn, 1) := by decide +kernel
theorem dX12_around_26 : decode cX12_around 26 = .ok (.aload_n 0, 1) := by decide +kernel
theorem dX12_around_27 : decode cX12_around 27 = .ok (.getfield 17, 3) := by decide +kernel
theorem dX12_around_30 : decode cX12_around 30 = .ok (.iload_n 1, 1) := by decide +kernel
theorem dX12_around_31 : decode cX12_around 31 = .ok (.iaload, 1) := by decide +kernel
theorem dX12_around_32 : decode cX12_around 32 = .ok (.invokestatic 84, 3) := by decide +kernel
theorem dX12_around_35 : decode cX12_around 35 = .ok (.istore_n 2, 1) := by decide +kernel
theorem dX12_around_36 : decode cX12_around 36 = .ok (.aload_n 0, 1) := by decide +kernel
theorem dX12_around_37 : decode cX12_around 37 = .ok (.iload_n 2, 1) := by decide +kernel
theorem dX12_around_38 : decode cX12_around 38 = .ok (.aload_n 0, 1) := by decide +kernel
theorem dX12_around_39 : decode cX12_around 39 = .ok (.getfield 7, 3) := by decide +kernel
theorem dX12_around_42 : decode cX12_around 42 = .ok (.iconst 2, 1) := by decide +kernel
theorem dX12_around_43 : decode cX12_around 43 = .ok (.if_icmp .ne 7, 3) := by decide +kernel
theorem dX12_around_46 : decode cX12_around 46 = .ok (.iconst 3, 1) := by decide +kernel
theorem dX12_around_47 : decode cX12_around 47 = .ok (.goto 4, 3) := by decide +kernel
theorem dX12_around_50 : decode cX12_around 50 = .ok (.iconst 2, 1) := by decide +kernel
theorem dX12_around_51 : decode cX12_around 51 = .ok (.if_icmp .le 7, 3) := by decide +kernel
theorem dX12_around_54 : decode cX12_around 54 = .ok (.iconst 2, 1) := by decide +kernel
theorem dX12_around_55 : decode cX12_around 55 = .ok (.goto 4, 3) := by decide +kernel
theorem dX12_around_58 : decode cX12_around 58 = .ok (.iconst 0, 1) := by decide +kernel
theorem dX12_around_59 : decode cX12_around 59 = .ok (.putfield 56, 3) := by decide +kernel
theorem dX12_around_62 : decode cX12_around 62 = .ok (.aload_n 0, 1) := by decide +kernel
theorem dX12_around_63 : decode cX12_around 63 = .ok (.getfield 56, 3) := by decide +kernel
theorem dX12_around_66 : decode cX12_around 66 = .ok (.ifCond .gt 7, 3) := by decide +kernel
theorem dX12_around_69 : decode cX12_around 69 = .ok (.iload_n 2, 1) := by decide +kernel
theorem dX12_around_70 : decode cX12_around 70 = .ok (.ifCond .ne 5, 3) := by decide +kernel
theorem dX12_around_73 : decode cX12_around 73 = .ok (.iconst 0, 1) := by decide +kernel
theorem dX12_around_74 : decode cX12_around 74 = .ok (.ireturn, 1) := by decide +kernel
theorem dX12_around_75 : decode cX12_around 75 = .ok (.aload_n 0, 1) := by decide +kernel
theorem dX12_around_76 : decode cX12_around 76 = .ok (.getfield 7, 3) := by decide +kernel
theorem dX12_around_79 : decode cX12_around 79 = .ok (.iconst 2, 1) := by decide +kernel
theorem dX12_around_80 : decode cX12_around 80 = .ok (.if_icmp .ne 13, 3) := by decide +kernel
theorem dX12_around_83 : decode cX12_around 83 = .ok (.iconst 1, 1) := by decide +kernel
theorem dX12_around_84 : decode cX12_around 84 = .ok (.aload_n 0, 1) := by decide +kernel
theorem dX12_around_85 : decode cX12_around 85 = .ok (.iload_n 2, 1) := by decide +kernel
theorem dX12_around_86 : decode cX12_around 86 = .ok (.invokevirtual 59, 3) := by decide +kernel
theorem dX12_around_89 : decode cX12_around 89 = .ok (.ishl, 1) := by decide +kernel
theorem dX12_around_90 : decode cX12_around 90 = .ok (.goto 16, 3) := by decide +kernel
theorem dX12_around_93 : decode cX12_around 93 = .ok (.iload_n 2, 1) := by decide +kernel
theorem dX12_around_94 : decode cX12_around 94 = .ok (.iconst 1, 1) := by decide +kernel
theorem dX12_around_95 : decode cX12_around 95 = .ok (.if_icmp .ne 8, 3) := by decide +kernel
theorem dX12_around_98 : decode cX12_around 98 = .ok (.bipush 27, 2) := by decide +kernel
theorem dX12_around_100 : decode cX12_around 100 = .ok (.goto 6, 3) := by decide +kernel
theorem dX12_around_103 : decode cX12_around 103 = .ok (.sipush 19683, 3) := by decide +kernel
theorem dX12_around_106 : decode cX12_around 106 = .ok (.istore_n 3, 1) := by decide +kernel
theorem dX12_around_107 : decode cX12_around 107 = .ok (.iconst 0, 1) := by decide +kernel
theorem dX12_around_108 : decode cX12_around 108 = .ok (.istore 4, 2) := by decide +kernel
theorem dX12_around_110 : decode cX12_around 110 = .ok (.iconst 0, 1) := by decide +kernel
theorem dX12_around_111 : decode cX12_around 111 = .ok (.istore 5, 2) := by decide +kernel
theorem dX12_around_113 : decode cX12_around 113 = .ok (.iload 5, 2) := by decide +kernel
theorem dX12_around_115 : decode cX12_around 115 = .ok (.iload_n 3, 1) := by decide +kernel
theorem dX12_around_116 : decode cX12_around 116 = .ok (.if_icmp .ge 137, 3) := by decide +kernel
theorem dX12_around_119 : decode cX12_around 119 = .ok (.aload_n 0, 1) := by decide +kernel
theorem dX12_around_120 : decode cX12_around 120 = .ok (.iload 5, 2) := by decide +kernel
theorem dX12_around_122 : decode cX12_around 122 = .ok (.iload_n 2, 1) := by decide +kernel
theorem dX12_around_123 : decode cX12_around 123 = .ok (.invokevirtual 150, 3) := by decide +kernel
theorem dX12_around_126 : decode cX12_around 126 = .ok (.iconst 1, 1) := by decide +kernel
theorem dX12_around_127 : decode cX12_around 127 = .ok (.istore 6, 2) := by decide +kernel
theorem dX12_around_129 : decode cX12_around 129 = .ok (.iconst 0, 1) := by decide +kernel
theorem dX12_around_130 : decode cX12_around 130 = .ok (.istore 7, 2) := by decide +kernel
theorem dX12_around_132 : decode cX12_around 132 = .ok (.iload 7, 2) := by decide +kernel
theorem dX12_around_134 : decode cX12_around 134 = .ok (.aload_n 0, 1) := by decide +kernel
theorem dX12_around_135 : decode cX12_around 135 = .ok (.getfield 67, 3) := by decide +kernel
theorem dX12_around_138 : decode cX12_around 138 = .ok (.if_icmp .ge 39, 3) := by decide +kernel
theorem dX12_around_141 : decode cX12_around 141 = .ok (.iload 6, 2) := by decide +kernel
theorem dX12_around_143 : decode cX12_around 143 = .ok (.ifCond .eq 34, 3) := by decide +kernel
theorem dX12_around_146 : decode cX12_around 146 = .ok (.iload 7, 2) := by decide +kernel
theorem dX12_around_148 : decode cX12_around 148 = .ok (.iload_n 1, 1) := by decide +kernel
theorem dX12_around_149 : decode cX12_around 149 = .ok (.if_icmp .eq 15, 3) := by decide +kernel
theorem dX12_around_152 : decode cX12_around 152 = .ok (.aload_n 0, 1) := by decide +kernel
theorem dX12_around_153 : decode cX12_around 153 = .ok (.bipush 6, 2) := by decide +kernel
theorem dX12_around_155 : decode cX12_around 155 = .ok (.iload_n 2, 1) := by decide +kernel
theorem dX12_around_156 : decode cX12_around 156 = .ok (.iload 7, 2) := by decide +kernel
theorem dX12_around_158 : decode cX12_around 158 = .ok (.invokevirtual 120, 3) := by decide +kernel
theorem dX12_around_161 : decode cX12_around 161 = .ok (.ifCond .eq 7, 3) := by decide +kernel
theorem dX12_around_164 : decode cX12_around 164 = .ok (.iconst 1, 1) := by decide +kernel
theorem dX12_around_165 : decode cX12_around 165 = .ok (.goto 4, 3) := by decide +kernel
theorem dX12_around_168 : decode cX12_around 168 = .ok (.iconst 0, 1) := by decide +kernel
theorem dX12_around_169 : decode cX12_around 169 = .ok (.istore 6, 2) := by decide +kernel
theorem dX12_around_171 : decode cX12_around 171 = .ok (.iinc 7 1, 3) := by decide +kernel
theorem dX12_around_174 : decode cX12_around 174 = .ok (.goto (-42), 3) := by decide +kernel
theorem dX12_around_177 : decode cX12_around 177 = .ok (.iload 6, 2) := by decide +kernel
theorem dX12_around_179 : decode cX12_around 179 = .ok (.ifCond .eq 68, 3) := by decide +kernel
theorem dX12_around_182 : decode cX12_around 182 = .ok (.iconst 0, 1) := by decide +kernel
theorem dX12_around_183 : decode cX12_around 183 = .ok (.istore 7, 2) := by decide +kernel
theorem dX12_around_185 : decode cX12_around 185 = .ok (.iconst 0, 1) := by decide +kernel
theorem dX12_around_186 : decode cX12_around 186 = .ok (.istore 8, 2) := by decide +kernel
theorem dX12_around_188 : decode cX12_around 188 = .ok (.iload 8, 2) := by decide +kernel
theorem dX12_around_190 : decode cX12_around 190 = .ok (.bipush 9, 2) := by decide +kernel
theorem dX12_around_192 : decode cX12_around 192 = .ok (.if_icmp .ge 35, 3) := by decide +kernel
theorem dX12_around_195 : decode cX12_around 195 = .ok (.aload_n 0, 1) := by decide +kernel
theorem dX12_around_196 : decode cX12_around 196 = .ok (.getfield 17, 3) := by decide +kernel
theorem dX12_around_199 : decode cX12_around 199 = .ok (.iload_n 1, 1) := by decide +kernel
theorem dX12_around_200 : decode cX12_around 200 = .ok (.iaload, 1) := by decide +kernel
theorem dX12_around_201 : decode cX12_around 201 = .ok (.iload 8, 2) := by decide +kernel
theorem dX12_around_203 : decode cX12_around 203 = .ok (.invokestatic 80, 3) := by decide +kernel
theorem dX12_around_206 : decode cX12_around 206 = .ok (.ifCond .eq 15, 3) := by decide +kernel
theorem dX12_around_209 : decode cX12_around 209 = .ok (.aload_n 0, 1) := by decide +kernel
theorem dX12_around_210 : decode cX12_around 210 = .ok (.getfield 47, 3) := by decide +kernel
theorem dX12_around_213 : decode cX12_around 213 = .ok (.iload 7, 2) := by decide +kernel
theorem dX12_around_215 : decode cX12_around 215 = .ok (.iload 8, 2) := by decide +kernel
theorem dX12_around_217 : decode cX12_around 217 = .ok (.iastore, 1) := by decide +kernel
theorem dX12_around_218 : decode cX12_around 218 = .ok (.iinc 7 1, 3) := by decide +kernel
theorem dX12_around_221 : decode cX12_around 221 = .ok (.iinc 8 1, 3) := by decide +kernel
theorem dX12_around_224 : decode cX12_around 224 = .ok (.goto (-36), 3) := by decide +kernel
theorem dX12_around_227 : decode cX12_around 227 = .ok (.iload 4, 2) := by decide +kernel
theorem dX12_around_229 : decode cX12_around 229 = .ok (.iconst 1, 1) := by decide +kernel
theorem dX12_around_230 : decode cX12_around 230 = .ok (.aload_n 0, 1) := by decide +kernel
theorem dX12_around_231 : decode cX12_around 231 = .ok (.bipush 6, 2) := by decide +kernel
theorem dX12_around_233 : decode cX12_around 233 = .ok (.iload_n 2, 1) := by decide +kernel
theorem dX12_around_234 : decode cX12_around 234 = .ok (.aload_n 0, 1) := by decide +kernel
theorem dX12_around_235 : decode cX12_around 235 = .ok (.getfield 13, 3) := by decide +kernel
theorem dX12_around_238 : decode cX12_around 238 = .ok (.iload_n 1, 1) := by decide +kernel
theorem dX12_around_239 : decode cX12_around 239 = .ok (.iaload, 1) := by decide +kernel
theorem dX12_around_240 : decode cX12_around 240 = .ok (.invokevirtual 113, 3) := by decide +kernel
theorem dX12_around_243 : decode cX12_around 243 = .ok (.ishl, 1) := by decide +kernel
theorem dX12_around_244 : decode cX12_around 244 = .ok (.ior, 1) := by decide +kernel
theorem dX12_around_245 : decode cX12_around 245 = .ok (.istore 4, 2) := by decide +kernel
theorem dX12_around_247 : decode cX12_around 247 = .ok (.iinc 5 1, 3) := by decide +kernel
theorem dX12_around_250 : decode cX12_around 250 = .ok (.goto (-137), 3) := by decide +kernel
theorem dX12_around_253 : decode cX12_around 253 = .ok (.iload 4, 2) := by decide +kernel
theorem dX12_around_255 : decode cX12_around 255 = .ok (.ireturn, 1) := by decide +kernel
theorem dX12_isSign_0 : decode cX12_isSign 0 = .ok (.iload_n 0, 1) := by decide +kernel
theorem dX12_isSign_1 : decode cX12_isSign 1 = .ok (.bipush 97, 2) := by decide +kernel
theorem dX12_isSign_3 : decode cX12_isSign 3 = .ok (.bipush 102, 2) := by decide +kernel
theorem dX12_isSign_5 : decode cX12_isSign 5 = .ok (.invokestatic 63, 3) := by decide +kernel
theorem dX12_isSign_8 : decode cX12_isSign 8 = .ok (.ifCond .ne 50, 3) := by decide +kernel
theorem dX12_isSign_11 : decode cX12_isSign 11 = .ok (.iload_n 0, 1) := by decide +kernel
theorem dX12_isSign_12 : decode cX12_isSign 12 = .ok (.bipush 48, 2) := by decide +kernel
theorem dX12_isSign_14 : decode cX12_isSign 14 = .ok (.bipush 55, 2) := by decide +kernel
theorem dX12_isSign_16 : decode cX12_isSign 16 = .ok (.invokestatic 63, 3) := by decide +kernel
theorem dX12_isSign_19 : decode cX12_isSign 19 = .ok (.ifCond .ne 39, 3) := by decide +kernel
theorem dX12_isSign_22 : decode cX12_isSign 22 = .ok (.iload_n 0, 1) := by decide +kernel
theorem dX12_isSign_23 : decode cX12_isSign 23 = .ok (.bipush 40, 2) := by decide +kernel
theorem dX12_isSign_25 : decode cX12_isSign 25 = .ok (.if_icmp .eq 33, 3) := by decide +kernel
theorem dX12_isSign_28 : decode cX12_isSign 28 = .ok (.iload_n 0, 1) := by decide +kernel
theorem dX12_isSign_29 : decode cX12_isSign 29 = .ok (.bipush 41, 2) := by decide +kernel
theorem dX12_isSign_31 : decode cX12_isSign 31 = .ok (.if_icmp .eq 27, 3) := by decide +kernel
theorem dX12_isSign_34 : decode cX12_isSign 34 = .ok (.iload_n 0, 1) := by decide +kernel
theorem dX12_isSign_35 : decode cX12_isSign 35 = .ok (.bipush 44, 2) := by decide +kernel
theorem dX12_isSign_37 : decode cX12_isSign 37 = .ok (.if_icmp .eq 21, 3) := by decide +kernel
theorem dX12_isSign_40 : decode cX12_isSign 40 = .ok (.iload_n 0, 1) := by decide +kernel
theorem dX12_isSign_41 : decode cX12_isSign 41 = .ok (.bipush 61, 2) := by decide +kernel
theorem dX12_isSign_43 : decode cX12_isSign 43 = .ok (.if_icmp .eq 15, 3) := by decide +kernel
theorem dX12_isSign_46 : decode cX12_isSign 46 = .ok (.iload_n 0, 1) := by decide +kernel
theorem dX12_isSign_47 : decode cX12_isSign 47 = .ok (.bipush 38, 2) := by decide +kernel
theorem dX12_isSign_49 : decode cX12_isSign 49 = .ok (.if_icmp .eq 9, 3) := by decide +kernel
theorem dX12_isSign_52 : decode cX12_isSign 52 = .ok (.iload_n 0, 1) := by decide +kernel
theorem dX12_isSign_53 : decode cX12_isSign 53 = .ok (.bipush 58, 2) := by decide +kernel
theorem dX12_isSign_55 : decode cX12_isSign 55 = .ok (.if_icmp .ne 7, 3) := by decide +kernel
theorem dX12_isSign_58 : decode cX12_isSign 58 = .ok (.iconst 1, 1) := by decide +kernel
theorem dX12_isSign_59 : decode cX12_isSign 59 = .ok (.goto 4, 3) := by decide +kernel
theorem dX12_isSign_62 : decode cX12_isSign 62 = .ok (.iconst 0, 1) := by decide +kernel
theorem dX12_isSign_63 : decode cX12_isSign 63 = .ok (.ireturn, 1) := by decide +kernel
theorem dX12_type_0 : decode cX12_type 0 = .ok (.aload_n 0, 1) := by decide +kernel
theorem dX12_type_1 : decode cX12_type 1 = .ok (.iload_n 3, 1) := by decide +kernel
theorem dX12_type_2 : decode cX12_type 2 = .ok (.iconst 1, 1) := by decide +kernel
theorem dX12_type_3 : decode cX12_type 3 = .ok (.bipush 8, 2) := by decide +kernel
theorem dX12_type_5 : decode cX12_type 5 = .ok (.invokestatic 63, 3) := by decide +kernel
theorem dX12_type_8 : decode cX12_type 8 = .ok (.ifCond .eq 7, 3) := by decide +kernel
theorem dX12_type_11 : decode cX12_type 11 = .ok (.iconst 0, 1) := by decide +kernel
theorem dX12_type_12 : decode cX12_type 12 = .ok (.goto 4, 3) := by decide +kernel
theorem dX12_type_15 : decode cX12_type 15 = .ok (.iconst 1, 1) := by decide +kernel
theorem dX12_type_16 : decode cX12_type 16 = .ok (.putfield 56, 3) := by decide +kernel
theorem dX12_type_19 : decode cX12_type 19 = .ok (.iconst 0, 1) := by decide +kernel
theorem dX12_type_20 : decode cX12_type 20 = .ok (.istore 4, 2) := by decide +kernel
theorem dX12_type_22 : decode cX12_type 22 = .ok (.iload 4, 2) := by decide +kernel
theorem dX12_type_24 : decode cX12_type 24 = .ok (.iload_n 3, 1) := by decide +kernel
theorem dX12_type_25 : decode cX12_type 25 = .ok (.if_icmp .ge 43, 3) := by decide +kernel
theorem dX12_type_28 : decode cX12_type 28 = .ok (.aload_n 0, 1) := by decide +kernel
theorem dX12_type_29 : decode cX12_type 29 = .ok (.getfield 56, 3) := by decide +kernel
theorem dX12_type_32 : decode cX12_type 32 = .ok (.ifCond .ne 36, 3) := by decide +kernel
theorem dX12_type_35 : decode cX12_type 35 = .ok (.aload_n 0, 1) := by decide +kernel
theorem dX12_type_36 : decode cX12_type 36 = .ok (.lload_n 1, 1) := by decide +kernel
theorem dX12_type_37 : decode cX12_type 37 = .ok (.bipush 8, 2) := by decide +kernel
theorem dX12_type_39 : decode cX12_type 39 = .ok (.iload 4, 2) := by decide +kernel
theorem dX12_type_41 : decode cX12_type 41 = .ok (.imul, 1) := by decide +kernel
theorem dX12_type_42 : decode cX12_type 42 = .ok (.lshr, 1) := by decide +kernel
theorem dX12_type_43 : decode cX12_type 43 = .ok (.ldc2_w 176, 3) := by decide +kernel
theorem dX12_type_46 : decode cX12_type 46 = .ok (.land, 1) := by decide +kernel
theorem dX12_type_47 : decode cX12_type 47 = .ok (.l2i, 1) := by decide +kernel
theorem dX12_type_48 : decode cX12_type 48 = .ok (.invokestatic 178, 3) := by decide +kernel
theorem dX12_type_51 : decode cX12_type 51 = .ok (.ifCond .eq 7, 3) := by decide +kernel
theorem dX12_type_54 : decode cX12_type 54 = .ok (.iconst 0, 1) := by decide +kernel
theorem dX12_type_55 : decode cX12_type 55 = .ok (.goto 4, 3) := by decide +kernel
theorem dX12_type_58 : decode cX12_type 58 = .ok (.iconst 1, 1) := by decide +kernel
theorem dX12_type_59 : decode cX12_type 59 = .ok (.putfield 56, 3) := by decide +kernel
theorem dX12_type_62 : decode cX12_type 62 = .ok (.iinc 4 1, 3) := by decide +kernel
theorem dX12_type_65 : decode cX12_type 65 = .ok (.goto (-43), 3) := by decide +kernel
theorem dX12_type_68 : decode cX12_type 68 = .ok (.aload_n 0, 1) := by decide +kernel
theorem dX12_type_69 : decode cX12_type 69 = .ok (.aload_n 0, 1) := by decide +kernel
theorem dX12_type_70 : decode cX12_type 70 = .ok (.getfield 56, 3) := by decide +kernel
theorem dX12_type_73 : decode cX12_type 73 = .ok (.ifCond .le 10, 3) := by decide +kernel
theorem dX12_type_76 : decode cX12_type 76 = .ok (.aload_n 0, 1) := by decide +kernel
theorem dX12_type_77 : decode cX12_type 77 = .ok (.getfield 56, 3) := by decide +kernel
theorem dX12_type_80 : decode cX12_type 80 = .ok (.goto 19, 3) := by decide +kernel
theorem dX12_type_83 : decode cX12_type 83 = .ok (.aload_n 0, 1) := by decide +kernel
theorem dX12_type_84 : decode cX12_type 84 = .ok (.getfield 181, 3) := by decide +kernel
theorem dX12_type_87 : decode cX12_type 87 = .ok (.iload_n 3, 1) := by decide +kernel
theorem dX12_type_88 : decode cX12_type 88 = .ok (.iadd, 1) := by decide +kernel
theorem dX12_type_89 : decode cX12_type 89 = .ok (.bipush 60, 2) := by decide +kernel
theorem dX12_type_91 : decode cX12_type 91 = .ok (.if_icmp .le 7, 3) := by decide +kernel
theorem dX12_type_94 : decode cX12_type 94 = .ok (.iconst 2, 1) := by decide +kernel
theorem dX12_type_95 : decode cX12_type 95 = .ok (.goto 4, 3) := by decide +kernel
theorem dX12_type_98 : decode cX12_type 98 = .ok (.iconst 0, 1) := by decide +kernel
theorem dX12_type_99 : decode cX12_type 99 = .ok (.putfield 56, 3) := by decide +kernel
theorem dX12_type_102 : decode cX12_type 102 = .ok (.aload_n 0, 1) := by decide +kernel
theorem dX12_type_103 : decode cX12_type 103 = .ok (.getfield 56, 3) := by decide +kernel
theorem dX12_type_106 : decode cX12_type 106 = .ok (.ifCond .le 5, 3) := by decide +kernel
theorem dX12_type_109 : decode cX12_type 109 = .ok (.iconst 0, 1) := by decide +kernel
theorem dX12_type_110 : decode cX12_type 110 = .ok (.ireturn, 1) := by decide +kernel
theorem dX12_type_111 : decode cX12_type 111 = .ok (.iconst 0, 1) := by decide +kernel
theorem dX12_type_112 : decode cX12_type 112 = .ok (.istore 4, 2) := by decide +kernel
theorem dX12_type_114 : decode cX12_type 114 = .ok (.iload 4, 2) := by decide +kernel
theorem dX12_type_116 : decode cX12_type 116 = .ok (.iload_n 3, 1) := by decide +kernel
theorem dX12_type_117 : decode cX12_type 117 = .ok (.if_icmp .ge 40, 3) := by decide +kernel
theorem dX12_type_120 : decode cX12_type 120 = .ok (.aload_n 0, 1) := by decide +kernel
theorem dX12_type_121 : decode cX12_type 121 = .ok (.getfield 26, 3) := by decide +kernel
theorem dX12_type_124 : decode cX12_type 124 = .ok (.aload_n 0, 1) := by decide +kernel
theorem dX12_type_125 : decode cX12_type 125 = .ok (.getfield 181, 3) := by decide +kernel
theorem dX12_type_128 : decode cX12_type 128 = .ok (.lload_n 1, 1) := by decide +kernel
theorem dX12_type_129 : decode cX12_type 129 = .ok (.bipush 8, 2) := by decide +kernel
theorem dX12_type_131 : decode cX12_type 131 = .ok (.iload 4, 2) := by decide +kernel
theorem dX12_type_133 : decode cX12_type 133 = .ok (.imul, 1) := by decide +kernel
theorem dX12_type_134 : decode cX12_type 134 = .ok (.lshr, 1) := by decide +kernel
theorem dX12_type_135 : decode cX12_type 135 = .ok (.ldc2_w 176, 3) := by decide +kernel
theorem dX12_type_138 : decode cX12_type 138 = .ok (.land, 1) := by decide +kernel
theorem dX12_type_139 : decode cX12_type 139 = .ok (.l2i, 1) := by decide +kernel
theorem dX12_type_140 : decode cX12_type 140 = .ok (.iastore, 1) := by decide +kernel
theorem dX12_type_141 : decode cX12_type 141 = .ok (.aload_n 0, 1) := by decide +kernel
theorem dX12_type_142 : decode cX12_type 142 = .ok (.dup, 1) := by decide +kernel
theorem dX12_type_143 : decode cX12_type 143 = .ok (.getfield 181, 3) := by decide +kernel
theorem dX12_type_146 : decode cX12_type 146 = .ok (.iconst 1, 1) := by decide +kernel
theorem dX12_type_147 : decode cX12_type 147 = .ok (.iadd, 1) := by decide +kernel
theorem dX12_type_148 : decode cX12_type 148 = .ok (.putfield 181, 3) := by decide +kernel
theorem dX12_type_151 : decode cX12_type 151 = .ok (.iinc 4 1, 3) := by decide +kernel
theorem dX12_type_154 : decode cX12_type 154 = .ok (.goto (-40), 3) := by decide +kernel
theorem dX12_type_157 : decode cX12_type 157 = .ok (.aload_n 0, 1) := by decide +kernel
theorem dX12_type_158 : decode cX12_type 158 = .ok (.getfield 181, 3) := by decide +kernel
theorem dX12_type_161 : decode cX12_type 161 = .ok (.ireturn, 1) := by decide +kernel
theorem dX12_wipe_0 : decode cX12_wipe 0 = .ok (.aload_n 0, 1) := by decide +kernel
theorem dX12_wipe_1 : decode cX12_wipe 1 = .ok (.iconst 0, 1) := by decide +kernel
theorem dX12_wipe_2 : decode cX12_wipe 2 = .ok (.putfield 56, 3) := by decide +kernel
theorem dX12_wipe_5 : decode cX12_wipe 5 = .ok (.aload_n 0, 1) := by decide +kernel
theorem dX12_wipe_6 : decode cX12_wipe 6 = .ok (.getfield 181, 3) := by decide +kernel
theorem dX12_wipe_9 : decode cX12_wipe 9 = .ok (.istore_n 1, 1) := by decide +kernel
theorem dX12_wipe_10 : decode cX12_wipe 10 = .ok (.aload_n 0, 1) := by decide +kernel
theorem dX12_wipe_11 : decode cX12_wipe 11 = .ok (.iconst 0, 1) := by decide +kernel
theorem dX12_wipe_12 : decode cX12_wipe 12 = .ok (.putfield 181, 3) := by decide +kernel
theorem dX12_wipe_15 : decode cX12_wipe 15 = .ok (.iload_n 1, 1) := by decide +kernel
theorem dX12_wipe_16 : decode cX12_wipe 16 = .ok (.ireturn, 1) := by decide +kernel
theorem dX12_signAt_0 : decode cX12_signAt 0 = .ok (.iload_n 1, 1) := by decide +kernel
theorem dX12_signAt_1 : decode cX12_signAt 1 = .ok (.aload_n 0, 1) := by decide +kernel
theorem dX12_signAt_2 : decode cX12_signAt 2 = .ok (.getfield 181, 3) := by decide +kernel
theorem dX12_signAt_5 : decode cX12_signAt 5 = .ok (.if_icmp .ge 12, 3) := by decide +kernel
theorem dX12_signAt_8 : decode cX12_signAt 8 = .ok (.aload_n 0, 1) := by decide +kernel
theorem dX12_signAt_9 : decode cX12_signAt 9 = .ok (.getfield 26, 3) := by decide +kernel
theorem dX12_signAt_12 : decode cX12_signAt 12 = .ok (.iload_n 1, 1) := by decide +kernel
theorem dX12_signAt_13 : decode cX12_signAt 13 = .ok (.iaload, 1) := by decide +kernel
theorem dX12_signAt_14 : decode cX12_signAt 14 = .ok (.goto 4, 3) := by decide +kernel
theorem dX12_signAt_17 : decode cX12_signAt 17 = .ok (.iconst 0, 1) := by decide +kernel
theorem dX12_signAt_18 : decode cX12_signAt 18 = .ok (.ireturn, 1) := by decide +kernel
theorem dX12_isVariable_0 : decode cX12_isVariable 0 = .ok (.aload_n 0, 1) := by decide +kernel
theorem dX12_isVariable_1 : decode cX12_isVariable 1 = .ok (.iload_n 1, 1) := by decide +kernel
theorem dX12_isVariable_2 : decode cX12_isVariable 2 = .ok (.invokevirtual 184, 3) := by decide +kernel
theorem dX12_isVariable_5 : decode cX12_isVariable 5 = .ok (.bipush 97, 2) := by decide +kernel
theorem dX12_isVariable_7 : decode cX12_isVariable 7 = .ok (.bipush 102, 2) := by decide +kernel
theorem dX12_isVariable_9 : decode cX12_isVariable 9 = .ok (.invokestatic 63, 3) := by decide +kernel
theorem dX12_isVariable_12 : decode cX12_isVariable 12 = .ok (.ireturn, 1) := by decide +kernel
theorem dX12_readsHead_0 : decode cX12_readsHead 0 = .ok (.aload_n 0, 1) := by decide +kernel
theorem dX12_readsHead_1 : decode cX12_readsHead 1 = .ok (.iconst 0, 1) := by decide +kernel
theorem dX12_readsHead_2 : decode cX12_readsHead 2 = .ok (.putfield 187, 3) := by decide +kernel
theorem dX12_readsHead_5 : decode cX12_readsHead 5 = .ok (.iconst 0, 1) := by decide +kernel
theorem dX12_readsHead_6 : decode cX12_readsHead 6 = .ok (.istore_n 1, 1) := by decide +kernel
theorem dX12_readsHead_7 : decode cX12_readsHead 7 = .ok (.aload_n 0, 1) := by decide +kernel
theorem dX12_readsHead_8 : decode cX12_readsHead 8 = .ok (.iload_n 1, 1) := by decide +kernel
theorem dX12_readsHead_9 : decode cX12_readsHead 9 = .ok (.invokevirtual 190, 3) := by decide +kernel
theorem dX12_readsHead_12 : decode cX12_readsHead 12 = .ok (.ifCond .eq 110, 3) := by decide +kernel
theorem dX12_readsHead_15 : decode cX12_readsHead 15 = .ok (.iconst 0, 1) := by decide +kernel
theorem dX12_readsHead_16 : decode cX12_readsHead 16 = .ok (.istore_n 2, 1) := by decide +kernel
theorem dX12_readsHead_17 : decode cX12_readsHead 17 = .ok (.iconst 0, 1) := by decide +kernel
theorem dX12_readsHead_18 : decode cX12_readsHead 18 = .ok (.istore_n 3, 1) := by decide +kernel
theorem dX12_readsHead_19 : decode cX12_readsHead 19 = .ok (.iload_n 3, 1) := by decide +kernel
theorem dX12_readsHead_20 : decode cX12_readsHead 20 = .ok (.aload_n 0, 1) := by decide +kernel
theorem dX12_readsHead_21 : decode cX12_readsHead 21 = .ok (.getfield 187, 3) := by decide +kernel
theorem dX12_readsHead_24 : decode cX12_readsHead 24 = .ok (.if_icmp .ge 36, 3) := by decide +kernel
theorem dX12_readsHead_27 : decode cX12_readsHead 27 = .ok (.iload_n 2, 1) := by decide +kernel
theorem dX12_readsHead_28 : decode cX12_readsHead 28 = .ok (.ifCond .ne 20, 3) := by decide +kernel
theorem dX12_readsHead_31 : decode cX12_readsHead 31 = .ok (.aload_n 0, 1) := by decide +kernel
theorem dX12_readsHead_32 : decode cX12_readsHead 32 = .ok (.getfield 29, 3) := by decide +kernel
theorem dX12_readsHead_35 : decode cX12_readsHead 35 = .ok (.iload_n 3, 1) := by decide +kernel
theorem dX12_readsHead_36 : decode cX12_readsHead 36 = .ok (.iaload, 1) := by decide +kernel
theorem dX12_readsHead_37 : decode cX12_readsHead 37 = .ok (.aload_n 0, 1) := by decide +kernel
theorem dX12_readsHead_38 : decode cX12_readsHead 38 = .ok (.iload_n 1, 1) := by decide +kernel
theorem dX12_readsHead_39 : decode cX12_readsHead 39 = .ok (.invokevirtual 184, 3) := by decide +kernel
theorem dX12_readsHead_42 : decode cX12_readsHead 42 = .ok (.bipush 97, 2) := by decide +kernel
theorem dX12_readsHead_44 : decode cX12_readsHead 44 = .ok (.isub, 1) := by decide +kernel
theorem dX12_readsHead_45 : decode cX12_readsHead 45 = .ok (.if_icmp .ne 7, 3) := by decide +kernel
theorem dX12_readsHead_48 : decode cX12_readsHead 48 = .ok (.iconst 1, 1) := by decide +kernel
theorem dX12_readsHead_49 : decode cX12_readsHead 49 = .ok (.goto 4, 3) := by decide +kernel
theorem dX12_readsHead_52 : decode cX12_readsHead 52 = .ok (.iconst 0, 1) := by decide +kernel
theorem dX12_readsHead_53 : decode cX12_readsHead 53 = .ok (.istore_n 2, 1) := by decide +kernel
theorem dX12_readsHead_54 : decode cX12_readsHead 54 = .ok (.iinc 3 1, 3) := by decide +kernel
theorem dX12_readsHead_57 : decode cX12_readsHead 57 = .ok (.goto (-38), 3) := by decide +kernel
theorem dX12_readsHead_60 : decode cX12_readsHead 60 = .ok (.iload_n 2, 1) := by decide +kernel
theorem dX12_readsHead_61 : decode cX12_readsHead 61 = .ok (.ifCond .ne 23, 3) := by decide +kernel
theorem dX12_readsHead_64 : decode cX12_readsHead 64 = .ok (.aload_n 0, 1) := by decide +kernel
theorem dX12_readsHead_65 : decode cX12_readsHead 65 = .ok (.getfield 187, 3) := by decide +kernel
theorem dX12_readsHead_68 : decode cX12_readsHead 68 = .ok (.aload_n 0, 1) := by decide +kernel
theorem dX12_readsHead_69 : decode cX12_readsHead 69 = .ok (.getfield 7, 3) := by decide +kernel
theorem dX12_readsHead_72 : decode cX12_readsHead 72 = .ok (.iconst 2, 1) := by decide +kernel
theorem dX12_readsHead_73 : decode cX12_readsHead 73 = .ok (.if_icmp .ne 7, 3) := by decide +kernel
theorem dX12_readsHead_76 : decode cX12_readsHead 76 = .ok (.iconst 3, 1) := by decide +kernel
theorem dX12_readsHead_77 : decode cX12_readsHead 77 = .ok (.goto 4, 3) := by decide +kernel
theorem dX12_readsHead_80 : decode cX12_readsHead 80 = .ok (.iconst 2, 1) := by decide +kernel
theorem dX12_readsHead_81 : decode cX12_readsHead 81 = .ok (.if_icmp .ne 8, 3) := by decide +kernel
theorem dX12_readsHead_84 : decode cX12_readsHead 84 = .ok (.bipush 100, 2) := by decide +kernel
theorem dX12_readsHead_86 : decode cX12_readsHead 86 = .ok (.iload_n 1, 1) := by decide +kernel
theorem dX12_readsHead_87 : decode cX12_readsHead 87 = .ok (.iadd, 1) := by decide +kernel
theorem dX12_readsHead_88 : decode cX12_readsHead 88 = .ok (.ireturn, 1) := by decide +kernel
theorem dX12_readsHead_89 : decode cX12_readsHead 89 = .ok (.aload_n 0, 1) := by decide +kernel
theorem dX12_readsHead_90 : decode cX12_readsHead 90 = .ok (.getfield 29, 3) := by decide +kernel
theorem dX12_readsHead_93 : decode cX12_readsHead 93 = .ok (.aload_n 0, 1) := by decide +kernel
theorem dX12_readsHead_94 : decode cX12_readsHead 94 = .ok (.getfield 187, 3) := by decide +kernel
theorem dX12_readsHead_97 : decode cX12_readsHead 97 = .ok (.aload_n 0, 1) := by decide +kernel
theorem dX12_readsHead_98 : decode cX12_readsHead 98 = .ok (.iload_n 1, 1) := by decide +kernel
theorem dX12_readsHead_99 : decode cX12_readsHead 99 = .ok (.invokevirtual 184, 3) := by decide +kernel
theorem dX12_readsHead_102 : decode cX12_readsHead 102 = .ok (.bipush 97, 2) := by decide +kernel
theorem dX12_readsHead_104 : decode cX12_readsHead 104 = .ok (.isub, 1) := by decide +kernel
theorem dX12_readsHead_105 : decode cX12_readsHead 105 = .ok (.iastore, 1) := by decide +kernel
theorem dX12_readsHead_106 : decode cX12_readsHead 106 = .ok (.aload_n 0, 1) := by decide +kernel
theorem dX12_readsHead_107 : decode cX12_readsHead 107 = .ok (.dup, 1) := by decide +kernel
theorem dX12_readsHead_108 : decode cX12_readsHead 108 = .ok (.getfield 187, 3) := by decide +kernel
theorem dX12_readsHead_111 : decode cX12_readsHead 111 = .ok (.iconst 1, 1) := by decide +kernel
theorem dX12_readsHead_112 : decode cX12_readsHead 112 = .ok (.iadd, 1) := by decide +kernel
theorem dX12_readsHead_113 : decode cX12_readsHead 113 = .ok (.putfield 187, 3) := by decide +kernel
theorem dX12_readsHead_116 : decode cX12_readsHead 116 = .ok (.iinc 1 1, 3) := by decide +kernel
theorem dX12_readsHead_119 : decode cX12_readsHead 119 = .ok (.goto (-112), 3) := by decide +kernel
theorem dX12_readsHead_122 : decode cX12_readsHead 122 = .ok (.aload_n 0, 1) := by decide +kernel
theorem dX12_readsHead_123 : decode cX12_readsHead 123 = .ok (.getfield 187, 3) := by decide +kernel
theorem dX12_readsHead_126 : decode cX12_readsHead 126 = .ok (.ifCond .le 19, 3) := by decide +kernel
theorem dX12_readsHead_129 : decode cX12_readsHead 129 = .ok (.aload_n 0, 1) := by decide +kernel
theorem dX12_readsHead_130 : decode cX12_readsHead 130 = .ok (.iload_n 1, 1) := by decide +kernel
theorem dX12_readsHead_131 : decode cX12_readsHead 131 = .ok (.invokevirtual 184, 3) := by decide +kernel
theorem dX12_readsHead_134 : decode cX12_readsHead 134 = .ok (.bipush 58, 2) := by decide +kernel
theorem dX12_readsHead_136 : decode cX12_readsHead 136 = .ok (.if_icmp .ne 9, 3) := by decide +kernel
theorem dX12_readsHead_139 : decode cX12_readsHead 139 = .ok (.iload_n 1, 1) := by decide +kernel
theorem dX12_readsHead_140 : decode cX12_readsHead 140 = .ok (.iconst 1, 1) := by decide +kernel
theorem dX12_readsHead_141 : decode cX12_readsHead 141 = .ok (.iadd, 1) := by decide +kernel
theorem dX12_readsHead_142 : decode cX12_readsHead 142 = .ok (.goto 7, 3) := by decide +kernel
theorem dX12_readsHead_145 : decode cX12_readsHead 145 = .ok (.bipush 100, 2) := by decide +kernel
theorem dX12_readsHead_147 : decode cX12_readsHead 147 = .ok (.iload_n 1, 1) := by decide +kernel
theorem dX12_readsHead_148 : decode cX12_readsHead 148 = .ok (.iadd, 1) := by decide +kernel
theorem dX12_readsHead_149 : decode cX12_readsHead 149 = .ok (.ireturn, 1) := by decide +kernel
theorem dX12_readsAtom_0 : decode cX12_readsAtom 0 = .ok (.iconst 3, 1) := by decide +kernel
theorem dX12_readsAtom_1 : decode cX12_readsAtom 1 = .ok (.aload_n 0, 1) := by decide +kernel
theorem dX12_readsAtom_2 : decode cX12_readsAtom 2 = .ok (.getfield 193, 3) := by decide +kernel
theorem dX12_readsAtom_5 : decode cX12_readsAtom 5 = .ok (.imul, 1) := by decide +kernel
theorem dX12_readsAtom_6 : decode cX12_readsAtom 6 = .ok (.istore_n 2, 1) := by decide +kernel
theorem dX12_readsAtom_7 : decode cX12_readsAtom 7 = .ok (.aload_n 0, 1) := by decide +kernel
theorem dX12_readsAtom_8 : decode cX12_readsAtom 8 = .ok (.iload_n 1, 1) := by decide +kernel
theorem dX12_readsAtom_9 : decode cX12_readsAtom 9 = .ok (.invokevirtual 190, 3) := by decide +kernel
theorem dX12_readsAtom_12 : decode cX12_readsAtom 12 = .ok (.ifCond .eq 81, 3) := by decide +kernel
theorem dX12_readsAtom_15 : decode cX12_readsAtom 15 = .ok (.aload_n 0, 1) := by decide +kernel
theorem dX12_readsAtom_16 : decode cX12_readsAtom 16 = .ok (.iload_n 1, 1) := by decide +kernel
theorem dX12_readsAtom_17 : decode cX12_readsAtom 17 = .ok (.iconst 1, 1) := by decide +kernel
theorem dX12_readsAtom_18 : decode cX12_readsAtom 18 = .ok (.iadd, 1) := by decide +kernel
theorem dX12_readsAtom_19 : decode cX12_readsAtom 19 = .ok (.invokevirtual 184, 3) := by decide +kernel
theorem dX12_readsAtom_22 : decode cX12_readsAtom 22 = .ok (.bipush 61, 2) := by decide +kernel
theorem dX12_readsAtom_24 : decode cX12_readsAtom 24 = .ok (.if_icmp .eq 8, 3) := by decide +kernel
theorem dX12_readsAtom_27 : decode cX12_readsAtom 27 = .ok (.bipush 101, 2) := by decide +kernel
theorem dX12_readsAtom_29 : decode cX12_readsAtom 29 = .ok (.iload_n 1, 1) := by decide +kernel
theorem dX12_readsAtom_30 : decode cX12_readsAtom 30 = .ok (.iadd, 1) := by decide +kernel
theorem dX12_readsAtom_31 : decode cX12_readsAtom 31 = .ok (.ireturn, 1) := by decide +kernel
theorem dX12_readsAtom_32 : decode cX12_readsAtom 32 = .ok (.aload_n 0, 1) := by decide +kernel
theorem dX12_readsAtom_33 : decode cX12_readsAtom 33 = .ok (.iload_n 1, 1) := by decide +kernel
theorem dX12_readsAtom_34 : decode cX12_readsAtom 34 = .ok (.iconst 2, 1) := by decide +kernel
theorem dX12_readsAtom_35 : decode cX12_readsAtom 35 = .ok (.iadd, 1) := by decide +kernel
theorem dX12_readsAtom_36 : decode cX12_readsAtom 36 = .ok (.invokevirtual 190, 3) := by decide +kernel
theorem dX12_readsAtom_39 : decode cX12_readsAtom 39 = .ok (.ifCond .ne 8, 3) := by decide +kernel
theorem dX12_readsAtom_42 : decode cX12_readsAtom 42 = .ok (.bipush 102, 2) := by decide +kernel
theorem dX12_readsAtom_44 : decode cX12_readsAtom 44 = .ok (.iload_n 1, 1) := by decide +kernel
theorem dX12_readsAtom_45 : decode cX12_readsAtom 45 = .ok (.iadd, 1) := by decide +kernel
theorem dX12_readsAtom_46 : decode cX12_readsAtom 46 = .ok (.ireturn, 1) := by decide +kernel
theorem dX12_readsAtom_47 : decode cX12_readsAtom 47 = .ok (.aload_n 0, 1) := by decide +kernel
theorem dX12_readsAtom_48 : decode cX12_readsAtom 48 = .ok (.getfield 32, 3) := by decide +kernel
theorem dX12_readsAtom_51 : decode cX12_readsAtom 51 = .ok (.aload_n 0, 1) := by decide +kernel
theorem dX12_readsAtom_52 : decode cX12_readsAtom 52 = .ok (.getfield 193, 3) := by decide +kernel
theorem dX12_readsAtom_55 : decode cX12_readsAtom 55 = .ok (.iconst (-1), 1) := by decide +kernel
theorem dX12_readsAtom_56 : decode cX12_readsAtom 56 = .ok (.iastore, 1) := by decide +kernel
theorem dX12_readsAtom_57 : decode cX12_readsAtom 57 = .ok (.aload_n 0, 1) := by decide +kernel
theorem dX12_readsAtom_58 : decode cX12_readsAtom 58 = .ok (.getfield 35, 3) := by decide +kernel
theorem dX12_readsAtom_61 : decode cX12_readsAtom 61 = .ok (.iload_n 2, 1) := by decide +kernel
theorem dX12_readsAtom_62 : decode cX12_readsAtom 62 = .ok (.aload_n 0, 1) := by decide +kernel
theorem dX12_readsAtom_63 : decode cX12_readsAtom 63 = .ok (.iload_n 1, 1) := by decide +kernel
theorem dX12_readsAtom_64 : decode cX12_readsAtom 64 = .ok (.invokevirtual 184, 3) := by decide +kernel
theorem dX12_readsAtom_67 : decode cX12_readsAtom 67 = .ok (.bipush 97, 2) := by decide +kernel
theorem dX12_readsAtom_69 : decode cX12_readsAtom 69 = .ok (.isub, 1) := by decide +kernel
theorem dX12_readsAtom_70 : decode cX12_readsAtom 70 = .ok (.iastore, 1) := by decide +kernel
theorem dX12_readsAtom_71 : decode cX12_readsAtom 71 = .ok (.aload_n 0, 1) := by decide +kernel
theorem dX12_readsAtom_72 : decode cX12_readsAtom 72 = .ok (.getfield 35, 3) := by decide +kernel
theorem dX12_readsAtom_75 : decode cX12_readsAtom 75 = .ok (.iload_n 2, 1) := by decide +kernel
theorem dX12_readsAtom_76 : decode cX12_readsAtom 76 = .ok (.iconst 1, 1) := by decide +kernel
theorem dX12_readsAtom_77 : decode cX12_readsAtom 77 = .ok (.iadd, 1) := by decide +kernel
theorem dX12_readsAtom_78 : decode cX12_readsAtom 78 = .ok (.aload_n 0, 1) := by decide +kernel
theorem dX12_readsAtom_79 : decode cX12_readsAtom 79 = .ok (.iload_n 1, 1) := by decide +kernel
theorem dX12_readsAtom_80 : decode cX12_readsAtom 80 = .ok (.iconst 2, 1) := by decide +kernel
theorem dX12_readsAtom_81 : decode cX12_readsAtom 81 = .ok (.iadd, 1) := by decide +kernel
theorem dX12_readsAtom_82 : decode cX12_readsAtom 82 = .ok (.invokevirtual 184, 3) := by decide +kernel
theorem dX12_readsAtom_85 : decode cX12_readsAtom 85 = .ok (.bipush 97, 2) := by decide +kernel
theorem dX12_readsAtom_87 : decode cX12_readsAtom 87 = .ok (.isub, 1) := by decide +kernel
theorem dX12_readsAtom_88 : decode cX12_readsAtom 88 = .ok (.iastore, 1) := by decide +kernel
theorem dX12_readsAtom_89 : decode cX12_readsAtom 89 = .ok (.iload_n 1, 1) := by decide +kernel
theorem dX12_readsAtom_90 : decode cX12_readsAtom 90 = .ok (.iconst 3, 1) := by decide +kernel
theorem dX12_readsAtom_91 : decode cX12_readsAtom 91 = .ok (.iadd, 1) := by decide +kernel
theorem dX12_readsAtom_92 : decode cX12_readsAtom 92 = .ok (.ireturn, 1) := by decide +kernel
theorem dX12_readsAtom_93 : decode cX12_readsAtom 93 = .ok (.aload_n 0, 1) := by decide +kernel
theorem dX12_readsAtom_94 : decode cX12_readsAtom 94 = .ok (.iload_n 1, 1) := by decide +kernel
theorem dX12_readsAtom_95 : decode cX12_readsAtom 95 = .ok (.invokevirtual 184, 3) := by decide +kernel
theorem dX12_readsAtom_98 : decode cX12_readsAtom 98 = .ok (.bipush 48, 2) := by decide +kernel
theorem dX12_readsAtom_100 : decode cX12_readsAtom 100 = .ok (.isub, 1) := by decide +kernel
theorem dX12_readsAtom_101 : decode cX12_readsAtom 101 = .ok (.istore_n 3, 1) := by decide +kernel
theorem dX12_readsAtom_102 : decode cX12_readsAtom 102 = .ok (.iload_n 3, 1) := by decide +kernel
theorem dX12_readsAtom_103 : decode cX12_readsAtom 103 = .ok (.iconst 0, 1) := by decide +kernel
theorem dX12_readsAtom_104 : decode cX12_readsAtom 104 = .ok (.bipush 7, 2) := by decide +kernel
theorem dX12_readsAtom_106 : decode cX12_readsAtom 106 = .ok (.invokestatic 63, 3) := by decide +kernel
theorem dX12_readsAtom_109 : decode cX12_readsAtom 109 = .ok (.ifCond .eq 11, 3) := by decide +kernel
theorem dX12_readsAtom_112 : decode cX12_readsAtom 112 = .ok (.aload_n 0, 1) := by decide +kernel
theorem dX12_readsAtom_113 : decode cX12_readsAtom 113 = .ok (.iload_n 3, 1) := by decide +kernel
theorem dX12_readsAtom_114 : decode cX12_readsAtom 114 = .ok (.invokevirtual 76, 3) := by decide +kernel
theorem dX12_readsAtom_117 : decode cX12_readsAtom 117 = .ok (.ifCond .ne 8, 3) := by decide +kernel
theorem dX12_readsAtom_120 : decode cX12_readsAtom 120 = .ok (.bipush 100, 2) := by decide +kernel
theorem dX12_readsAtom_122 : decode cX12_readsAtom 122 = .ok (.iload_n 1, 1) := by decide +kernel
theorem dX12_readsAtom_123 : decode cX12_readsAtom 123 = .ok (.iadd, 1) := by decide +kernel
theorem dX12_readsAtom_124 : decode cX12_readsAtom 124 = .ok (.ireturn, 1) := by decide +kernel
theorem dX12_readsAtom_125 : decode cX12_readsAtom 125 = .ok (.iload_n 1, 1) := by decide +kernel
theorem dX12_readsAtom_126 : decode cX12_readsAtom 126 = .ok (.iconst 1, 1) := by decide +kernel
theorem dX12_readsAtom_127 : decode cX12_readsAtom 127 = .ok (.iadd, 1) := by decide +kernel
theorem dX12_readsAtom_128 : decode cX12_readsAtom 128 = .ok (.istore 4, 2) := by decide +kernel
theorem dX12_readsAtom_130 : decode cX12_readsAtom 130 = .ok (.aload_n 0, 1) := by decide +kernel
theorem dX12_readsAtom_131 : decode cX12_readsAtom 131 = .ok (.iload 4, 2) := by decide +kernel
theorem dX12_readsAtom_133 : decode cX12_readsAtom 133 = .ok (.invokevirtual 184, 3) := by decide +kernel
theorem dX12_readsAtom_136 : decode cX12_readsAtom 136 = .ok (.bipush 40, 2) := by decide +kernel
theorem dX12_readsAtom_138 : decode cX12_readsAtom 138 = .ok (.if_icmp .eq 9, 3) := by decide +kernel
theorem dX12_readsAtom_141 : decode cX12_readsAtom 141 = .ok (.bipush 100, 2) := by decide +kernel
theorem dX12_readsAtom_143 : decode cX12_readsAtom 143 = .ok (.iload 4, 2) := by decide +kernel
theorem dX12_readsAtom_145 : decode cX12_readsAtom 145 = .ok (.iadd, 1) := by decide +kernel
theorem dX12_readsAtom_146 : decode cX12_readsAtom 146 = .ok (.ireturn, 1) := by decide +kernel
theorem dX12_readsAtom_147 : decode cX12_readsAtom 147 = .ok (.iinc 4 1, 3) := by decide +kernel
theorem dX12_readsAtom_150 : decode cX12_readsAtom 150 = .ok (.iconst 0, 1) := by decide +kernel
theorem dX12_readsAtom_151 : decode cX12_readsAtom 151 = .ok (.istore 5, 2) := by decide +kernel
theorem dX12_readsAtom_153 : decode cX12_readsAtom 153 = .ok (.iload 5, 2) := by decide +kernel
theorem dX12_readsAtom_155 : decode cX12_readsAtom 155 = .ok (.aload_n 0, 1) := by decide +kernel
theorem dX12_readsAtom_156 : decode cX12_readsAtom 156 = .ok (.getfield 13, 3) := by decide +kernel
theorem dX12_readsAtom_159 : decode cX12_readsAtom 159 = .ok (.iload_n 3, 1) := by decide +kernel
theorem dX12_readsAtom_160 : decode cX12_readsAtom 160 = .ok (.iaload, 1) := by decide +kernel
theorem dX12_readsAtom_161 : decode cX12_readsAtom 161 = .ok (.if_icmp .ge 83, 3) := by decide +kernel
theorem dX12_readsAtom_164 : decode cX12_readsAtom 164 = .ok (.aload_n 0, 1) := by decide +kernel
theorem dX12_readsAtom_165 : decode cX12_readsAtom 165 = .ok (.iload 4, 2) := by decide +kernel
theorem dX12_readsAtom_167 : decode cX12_readsAtom 167 = .ok (.invokevirtual 190, 3) := by decide +kernel
theorem dX12_readsAtom_170 : decode cX12_readsAtom 170 = .ok (.ifCond .ne 9, 3) := by decide +kernel
theorem dX12_readsAtom_173 : decode cX12_readsAtom 173 = .ok (.bipush 100, 2) := by decide +kernel
theorem dX12_readsAtom_175 : decode cX12_readsAtom 175 = .ok (.iload 4, 2) := by decide +kernel
theorem dX12_readsAtom_177 : decode cX12_readsAtom 177 = .ok (.iadd, 1) := by decide +kernel
theorem dX12_readsAtom_178 : decode cX12_readsAtom 178 = .ok (.ireturn, 1) := by decide +kernel
theorem dX12_readsAtom_179 : decode cX12_readsAtom 179 = .ok (.aload_n 0, 1) := by decide +kernel
theorem dX12_readsAtom_180 : decode cX12_readsAtom 180 = .ok (.getfield 35, 3) := by decide +kernel
theorem dX12_readsAtom_183 : decode cX12_readsAtom 183 = .ok (.iload_n 2, 1) := by decide +kernel
theorem dX12_readsAtom_184 : decode cX12_readsAtom 184 = .ok (.iload 5, 2) := by decide +kernel
theorem dX12_readsAtom_186 : decode cX12_readsAtom 186 = .ok (.iadd, 1) := by decide +kernel
theorem dX12_readsAtom_187 : decode cX12_readsAtom 187 = .ok (.aload_n 0, 1) := by decide +kernel
theorem dX12_readsAtom_188 : decode cX12_readsAtom 188 = .ok (.iload 4, 2) := by decide +kernel
theorem dX12_readsAtom_190 : decode cX12_readsAtom 190 = .ok (.invokevirtual 184, 3) := by decide +kernel
theorem dX12_readsAtom_193 : decode cX12_readsAtom 193 = .ok (.bipush 97, 2) := by decide +kernel
theorem dX12_readsAtom_195 : decode cX12_readsAtom 195 = .ok (.isub, 1) := by decide +kernel
theorem dX12_readsAtom_196 : decode cX12_readsAtom 196 = .ok (.iastore, 1) := by decide +kernel
theorem dX12_readsAtom_197 : decode cX12_readsAtom 197 = .ok (.iinc 4 1, 3) := by decide +kernel
theorem dX12_readsAtom_200 : decode cX12_readsAtom 200 = .ok (.aload_n 0, 1) := by decide +kernel
theorem dX12_readsAtom_201 : decode cX12_readsAtom 201 = .ok (.iload 4, 2) := by decide +kernel
theorem dX12_readsAtom_203 : decode cX12_readsAtom 203 = .ok (.invokevirtual 184, 3) := by decide +kernel
theorem dX12_readsAtom_206 : decode cX12_readsAtom 206 = .ok (.iload 5, 2) := by decide +kernel
theorem dX12_readsAtom_208 : decode cX12_readsAtom 208 = .ok (.aload_n 0, 1) := by decide +kernel
theorem dX12_readsAtom_209 : decode cX12_readsAtom 209 = .ok (.getfield 13, 3) := by decide +kernel
theorem dX12_readsAtom_212 : decode cX12_readsAtom 212 = .ok (.iload_n 3, 1) := by decide +kernel
theorem dX12_readsAtom_213 : decode cX12_readsAtom 213 = .ok (.iaload, 1) := by decide +kernel
theorem dX12_readsAtom_214 : decode cX12_readsAtom 214 = .ok (.iconst 1, 1) := by decide +kernel
theorem dX12_readsAtom_215 : decode cX12_readsAtom 215 = .ok (.isub, 1) := by decide +kernel
theorem dX12_readsAtom_216 : decode cX12_readsAtom 216 = .ok (.if_icmp .ge 8, 3) := by decide +kernel
theorem dX12_readsAtom_219 : decode cX12_readsAtom 219 = .ok (.bipush 44, 2) := by decide +kernel
theorem dX12_readsAtom_221 : decode cX12_readsAtom 221 = .ok (.goto 5, 3) := by decide +kernel
theorem dX12_readsAtom_224 : decode cX12_readsAtom 224 = .ok (.bipush 41, 2) := by decide +kernel
theorem dX12_readsAtom_226 : decode cX12_readsAtom 226 = .ok (.if_icmp .eq 9, 3) := by decide +kernel
theorem dX12_readsAtom_229 : decode cX12_readsAtom 229 = .ok (.bipush 100, 2) := by decide +kernel
theorem dX12_readsAtom_231 : decode cX12_readsAtom 231 = .ok (.iload 4, 2) := by decide +kernel
theorem dX12_readsAtom_233 : decode cX12_readsAtom 233 = .ok (.iadd, 1) := by decide +kernel
theorem dX12_readsAtom_234 : decode cX12_readsAtom 234 = .ok (.ireturn, 1) := by decide +kernel
theorem dX12_readsAtom_235 : decode cX12_readsAtom 235 = .ok (.iinc 4 1, 3) := by decide +kernel
theorem dX12_readsAtom_238 : decode cX12_readsAtom 238 = .ok (.iinc 5 1, 3) := by decide +kernel
theorem dX12_readsAtom_241 : decode cX12_readsAtom 241 = .ok (.goto (-88), 3) := by decide +kernel
theorem dX12_readsAtom_244 : decode cX12_readsAtom 244 = .ok (.aload_n 0, 1) := by decide +kernel
theorem dX12_readsAtom_245 : decode cX12_readsAtom 245 = .ok (.getfield 32, 3) := by decide +kernel
theorem dX12_readsAtom_248 : decode cX12_readsAtom 248 = .ok (.aload_n 0, 1) := by decide +kernel
theorem dX12_readsAtom_249 : decode cX12_readsAtom 249 = .ok (.getfield 193, 3) := by decide +kernel
theorem dX12_readsAtom_252 : decode cX12_readsAtom 252 = .ok (.iload_n 3, 1) := by decide +kernel
theorem dX12_readsAtom_253 : decode cX12_readsAtom 253 = .ok (.iastore, 1) := by decide +kernel
theorem dX12_readsAtom_254 : decode cX12_readsAtom 254 = .ok (.iload 4, 2) := by decide +kernel
theorem dX12_readsAtom_256 : decode cX12_readsAtom 256 = .ok (.ireturn, 1) := by decide +kernel
theorem dX12_reads_0 : decode cX12_reads 0 = .ok (.aload_n 0, 1) := by decide +kernel
theorem dX12_reads_1 : decode cX12_reads 1 = .ok (.iconst 0, 1) := by decide +kernel
theorem dX12_reads_2 : decode cX12_reads 2 = .ok (.putfield 193, 3) := by decide +kernel
theorem dX12_reads_5 : decode cX12_reads 5 = .ok (.aload_n 0, 1) := by decide +kernel
theorem dX12_reads_6 : decode cX12_reads 6 = .ok (.invokevirtual 196, 3) := by decide +kernel
theorem dX12_reads_9 : decode cX12_reads 9 = .ok (.istore_n 1, 1) := by decide +kernel
theorem dX12_reads_10 : decode cX12_reads 10 = .ok (.iload_n 1, 1) := by decide +kernel
theorem dX12_reads_11 : decode cX12_reads 11 = .ok (.bipush 100, 2) := by decide +kernel
theorem dX12_reads_13 : decode cX12_reads 13 = .ok (.if_icmp .ge 59, 3) := by decide +kernel
theorem dX12_reads_16 : decode cX12_reads 16 = .ok (.aload_n 0, 1) := by decide +kernel
theorem dX12_reads_17 : decode cX12_reads 17 = .ok (.iload_n 1, 1) := by decide +kernel
theorem dX12_reads_18 : decode cX12_reads 18 = .ok (.invokevirtual 200, 3) := by decide +kernel
theorem dX12_reads_21 : decode cX12_reads 21 = .ok (.istore_n 1, 1) := by decide +kernel
theorem dX12_reads_22 : decode cX12_reads 22 = .ok (.iload_n 1, 1) := by decide +kernel
theorem dX12_reads_23 : decode cX12_reads 23 = .ok (.bipush 100, 2) := by decide +kernel
theorem dX12_reads_25 : decode cX12_reads 25 = .ok (.if_icmp .ge (-15), 3) := by decide +kernel
theorem dX12_reads_28 : decode cX12_reads 28 = .ok (.aload_n 0, 1) := by decide +kernel
theorem dX12_reads_29 : decode cX12_reads 29 = .ok (.dup, 1) := by decide +kernel
theorem dX12_reads_30 : decode cX12_reads 30 = .ok (.getfield 193, 3) := by decide +kernel
theorem dX12_reads_33 : decode cX12_reads 33 = .ok (.iconst 1, 1) := by decide +kernel
theorem dX12_reads_34 : decode cX12_reads 34 = .ok (.iadd, 1) := by decide +kernel
theorem dX12_reads_35 : decode cX12_reads 35 = .ok (.putfield 193, 3) := by decide +kernel
theorem dX12_reads_38 : decode cX12_reads 38 = .ok (.iload_n 1, 1) := by decide +kernel
theorem dX12_reads_39 : decode cX12_reads 39 = .ok (.aload_n 0, 1) := by decide +kernel
theorem dX12_reads_40 : decode cX12_reads 40 = .ok (.getfield 181, 3) := by decide +kernel
theorem dX12_reads_43 : decode cX12_reads 43 = .ok (.if_icmp .ne 5, 3) := by decide +kernel
theorem dX12_reads_46 : decode cX12_reads 46 = .ok (.iconst (-1), 1) := by decide +kernel
theorem dX12_reads_47 : decode cX12_reads 47 = .ok (.ireturn, 1) := by decide +kernel
theorem dX12_reads_48 : decode cX12_reads 48 = .ok (.aload_n 0, 1) := by decide +kernel
theorem dX12_reads_49 : decode cX12_reads 49 = .ok (.iload_n 1, 1) := by decide +kernel
theorem dX12_reads_50 : decode cX12_reads 50 = .ok (.invokevirtual 184, 3) := by decide +kernel
theorem dX12_reads_53 : decode cX12_reads 53 = .ok (.bipush 38, 2) := by decide +kernel
theorem dX12_reads_55 : decode cX12_reads 55 = .ok (.if_icmp .ne 9, 3) := by decide +kernel
theorem dX12_reads_58 : decode cX12_reads 58 = .ok (.iload_n 1, 1) := by decide +kernel
theorem dX12_reads_59 : decode cX12_reads 59 = .ok (.iconst 1, 1) := by decide +kernel
theorem dX12_reads_60 : decode cX12_reads 60 = .ok (.iadd, 1) := by decide +kernel
theorem dX12_reads_61 : decode cX12_reads 61 = .ok (.goto 7, 3) := by decide +kernel
theorem dX12_reads_64 : decode cX12_reads 64 = .ok (.bipush 100, 2) := by decide +kernel
theorem dX12_reads_66 : decode cX12_reads 66 = .ok (.iload_n 1, 1) := by decide +kernel
theorem dX12_reads_67 : decode cX12_reads 67 = .ok (.iadd, 1) := by decide +kernel
theorem dX12_reads_68 : decode cX12_reads 68 = .ok (.istore_n 1, 1) := by decide +kernel
theorem dX12_reads_69 : decode cX12_reads 69 = .ok (.goto (-59), 3) := by decide +kernel
theorem dX12_reads_72 : decode cX12_reads 72 = .ok (.iload_n 1, 1) := by decide +kernel
theorem dX12_reads_73 : decode cX12_reads 73 = .ok (.bipush 100, 2) := by decide +kernel
theorem dX12_reads_75 : decode cX12_reads 75 = .ok (.isub, 1) := by decide +kernel
theorem dX12_reads_76 : decode cX12_reads 76 = .ok (.ireturn, 1) := by decide +kernel
theorem dX12_fault_0 : decode cX12_fault 0 = .ok (.aload_n 0, 1) := by decide +kernel
theorem dX12_fault_1 : decode cX12_fault 1 = .ok (.iconst 0, 1) := by decide +kernel
theorem dX12_fault_2 : decode cX12_fault 2 = .ok (.putfield 56, 3) := by decide +kernel
theorem dX12_fault_5 : decode cX12_fault 5 = .ok (.aload_n 0, 1) := by decide +kernel
theorem dX12_fault_6 : decode cX12_fault 6 = .ok (.invokevirtual 203, 3) := by decide +kernel
theorem dX12_fault_9 : decode cX12_fault 9 = .ok (.ireturn, 1) := by decide +kernel
theorem dX12_hold_0 : decode cX12_hold 0 = .ok (.iconst 1, 1) := by decide +kernel
theorem dX12_hold_1 : decode cX12_hold 1 = .ok (.istore_n 2, 1) := by decide +kernel
theorem dX12_hold_2 : decode cX12_hold 2 = .ok (.iconst 0, 1) := by decide +kernel
theorem dX12_hold_3 : decode cX12_hold 3 = .ok (.istore_n 3, 1) := by decide +kernel
theorem dX12_hold_4 : decode cX12_hold 4 = .ok (.iload_n 3, 1) := by decide +kernel
theorem dX12_hold_5 : decode cX12_hold 5 = .ok (.aload_n 0, 1) := by decide +kernel
theorem dX12_hold_6 : decode cX12_hold 6 = .ok (.getfield 193, 3) := by decide +kernel
theorem dX12_hold_9 : decode cX12_hold 9 = .ok (.if_icmp .ge 139, 3) := by decide +kernel
theorem dX12_hold_12 : decode cX12_hold 12 = .ok (.iload_n 2, 1) := by decide +kernel
theorem dX12_hold_13 : decode cX12_hold 13 = .ok (.ifCond .eq 135, 3) := by decide +kernel
theorem dX12_hold_16 : decode cX12_hold 16 = .ok (.aload_n 0, 1) := by decide +kernel
theorem dX12_hold_17 : decode cX12_hold 17 = .ok (.iload_n 1, 1) := by decide +kernel
theorem dX12_hold_18 : decode cX12_hold 18 = .ok (.aload_n 0, 1) := by decide +kernel
theorem dX12_hold_19 : decode cX12_hold 19 = .ok (.getfield 35, 3) := by decide +kernel
theorem dX12_hold_22 : decode cX12_hold 22 = .ok (.iconst 3, 1) := by decide +kernel
theorem dX12_hold_23 : decode cX12_hold 23 = .ok (.iload_n 3, 1) := by decide +kernel
theorem dX12_hold_24 : decode cX12_hold 24 = .ok (.imul, 1) := by decide +kernel
theorem dX12_hold_25 : decode cX12_hold 25 = .ok (.iaload, 1) := by decide +kernel
theorem dX12_hold_26 : decode cX12_hold 26 = .ok (.invokevirtual 105, 3) := by decide +kernel
theorem dX12_hold_29 : decode cX12_hold 29 = .ok (.istore 4, 2) := by decide +kernel
theorem dX12_hold_31 : decode cX12_hold 31 = .ok (.aload_n 0, 1) := by decide +kernel
theorem dX12_hold_32 : decode cX12_hold 32 = .ok (.getfield 32, 3) := by decide +kernel
theorem dX12_hold_35 : decode cX12_hold 35 = .ok (.iload_n 3, 1) := by decide +kernel
theorem dX12_hold_36 : decode cX12_hold 36 = .ok (.iaload, 1) := by decide +kernel
theorem dX12_hold_37 : decode cX12_hold 37 = .ok (.iconst (-1), 1) := by decide +kernel
theorem dX12_hold_38 : decode cX12_hold 38 = .ok (.if_icmp .ne 32, 3) := by decide +kernel
theorem dX12_hold_41 : decode cX12_hold 41 = .ok (.iload 4, 2) := by decide +kernel
theorem dX12_hold_43 : decode cX12_hold 43 = .ok (.aload_n 0, 1) := by decide +kernel
theorem dX12_hold_44 : decode cX12_hold 44 = .ok (.iload_n 1, 1) := by decide +kernel
theorem dX12_hold_45 : decode cX12_hold 45 = .ok (.aload_n 0, 1) := by decide +kernel
theorem dX12_hold_46 : decode cX12_hold 46 = .ok (.getfield 35, 3) := by decide +kernel
theorem dX12_hold_49 : decode cX12_hold 49 = .ok (.iconst 3, 1) := by decide +kernel
theorem dX12_hold_50 : decode cX12_hold 50 = .ok (.iload_n 3, 1) := by decide +kernel
theorem dX12_hold_51 : decode cX12_hold 51 = .ok (.imul, 1) := by decide +kernel
theorem dX12_hold_52 : decode cX12_hold 52 = .ok (.iconst 1, 1) := by decide +kernel
theorem dX12_hold_53 : decode cX12_hold 53 = .ok (.iadd, 1) := by decide +kernel
theorem dX12_hold_54 : decode cX12_hold 54 = .ok (.iaload, 1) := by decide +kernel
theorem dX12_hold_55 : decode cX12_hold 55 = .ok (.invokevirtual 105, 3) := by decide +kernel
theorem dX12_hold_58 : decode cX12_hold 58 = .ok (.if_icmp .ne 7, 3) := by decide +kernel
theorem dX12_hold_61 : decode cX12_hold 61 = .ok (.iconst 1, 1) := by decide +kernel
theorem dX12_hold_62 : decode cX12_hold 62 = .ok (.goto 4, 3) := by decide +kernel
theorem dX12_hold_65 : decode cX12_hold 65 = .ok (.iconst 0, 1) := by decide +kernel
theorem dX12_hold_66 : decode cX12_hold 66 = .ok (.istore_n 2, 1) := by decide +kernel
theorem dX12_hold_67 : decode cX12_hold 67 = .ok (.goto 75, 3) := by decide +kernel
theorem dX12_hold_70 : decode cX12_hold 70 = .ok (.iconst 0, 1) := by decide +kernel
theorem dX12_hold_71 : decode cX12_hold 71 = .ok (.istore 5, 2) := by decide +kernel
theorem dX12_hold_73 : decode cX12_hold 73 = .ok (.aload_n 0, 1) := by decide +kernel
theorem dX12_hold_74 : decode cX12_hold 74 = .ok (.getfield 13, 3) := by decide +kernel
theorem dX12_hold_77 : decode cX12_hold 77 = .ok (.aload_n 0, 1) := by decide +kernel
theorem dX12_hold_78 : decode cX12_hold 78 = .ok (.getfield 32, 3) := by decide +kernel
theorem dX12_hold_81 : decode cX12_hold 81 = .ok (.iload_n 3, 1) := by decide +kernel
theorem dX12_hold_82 : decode cX12_hold 82 = .ok (.iaload, 1) := by decide +kernel
theorem dX12_hold_83 : decode cX12_hold 83 = .ok (.iaload, 1) := by decide +kernel
theorem dX12_hold_84 : decode cX12_hold 84 = .ok (.iconst 1, 1) := by decide +kernel
theorem dX12_hold_85 : decode cX12_hold 85 = .ok (.isub, 1) := by decide +kernel
theorem dX12_hold_86 : decode cX12_hold 86 = .ok (.istore 6, 2) := by decide +kernel
theorem dX12_hold_88 : decode cX12_hold 88 = .ok (.iload 6, 2) := by decide +kernel
theorem dX12_hold_90 : decode cX12_hold 90 = .ok (.ifCond .lt 35, 3) := by decide +kernel
theorem dX12_hold_93 : decode cX12_hold 93 = .ok (.iload 5, 2) := by decide +kernel
theorem dX12_hold_95 : decode cX12_hold 95 = .ok (.aload_n 0, 1) := by decide +kernel
theorem dX12_hold_96 : decode cX12_hold 96 = .ok (.getfield 7, 3) := by decide +kernel
theorem dX12_hold_99 : decode cX12_hold 99 = .ok (.imul, 1) := by decide +kernel
theorem dX12_hold_100 : decode cX12_hold 100 = .ok (.aload_n 0, 1) := by decide +kernel
theorem dX12_hold_101 : decode cX12_hold 101 = .ok (.iload_n 1, 1) := by decide +kernel
theorem dX12_hold_102 : decode cX12_hold 102 = .ok (.aload_n 0, 1) := by decide +kernel
theorem dX12_hold_103 : decode cX12_hold 103 = .ok (.getfield 35, 3) := by decide +kernel
theorem dX12_hold_106 : decode cX12_hold 106 = .ok (.iconst 3, 1) := by decide +kernel
theorem dX12_hold_107 : decode cX12_hold 107 = .ok (.iload_n 3, 1) := by decide +kernel
theorem dX12_hold_108 : decode cX12_hold 108 = .ok (.imul, 1) := by decide +kernel
theorem dX12_hold_109 : decode cX12_hold 109 = .ok (.iload 6, 2) := by decide +kernel
theorem dX12_hold_111 : decode cX12_hold 111 = .ok (.iadd, 1) := by decide +kernel
theorem dX12_hold_112 : decode cX12_hold 112 = .ok (.iaload, 1) := by decide +kernel
theorem dX12_hold_113 : decode cX12_hold 113 = .ok (.invokevirtual 105, 3) := by decide +kernel
theorem dX12_hold_116 : decode cX12_hold 116 = .ok (.iadd, 1) := by decide +kernel
theorem dX12_hold_117 : decode cX12_hold 117 = .ok (.istore 5, 2) := by decide +kernel
theorem dX12_hold_119 : decode cX12_hold 119 = .ok (.iinc 6 (-1), 3) := by decide +kernel
theorem dX12_hold_122 : decode cX12_hold 122 = .ok (.goto (-34), 3) := by decide +kernel
theorem dX12_hold_125 : decode cX12_hold 125 = .ok (.aload_n 0, 1) := by decide +kernel
theorem dX12_hold_126 : decode cX12_hold 126 = .ok (.getfield 17, 3) := by decide +kernel
theorem dX12_hold_129 : decode cX12_hold 129 = .ok (.aload_n 0, 1) := by decide +kernel
theorem dX12_hold_130 : decode cX12_hold 130 = .ok (.getfield 32, 3) := by decide +kernel
theorem dX12_hold_133 : decode cX12_hold 133 = .ok (.iload_n 3, 1) := by decide +kernel
theorem dX12_hold_134 : decode cX12_hold 134 = .ok (.iaload, 1) := by decide +kernel
theorem dX12_hold_135 : decode cX12_hold 135 = .ok (.iaload, 1) := by decide +kernel
theorem dX12_hold_136 : decode cX12_hold 136 = .ok (.iload 5, 2) := by decide +kernel
theorem dX12_hold_138 : decode cX12_hold 138 = .ok (.invokestatic 80, 3) := by decide +kernel
theorem dX12_hold_141 : decode cX12_hold 141 = .ok (.istore_n 2, 1) := by decide +kernel
theorem dX12_hold_142 : decode cX12_hold 142 = .ok (.iinc 3 1, 3) := by decide +kernel
theorem dX12_hold_145 : decode cX12_hold 145 = .ok (.goto (-141), 3) := by decide +kernel
theorem dX12_hold_148 : decode cX12_hold 148 = .ok (.iload_n 2, 1) := by decide +kernel
theorem dX12_hold_149 : decode cX12_hold 149 = .ok (.ireturn, 1) := by decide +kernel
theorem dX12_define_0 : decode cX12_define 0 = .ok (.aload_n 0, 1) := by decide +kernel
theorem dX12_define_1 : decode cX12_define 1 = .ok (.aload_n 0, 1) := by decide +kernel
theorem dX12_define_2 : decode cX12_define 2 = .ok (.invokevirtual 203, 3) := by decide +kernel
theorem dX12_define_5 : decode cX12_define 5 = .ok (.iconst (-1), 1) := by decide +kernel
theorem dX12_define_6 : decode cX12_define 6 = .ok (.if_icmp .eq 7, 3) := by decide +kernel
theorem dX12_define_9 : decode cX12_define 9 = .ok (.iconst 1, 1) := by decide +kernel
theorem dX12_define_10 : decode cX12_define 10 = .ok (.goto 17, 3) := by decide +kernel
theorem dX12_define_13 : decode cX12_define 13 = .ok (.aload_n 0, 1) := by decide +kernel
theorem dX12_define_14 : decode cX12_define 14 = .ok (.getfield 67, 3) := by decide +kernel
theorem dX12_define_17 : decode cX12_define 17 = .ok (.bipush 8, 2) := by decide +kernel
theorem dX12_define_19 : decode cX12_define 19 = .ok (.if_icmp .ne 7, 3) := by decide +kernel
theorem dX12_define_22 : decode cX12_define 22 = .ok (.iconst 2, 1) := by decide +kernel
theorem dX12_define_23 : decode cX12_define 23 = .ok (.goto 4, 3) := by decide +kernel
theorem dX12_define_26 : decode cX12_define 26 = .ok (.iconst 0, 1) := by decide +kernel
theorem dX12_define_27 : decode cX12_define 27 = .ok (.putfield 56, 3) := by decide +kernel
theorem dX12_define_30 : decode cX12_define 30 = .ok (.aload_n 0, 1) := by decide +kernel
theorem dX12_define_31 : decode cX12_define 31 = .ok (.getfield 56, 3) := by decide +kernel
theorem dX12_define_34 : decode cX12_define 34 = .ok (.ifCond .le 5, 3) := by decide +kernel
theorem dX12_define_37 : decode cX12_define 37 = .ok (.iconst 0, 1) := by decide +kernel
theorem dX12_define_38 : decode cX12_define 38 = .ok (.ireturn, 1) := by decide +kernel
theorem dX12_define_39 : decode cX12_define 39 = .ok (.iconst 0, 1) := by decide +kernel
theorem dX12_define_40 : decode cX12_define 40 = .ok (.istore_n 1, 1) := by decide +kernel
theorem dX12_define_41 : decode cX12_define 41 = .ok (.iconst 0, 1) := by decide +kernel
theorem dX12_define_42 : decode cX12_define 42 = .ok (.istore_n 2, 1) := by decide +kernel
theorem dX12_define_43 : decode cX12_define 43 = .ok (.iload_n 2, 1) := by decide +kernel
theorem dX12_define_44 : decode cX12_define 44 = .ok (.aload_n 0, 1) := by decide +kernel
theorem dX12_define_45 : decode cX12_define 45 = .ok (.bipush 6, 2) := by decide +kernel
theorem dX12_define_47 : decode cX12_define 47 = .ok (.invokevirtual 59, 3) := by decide +kernel
theorem dX12_define_50 : decode cX12_define 50 = .ok (.if_icmp .ge 64, 3) := by decide +kernel
theorem dX12_define_53 : decode cX12_define 53 = .ok (.aload_n 0, 1) := by decide +kernel
theorem dX12_define_54 : decode cX12_define 54 = .ok (.iload_n 2, 1) := by decide +kernel
theorem dX12_define_55 : decode cX12_define 55 = .ok (.invokevirtual 206, 3) := by decide +kernel
theorem dX12_define_58 : decode cX12_define 58 = .ok (.ifCond .eq 50, 3) := by decide +kernel
theorem dX12_define_61 : decode cX12_define 61 = .ok (.iconst 0, 1) := by decide +kernel
theorem dX12_define_62 : decode cX12_define 62 = .ok (.istore_n 3, 1) := by decide +kernel
theorem dX12_define_63 : decode cX12_define 63 = .ok (.aload_n 0, 1) := by decide +kernel
theorem dX12_define_64 : decode cX12_define 64 = .ok (.getfield 187, 3) := by decide +kernel
theorem dX12_define_67 : decode cX12_define 67 = .ok (.iconst 1, 1) := by decide +kernel
theorem dX12_define_68 : decode cX12_define 68 = .ok (.isub, 1) := by decide +kernel
theorem dX12_define_69 : decode cX12_define 69 = .ok (.istore 4, 2) := by decide +kernel
theorem dX12_define_71 : decode cX12_define 71 = .ok (.iload 4, 2) := by decide +kernel
theorem dX12_define_73 : decode cX12_define 73 = .ok (.ifCond .lt 29, 3) := by decide +kernel
theorem dX12_define_76 : decode cX12_define 76 = .ok (.iload_n 3, 1) := by decide +kernel
theorem dX12_define_77 : decode cX12_define 77 = .ok (.aload_n 0, 1) := by decide +kernel
theorem dX12_define_78 : decode cX12_define 78 = .ok (.getfield 7, 3) := by decide +kernel
theorem dX12_define_81 : decode cX12_define 81 = .ok (.imul, 1) := by decide +kernel
theorem dX12_define_82 : decode cX12_define 82 = .ok (.aload_n 0, 1) := by decide +kernel
theorem dX12_define_83 : decode cX12_define 83 = .ok (.iload_n 2, 1) := by decide +kernel
theorem dX12_define_84 : decode cX12_define 84 = .ok (.aload_n 0, 1) := by decide +kernel
theorem dX12_define_85 : decode cX12_define 85 = .ok (.getfield 29, 3) := by decide +kernel
theorem dX12_define_88 : decode cX12_define 88 = .ok (.iload 4, 2) := by decide +kernel
theorem dX12_define_90 : decode cX12_define 90 = .ok (.iaload, 1) := by decide +kernel
theorem dX12_define_91 : decode cX12_define 91 = .ok (.invokevirtual 105, 3) := by decide +kernel
theorem dX12_define_94 : decode cX12_define 94 = .ok (.iadd, 1) := by decide +kernel
theorem dX12_define_95 : decode cX12_define 95 = .ok (.istore_n 3, 1) := by decide +kernel
theorem dX12_define_96 : decode cX12_define 96 = .ok (.iinc 4 (-1), 3) := by decide +kernel
theorem dX12_define_99 : decode cX12_define 99 = .ok (.goto (-28), 3) := by decide +kernel
theorem dX12_define_102 : decode cX12_define 102 = .ok (.iload_n 1, 1) := by decide +kernel
theorem dX12_define_103 : decode cX12_define 103 = .ok (.iconst 1, 1) := by decide +kernel
theorem dX12_define_104 : decode cX12_define 104 = .ok (.iload_n 3, 1) := by decide +kernel
theorem dX12_define_105 : decode cX12_define 105 = .ok (.ishl, 1) := by decide +kernel
theorem dX12_define_106 : decode cX12_define 106 = .ok (.ior, 1) := by decide +kernel
theorem dX12_define_107 : decode cX12_define 107 = .ok (.istore_n 1, 1) := by decide +kernel
theorem dX12_define_108 : decode cX12_define 108 = .ok (.iinc 2 1, 3) := by decide +kernel
theorem dX12_define_111 : decode cX12_define 111 = .ok (.goto (-68), 3) := by decide +kernel
theorem dX12_define_114 : decode cX12_define 114 = .ok (.aload_n 0, 1) := by decide +kernel
theorem dX12_define_115 : decode cX12_define 115 = .ok (.iconst 0, 1) := by decide +kernel
theorem dX12_define_116 : decode cX12_define 116 = .ok (.putfield 181, 3) := by decide +kernel
theorem dX12_define_119 : decode cX12_define 119 = .ok (.aload_n 0, 1) := by decide +kernel
theorem dX12_define_120 : decode cX12_define 120 = .ok (.getfield 13, 3) := by decide +kernel
theorem dX12_define_123 : decode cX12_define 123 = .ok (.aload_n 0, 1) := by decide +kernel
theorem dX12_define_124 : decode cX12_define 124 = .ok (.getfield 67, 3) := by decide +kernel
theorem dX12_define_127 : decode cX12_define 127 = .ok (.aload_n 0, 1) := by decide +kernel
theorem dX12_define_128 : decode cX12_define 128 = .ok (.getfield 187, 3) := by decide +kernel
theorem dX12_define_131 : decode cX12_define 131 = .ok (.iastore, 1) := by decide +kernel
theorem dX12_define_132 : decode cX12_define 132 = .ok (.aload_n 0, 1) := by decide +kernel
theorem dX12_define_133 : decode cX12_define 133 = .ok (.getfield 17, 3) := by decide +kernel
theorem dX12_define_136 : decode cX12_define 136 = .ok (.aload_n 0, 1) := by decide +kernel
theorem dX12_define_137 : decode cX12_define 137 = .ok (.getfield 67, 3) := by decide +kernel
theorem dX12_define_140 : decode cX12_define 140 = .ok (.iload_n 1, 1) := by decide +kernel
theorem dX12_define_141 : decode cX12_define 141 = .ok (.iastore, 1) := by decide +kernel
theorem dX12_define_142 : decode cX12_define 142 = .ok (.aload_n 0, 1) := by decide +kernel
theorem dX12_define_143 : decode cX12_define 143 = .ok (.dup, 1) := by decide +kernel
theorem dX12_define_144 : decode cX12_define 144 = .ok (.getfield 67, 3) := by decide +kernel
theorem dX12_define_147 : decode cX12_define 147 = .ok (.iconst 1, 1) := by decide +kernel
theorem dX12_define_148 : decode cX12_define 148 = .ok (.iadd, 1) := by decide +kernel
theorem dX12_define_149 : decode cX12_define 149 = .ok (.putfield 67, 3) := by decide +kernel
theorem dX12_define_152 : decode cX12_define 152 = .ok (.aload_n 0, 1) := by decide +kernel
theorem dX12_define_153 : decode cX12_define 153 = .ok (.getfield 67, 3) := by decide +kernel
theorem dX12_define_156 : decode cX12_define 156 = .ok (.iconst 1, 1) := by decide +kernel
theorem dX12_define_157 : decode cX12_define 157 = .ok (.isub, 1) := by decide +kernel
theorem dX12_define_158 : decode cX12_define 158 = .ok (.ireturn, 1) := by decide +kernel
theorem dX12_instance_0 : decode cX12_instance 0 = .ok (.aload_n 0, 1) := by decide +kernel
theorem dX12_instance_1 : decode cX12_instance 1 = .ok (.iload_n 1, 1) := by decide +kernel
theorem dX12_instance_2 : decode cX12_instance 2 = .ok (.iconst 1, 1) := by decide +kernel
theorem dX12_instance_3 : decode cX12_instance 3 = .ok (.bipush 6, 2) := by decide +kernel
theorem dX12_instance_5 : decode cX12_instance 5 = .ok (.invokestatic 63, 3) := by decide +kernel
theorem dX12_instance_8 : decode cX12_instance 8 = .ok (.ifCond .eq 7, 3) := by decide +kernel
theorem dX12_instance_11 : decode cX12_instance 11 = .ok (.iconst 0, 1) := by decide +kernel
theorem dX12_instance_12 : decode cX12_instance 12 = .ok (.goto 4, 3) := by decide +kernel
theorem dX12_instance_15 : decode cX12_instance 15 = .ok (.iconst 1, 1) := by decide +kernel
theorem dX12_instance_16 : decode cX12_instance 16 = .ok (.putfield 56, 3) := by decide +kernel
theorem dX12_instance_19 : decode cX12_instance 19 = .ok (.aload_n 0, 1) := by decide +kernel
theorem dX12_instance_20 : decode cX12_instance 20 = .ok (.getfield 56, 3) := by decide +kernel
theorem dX12_instance_23 : decode cX12_instance 23 = .ok (.ifCond .le 5, 3) := by decide +kernel
theorem dX12_instance_26 : decode cX12_instance 26 = .ok (.iconst 0, 1) := by decide +kernel
theorem dX12_instance_27 : decode cX12_instance 27 = .ok (.ireturn, 1) := by decide +kernel
theorem dX12_instance_28 : decode cX12_instance 28 = .ok (.aload_n 0, 1) := by decide +kernel
theorem dX12_instance_29 : decode cX12_instance 29 = .ok (.getfield 73, 3) := by decide +kernel
theorem dX12_instance_32 : decode cX12_instance 32 = .ok (.istore_n 2, 1) := by decide +kernel
theorem dX12_instance_33 : decode cX12_instance 33 = .ok (.aload_n 0, 1) := by decide +kernel
theorem dX12_instance_34 : decode cX12_instance 34 = .ok (.iload_n 1, 1) := by decide +kernel
theorem dX12_instance_35 : decode cX12_instance 35 = .ok (.putfield 38, 3) := by decide +kernel
theorem dX12_instance_38 : decode cX12_instance 38 = .ok (.aload_n 0, 1) := by decide +kernel
theorem dX12_instance_39 : decode cX12_instance 39 = .ok (.iconst 0, 1) := by decide +kernel
theorem dX12_instance_40 : decode cX12_instance 40 = .ok (.putfield 73, 3) := by decide +kernel
theorem dX12_instance_43 : decode cX12_instance 43 = .ok (.iload_n 2, 1) := by decide +kernel
theorem dX12_instance_44 : decode cX12_instance 44 = .ok (.ireturn, 1) := by decide +kernel
theorem dX12_isVariableOrNone_0 : decode cX12_isVariableOrNone 0 = .ok (.iload_n 1, 1) := by decide +kernel
theorem dX12_isVariableOrNone_1 : decode cX12_isVariableOrNone 1 = .ok (.iconst (-1), 1) := by decide +kernel
theorem dX12_isVariableOrNone_2 : decode cX12_isVariableOrNone 2 = .ok (.aload_n 0, 1) := by decide +kernel
theorem dX12_isVariableOrNone_3 : decode cX12_isVariableOrNone 3 = .ok (.getfield 38, 3) := by decide +kernel
theorem dX12_isVariableOrNone_6 : decode cX12_isVariableOrNone 6 = .ok (.iconst 1, 1) := by decide +kernel
theorem dX12_isVariableOrNone_7 : decode cX12_isVariableOrNone 7 = .ok (.isub, 1) := by decide +kernel
theorem dX12_isVariableOrNone_8 : decode cX12_isVariableOrNone 8 = .ok (.invokestatic 63, 3) := by decide +kernel
theorem dX12_isVariableOrNone_11 : decode cX12_isVariableOrNone 11 = .ok (.ireturn, 1) := by decide +kernel
theorem dX12_constrain_0 : decode cX12_constrain 0 = .ok (.aload_n 0, 1) := by decide +kernel
theorem dX12_constrain_1 : decode cX12_constrain 1 = .ok (.iload_n 3, 1) := by decide +kernel
theorem dX12_constrain_2 : decode cX12_constrain 2 = .ok (.invokevirtual 209, 3) := by decide +kernel
theorem dX12_constrain_5 : decode cX12_constrain 5 = .ok (.ifCond .eq 16, 3) := by decide +kernel
theorem dX12_constrain_8 : decode cX12_constrain 8 = .ok (.aload_n 0, 1) := by decide +kernel
theorem dX12_constrain_9 : decode cX12_constrain 9 = .ok (.iload 4, 2) := by decide +kernel
theorem dX12_constrain_11 : decode cX12_constrain 11 = .ok (.invokevirtual 209, 3) := by decide +kernel
theorem dX12_constrain_14 : decode cX12_constrain 14 = .ok (.ifCond .eq 7, 3) := by decide +kernel
theorem dX12_constrain_17 : decode cX12_constrain 17 = .ok (.iconst 1, 1) := by decide +kernel
theorem dX12_constrain_18 : decode cX12_constrain 18 = .ok (.goto 4, 3) := by decide +kernel
theorem dX12_constrain_21 : decode cX12_constrain 21 = .ok (.iconst 0, 1) := by decide +kernel
theorem dX12_constrain_22 : decode cX12_constrain 22 = .ok (.istore 5, 2) := by decide +kernel
theorem dX12_constrain_24 : decode cX12_constrain 24 = .ok (.aload_n 0, 1) := by decide +kernel
theorem dX12_constrain_25 : decode cX12_constrain 25 = .ok (.aload_n 0, 1) := by decide +kernel
theorem dX12_constrain_26 : decode cX12_constrain 26 = .ok (.iload_n 1, 1) := by decide +kernel
theorem dX12_constrain_27 : decode cX12_constrain 27 = .ok (.invokevirtual 76, 3) := by decide +kernel
theorem dX12_constrain_30 : decode cX12_constrain 30 = .ok (.ifCond .eq 16, 3) := by decide +kernel
theorem dX12_constrain_33 : decode cX12_constrain 33 = .ok (.aload_n 0, 1) := by decide +kernel
theorem dX12_constrain_34 : decode cX12_constrain 34 = .ok (.iload_n 2, 1) := by decide +kernel
theorem dX12_constrain_35 : decode cX12_constrain 35 = .ok (.invokevirtual 209, 3) := by decide +kernel
theorem dX12_constrain_38 : decode cX12_constrain 38 = .ok (.ifCond .eq 8, 3) := by decide +kernel
theorem dX12_constrain_41 : decode cX12_constrain 41 = .ok (.iload 5, 2) := by decide +kernel
theorem dX12_constrain_43 : decode cX12_constrain 43 = .ok (.ifCond .ne 7, 3) := by decide +kernel
theorem dX12_constrain_46 : decode cX12_constrain 46 = .ok (.iconst 1, 1) := by decide +kernel
theorem dX12_constrain_47 : decode cX12_constrain 47 = .ok (.goto 4, 3) := by decide +kernel
theorem dX12_constrain_50 : decode cX12_constrain 50 = .ok (.iconst 0, 1) := by decide +kernel
theorem dX12_constrain_51 : decode cX12_constrain 51 = .ok (.putfield 56, 3) := by decide +kernel
theorem dX12_constrain_54 : decode cX12_constrain 54 = .ok (.aload_n 0, 1) := by decide +kernel
theorem dX12_constrain_55 : decode cX12_constrain 55 = .ok (.getfield 56, 3) := by decide +kernel
theorem dX12_constrain_58 : decode cX12_constrain 58 = .ok (.ifCond .le 5, 3) := by decide +kernel
theorem dX12_constrain_61 : decode cX12_constrain 61 = .ok (.iconst 0, 1) := by decide +kernel
theorem dX12_constrain_62 : decode cX12_constrain 62 = .ok (.ireturn, 1) := by decide +kernel
theorem dX12_constrain_63 : decode cX12_constrain 63 = .ok (.iload_n 2, 1) := by decide +kernel
theorem dX12_constrain_64 : decode cX12_constrain 64 = .ok (.iconst (-1), 1) := by decide +kernel
theorem dX12_constrain_65 : decode cX12_constrain 65 = .ok (.if_icmp .eq 64, 3) := by decide +kernel
theorem dX12_constrain_68 : decode cX12_constrain 68 = .ok (.iload_n 3, 1) := by decide +kernel
theorem dX12_constrain_69 : decode cX12_constrain 69 = .ok (.iconst (-1), 1) := by decide +kernel
theorem dX12_constrain_70 : decode cX12_constrain 70 = .ok (.if_icmp .eq 7, 3) := by decide +kernel
theorem dX12_constrain_73 : decode cX12_constrain 73 = .ok (.iconst 1, 1) := by decide +kernel
theorem dX12_constrain_74 : decode cX12_constrain 74 = .ok (.goto 4, 3) := by decide +kernel
theorem dX12_constrain_77 : decode cX12_constrain 77 = .ok (.iconst 0, 1) := by decide +kernel
theorem dX12_constrain_78 : decode cX12_constrain 78 = .ok (.aload_n 0, 1) := by decide +kernel
theorem dX12_constrain_79 : decode cX12_constrain 79 = .ok (.getfield 13, 3) := by decide +kernel
theorem dX12_constrain_82 : decode cX12_constrain 82 = .ok (.iload_n 1, 1) := by decide +kernel
theorem dX12_constrain_83 : decode cX12_constrain 83 = .ok (.iaload, 1) := by decide +kernel
theorem dX12_constrain_84 : decode cX12_constrain 84 = .ok (.iconst 1, 1) := by decide +kernel
theorem dX12_constrain_85 : decode cX12_constrain 85 = .ok (.if_icmp .le 7, 3) := by decide +kernel
theorem dX12_constrain_88 : decode cX12_constrain 88 = .ok (.iconst 1, 1) := by decide +kernel
theorem dX12_constrain_89 : decode cX12_constrain 89 = .ok (.goto 4, 3) := by decide +kernel
theorem dX12_constrain_92 : decode cX12_constrain 92 = .ok (.iconst 0, 1) := by decide +kernel
theorem dX12_constrain_93 : decode cX12_constrain 93 = .ok (.if_icmp .ne 36, 3) := by decide +kernel
theorem dX12_constrain_96 : decode cX12_constrain 96 = .ok (.iload 4, 2) := by decide +kernel
theorem dX12_constrain_98 : decode cX12_constrain 98 = .ok (.iconst (-1), 1) := by decide +kernel
theorem dX12_constrain_99 : decode cX12_constrain 99 = .ok (.if_icmp .eq 7, 3) := by decide +kernel
theorem dX12_constrain_102 : decode cX12_constrain 102 = .ok (.iconst 1, 1) := by decide +kernel
theorem dX12_constrain_103 : decode cX12_constrain 103 = .ok (.goto 4, 3) := by decide +kernel
theorem dX12_constrain_106 : decode cX12_constrain 106 = .ok (.iconst 0, 1) := by decide +kernel
theorem dX12_constrain_107 : decode cX12_constrain 107 = .ok (.aload_n 0, 1) := by decide +kernel
theorem dX12_constrain_108 : decode cX12_constrain 108 = .ok (.getfield 13, 3) := by decide +kernel
theorem dX12_constrain_111 : decode cX12_constrain 111 = .ok (.iload_n 1, 1) := by decide +kernel
theorem dX12_constrain_112 : decode cX12_constrain 112 = .ok (.iaload, 1) := by decide +kernel
theorem dX12_constrain_113 : decode cX12_constrain 113 = .ok (.iconst 2, 1) := by decide +kernel
theorem dX12_constrain_114 : decode cX12_constrain 114 = .ok (.if_icmp .le 7, 3) := by decide +kernel
theorem dX12_constrain_117 : decode cX12_constrain 117 = .ok (.iconst 1, 1) := by decide +kernel
theorem dX12_constrain_118 : decode cX12_constrain 118 = .ok (.goto 4, 3) := by decide +kernel
theorem dX12_constrain_121 : decode cX12_constrain 121 = .ok (.iconst 0, 1) := by decide +kernel
theorem dX12_constrain_122 : decode cX12_constrain 122 = .ok (.if_icmp .ne 7, 3) := by decide +kernel
theorem dX12_constrain_125 : decode cX12_constrain 125 = .ok (.iconst 1, 1) := by decide +kernel
theorem dX12_constrain_126 : decode cX12_constrain 126 = .ok (.goto 4, 3) := by decide +kernel
theorem dX12_constrain_129 : decode cX12_constrain 129 = .ok (.iconst 0, 1) := by decide +kernel
theorem dX12_constrain_130 : decode cX12_constrain 130 = .ok (.istore 6, 2) := by decide +kernel
theorem dX12_constrain_132 : decode cX12_constrain 132 = .ok (.aload_n 0, 1) := by decide +kernel
theorem dX12_constrain_133 : decode cX12_constrain 133 = .ok (.iload 6, 2) := by decide +kernel
theorem dX12_constrain_135 : decode cX12_constrain 135 = .ok (.ifCond .ne 7, 3) := by decide +kernel
theorem dX12_constrain_138 : decode cX12_constrain 138 = .ok (.iconst 2, 1) := by decide +kernel
theorem dX12_constrain_139 : decode cX12_constrain 139 = .ok (.goto 17, 3) := by decide +kernel
theorem dX12_constrain_142 : decode cX12_constrain 142 = .ok (.aload_n 0, 1) := by decide +kernel
theorem dX12_constrain_143 : decode cX12_constrain 143 = .ok (.getfield 73, 3) := by decide +kernel
theorem dX12_constrain_146 : decode cX12_constrain 146 = .ok (.bipush 16, 2) := by decide +kernel
theorem dX12_constrain_148 : decode cX12_constrain 148 = .ok (.if_icmp .ne 7, 3) := by decide +kernel
theorem dX12_constrain_151 : decode cX12_constrain 151 = .ok (.iconst 3, 1) := by decide +kernel
theorem dX12_constrain_152 : decode cX12_constrain 152 = .ok (.goto 4, 3) := by decide +kernel
theorem dX12_constrain_155 : decode cX12_constrain 155 = .ok (.iconst 0, 1) := by decide +kernel
theorem dX12_constrain_156 : decode cX12_constrain 156 = .ok (.putfield 56, 3) := by decide +kernel
theorem dX12_constrain_159 : decode cX12_constrain 159 = .ok (.aload_n 0, 1) := by decide +kernel
theorem dX12_constrain_160 : decode cX12_constrain 160 = .ok (.getfield 56, 3) := by decide +kernel
theorem dX12_constrain_163 : decode cX12_constrain 163 = .ok (.ifCond .le 5, 3) := by decide +kernel
theorem dX12_constrain_166 : decode cX12_constrain 166 = .ok (.iconst 0, 1) := by decide +kernel
theorem dX12_constrain_167 : decode cX12_constrain 167 = .ok (.ireturn, 1) := by decide +kernel
theorem dX12_constrain_168 : decode cX12_constrain 168 = .ok (.aload_n 0, 1) := by decide +kernel
theorem dX12_constrain_169 : decode cX12_constrain 169 = .ok (.getfield 41, 3) := by decide +kernel
theorem dX12_constrain_172 : decode cX12_constrain 172 = .ok (.aload_n 0, 1) := by decide +kernel
theorem dX12_constrain_173 : decode cX12_constrain 173 = .ok (.getfield 73, 3) := by decide +kernel
theorem dX12_constrain_176 : decode cX12_constrain 176 = .ok (.iload_n 1, 1) := by decide +kernel
theorem dX12_constrain_177 : decode cX12_constrain 177 = .ok (.iastore, 1) := by decide +kernel
theorem dX12_constrain_178 : decode cX12_constrain 178 = .ok (.aload_n 0, 1) := by decide +kernel
theorem dX12_constrain_179 : decode cX12_constrain 179 = .ok (.getfield 44, 3) := by decide +kernel
theorem dX12_constrain_182 : decode cX12_constrain 182 = .ok (.iconst 3, 1) := by decide +kernel
theorem dX12_constrain_183 : decode cX12_constrain 183 = .ok (.aload_n 0, 1) := by decide +kernel
theorem dX12_constrain_184 : decode cX12_constrain 184 = .ok (.getfield 73, 3) := by decide +kernel
theorem dX12_constrain_187 : decode cX12_constrain 187 = .ok (.imul, 1) := by decide +kernel
theorem dX12_constrain_188 : decode cX12_constrain 188 = .ok (.iload_n 2, 1) := by decide +kernel
theorem dX12_constrain_189 : decode cX12_constrain 189 = .ok (.iastore, 1) := by decide +kernel
theorem dX12_constrain_190 : decode cX12_constrain 190 = .ok (.aload_n 0, 1) := by decide +kernel
theorem dX12_constrain_191 : decode cX12_constrain 191 = .ok (.getfield 44, 3) := by decide +kernel
theorem dX12_constrain_194 : decode cX12_constrain 194 = .ok (.iconst 3, 1) := by decide +kernel
theorem dX12_constrain_195 : decode cX12_constrain 195 = .ok (.aload_n 0, 1) := by decide +kernel
theorem dX12_constrain_196 : decode cX12_constrain 196 = .ok (.getfield 73, 3) := by decide +kernel
theorem dX12_constrain_199 : decode cX12_constrain 199 = .ok (.imul, 1) := by decide +kernel
theorem dX12_constrain_200 : decode cX12_constrain 200 = .ok (.iconst 1, 1) := by decide +kernel
theorem dX12_constrain_201 : decode cX12_constrain 201 = .ok (.iadd, 1) := by decide +kernel
theorem dX12_constrain_202 : decode cX12_constrain 202 = .ok (.iload_n 3, 1) := by decide +kernel
theorem dX12_constrain_203 : decode cX12_constrain 203 = .ok (.iastore, 1) := by decide +kernel
theorem dX12_constrain_204 : decode cX12_constrain 204 = .ok (.aload_n 0, 1) := by decide +kernel
theorem dX12_constrain_205 : decode cX12_constrain 205 = .ok (.getfield 44, 3) := by decide +kernel
theorem dX12_constrain_208 : decode cX12_constrain 208 = .ok (.iconst 3, 1) := by decide +kernel
theorem dX12_constrain_209 : decode cX12_constrain 209 = .ok (.aload_n 0, 1) := by decide +kernel
theorem dX12_constrain_210 : decode cX12_constrain 210 = .ok (.getfield 73, 3) := by decide +kernel
theorem dX12_constrain_213 : decode cX12_constrain 213 = .ok (.imul, 1) := by decide +kernel
theorem dX12_constrain_214 : decode cX12_constrain 214 = .ok (.iconst 2, 1) := by decide +kernel
theorem dX12_constrain_215 : decode cX12_constrain 215 = .ok (.iadd, 1) := by decide +kernel
theorem dX12_constrain_216 : decode cX12_constrain 216 = .ok (.iload 4, 2) := by decide +kernel
theorem dX12_constrain_218 : decode cX12_constrain 218 = .ok (.iastore, 1) := by decide +kernel
theorem dX12_constrain_219 : decode cX12_constrain 219 = .ok (.aload_n 0, 1) := by decide +kernel
theorem dX12_constrain_220 : decode cX12_constrain 220 = .ok (.dup, 1) := by decide +kernel
theorem dX12_constrain_221 : decode cX12_constrain 221 = .ok (.getfield 73, 3) := by decide +kernel
theorem dX12_constrain_224 : decode cX12_constrain 224 = .ok (.iconst 1, 1) := by decide +kernel
theorem dX12_constrain_225 : decode cX12_constrain 225 = .ok (.iadd, 1) := by decide +kernel
theorem dX12_constrain_226 : decode cX12_constrain 226 = .ok (.putfield 73, 3) := by decide +kernel
theorem dX12_constrain_229 : decode cX12_constrain 229 = .ok (.aload_n 0, 1) := by decide +kernel
theorem dX12_constrain_230 : decode cX12_constrain 230 = .ok (.getfield 73, 3) := by decide +kernel
theorem dX12_constrain_233 : decode cX12_constrain 233 = .ok (.ireturn, 1) := by decide +kernel
theorem dX12_isSolution_0 : decode cX12_isSolution 0 = .ok (.iconst 1, 1) := by decide +kernel
theorem dX12_isSolution_1 : decode cX12_isSolution 1 = .ok (.istore_n 2, 1) := by decide +kernel
theorem dX12_isSolution_2 : decode cX12_isSolution 2 = .ok (.iconst 0, 1) := by decide +kernel
theorem dX12_isSolution_3 : decode cX12_isSolution 3 = .ok (.istore_n 3, 1) := by decide +kernel
theorem dX12_isSolution_4 : decode cX12_isSolution 4 = .ok (.iload_n 3, 1) := by decide +kernel
theorem dX12_isSolution_5 : decode cX12_isSolution 5 = .ok (.aload_n 0, 1) := by decide +kernel
theorem dX12_isSolution_6 : decode cX12_isSolution 6 = .ok (.getfield 73, 3) := by decide +kernel
theorem dX12_isSolution_9 : decode cX12_isSolution 9 = .ok (.if_icmp .ge 85, 3) := by decide +kernel
theorem dX12_isSolution_12 : decode cX12_isSolution 12 = .ok (.iload_n 2, 1) := by decide +kernel
theorem dX12_isSolution_13 : decode cX12_isSolution 13 = .ok (.ifCond .eq 81, 3) := by decide +kernel
theorem dX12_isSolution_16 : decode cX12_isSolution 16 = .ok (.iconst 0, 1) := by decide +kernel
theorem dX12_isSolution_17 : decode cX12_isSolution 17 = .ok (.istore 4, 2) := by decide +kernel
theorem dX12_isSolution_19 : decode cX12_isSolution 19 = .ok (.aload_n 0, 1) := by decide +kernel
theorem dX12_isSolution_20 : decode cX12_isSolution 20 = .ok (.getfield 13, 3) := by decide +kernel
theorem dX12_isSolution_23 : decode cX12_isSolution 23 = .ok (.aload_n 0, 1) := by decide +kernel
theorem dX12_isSolution_24 : decode cX12_isSolution 24 = .ok (.getfield 41, 3) := by decide +kernel
theorem dX12_isSolution_27 : decode cX12_isSolution 27 = .ok (.iload_n 3, 1) := by decide +kernel
theorem dX12_isSolution_28 : decode cX12_isSolution 28 = .ok (.iaload, 1) := by decide +kernel
theorem dX12_isSolution_29 : decode cX12_isSolution 29 = .ok (.iaload, 1) := by decide +kernel
theorem dX12_isSolution_30 : decode cX12_isSolution 30 = .ok (.iconst 1, 1) := by decide +kernel
theorem dX12_isSolution_31 : decode cX12_isSolution 31 = .ok (.isub, 1) := by decide +kernel
theorem dX12_isSolution_32 : decode cX12_isSolution 32 = .ok (.istore 5, 2) := by decide +kernel
theorem dX12_isSolution_34 : decode cX12_isSolution 34 = .ok (.iload 5, 2) := by decide +kernel
theorem dX12_isSolution_36 : decode cX12_isSolution 36 = .ok (.ifCond .lt 35, 3) := by decide +kernel
theorem dX12_isSolution_39 : decode cX12_isSolution 39 = .ok (.iload 4, 2) := by decide +kernel
theorem dX12_isSolution_41 : decode cX12_isSolution 41 = .ok (.aload_n 0, 1) := by decide +kernel
theorem dX12_isSolution_42 : decode cX12_isSolution 42 = .ok (.getfield 7, 3) := by decide +kernel
theorem dX12_isSolution_45 : decode cX12_isSolution 45 = .ok (.imul, 1) := by decide +kernel
theorem dX12_isSolution_46 : decode cX12_isSolution 46 = .ok (.aload_n 0, 1) := by decide +kernel
theorem dX12_isSolution_47 : decode cX12_isSolution 47 = .ok (.iload_n 1, 1) := by decide +kernel
theorem dX12_isSolution_48 : decode cX12_isSolution 48 = .ok (.aload_n 0, 1) := by decide +kernel
theorem dX12_isSolution_49 : decode cX12_isSolution 49 = .ok (.getfield 44, 3) := by decide +kernel
theorem dX12_isSolution_52 : decode cX12_isSolution 52 = .ok (.iconst 3, 1) := by decide +kernel
theorem dX12_isSolution_53 : decode cX12_isSolution 53 = .ok (.iload_n 3, 1) := by decide +kernel
theorem dX12_isSolution_54 : decode cX12_isSolution 54 = .ok (.imul, 1) := by decide +kernel
theorem dX12_isSolution_55 : decode cX12_isSolution 55 = .ok (.iload 5, 2) := by decide +kernel
theorem dX12_isSolution_57 : decode cX12_isSolution 57 = .ok (.iadd, 1) := by decide +kernel
theorem dX12_isSolution_58 : decode cX12_isSolution 58 = .ok (.iaload, 1) := by decide +kernel
theorem dX12_isSolution_59 : decode cX12_isSolution 59 = .ok (.invokevirtual 105, 3) := by decide +kernel
theorem dX12_isSolution_62 : decode cX12_isSolution 62 = .ok (.iadd, 1) := by decide +kernel
theorem dX12_isSolution_63 : decode cX12_isSolution 63 = .ok (.istore 4, 2) := by decide +kernel
theorem dX12_isSolution_65 : decode cX12_isSolution 65 = .ok (.iinc 5 (-1), 3) := by decide +kernel
theorem dX12_isSolution_68 : decode cX12_isSolution 68 = .ok (.goto (-34), 3) := by decide +kernel
theorem dX12_isSolution_71 : decode cX12_isSolution 71 = .ok (.aload_n 0, 1) := by decide +kernel
theorem dX12_isSolution_72 : decode cX12_isSolution 72 = .ok (.getfield 17, 3) := by decide +kernel
theorem dX12_isSolution_75 : decode cX12_isSolution 75 = .ok (.aload_n 0, 1) := by decide +kernel
theorem dX12_isSolution_76 : decode cX12_isSolution 76 = .ok (.getfield 41, 3) := by decide +kernel
theorem dX12_isSolution_79 : decode cX12_isSolution 79 = .ok (.iload_n 3, 1) := by decide +kernel
theorem dX12_isSolution_80 : decode cX12_isSolution 80 = .ok (.iaload, 1) := by decide +kernel
theorem dX12_isSolution_81 : decode cX12_isSolution 81 = .ok (.iaload, 1) := by decide +kernel
theorem dX12_isSolution_82 : decode cX12_isSolution 82 = .ok (.iload 4, 2) := by decide +kernel
theorem dX12_isSolution_84 : decode cX12_isSolution 84 = .ok (.invokestatic 80, 3) := by decide +kernel
theorem dX12_isSolution_87 : decode cX12_isSolution 87 = .ok (.istore_n 2, 1) := by decide +kernel
theorem dX12_isSolution_88 : decode cX12_isSolution 88 = .ok (.iinc 3 1, 3) := by decide +kernel
theorem dX12_isSolution_91 : decode cX12_isSolution 91 = .ok (.goto (-87), 3) := by decide +kernel
theorem dX12_isSolution_94 : decode cX12_isSolution 94 = .ok (.iload_n 2, 1) := by decide +kernel
theorem dX12_isSolution_95 : decode cX12_isSolution 95 = .ok (.ireturn, 1) := by decide +kernel
theorem dX12_solutions_0 : decode cX12_solutions 0 = .ok (.aload_n 0, 1) := by decide +kernel
theorem dX12_solutions_1 : decode cX12_solutions 1 = .ok (.iconst 0, 1) := by decide +kernel
theorem dX12_solutions_2 : decode cX12_solutions 2 = .ok (.putfield 56, 3) := by decide +kernel
theorem dX12_solutions_5 : decode cX12_solutions 5 = .ok (.iconst 0, 1) := by decide +kernel
theorem dX12_solutions_6 : decode cX12_solutions 6 = .ok (.istore_n 1, 1) := by decide +kernel
theorem dX12_solutions_7 : decode cX12_solutions 7 = .ok (.iconst 0, 1) := by decide +kernel
theorem dX12_solutions_8 : decode cX12_solutions 8 = .ok (.istore_n 2, 1) := by decide +kernel
theorem dX12_solutions_9 : decode cX12_solutions 9 = .ok (.iload_n 2, 1) := by decide +kernel
theorem dX12_solutions_10 : decode cX12_solutions 10 = .ok (.aload_n 0, 1) := by decide +kernel
theorem dX12_solutions_11 : decode cX12_solutions 11 = .ok (.aload_n 0, 1) := by decide +kernel
theorem dX12_solutions_12 : decode cX12_solutions 12 = .ok (.getfield 38, 3) := by decide +kernel
theorem dX12_solutions_15 : decode cX12_solutions 15 = .ok (.invokevirtual 59, 3) := by decide +kernel
theorem dX12_solutions_18 : decode cX12_solutions 18 = .ok (.if_icmp .ge 25, 3) := by decide +kernel
theorem dX12_solutions_21 : decode cX12_solutions 21 = .ok (.iload_n 1, 1) := by decide +kernel
theorem dX12_solutions_22 : decode cX12_solutions 22 = .ok (.aload_n 0, 1) := by decide +kernel
theorem dX12_solutions_23 : decode cX12_solutions 23 = .ok (.iload_n 2, 1) := by decide +kernel
theorem dX12_solutions_24 : decode cX12_solutions 24 = .ok (.invokevirtual 212, 3) := by decide +kernel
theorem dX12_solutions_27 : decode cX12_solutions 27 = .ok (.ifCond .eq 7, 3) := by decide +kernel
theorem dX12_solutions_30 : decode cX12_solutions 30 = .ok (.iconst 1, 1) := by decide +kernel
theorem dX12_solutions_31 : decode cX12_solutions 31 = .ok (.goto 4, 3) := by decide +kernel
theorem dX12_solutions_34 : decode cX12_solutions 34 = .ok (.iconst 0, 1) := by decide +kernel
theorem dX12_solutions_35 : decode cX12_solutions 35 = .ok (.iadd, 1) := by decide +kernel
theorem dX12_solutions_36 : decode cX12_solutions 36 = .ok (.istore_n 1, 1) := by decide +kernel
theorem dX12_solutions_37 : decode cX12_solutions 37 = .ok (.iinc 2 1, 3) := by decide +kernel
theorem dX12_solutions_40 : decode cX12_solutions 40 = .ok (.goto (-31), 3) := by decide +kernel
theorem dX12_solutions_43 : decode cX12_solutions 43 = .ok (.iload_n 1, 1) := by decide +kernel
theorem dX12_solutions_44 : decode cX12_solutions 44 = .ok (.ireturn, 1) := by decide +kernel
theorem dX12_solutionsAnew_0 : decode cX12_solutionsAnew 0 = .ok (.aload_n 0, 1) := by decide +kernel
theorem dX12_solutionsAnew_1 : decode cX12_solutionsAnew 1 = .ok (.invokevirtual 215, 3) := by decide +kernel
theorem dX12_solutionsAnew_4 : decode cX12_solutionsAnew 4 = .ok (.ireturn, 1) := by decide +kernel
theorem dX12_solve_0 : decode cX12_solve 0 = .ok (.aload_n 0, 1) := by decide +kernel
theorem dX12_solve_1 : decode cX12_solve 1 = .ok (.iconst 0, 1) := by decide +kernel
theorem dX12_solve_2 : decode cX12_solve 2 = .ok (.putfield 56, 3) := by decide +kernel
theorem dX12_solve_5 : decode cX12_solve 5 = .ok (.iconst 0, 1) := by decide +kernel
theorem dX12_solve_6 : decode cX12_solve 6 = .ok (.istore_n 1, 1) := by decide +kernel
theorem dX12_solve_7 : decode cX12_solve 7 = .ok (.iload_n 1, 1) := by decide +kernel
theorem dX12_solve_8 : decode cX12_solve 8 = .ok (.aload_n 0, 1) := by decide +kernel
theorem dX12_solve_9 : decode cX12_solve 9 = .ok (.aload_n 0, 1) := by decide +kernel
theorem dX12_solve_10 : decode cX12_solve 10 = .ok (.getfield 38, 3) := by decide +kernel
theorem dX12_solve_13 : decode cX12_solve 13 = .ok (.invokevirtual 59, 3) := by decide +kernel
theorem dX12_solve_16 : decode cX12_solve 16 = .ok (.if_icmp .ge 19, 3) := by decide +kernel
theorem dX12_solve_19 : decode cX12_solve 19 = .ok (.aload_n 0, 1) := by decide +kernel
theorem dX12_solve_20 : decode cX12_solve 20 = .ok (.iload_n 1, 1) := by decide +kernel
theorem dX12_solve_21 : decode cX12_solve 21 = .ok (.invokevirtual 212, 3) := by decide +kernel
theorem dX12_solve_24 : decode cX12_solve 24 = .ok (.ifCond .eq 5, 3) := by decide +kernel
theorem dX12_solve_27 : decode cX12_solve 27 = .ok (.iload_n 1, 1) := by decide +kernel
theorem dX12_solve_28 : decode cX12_solve 28 = .ok (.ireturn, 1) := by decide +kernel
theorem dX12_solve_29 : decode cX12_solve 29 = .ok (.iinc 1 1, 3) := by decide +kernel
theorem dX12_solve_32 : decode cX12_solve 32 = .ok (.goto (-25), 3) := by decide +kernel
theorem dX12_solve_35 : decode cX12_solve 35 = .ok (.iconst (-1), 1) := by decide +kernel
theorem dX12_solve_36 : decode cX12_solve 36 = .ok (.ireturn, 1) := by decide +kernel
theorem dX12_canStand_0 : decode cX12_canStand 0 = .ok (.aload_n 0, 1) := by decide +kernel
theorem dX12_canStand_1 : decode cX12_canStand 1 = .ok (.getfield 41, 3) := by decide +kernel
theorem dX12_canStand_4 : decode cX12_canStand 4 = .ok (.iload_n 1, 1) := by decide +kernel
theorem dX12_canStand_5 : decode cX12_canStand 5 = .ok (.iaload, 1) := by decide +kernel
theorem dX12_canStand_6 : decode cX12_canStand 6 = .ok (.istore_n 3, 1) := by decide +kernel
theorem dX12_canStand_7 : decode cX12_canStand 7 = .ok (.aload_n 0, 1) := by decide +kernel
theorem dX12_canStand_8 : decode cX12_canStand 8 = .ok (.getfield 17, 3) := by decide +kernel
theorem dX12_canStand_11 : decode cX12_canStand 11 = .ok (.iload_n 3, 1) := by decide +kernel
theorem dX12_canStand_12 : decode cX12_canStand 12 = .ok (.iaload, 1) := by decide +kernel
theorem dX12_canStand_13 : decode cX12_canStand 13 = .ok (.iload_n 2, 1) := by decide +kernel
theorem dX12_canStand_14 : decode cX12_canStand 14 = .ok (.invokestatic 80, 3) := by decide +kernel
theorem dX12_canStand_17 : decode cX12_canStand 17 = .ok (.istore 4, 2) := by decide +kernel
theorem dX12_canStand_19 : decode cX12_canStand 19 = .ok (.iconst 0, 1) := by decide +kernel
theorem dX12_canStand_20 : decode cX12_canStand 20 = .ok (.istore 5, 2) := by decide +kernel
theorem dX12_canStand_22 : decode cX12_canStand 22 = .ok (.iload 5, 2) := by decide +kernel
theorem dX12_canStand_24 : decode cX12_canStand 24 = .ok (.aload_n 0, 1) := by decide +kernel
theorem dX12_canStand_25 : decode cX12_canStand 25 = .ok (.getfield 13, 3) := by decide +kernel
theorem dX12_canStand_28 : decode cX12_canStand 28 = .ok (.iload_n 3, 1) := by decide +kernel
theorem dX12_canStand_29 : decode cX12_canStand 29 = .ok (.iaload, 1) := by decide +kernel
theorem dX12_canStand_30 : decode cX12_canStand 30 = .ok (.if_icmp .ge 91, 3) := by decide +kernel
theorem dX12_canStand_33 : decode cX12_canStand 33 = .ok (.iconst 0, 1) := by decide +kernel
theorem dX12_canStand_34 : decode cX12_canStand 34 = .ok (.istore 6, 2) := by decide +kernel
theorem dX12_canStand_36 : decode cX12_canStand 36 = .ok (.iload 6, 2) := by decide +kernel
theorem dX12_canStand_38 : decode cX12_canStand 38 = .ok (.iload 5, 2) := by decide +kernel
theorem dX12_canStand_40 : decode cX12_canStand 40 = .ok (.if_icmp .ge 75, 3) := by decide +kernel
theorem dX12_canStand_43 : decode cX12_canStand 43 = .ok (.aload_n 0, 1) := by decide +kernel
theorem dX12_canStand_44 : decode cX12_canStand 44 = .ok (.getfield 44, 3) := by decide +kernel
theorem dX12_canStand_47 : decode cX12_canStand 47 = .ok (.iconst 3, 1) := by decide +kernel
theorem dX12_canStand_48 : decode cX12_canStand 48 = .ok (.iload_n 1, 1) := by decide +kernel
theorem dX12_canStand_49 : decode cX12_canStand 49 = .ok (.imul, 1) := by decide +kernel
theorem dX12_canStand_50 : decode cX12_canStand 50 = .ok (.iload 5, 2) := by decide +kernel
theorem dX12_canStand_52 : decode cX12_canStand 52 = .ok (.iadd, 1) := by decide +kernel
theorem dX12_canStand_53 : decode cX12_canStand 53 = .ok (.iaload, 1) := by decide +kernel
theorem dX12_canStand_54 : decode cX12_canStand 54 = .ok (.aload_n 0, 1) := by decide +kernel
theorem dX12_canStand_55 : decode cX12_canStand 55 = .ok (.getfield 44, 3) := by decide +kernel
theorem dX12_canStand_58 : decode cX12_canStand 58 = .ok (.iconst 3, 1) := by decide +kernel
theorem dX12_canStand_59 : decode cX12_canStand 59 = .ok (.iload_n 1, 1) := by decide +kernel
theorem dX12_canStand_60 : decode cX12_canStand 60 = .ok (.imul, 1) := by decide +kernel
theorem dX12_canStand_61 : decode cX12_canStand 61 = .ok (.iload 6, 2) := by decide +kernel
theorem dX12_canStand_63 : decode cX12_canStand 63 = .ok (.iadd, 1) := by decide +kernel
theorem dX12_canStand_64 : decode cX12_canStand 64 = .ok (.iaload, 1) := by decide +kernel
theorem dX12_canStand_65 : decode cX12_canStand 65 = .ok (.if_icmp .ne 7, 3) := by decide +kernel
theorem dX12_canStand_68 : decode cX12_canStand 68 = .ok (.iconst 1, 1) := by decide +kernel
theorem dX12_canStand_69 : decode cX12_canStand 69 = .ok (.goto 4, 3) := by decide +kernel
theorem dX12_canStand_72 : decode cX12_canStand 72 = .ok (.iconst 0, 1) := by decide +kernel
theorem dX12_canStand_73 : decode cX12_canStand 73 = .ok (.istore 7, 2) := by decide +kernel
theorem dX12_canStand_75 : decode cX12_canStand 75 = .ok (.iload 4, 2) := by decide +kernel
theorem dX12_canStand_77 : decode cX12_canStand 77 = .ok (.ifCond .eq 29, 3) := by decide +kernel
theorem dX12_canStand_80 : decode cX12_canStand 80 = .ok (.iload 7, 2) := by decide +kernel
theorem dX12_canStand_82 : decode cX12_canStand 82 = .ok (.ifCond .eq 20, 3) := by decide +kernel
theorem dX12_canStand_85 : decode cX12_canStand 85 = .ok (.aload_n 0, 1) := by decide +kernel
theorem dX12_canStand_86 : decode cX12_canStand 86 = .ok (.iload_n 2, 1) := by decide +kernel
theorem dX12_canStand_87 : decode cX12_canStand 87 = .ok (.iload 5, 2) := by decide +kernel
theorem dX12_canStand_89 : decode cX12_canStand 89 = .ok (.invokevirtual 105, 3) := by decide +kernel
theorem dX12_canStand_92 : decode cX12_canStand 92 = .ok (.aload_n 0, 1) := by decide +kernel
theorem dX12_canStand_93 : decode cX12_canStand 93 = .ok (.iload_n 2, 1) := by decide +kernel
theorem dX12_canStand_94 : decode cX12_canStand 94 = .ok (.iload 6, 2) := by decide +kernel
theorem dX12_canStand_96 : decode cX12_canStand 96 = .ok (.invokevirtual 105, 3) := by decide +kernel
theorem dX12_canStand_99 : decode cX12_canStand 99 = .ok (.if_icmp .ne 7, 3) := by decide +kernel
theorem dX12_canStand_102 : decode cX12_canStand 102 = .ok (.iconst 1, 1) := by decide +kernel
theorem dX12_canStand_103 : decode cX12_canStand 103 = .ok (.goto 4, 3) := by decide +kernel
theorem dX12_canStand_106 : decode cX12_canStand 106 = .ok (.iconst 0, 1) := by decide +kernel
theorem dX12_canStand_107 : decode cX12_canStand 107 = .ok (.istore 4, 2) := by decide +kernel
theorem dX12_canStand_109 : decode cX12_canStand 109 = .ok (.iinc 6 1, 3) := by decide +kernel
theorem dX12_canStand_112 : decode cX12_canStand 112 = .ok (.goto (-76), 3) := by decide +kernel
theorem dX12_canStand_115 : decode cX12_canStand 115 = .ok (.iinc 5 1, 3) := by decide +kernel
theorem dX12_canStand_118 : decode cX12_canStand 118 = .ok (.goto (-96), 3) := by decide +kernel
theorem dX12_canStand_121 : decode cX12_canStand 121 = .ok (.iload 4, 2) := by decide +kernel
theorem dX12_canStand_123 : decode cX12_canStand 123 = .ok (.ireturn, 1) := by decide +kernel
theorem dX12_isHeld_0 : decode cX12_isHeld 0 = .ok (.iconst 0, 1) := by decide +kernel
theorem dX12_isHeld_1 : decode cX12_isHeld 1 = .ok (.istore 4, 2) := by decide +kernel
theorem dX12_isHeld_3 : decode cX12_isHeld 3 = .ok (.aload_n 0, 1) := by decide +kernel
theorem dX12_isHeld_4 : decode cX12_isHeld 4 = .ok (.getfield 41, 3) := by decide +kernel
theorem dX12_isHeld_7 : decode cX12_isHeld 7 = .ok (.iload_n 1, 1) := by decide +kernel
theorem dX12_isHeld_8 : decode cX12_isHeld 8 = .ok (.iaload, 1) := by decide +kernel
theorem dX12_isHeld_9 : decode cX12_isHeld 9 = .ok (.istore 5, 2) := by decide +kernel
theorem dX12_isHeld_11 : decode cX12_isHeld 11 = .ok (.iconst 0, 1) := by decide +kernel
theorem dX12_isHeld_12 : decode cX12_isHeld 12 = .ok (.istore 6, 2) := by decide +kernel
theorem dX12_isHeld_14 : decode cX12_isHeld 14 = .ok (.iload 6, 2) := by decide +kernel
theorem dX12_isHeld_16 : decode cX12_isHeld 16 = .ok (.aload_n 0, 1) := by decide +kernel
theorem dX12_isHeld_17 : decode cX12_isHeld 17 = .ok (.aload_n 0, 1) := by decide +kernel
theorem dX12_isHeld_18 : decode cX12_isHeld 18 = .ok (.getfield 13, 3) := by decide +kernel
theorem dX12_isHeld_21 : decode cX12_isHeld 21 = .ok (.iload 5, 2) := by decide +kernel
theorem dX12_isHeld_23 : decode cX12_isHeld 23 = .ok (.iaload, 1) := by decide +kernel
theorem dX12_isHeld_24 : decode cX12_isHeld 24 = .ok (.invokevirtual 59, 3) := by decide +kernel
theorem dX12_isHeld_27 : decode cX12_isHeld 27 = .ok (.if_icmp .ge 108, 3) := by decide +kernel
theorem dX12_isHeld_30 : decode cX12_isHeld 30 = .ok (.iload 4, 2) := by decide +kernel
theorem dX12_isHeld_32 : decode cX12_isHeld 32 = .ok (.ifCond .ne 103, 3) := by decide +kernel
theorem dX12_isHeld_35 : decode cX12_isHeld 35 = .ok (.aload_n 0, 1) := by decide +kernel
theorem dX12_isHeld_36 : decode cX12_isHeld 36 = .ok (.iload_n 1, 1) := by decide +kernel
theorem dX12_isHeld_37 : decode cX12_isHeld 37 = .ok (.iload 6, 2) := by decide +kernel
theorem dX12_isHeld_39 : decode cX12_isHeld 39 = .ok (.invokevirtual 218, 3) := by decide +kernel
theorem dX12_isHeld_42 : decode cX12_isHeld 42 = .ok (.istore 4, 2) := by decide +kernel
theorem dX12_isHeld_44 : decode cX12_isHeld 44 = .ok (.iconst 0, 1) := by decide +kernel
theorem dX12_isHeld_45 : decode cX12_isHeld 45 = .ok (.istore 7, 2) := by decide +kernel
theorem dX12_isHeld_47 : decode cX12_isHeld 47 = .ok (.iload 7, 2) := by decide +kernel
theorem dX12_isHeld_49 : decode cX12_isHeld 49 = .ok (.aload_n 0, 1) := by decide +kernel
theorem dX12_isHeld_50 : decode cX12_isHeld 50 = .ok (.getfield 13, 3) := by decide +kernel
theorem dX12_isHeld_53 : decode cX12_isHeld 53 = .ok (.iload 5, 2) := by decide +kernel
theorem dX12_isHeld_55 : decode cX12_isHeld 55 = .ok (.iaload, 1) := by decide +kernel
theorem dX12_isHeld_56 : decode cX12_isHeld 56 = .ok (.if_icmp .ge 73, 3) := by decide +kernel
theorem dX12_isHeld_59 : decode cX12_isHeld 59 = .ok (.iload 4, 2) := by decide +kernel
theorem dX12_isHeld_61 : decode cX12_isHeld 61 = .ok (.ifCond .eq 68, 3) := by decide +kernel
theorem dX12_isHeld_64 : decode cX12_isHeld 64 = .ok (.aload_n 0, 1) := by decide +kernel
theorem dX12_isHeld_65 : decode cX12_isHeld 65 = .ok (.getfield 44, 3) := by decide +kernel
theorem dX12_isHeld_68 : decode cX12_isHeld 68 = .ok (.iconst 3, 1) := by decide +kernel
theorem dX12_isHeld_69 : decode cX12_isHeld 69 = .ok (.iload_n 1, 1) := by decide +kernel
theorem dX12_isHeld_70 : decode cX12_isHeld 70 = .ok (.imul, 1) := by decide +kernel
theorem dX12_isHeld_71 : decode cX12_isHeld 71 = .ok (.iload 7, 2) := by decide +kernel
theorem dX12_isHeld_73 : decode cX12_isHeld 73 = .ok (.iadd, 1) := by decide +kernel
theorem dX12_isHeld_74 : decode cX12_isHeld 74 = .ok (.iaload, 1) := by decide +kernel
theorem dX12_isHeld_75 : decode cX12_isHeld 75 = .ok (.istore 8, 2) := by decide +kernel
theorem dX12_isHeld_77 : decode cX12_isHeld 77 = .ok (.iload 8, 2) := by decide +kernel
theorem dX12_isHeld_79 : decode cX12_isHeld 79 = .ok (.iload_n 2, 1) := by decide +kernel
theorem dX12_isHeld_80 : decode cX12_isHeld 80 = .ok (.if_icmp .ne 23, 3) := by decide +kernel
theorem dX12_isHeld_83 : decode cX12_isHeld 83 = .ok (.aload_n 0, 1) := by decide +kernel
theorem dX12_isHeld_84 : decode cX12_isHeld 84 = .ok (.iload 6, 2) := by decide +kernel
theorem dX12_isHeld_86 : decode cX12_isHeld 86 = .ok (.iload 7, 2) := by decide +kernel
theorem dX12_isHeld_88 : decode cX12_isHeld 88 = .ok (.invokevirtual 105, 3) := by decide +kernel
theorem dX12_isHeld_91 : decode cX12_isHeld 91 = .ok (.iload_n 3, 1) := by decide +kernel
theorem dX12_isHeld_92 : decode cX12_isHeld 92 = .ok (.if_icmp .ne 7, 3) := by decide +kernel
theorem dX12_isHeld_95 : decode cX12_isHeld 95 = .ok (.iconst 1, 1) := by decide +kernel
theorem dX12_isHeld_96 : decode cX12_isHeld 96 = .ok (.goto 25, 3) := by decide +kernel
theorem dX12_isHeld_99 : decode cX12_isHeld 99 = .ok (.iconst 0, 1) := by decide +kernel
theorem dX12_isHeld_100 : decode cX12_isHeld 100 = .ok (.goto 21, 3) := by decide +kernel
theorem dX12_isHeld_103 : decode cX12_isHeld 103 = .ok (.aload_n 0, 1) := by decide +kernel
theorem dX12_isHeld_104 : decode cX12_isHeld 104 = .ok (.getfield 50, 3) := by decide +kernel
theorem dX12_isHeld_107 : decode cX12_isHeld 107 = .ok (.iload 8, 2) := by decide +kernel
theorem dX12_isHeld_109 : decode cX12_isHeld 109 = .ok (.iaload, 1) := by decide +kernel
theorem dX12_isHeld_110 : decode cX12_isHeld 110 = .ok (.aload_n 0, 1) := by decide +kernel
theorem dX12_isHeld_111 : decode cX12_isHeld 111 = .ok (.iload 6, 2) := by decide +kernel
theorem dX12_isHeld_113 : decode cX12_isHeld 113 = .ok (.iload 7, 2) := by decide +kernel
theorem dX12_isHeld_115 : decode cX12_isHeld 115 = .ok (.invokevirtual 105, 3) := by decide +kernel
theorem dX12_isHeld_118 : decode cX12_isHeld 118 = .ok (.invokestatic 80, 3) := by decide +kernel
theorem dX12_isHeld_121 : decode cX12_isHeld 121 = .ok (.istore 4, 2) := by decide +kernel
theorem dX12_isHeld_123 : decode cX12_isHeld 123 = .ok (.iinc 7 1, 3) := by decide +kernel
theorem dX12_isHeld_126 : decode cX12_isHeld 126 = .ok (.goto (-79), 3) := by decide +kernel
theorem dX12_isHeld_129 : decode cX12_isHeld 129 = .ok (.iinc 6 1, 3) := by decide +kernel
theorem dX12_isHeld_132 : decode cX12_isHeld 132 = .ok (.goto (-118), 3) := by decide +kernel
theorem dX12_isHeld_135 : decode cX12_isHeld 135 = .ok (.iload 4, 2) := by decide +kernel
theorem dX12_isHeld_137 : decode cX12_isHeld 137 = .ok (.ireturn, 1) := by decide +kernel
theorem dX12_concerns_0 : decode cX12_concerns 0 = .ok (.iconst 0, 1) := by decide +kernel
theorem dX12_concerns_1 : decode cX12_concerns 1 = .ok (.istore_n 3, 1) := by decide +kernel
theorem dX12_concerns_2 : decode cX12_concerns 2 = .ok (.iconst 0, 1) := by decide +kernel
theorem dX12_concerns_3 : decode cX12_concerns 3 = .ok (.istore 4, 2) := by decide +kernel
theorem dX12_concerns_5 : decode cX12_concerns 5 = .ok (.iload 4, 2) := by decide +kernel
theorem dX12_concerns_7 : decode cX12_concerns 7 = .ok (.aload_n 0, 1) := by decide +kernel
theorem dX12_concerns_8 : decode cX12_concerns 8 = .ok (.getfield 13, 3) := by decide +kernel
theorem dX12_concerns_11 : decode cX12_concerns 11 = .ok (.aload_n 0, 1) := by decide +kernel
theorem dX12_concerns_12 : decode cX12_concerns 12 = .ok (.getfield 41, 3) := by decide +kernel
theorem dX12_concerns_15 : decode cX12_concerns 15 = .ok (.iload_n 1, 1) := by decide +kernel
theorem dX12_concerns_16 : decode cX12_concerns 16 = .ok (.iaload, 1) := by decide +kernel
theorem dX12_concerns_17 : decode cX12_concerns 17 = .ok (.iaload, 1) := by decide +kernel
theorem dX12_concerns_18 : decode cX12_concerns 18 = .ok (.if_icmp .ge 34, 3) := by decide +kernel
theorem dX12_concerns_21 : decode cX12_concerns 21 = .ok (.iload_n 3, 1) := by decide +kernel
theorem dX12_concerns_22 : decode cX12_concerns 22 = .ok (.ifCond .ne 18, 3) := by decide +kernel
theorem dX12_concerns_25 : decode cX12_concerns 25 = .ok (.aload_n 0, 1) := by decide +kernel
theorem dX12_concerns_26 : decode cX12_concerns 26 = .ok (.getfield 44, 3) := by decide +kernel
theorem dX12_concerns_29 : decode cX12_concerns 29 = .ok (.iconst 3, 1) := by decide +kernel
theorem dX12_concerns_30 : decode cX12_concerns 30 = .ok (.iload_n 1, 1) := by decide +kernel
theorem dX12_concerns_31 : decode cX12_concerns 31 = .ok (.imul, 1) := by decide +kernel
theorem dX12_concerns_32 : decode cX12_concerns 32 = .ok (.iload 4, 2) := by decide +kernel
theorem dX12_concerns_34 : decode cX12_concerns 34 = .ok (.iadd, 1) := by decide +kernel
theorem dX12_concerns_35 : decode cX12_concerns 35 = .ok (.iaload, 1) := by decide +kernel
theorem dX12_concerns_36 : decode cX12_concerns 36 = .ok (.iload_n 2, 1) := by decide +kernel
theorem dX12_concerns_37 : decode cX12_concerns 37 = .ok (.if_icmp .ne 7, 3) := by decide +kernel
theorem dX12_concerns_40 : decode cX12_concerns 40 = .ok (.iconst 1, 1) := by decide +kernel
theorem dX12_concerns_41 : decode cX12_concerns 41 = .ok (.goto 4, 3) := by decide +kernel
theorem dX12_concerns_44 : decode cX12_concerns 44 = .ok (.iconst 0, 1) := by decide +kernel
theorem dX12_concerns_45 : decode cX12_concerns 45 = .ok (.istore_n 3, 1) := by decide +kernel
theorem dX12_concerns_46 : decode cX12_concerns 46 = .ok (.iinc 4 1, 3) := by decide +kernel
theorem dX12_concerns_49 : decode cX12_concerns 49 = .ok (.goto (-44), 3) := by decide +kernel
theorem dX12_concerns_52 : decode cX12_concerns 52 = .ok (.iload_n 3, 1) := by decide +kernel
theorem dX12_concerns_53 : decode cX12_concerns 53 = .ok (.ireturn, 1) := by decide +kernel
theorem dX12_findsLeft_0 : decode cX12_findsLeft 0 = .ok (.iconst 0, 1) := by decide +kernel
theorem dX12_findsLeft_1 : decode cX12_findsLeft 1 = .ok (.istore_n 1, 1) := by decide +kernel
theorem dX12_findsLeft_2 : decode cX12_findsLeft 2 = .ok (.iload_n 1, 1) := by decide +kernel
theorem dX12_findsLeft_3 : decode cX12_findsLeft 3 = .ok (.aload_n 0, 1) := by decide +kernel
theorem dX12_findsLeft_4 : decode cX12_findsLeft 4 = .ok (.getfield 38, 3) := by decide +kernel
theorem dX12_findsLeft_7 : decode cX12_findsLeft 7 = .ok (.if_icmp .ge 23, 3) := by decide +kernel
theorem dX12_findsLeft_10 : decode cX12_findsLeft 10 = .ok (.aload_n 0, 1) := by decide +kernel
theorem dX12_findsLeft_11 : decode cX12_findsLeft 11 = .ok (.getfield 50, 3) := by decide +kernel
theorem dX12_findsLeft_14 : decode cX12_findsLeft 14 = .ok (.iload_n 1, 1) := by decide +kernel
theorem dX12_findsLeft_15 : decode cX12_findsLeft 15 = .ok (.iconst 1, 1) := by decide +kernel
theorem dX12_findsLeft_16 : decode cX12_findsLeft 16 = .ok (.aload_n 0, 1) := by decide +kernel
theorem dX12_findsLeft_17 : decode cX12_findsLeft 17 = .ok (.getfield 7, 3) := by decide +kernel
theorem dX12_findsLeft_20 : decode cX12_findsLeft 20 = .ok (.ishl, 1) := by decide +kernel
theorem dX12_findsLeft_21 : decode cX12_findsLeft 21 = .ok (.iconst 1, 1) := by decide +kernel
theorem dX12_findsLeft_22 : decode cX12_findsLeft 22 = .ok (.isub, 1) := by decide +kernel
theorem dX12_findsLeft_23 : decode cX12_findsLeft 23 = .ok (.iastore, 1) := by decide +kernel
theorem dX12_findsLeft_24 : decode cX12_findsLeft 24 = .ok (.iinc 1 1, 3) := by decide +kernel
theorem dX12_findsLeft_27 : decode cX12_findsLeft 27 = .ok (.goto (-25), 3) := by decide +kernel
theorem dX12_findsLeft_30 : decode cX12_findsLeft 30 = .ok (.iconst 1, 1) := by decide +kernel
theorem dX12_findsLeft_31 : decode cX12_findsLeft 31 = .ok (.istore_n 1, 1) := by decide +kernel
theorem dX12_findsLeft_32 : decode cX12_findsLeft 32 = .ok (.iload_n 1, 1) := by decide +kernel
theorem dX12_findsLeft_33 : decode cX12_findsLeft 33 = .ok (.ifCond .eq 122, 3) := by decide +kernel
theorem dX12_findsLeft_36 : decode cX12_findsLeft 36 = .ok (.iconst 0, 1) := by decide +kernel
theorem dX12_findsLeft_37 : decode cX12_findsLeft 37 = .ok (.istore_n 1, 1) := by decide +kernel
theorem dX12_findsLeft_38 : decode cX12_findsLeft 38 = .ok (.iconst 0, 1) := by decide +kernel
theorem dX12_findsLeft_39 : decode cX12_findsLeft 39 = .ok (.istore_n 2, 1) := by decide +kernel
theorem dX12_findsLeft_40 : decode cX12_findsLeft 40 = .ok (.iload_n 2, 1) := by decide +kernel
theorem dX12_findsLeft_41 : decode cX12_findsLeft 41 = .ok (.aload_n 0, 1) := by decide +kernel
theorem dX12_findsLeft_42 : decode cX12_findsLeft 42 = .ok (.getfield 73, 3) := by decide +kernel
theorem dX12_findsLeft_45 : decode cX12_findsLeft 45 = .ok (.aload_n 0, 1) := by decide +kernel
theorem dX12_findsLeft_46 : decode cX12_findsLeft 46 = .ok (.getfield 38, 3) := by decide +kernel
theorem dX12_findsLeft_49 : decode cX12_findsLeft 49 = .ok (.imul, 1) := by decide +kernel
theorem dX12_findsLeft_50 : decode cX12_findsLeft 50 = .ok (.aload_n 0, 1) := by decide +kernel
theorem dX12_findsLeft_51 : decode cX12_findsLeft 51 = .ok (.getfield 7, 3) := by decide +kernel
theorem dX12_findsLeft_54 : decode cX12_findsLeft 54 = .ok (.imul, 1) := by decide +kernel
theorem dX12_findsLeft_55 : decode cX12_findsLeft 55 = .ok (.if_icmp .ge 97, 3) := by decide +kernel
theorem dX12_findsLeft_58 : decode cX12_findsLeft 58 = .ok (.iload_n 2, 1) := by decide +kernel
theorem dX12_findsLeft_59 : decode cX12_findsLeft 59 = .ok (.aload_n 0, 1) := by decide +kernel
theorem dX12_findsLeft_60 : decode cX12_findsLeft 60 = .ok (.getfield 7, 3) := by decide +kernel
theorem dX12_findsLeft_63 : decode cX12_findsLeft 63 = .ok (.idiv, 1) := by decide +kernel
theorem dX12_findsLeft_64 : decode cX12_findsLeft 64 = .ok (.aload_n 0, 1) := by decide +kernel
theorem dX12_findsLeft_65 : decode cX12_findsLeft 65 = .ok (.getfield 38, 3) := by decide +kernel
theorem dX12_findsLeft_68 : decode cX12_findsLeft 68 = .ok (.idiv, 1) := by decide +kernel
theorem dX12_findsLeft_69 : decode cX12_findsLeft 69 = .ok (.istore_n 3, 1) := by decide +kernel
theorem dX12_findsLeft_70 : decode cX12_findsLeft 70 = .ok (.iload_n 2, 1) := by decide +kernel
theorem dX12_findsLeft_71 : decode cX12_findsLeft 71 = .ok (.aload_n 0, 1) := by decide +kernel
theorem dX12_findsLeft_72 : decode cX12_findsLeft 72 = .ok (.getfield 7, 3) := by decide +kernel
theorem dX12_findsLeft_75 : decode cX12_findsLeft 75 = .ok (.idiv, 1) := by decide +kernel
theorem dX12_findsLeft_76 : decode cX12_findsLeft 76 = .ok (.aload_n 0, 1) := by decide +kernel
theorem dX12_findsLeft_77 : decode cX12_findsLeft 77 = .ok (.getfield 38, 3) := by decide +kernel
theorem dX12_findsLeft_80 : decode cX12_findsLeft 80 = .ok (.irem, 1) := by decide +kernel
theorem dX12_findsLeft_81 : decode cX12_findsLeft 81 = .ok (.istore 4, 2) := by decide +kernel
theorem dX12_findsLeft_83 : decode cX12_findsLeft 83 = .ok (.iload_n 2, 1) := by decide +kernel
theorem dX12_findsLeft_84 : decode cX12_findsLeft 84 = .ok (.aload_n 0, 1) := by decide +kernel
theorem dX12_findsLeft_85 : decode cX12_findsLeft 85 = .ok (.getfield 7, 3) := by decide +kernel
theorem dX12_findsLeft_88 : decode cX12_findsLeft 88 = .ok (.irem, 1) := by decide +kernel
theorem dX12_findsLeft_89 : decode cX12_findsLeft 89 = .ok (.istore 5, 2) := by decide +kernel
theorem dX12_findsLeft_91 : decode cX12_findsLeft 91 = .ok (.aload_n 0, 1) := by decide +kernel
theorem dX12_findsLeft_92 : decode cX12_findsLeft 92 = .ok (.getfield 50, 3) := by decide +kernel
theorem dX12_findsLeft_95 : decode cX12_findsLeft 95 = .ok (.iload 4, 2) := by decide +kernel
theorem dX12_findsLeft_97 : decode cX12_findsLeft 97 = .ok (.iaload, 1) := by decide +kernel
theorem dX12_findsLeft_98 : decode cX12_findsLeft 98 = .ok (.iload 5, 2) := by decide +kernel
theorem dX12_findsLeft_100 : decode cX12_findsLeft 100 = .ok (.invokestatic 80, 3) := by decide +kernel
theorem dX12_findsLeft_103 : decode cX12_findsLeft 103 = .ok (.ifCond .eq 43, 3) := by decide +kernel
theorem dX12_findsLeft_106 : decode cX12_findsLeft 106 = .ok (.aload_n 0, 1) := by decide +kernel
theorem dX12_findsLeft_107 : decode cX12_findsLeft 107 = .ok (.iload_n 3, 1) := by decide +kernel
theorem dX12_findsLeft_108 : decode cX12_findsLeft 108 = .ok (.iload 4, 2) := by decide +kernel
theorem dX12_findsLeft_110 : decode cX12_findsLeft 110 = .ok (.invokevirtual 221, 3) := by decide +kernel
theorem dX12_findsLeft_113 : decode cX12_findsLeft 113 = .ok (.ifCond .eq 33, 3) := by decide +kernel
theorem dX12_findsLeft_116 : decode cX12_findsLeft 116 = .ok (.aload_n 0, 1) := by decide +kernel
theorem dX12_findsLeft_117 : decode cX12_findsLeft 117 = .ok (.iload_n 3, 1) := by decide +kernel
theorem dX12_findsLeft_118 : decode cX12_findsLeft 118 = .ok (.iload 4, 2) := by decide +kernel
theorem dX12_findsLeft_120 : decode cX12_findsLeft 120 = .ok (.iload 5, 2) := by decide +kernel
theorem dX12_findsLeft_122 : decode cX12_findsLeft 122 = .ok (.invokevirtual 224, 3) := by decide +kernel
theorem dX12_findsLeft_125 : decode cX12_findsLeft 125 = .ok (.ifCond .ne 21, 3) := by decide +kernel
theorem dX12_findsLeft_128 : decode cX12_findsLeft 128 = .ok (.aload_n 0, 1) := by decide +kernel
theorem dX12_findsLeft_129 : decode cX12_findsLeft 129 = .ok (.getfield 50, 3) := by decide +kernel
theorem dX12_findsLeft_132 : decode cX12_findsLeft 132 = .ok (.iload 4, 2) := by decide +kernel
theorem dX12_findsLeft_134 : decode cX12_findsLeft 134 = .ok (.dup2, 1) := by decide +kernel
theorem dX12_findsLeft_135 : decode cX12_findsLeft 135 = .ok (.iaload, 1) := by decide +kernel
theorem dX12_findsLeft_136 : decode cX12_findsLeft 136 = .ok (.iconst 1, 1) := by decide +kernel
theorem dX12_findsLeft_137 : decode cX12_findsLeft 137 = .ok (.iload 5, 2) := by decide +kernel
theorem dX12_findsLeft_139 : decode cX12_findsLeft 139 = .ok (.ishl, 1) := by decide +kernel
theorem dX12_findsLeft_140 : decode cX12_findsLeft 140 = .ok (.iconst (-1), 1) := by decide +kernel
theorem dX12_findsLeft_141 : decode cX12_findsLeft 141 = .ok (.ixor, 1) := by decide +kernel
theorem dX12_findsLeft_142 : decode cX12_findsLeft 142 = .ok (.iand, 1) := by decide +kernel
theorem dX12_findsLeft_143 : decode cX12_findsLeft 143 = .ok (.iastore, 1) := by decide +kernel
theorem dX12_findsLeft_144 : decode cX12_findsLeft 144 = .ok (.iconst 1, 1) := by decide +kernel
theorem dX12_findsLeft_145 : decode cX12_findsLeft 145 = .ok (.istore_n 1, 1) := by decide +kernel
theorem dX12_findsLeft_146 : decode cX12_findsLeft 146 = .ok (.iinc 2 1, 3) := by decide +kernel
theorem dX12_findsLeft_149 : decode cX12_findsLeft 149 = .ok (.goto (-109), 3) := by decide +kernel
theorem dX12_findsLeft_152 : decode cX12_findsLeft 152 = .ok (.goto (-120), 3) := by decide +kernel
theorem dX12_findsLeft_155 : decode cX12_findsLeft 155 = .ok (.return_, 1) := by decide +kernel
theorem dX12_left_0 : decode cX12_left 0 = .ok (.aload_n 0, 1) := by decide +kernel
theorem dX12_left_1 : decode cX12_left 1 = .ok (.iload_n 1, 1) := by decide +kernel
theorem dX12_left_2 : decode cX12_left 2 = .ok (.iconst 0, 1) := by decide +kernel
theorem dX12_left_3 : decode cX12_left 3 = .ok (.aload_n 0, 1) := by decide +kernel
theorem dX12_left_4 : decode cX12_left 4 = .ok (.getfield 38, 3) := by decide +kernel
theorem dX12_left_7 : decode cX12_left 7 = .ok (.iconst 1, 1) := by decide +kernel
theorem dX12_left_8 : decode cX12_left 8 = .ok (.isub, 1) := by decide +kernel
theorem dX12_left_9 : decode cX12_left 9 = .ok (.invokestatic 63, 3) := by decide +kernel
theorem dX12_left_12 : decode cX12_left 12 = .ok (.ifCond .eq 7, 3) := by decide +kernel
theorem dX12_left_15 : decode cX12_left 15 = .ok (.iconst 0, 1) := by decide +kernel
theorem dX12_left_16 : decode cX12_left 16 = .ok (.goto 4, 3) := by decide +kernel
theorem dX12_left_19 : decode cX12_left 19 = .ok (.iconst 1, 1) := by decide +kernel
theorem dX12_left_20 : decode cX12_left 20 = .ok (.putfield 56, 3) := by decide +kernel
theorem dX12_left_23 : decode cX12_left 23 = .ok (.aload_n 0, 1) := by decide +kernel
theorem dX12_left_24 : decode cX12_left 24 = .ok (.getfield 56, 3) := by decide +kernel
theorem dX12_left_27 : decode cX12_left 27 = .ok (.ifCond .le 5, 3) := by decide +kernel
theorem dX12_left_30 : decode cX12_left 30 = .ok (.iconst 0, 1) := by decide +kernel
theorem dX12_left_31 : decode cX12_left 31 = .ok (.ireturn, 1) := by decide +kernel
theorem dX12_left_32 : decode cX12_left 32 = .ok (.aload_n 0, 1) := by decide +kernel
theorem dX12_left_33 : decode cX12_left 33 = .ok (.invokevirtual 227, 3) := by decide +kernel
theorem dX12_left_36 : decode cX12_left 36 = .ok (.aload_n 0, 1) := by decide +kernel
theorem dX12_left_37 : decode cX12_left 37 = .ok (.getfield 50, 3) := by decide +kernel
theorem dX12_left_40 : decode cX12_left 40 = .ok (.iload_n 1, 1) := by decide +kernel
theorem dX12_left_41 : decode cX12_left 41 = .ok (.iaload, 1) := by decide +kernel
theorem dX12_left_42 : decode cX12_left 42 = .ok (.ireturn, 1) := by decide +kernel
theorem dX12_canBoth_0 : decode cX12_canBoth 0 = .ok (.iconst 1, 1) := by decide +kernel
theorem dX12_canBoth_1 : decode cX12_canBoth 1 = .ok (.istore 5, 2) := by decide +kernel
theorem dX12_canBoth_3 : decode cX12_canBoth 3 = .ok (.iconst 0, 1) := by decide +kernel
theorem dX12_canBoth_4 : decode cX12_canBoth 4 = .ok (.istore 6, 2) := by decide +kernel
theorem dX12_canBoth_6 : decode cX12_canBoth 6 = .ok (.iload 6, 2) := by decide +kernel
theorem dX12_canBoth_8 : decode cX12_canBoth 8 = .ok (.aload_n 0, 1) := by decide +kernel
theorem dX12_canBoth_9 : decode cX12_canBoth 9 = .ok (.getfield 73, 3) := by decide +kernel
theorem dX12_canBoth_12 : decode cX12_canBoth 12 = .ok (.if_icmp .ge 161, 3) := by decide +kernel
theorem dX12_canBoth_15 : decode cX12_canBoth 15 = .ok (.iload 5, 2) := by decide +kernel
theorem dX12_canBoth_17 : decode cX12_canBoth 17 = .ok (.ifCond .eq 156, 3) := by decide +kernel
theorem dX12_canBoth_20 : decode cX12_canBoth 20 = .ok (.aload_n 0, 1) := by decide +kernel
theorem dX12_canBoth_21 : decode cX12_canBoth 21 = .ok (.getfield 41, 3) := by decide +kernel
theorem dX12_canBoth_24 : decode cX12_canBoth 24 = .ok (.iload 6, 2) := by decide +kernel
theorem dX12_canBoth_26 : decode cX12_canBoth 26 = .ok (.iaload, 1) := by decide +kernel
theorem dX12_canBoth_27 : decode cX12_canBoth 27 = .ok (.istore 7, 2) := by decide +kernel
theorem dX12_canBoth_29 : decode cX12_canBoth 29 = .ok (.iconst 0, 1) := by decide +kernel
theorem dX12_canBoth_30 : decode cX12_canBoth 30 = .ok (.istore 8, 2) := by decide +kernel
theorem dX12_canBoth_32 : decode cX12_canBoth 32 = .ok (.iconst 0, 1) := by decide +kernel
theorem dX12_canBoth_33 : decode cX12_canBoth 33 = .ok (.istore 9, 2) := by decide +kernel
theorem dX12_canBoth_35 : decode cX12_canBoth 35 = .ok (.iload 9, 2) := by decide +kernel
theorem dX12_canBoth_37 : decode cX12_canBoth 37 = .ok (.aload_n 0, 1) := by decide +kernel
theorem dX12_canBoth_38 : decode cX12_canBoth 38 = .ok (.aload_n 0, 1) := by decide +kernel
theorem dX12_canBoth_39 : decode cX12_canBoth 39 = .ok (.getfield 13, 3) := by decide +kernel
theorem dX12_canBoth_42 : decode cX12_canBoth 42 = .ok (.iload 7, 2) := by decide +kernel
theorem dX12_canBoth_44 : decode cX12_canBoth 44 = .ok (.iaload, 1) := by decide +kernel
theorem dX12_canBoth_45 : decode cX12_canBoth 45 = .ok (.invokevirtual 59, 3) := by decide +kernel
theorem dX12_canBoth_48 : decode cX12_canBoth 48 = .ok (.if_icmp .ge 115, 3) := by decide +kernel
theorem dX12_canBoth_51 : decode cX12_canBoth 51 = .ok (.iload 8, 2) := by decide +kernel
theorem dX12_canBoth_53 : decode cX12_canBoth 53 = .ok (.ifCond .ne 110, 3) := by decide +kernel
theorem dX12_canBoth_56 : decode cX12_canBoth 56 = .ok (.aload_n 0, 1) := by decide +kernel
theorem dX12_canBoth_57 : decode cX12_canBoth 57 = .ok (.iload 6, 2) := by decide +kernel
theorem dX12_canBoth_59 : decode cX12_canBoth 59 = .ok (.iload 9, 2) := by decide +kernel
theorem dX12_canBoth_61 : decode cX12_canBoth 61 = .ok (.invokevirtual 218, 3) := by decide +kernel
theorem dX12_canBoth_64 : decode cX12_canBoth 64 = .ok (.istore 8, 2) := by decide +kernel
theorem dX12_canBoth_66 : decode cX12_canBoth 66 = .ok (.iconst 0, 1) := by decide +kernel
theorem dX12_canBoth_67 : decode cX12_canBoth 67 = .ok (.istore 10, 2) := by decide +kernel
theorem dX12_canBoth_69 : decode cX12_canBoth 69 = .ok (.iload 10, 2) := by decide +kernel
theorem dX12_canBoth_71 : decode cX12_canBoth 71 = .ok (.aload_n 0, 1) := by decide +kernel
theorem dX12_canBoth_72 : decode cX12_canBoth 72 = .ok (.getfield 13, 3) := by decide +kernel
theorem dX12_canBoth_75 : decode cX12_canBoth 75 = .ok (.iload 7, 2) := by decide +kernel
theorem dX12_canBoth_77 : decode cX12_canBoth 77 = .ok (.iaload, 1) := by decide +kernel
theorem dX12_canBoth_78 : decode cX12_canBoth 78 = .ok (.if_icmp .ge 79, 3) := by decide +kernel
theorem dX12_canBoth_81 : decode cX12_canBoth 81 = .ok (.iload 8, 2) := by decide +kernel
theorem dX12_canBoth_83 : decode cX12_canBoth 83 = .ok (.ifCond .eq 74, 3) := by decide +kernel
theorem dX12_canBoth_86 : decode cX12_canBoth 86 = .ok (.aload_n 0, 1) := by decide +kernel
theorem dX12_canBoth_87 : decode cX12_canBoth 87 = .ok (.getfield 44, 3) := by decide +kernel
theorem dX12_canBoth_90 : decode cX12_canBoth 90 = .ok (.iconst 3, 1) := by decide +kernel
theorem dX12_canBoth_91 : decode cX12_canBoth 91 = .ok (.iload 6, 2) := by decide +kernel
theorem dX12_canBoth_93 : decode cX12_canBoth 93 = .ok (.imul, 1) := by decide +kernel
theorem dX12_canBoth_94 : decode cX12_canBoth 94 = .ok (.iload 10, 2) := by decide +kernel
theorem dX12_canBoth_96 : decode cX12_canBoth 96 = .ok (.iadd, 1) := by decide +kernel
theorem dX12_canBoth_97 : decode cX12_canBoth 97 = .ok (.iaload, 1) := by decide +kernel
theorem dX12_canBoth_98 : decode cX12_canBoth 98 = .ok (.istore 11, 2) := by decide +kernel
theorem dX12_canBoth_100 : decode cX12_canBoth 100 = .ok (.iload 11, 2) := by decide +kernel
theorem dX12_canBoth_102 : decode cX12_canBoth 102 = .ok (.iload_n 1, 1) := by decide +kernel
theorem dX12_canBoth_103 : decode cX12_canBoth 103 = .ok (.if_icmp .ne 7, 3) := by decide +kernel
theorem dX12_canBoth_106 : decode cX12_canBoth 106 = .ok (.iload_n 2, 1) := by decide +kernel
theorem dX12_canBoth_107 : decode cX12_canBoth 107 = .ok (.goto 22, 3) := by decide +kernel
theorem dX12_canBoth_110 : decode cX12_canBoth 110 = .ok (.iload 11, 2) := by decide +kernel
theorem dX12_canBoth_112 : decode cX12_canBoth 112 = .ok (.iload_n 3, 1) := by decide +kernel
theorem dX12_canBoth_113 : decode cX12_canBoth 113 = .ok (.if_icmp .ne 8, 3) := by decide +kernel
theorem dX12_canBoth_116 : decode cX12_canBoth 116 = .ok (.iload 4, 2) := by decide +kernel
theorem dX12_canBoth_118 : decode cX12_canBoth 118 = .ok (.goto 11, 3) := by decide +kernel
theorem dX12_canBoth_121 : decode cX12_canBoth 121 = .ok (.aload_n 0, 1) := by decide +kernel
theorem dX12_canBoth_122 : decode cX12_canBoth 122 = .ok (.iload 9, 2) := by decide +kernel
theorem dX12_canBoth_124 : decode cX12_canBoth 124 = .ok (.iload 10, 2) := by decide +kernel
theorem dX12_canBoth_126 : decode cX12_canBoth 126 = .ok (.invokevirtual 105, 3) := by decide +kernel
theorem dX12_canBoth_129 : decode cX12_canBoth 129 = .ok (.istore 12, 2) := by decide +kernel
theorem dX12_canBoth_131 : decode cX12_canBoth 131 = .ok (.aload_n 0, 1) := by decide +kernel
theorem dX12_canBoth_132 : decode cX12_canBoth 132 = .ok (.iload 9, 2) := by decide +kernel
theorem dX12_canBoth_134 : decode cX12_canBoth 134 = .ok (.iload 10, 2) := by decide +kernel
theorem dX12_canBoth_136 : decode cX12_canBoth 136 = .ok (.invokevirtual 105, 3) := by decide +kernel
theorem dX12_canBoth_139 : decode cX12_canBoth 139 = .ok (.iload 12, 2) := by decide +kernel
theorem dX12_canBoth_141 : decode cX12_canBoth 141 = .ok (.if_icmp .ne 7, 3) := by decide +kernel
theorem dX12_canBoth_144 : decode cX12_canBoth 144 = .ok (.iconst 1, 1) := by decide +kernel
theorem dX12_canBoth_145 : decode cX12_canBoth 145 = .ok (.goto 4, 3) := by decide +kernel
theorem dX12_canBoth_148 : decode cX12_canBoth 148 = .ok (.iconst 0, 1) := by decide +kernel
theorem dX12_canBoth_149 : decode cX12_canBoth 149 = .ok (.istore 8, 2) := by decide +kernel
theorem dX12_canBoth_151 : decode cX12_canBoth 151 = .ok (.iinc 10 1, 3) := by decide +kernel
theorem dX12_canBoth_154 : decode cX12_canBoth 154 = .ok (.goto (-85), 3) := by decide +kernel
theorem dX12_canBoth_157 : decode cX12_canBoth 157 = .ok (.iinc 9 1, 3) := by decide +kernel
theorem dX12_canBoth_160 : decode cX12_canBoth 160 = .ok (.goto (-125), 3) := by decide +kernel
theorem dX12_canBoth_163 : decode cX12_canBoth 163 = .ok (.iload 8, 2) := by decide +kernel
theorem dX12_canBoth_165 : decode cX12_canBoth 165 = .ok (.istore 5, 2) := by decide +kernel
theorem dX12_canBoth_167 : decode cX12_canBoth 167 = .ok (.iinc 6 1, 3) := by decide +kernel
theorem dX12_canBoth_170 : decode cX12_canBoth 170 = .ok (.goto (-164), 3) := by decide +kernel
theorem dX12_canBoth_173 : decode cX12_canBoth 173 = .ok (.iload 5, 2) := by decide +kernel
theorem dX12_canBoth_175 : decode cX12_canBoth 175 = .ok (.ireturn, 1) := by decide +kernel
theorem dX12_isBetween_0 : decode cX12_isBetween 0 = .ok (.iconst 1, 1) := by decide +kernel
theorem dX12_isBetween_1 : decode cX12_isBetween 1 = .ok (.istore 5, 2) := by decide +kernel
theorem dX12_isBetween_3 : decode cX12_isBetween 3 = .ok (.iconst 0, 1) := by decide +kernel
theorem dX12_isBetween_4 : decode cX12_isBetween 4 = .ok (.istore 6, 2) := by decide +kernel
theorem dX12_isBetween_6 : decode cX12_isBetween 6 = .ok (.iload 6, 2) := by decide +kernel
theorem dX12_isBetween_8 : decode cX12_isBetween 8 = .ok (.aload_n 0, 1) := by decide +kernel
theorem dX12_isBetween_9 : decode cX12_isBetween 9 = .ok (.getfield 38, 3) := by decide +kernel
theorem dX12_isBetween_12 : decode cX12_isBetween 12 = .ok (.if_icmp .ge 118, 3) := by decide +kernel
theorem dX12_isBetween_15 : decode cX12_isBetween 15 = .ok (.iload 5, 2) := by decide +kernel
theorem dX12_isBetween_17 : decode cX12_isBetween 17 = .ok (.ifCond .eq 113, 3) := by decide +kernel
theorem dX12_isBetween_20 : decode cX12_isBetween 20 = .ok (.iload 6, 2) := by decide +kernel
theorem dX12_isBetween_22 : decode cX12_isBetween 22 = .ok (.iload_n 1, 1) := by decide +kernel
theorem dX12_isBetween_23 : decode cX12_isBetween 23 = .ok (.if_icmp .eq 101, 3) := by decide +kernel
theorem dX12_isBetween_26 : decode cX12_isBetween 26 = .ok (.iload 6, 2) := by decide +kernel
theorem dX12_isBetween_28 : decode cX12_isBetween 28 = .ok (.iload_n 3, 1) := by decide +kernel
theorem dX12_isBetween_29 : decode cX12_isBetween 29 = .ok (.if_icmp .eq 95, 3) := by decide +kernel
theorem dX12_isBetween_32 : decode cX12_isBetween 32 = .ok (.iconst 0, 1) := by decide +kernel
theorem dX12_isBetween_33 : decode cX12_isBetween 33 = .ok (.istore 7, 2) := by decide +kernel
theorem dX12_isBetween_35 : decode cX12_isBetween 35 = .ok (.iconst 0, 1) := by decide +kernel
theorem dX12_isBetween_36 : decode cX12_isBetween 36 = .ok (.istore 8, 2) := by decide +kernel
theorem dX12_isBetween_38 : decode cX12_isBetween 38 = .ok (.iload 8, 2) := by decide +kernel
theorem dX12_isBetween_40 : decode cX12_isBetween 40 = .ok (.aload_n 0, 1) := by decide +kernel
theorem dX12_isBetween_41 : decode cX12_isBetween 41 = .ok (.getfield 7, 3) := by decide +kernel
theorem dX12_isBetween_44 : decode cX12_isBetween 44 = .ok (.if_icmp .ge 76, 3) := by decide +kernel
theorem dX12_isBetween_47 : decode cX12_isBetween 47 = .ok (.iload 7, 2) := by decide +kernel
theorem dX12_isBetween_49 : decode cX12_isBetween 49 = .ok (.ifCond .ne 58, 3) := by decide +kernel
theorem dX12_isBetween_52 : decode cX12_isBetween 52 = .ok (.aload_n 0, 1) := by decide +kernel
theorem dX12_isBetween_53 : decode cX12_isBetween 53 = .ok (.getfield 53, 3) := by decide +kernel
theorem dX12_isBetween_56 : decode cX12_isBetween 56 = .ok (.bipush 6, 2) := by decide +kernel
theorem dX12_isBetween_58 : decode cX12_isBetween 58 = .ok (.iload_n 1, 1) := by decide +kernel
theorem dX12_isBetween_59 : decode cX12_isBetween 59 = .ok (.imul, 1) := by decide +kernel
theorem dX12_isBetween_60 : decode cX12_isBetween 60 = .ok (.iload 6, 2) := by decide +kernel
theorem dX12_isBetween_62 : decode cX12_isBetween 62 = .ok (.iadd, 1) := by decide +kernel
theorem dX12_isBetween_63 : decode cX12_isBetween 63 = .ok (.iaload, 1) := by decide +kernel
theorem dX12_isBetween_64 : decode cX12_isBetween 64 = .ok (.iload_n 2, 1) := by decide +kernel
theorem dX12_isBetween_65 : decode cX12_isBetween 65 = .ok (.aload_n 0, 1) := by decide +kernel
theorem dX12_isBetween_66 : decode cX12_isBetween 66 = .ok (.getfield 7, 3) := by decide +kernel
theorem dX12_isBetween_69 : decode cX12_isBetween 69 = .ok (.iload 8, 2) := by decide +kernel
theorem dX12_isBetween_71 : decode cX12_isBetween 71 = .ok (.imul, 1) := by decide +kernel
theorem dX12_isBetween_72 : decode cX12_isBetween 72 = .ok (.iadd, 1) := by decide +kernel
theorem dX12_isBetween_73 : decode cX12_isBetween 73 = .ok (.invokestatic 80, 3) := by decide +kernel
theorem dX12_isBetween_76 : decode cX12_isBetween 76 = .ok (.ifCond .eq 35, 3) := by decide +kernel
theorem dX12_isBetween_79 : decode cX12_isBetween 79 = .ok (.aload_n 0, 1) := by decide +kernel
theorem dX12_isBetween_80 : decode cX12_isBetween 80 = .ok (.getfield 53, 3) := by decide +kernel
theorem dX12_isBetween_83 : decode cX12_isBetween 83 = .ok (.bipush 6, 2) := by decide +kernel
theorem dX12_isBetween_85 : decode cX12_isBetween 85 = .ok (.iload 6, 2) := by decide +kernel
theorem dX12_isBetween_87 : decode cX12_isBetween 87 = .ok (.imul, 1) := by decide +kernel
theorem dX12_isBetween_88 : decode cX12_isBetween 88 = .ok (.iload_n 3, 1) := by decide +kernel
theorem dX12_isBetween_89 : decode cX12_isBetween 89 = .ok (.iadd, 1) := by decide +kernel
theorem dX12_isBetween_90 : decode cX12_isBetween 90 = .ok (.iaload, 1) := by decide +kernel
theorem dX12_isBetween_91 : decode cX12_isBetween 91 = .ok (.iload 8, 2) := by decide +kernel
theorem dX12_isBetween_93 : decode cX12_isBetween 93 = .ok (.aload_n 0, 1) := by decide +kernel
theorem dX12_isBetween_94 : decode cX12_isBetween 94 = .ok (.getfield 7, 3) := by decide +kernel
theorem dX12_isBetween_97 : decode cX12_isBetween 97 = .ok (.iload 4, 2) := by decide +kernel
theorem dX12_isBetween_99 : decode cX12_isBetween 99 = .ok (.imul, 1) := by decide +kernel
theorem dX12_isBetween_100 : decode cX12_isBetween 100 = .ok (.iadd, 1) := by decide +kernel
theorem dX12_isBetween_101 : decode cX12_isBetween 101 = .ok (.invokestatic 80, 3) := by decide +kernel
theorem dX12_isBetween_104 : decode cX12_isBetween 104 = .ok (.ifCond .eq 7, 3) := by decide +kernel
theorem dX12_isBetween_107 : decode cX12_isBetween 107 = .ok (.iconst 1, 1) := by decide +kernel
theorem dX12_isBetween_108 : decode cX12_isBetween 108 = .ok (.goto 4, 3) := by decide +kernel
theorem dX12_isBetween_111 : decode cX12_isBetween 111 = .ok (.iconst 0, 1) := by decide +kernel
theorem dX12_isBetween_112 : decode cX12_isBetween 112 = .ok (.istore 7, 2) := by decide +kernel
theorem dX12_isBetween_114 : decode cX12_isBetween 114 = .ok (.iinc 8 1, 3) := by decide +kernel
theorem dX12_isBetween_117 : decode cX12_isBetween 117 = .ok (.goto (-79), 3) := by decide +kernel
theorem dX12_isBetween_120 : decode cX12_isBetween 120 = .ok (.iload 7, 2) := by decide +kernel
theorem dX12_isBetween_122 : decode cX12_isBetween 122 = .ok (.istore 5, 2) := by decide +kernel
theorem dX12_isBetween_124 : decode cX12_isBetween 124 = .ok (.iinc 6 1, 3) := by decide +kernel
theorem dX12_isBetween_127 : decode cX12_isBetween 127 = .ok (.goto (-121), 3) := by decide +kernel
theorem dX12_isBetween_130 : decode cX12_isBetween 130 = .ok (.iload 5, 2) := by decide +kernel
theorem dX12_isBetween_132 : decode cX12_isBetween 132 = .ok (.ireturn, 1) := by decide +kernel
theorem dX12_findsPairs_0 : decode cX12_findsPairs 0 = .ok (.iconst 0, 1) := by decide +kernel
theorem dX12_findsPairs_1 : decode cX12_findsPairs 1 = .ok (.istore_n 1, 1) := by decide +kernel
theorem dX12_findsPairs_2 : decode cX12_findsPairs 2 = .ok (.iload_n 1, 1) := by decide +kernel
theorem dX12_findsPairs_3 : decode cX12_findsPairs 3 = .ok (.bipush 36, 2) := by decide +kernel
theorem dX12_findsPairs_5 : decode cX12_findsPairs 5 = .ok (.if_icmp .ge 110, 3) := by decide +kernel
theorem dX12_findsPairs_8 : decode cX12_findsPairs 8 = .ok (.iload_n 1, 1) := by decide +kernel
theorem dX12_findsPairs_9 : decode cX12_findsPairs 9 = .ok (.bipush 6, 2) := by decide +kernel
theorem dX12_findsPairs_11 : decode cX12_findsPairs 11 = .ok (.idiv, 1) := by decide +kernel
theorem dX12_findsPairs_12 : decode cX12_findsPairs 12 = .ok (.istore_n 2, 1) := by decide +kernel
theorem dX12_findsPairs_13 : decode cX12_findsPairs 13 = .ok (.iload_n 1, 1) := by decide +kernel
theorem dX12_findsPairs_14 : decode cX12_findsPairs 14 = .ok (.bipush 6, 2) := by decide +kernel
theorem dX12_findsPairs_16 : decode cX12_findsPairs 16 = .ok (.irem, 1) := by decide +kernel
theorem dX12_findsPairs_17 : decode cX12_findsPairs 17 = .ok (.istore_n 3, 1) := by decide +kernel
theorem dX12_findsPairs_18 : decode cX12_findsPairs 18 = .ok (.aload_n 0, 1) := by decide +kernel
theorem dX12_findsPairs_19 : decode cX12_findsPairs 19 = .ok (.getfield 53, 3) := by decide +kernel
theorem dX12_findsPairs_22 : decode cX12_findsPairs 22 = .ok (.iload_n 1, 1) := by decide +kernel
theorem dX12_findsPairs_23 : decode cX12_findsPairs 23 = .ok (.iconst 0, 1) := by decide +kernel
theorem dX12_findsPairs_24 : decode cX12_findsPairs 24 = .ok (.iastore, 1) := by decide +kernel
theorem dX12_findsPairs_25 : decode cX12_findsPairs 25 = .ok (.iconst 0, 1) := by decide +kernel
theorem dX12_findsPairs_26 : decode cX12_findsPairs 26 = .ok (.istore 4, 2) := by decide +kernel
theorem dX12_findsPairs_28 : decode cX12_findsPairs 28 = .ok (.iload 4, 2) := by decide +kernel
theorem dX12_findsPairs_30 : decode cX12_findsPairs 30 = .ok (.aload_n 0, 1) := by decide +kernel
theorem dX12_findsPairs_31 : decode cX12_findsPairs 31 = .ok (.getfield 7, 3) := by decide +kernel
theorem dX12_findsPairs_34 : decode cX12_findsPairs 34 = .ok (.aload_n 0, 1) := by decide +kernel
theorem dX12_findsPairs_35 : decode cX12_findsPairs 35 = .ok (.getfield 7, 3) := by decide +kernel
theorem dX12_findsPairs_38 : decode cX12_findsPairs 38 = .ok (.imul, 1) := by decide +kernel
theorem dX12_findsPairs_39 : decode cX12_findsPairs 39 = .ok (.if_icmp .ge 70, 3) := by decide +kernel
theorem dX12_findsPairs_42 : decode cX12_findsPairs 42 = .ok (.iload_n 2, 1) := by decide +kernel
theorem dX12_findsPairs_43 : decode cX12_findsPairs 43 = .ok (.aload_n 0, 1) := by decide +kernel
theorem dX12_findsPairs_44 : decode cX12_findsPairs 44 = .ok (.getfield 38, 3) := by decide +kernel
theorem dX12_findsPairs_47 : decode cX12_findsPairs 47 = .ok (.if_icmp .ge 62, 3) := by decide +kernel
theorem dX12_findsPairs_50 : decode cX12_findsPairs 50 = .ok (.iload_n 3, 1) := by decide +kernel
theorem dX12_findsPairs_51 : decode cX12_findsPairs 51 = .ok (.aload_n 0, 1) := by decide +kernel
theorem dX12_findsPairs_52 : decode cX12_findsPairs 52 = .ok (.getfield 38, 3) := by decide +kernel
theorem dX12_findsPairs_55 : decode cX12_findsPairs 55 = .ok (.if_icmp .ge 54, 3) := by decide +kernel
theorem dX12_findsPairs_58 : decode cX12_findsPairs 58 = .ok (.iload_n 2, 1) := by decide +kernel
theorem dX12_findsPairs_59 : decode cX12_findsPairs 59 = .ok (.iload_n 3, 1) := by decide +kernel
theorem dX12_findsPairs_60 : decode cX12_findsPairs 60 = .ok (.if_icmp .eq 49, 3) := by decide +kernel
theorem dX12_findsPairs_63 : decode cX12_findsPairs 63 = .ok (.aload_n 0, 1) := by decide +kernel
theorem dX12_findsPairs_64 : decode cX12_findsPairs 64 = .ok (.getfield 53, 3) := by decide +kernel
theorem dX12_findsPairs_67 : decode cX12_findsPairs 67 = .ok (.iload_n 1, 1) := by decide +kernel
theorem dX12_findsPairs_68 : decode cX12_findsPairs 68 = .ok (.dup2, 1) := by decide +kernel
theorem dX12_findsPairs_69 : decode cX12_findsPairs 69 = .ok (.iaload, 1) := by decide +kernel
theorem dX12_findsPairs_70 : decode cX12_findsPairs 70 = .ok (.aload_n 0, 1) := by decide +kernel
theorem dX12_findsPairs_71 : decode cX12_findsPairs 71 = .ok (.iload_n 2, 1) := by decide +kernel
theorem dX12_findsPairs_72 : decode cX12_findsPairs 72 = .ok (.iload 4, 2) := by decide +kernel
theorem dX12_findsPairs_74 : decode cX12_findsPairs 74 = .ok (.aload_n 0, 1) := by decide +kernel
theorem dX12_findsPairs_75 : decode cX12_findsPairs 75 = .ok (.getfield 7, 3) := by decide +kernel
theorem dX12_findsPairs_78 : decode cX12_findsPairs 78 = .ok (.irem, 1) := by decide +kernel
theorem dX12_findsPairs_79 : decode cX12_findsPairs 79 = .ok (.iload_n 3, 1) := by decide +kernel
theorem dX12_findsPairs_80 : decode cX12_findsPairs 80 = .ok (.iload 4, 2) := by decide +kernel
theorem dX12_findsPairs_82 : decode cX12_findsPairs 82 = .ok (.aload_n 0, 1) := by decide +kernel
theorem dX12_findsPairs_83 : decode cX12_findsPairs 83 = .ok (.getfield 7, 3) := by decide +kernel
theorem dX12_findsPairs_86 : decode cX12_findsPairs 86 = .ok (.idiv, 1) := by decide +kernel
theorem dX12_findsPairs_87 : decode cX12_findsPairs 87 = .ok (.invokevirtual 230, 3) := by decide +kernel
theorem dX12_findsPairs_90 : decode cX12_findsPairs 90 = .ok (.ifCond .eq 10, 3) := by decide +kernel
theorem dX12_findsPairs_93 : decode cX12_findsPairs 93 = .ok (.iconst 1, 1) := by decide +kernel
theorem dX12_findsPairs_94 : decode cX12_findsPairs 94 = .ok (.iload 4, 2) := by decide +kernel
theorem dX12_findsPairs_96 : decode cX12_findsPairs 96 = .ok (.ishl, 1) := by decide +kernel
theorem dX12_findsPairs_97 : decode cX12_findsPairs 97 = .ok (.goto 4, 3) := by decide +kernel
theorem dX12_findsPairs_100 : decode cX12_findsPairs 100 = .ok (.iconst 0, 1) := by decide +kernel
theorem dX12_findsPairs_101 : decode cX12_findsPairs 101 = .ok (.ior, 1) := by decide +kernel
theorem dX12_findsPairs_102 : decode cX12_findsPairs 102 = .ok (.iastore, 1) := by decide +kernel
theorem dX12_findsPairs_103 : decode cX12_findsPairs 103 = .ok (.iinc 4 1, 3) := by decide +kernel
theorem dX12_findsPairs_106 : decode cX12_findsPairs 106 = .ok (.goto (-78), 3) := by decide +kernel
theorem dX12_findsPairs_109 : decode cX12_findsPairs 109 = .ok (.iinc 1 1, 3) := by decide +kernel
theorem dX12_findsPairs_112 : decode cX12_findsPairs 112 = .ok (.goto (-110), 3) := by decide +kernel
theorem dX12_findsPairs_115 : decode cX12_findsPairs 115 = .ok (.iconst 1, 1) := by decide +kernel
theorem dX12_findsPairs_116 : decode cX12_findsPairs 116 = .ok (.istore_n 1, 1) := by decide +kernel
theorem dX12_findsPairs_117 : decode cX12_findsPairs 117 = .ok (.iload_n 1, 1) := by decide +kernel
theorem dX12_findsPairs_118 : decode cX12_findsPairs 118 = .ok (.ifCond .eq 99, 3) := by decide +kernel
theorem dX12_findsPairs_121 : decode cX12_findsPairs 121 = .ok (.iconst 0, 1) := by decide +kernel
theorem dX12_findsPairs_122 : decode cX12_findsPairs 122 = .ok (.istore_n 1, 1) := by decide +kernel
theorem dX12_findsPairs_123 : decode cX12_findsPairs 123 = .ok (.iconst 0, 1) := by decide +kernel
theorem dX12_findsPairs_124 : decode cX12_findsPairs 124 = .ok (.istore_n 2, 1) := by decide +kernel
theorem dX12_findsPairs_125 : decode cX12_findsPairs 125 = .ok (.iload_n 2, 1) := by decide +kernel
theorem dX12_findsPairs_126 : decode cX12_findsPairs 126 = .ok (.bipush 36, 2) := by decide +kernel
theorem dX12_findsPairs_128 : decode cX12_findsPairs 128 = .ok (.if_icmp .ge 86, 3) := by decide +kernel
theorem dX12_findsPairs_131 : decode cX12_findsPairs 131 = .ok (.iconst 0, 1) := by decide +kernel
theorem dX12_findsPairs_132 : decode cX12_findsPairs 132 = .ok (.istore_n 3, 1) := by decide +kernel
theorem dX12_findsPairs_133 : decode cX12_findsPairs 133 = .ok (.iload_n 3, 1) := by decide +kernel
theorem dX12_findsPairs_134 : decode cX12_findsPairs 134 = .ok (.aload_n 0, 1) := by decide +kernel
theorem dX12_findsPairs_135 : decode cX12_findsPairs 135 = .ok (.getfield 7, 3) := by decide +kernel
theorem dX12_findsPairs_138 : decode cX12_findsPairs 138 = .ok (.aload_n 0, 1) := by decide +kernel
theorem dX12_findsPairs_139 : decode cX12_findsPairs 139 = .ok (.getfield 7, 3) := by decide +kernel
theorem dX12_findsPairs_142 : decode cX12_findsPairs 142 = .ok (.imul, 1) := by decide +kernel
theorem dX12_findsPairs_143 : decode cX12_findsPairs 143 = .ok (.if_icmp .ge 65, 3) := by decide +kernel
theorem dX12_findsPairs_146 : decode cX12_findsPairs 146 = .ok (.aload_n 0, 1) := by decide +kernel
theorem dX12_findsPairs_147 : decode cX12_findsPairs 147 = .ok (.getfield 53, 3) := by decide +kernel
theorem dX12_findsPairs_150 : decode cX12_findsPairs 150 = .ok (.iload_n 2, 1) := by decide +kernel
theorem dX12_findsPairs_151 : decode cX12_findsPairs 151 = .ok (.iaload, 1) := by decide +kernel
theorem dX12_findsPairs_152 : decode cX12_findsPairs 152 = .ok (.iload_n 3, 1) := by decide +kernel
theorem dX12_findsPairs_153 : decode cX12_findsPairs 153 = .ok (.invokestatic 80, 3) := by decide +kernel
theorem dX12_findsPairs_156 : decode cX12_findsPairs 156 = .ok (.ifCond .eq 46, 3) := by decide +kernel
theorem dX12_findsPairs_159 : decode cX12_findsPairs 159 = .ok (.aload_n 0, 1) := by decide +kernel
theorem dX12_findsPairs_160 : decode cX12_findsPairs 160 = .ok (.iload_n 2, 1) := by decide +kernel
theorem dX12_findsPairs_161 : decode cX12_findsPairs 161 = .ok (.bipush 6, 2) := by decide +kernel
theorem dX12_findsPairs_163 : decode cX12_findsPairs 163 = .ok (.idiv, 1) := by decide +kernel
theorem dX12_findsPairs_164 : decode cX12_findsPairs 164 = .ok (.iload_n 3, 1) := by decide +kernel
theorem dX12_findsPairs_165 : decode cX12_findsPairs 165 = .ok (.aload_n 0, 1) := by decide +kernel
theorem dX12_findsPairs_166 : decode cX12_findsPairs 166 = .ok (.getfield 7, 3) := by decide +kernel
theorem dX12_findsPairs_169 : decode cX12_findsPairs 169 = .ok (.irem, 1) := by decide +kernel
theorem dX12_findsPairs_170 : decode cX12_findsPairs 170 = .ok (.iload_n 2, 1) := by decide +kernel
theorem dX12_findsPairs_171 : decode cX12_findsPairs 171 = .ok (.bipush 6, 2) := by decide +kernel
theorem dX12_findsPairs_173 : decode cX12_findsPairs 173 = .ok (.irem, 1) := by decide +kernel
theorem dX12_findsPairs_174 : decode cX12_findsPairs 174 = .ok (.iload_n 3, 1) := by decide +kernel
theorem dX12_findsPairs_175 : decode cX12_findsPairs 175 = .ok (.aload_n 0, 1) := by decide +kernel
theorem dX12_findsPairs_176 : decode cX12_findsPairs 176 = .ok (.getfield 7, 3) := by decide +kernel
theorem dX12_findsPairs_179 : decode cX12_findsPairs 179 = .ok (.idiv, 1) := by decide +kernel
theorem dX12_findsPairs_180 : decode cX12_findsPairs 180 = .ok (.invokevirtual 233, 3) := by decide +kernel
theorem dX12_findsPairs_183 : decode cX12_findsPairs 183 = .ok (.ifCond .ne 19, 3) := by decide +kernel
theorem dX12_findsPairs_186 : decode cX12_findsPairs 186 = .ok (.aload_n 0, 1) := by decide +kernel
theorem dX12_findsPairs_187 : decode cX12_findsPairs 187 = .ok (.getfield 53, 3) := by decide +kernel
theorem dX12_findsPairs_190 : decode cX12_findsPairs 190 = .ok (.iload_n 2, 1) := by decide +kernel
theorem dX12_findsPairs_191 : decode cX12_findsPairs 191 = .ok (.dup2, 1) := by decide +kernel
theorem dX12_findsPairs_192 : decode cX12_findsPairs 192 = .ok (.iaload, 1) := by decide +kernel
theorem dX12_findsPairs_193 : decode cX12_findsPairs 193 = .ok (.iconst 1, 1) := by decide +kernel
theorem dX12_findsPairs_194 : decode cX12_findsPairs 194 = .ok (.iload_n 3, 1) := by decide +kernel
theorem dX12_findsPairs_195 : decode cX12_findsPairs 195 = .ok (.ishl, 1) := by decide +kernel
theorem dX12_findsPairs_196 : decode cX12_findsPairs 196 = .ok (.iconst (-1), 1) := by decide +kernel
theorem dX12_findsPairs_197 : decode cX12_findsPairs 197 = .ok (.ixor, 1) := by decide +kernel
theorem dX12_findsPairs_198 : decode cX12_findsPairs 198 = .ok (.iand, 1) := by decide +kernel
theorem dX12_findsPairs_199 : decode cX12_findsPairs 199 = .ok (.iastore, 1) := by decide +kernel
theorem dX12_findsPairs_200 : decode cX12_findsPairs 200 = .ok (.iconst 1, 1) := by decide +kernel
theorem dX12_findsPairs_201 : decode cX12_findsPairs 201 = .ok (.istore_n 1, 1) := by decide +kernel
theorem dX12_findsPairs_202 : decode cX12_findsPairs 202 = .ok (.iinc 3 1, 3) := by decide +kernel
theorem dX12_findsPairs_205 : decode cX12_findsPairs 205 = .ok (.goto (-72), 3) := by decide +kernel
theorem dX12_findsPairs_208 : decode cX12_findsPairs 208 = .ok (.iinc 2 1, 3) := by decide +kernel
theorem dX12_findsPairs_211 : decode cX12_findsPairs 211 = .ok (.goto (-86), 3) := by decide +kernel
theorem dX12_findsPairs_214 : decode cX12_findsPairs 214 = .ok (.goto (-97), 3) := by decide +kernel
theorem dX12_findsPairs_217 : decode cX12_findsPairs 217 = .ok (.return_, 1) := by decide +kernel
theorem dX12_pairs_0 : decode cX12_pairs 0 = .ok (.iload_n 1, 1) := by decide +kernel
theorem dX12_pairs_1 : decode cX12_pairs 1 = .ok (.iconst 0, 1) := by decide +kernel
theorem dX12_pairs_2 : decode cX12_pairs 2 = .ok (.aload_n 0, 1) := by decide +kernel
theorem dX12_pairs_3 : decode cX12_pairs 3 = .ok (.getfield 38, 3) := by decide +kernel
theorem dX12_pairs_6 : decode cX12_pairs 6 = .ok (.iconst 1, 1) := by decide +kernel
theorem dX12_pairs_7 : decode cX12_pairs 7 = .ok (.isub, 1) := by decide +kernel
theorem dX12_pairs_8 : decode cX12_pairs 8 = .ok (.invokestatic 63, 3) := by decide +kernel
theorem dX12_pairs_11 : decode cX12_pairs 11 = .ok (.ifCond .eq 21, 3) := by decide +kernel
theorem dX12_pairs_14 : decode cX12_pairs 14 = .ok (.iload_n 2, 1) := by decide +kernel
theorem dX12_pairs_15 : decode cX12_pairs 15 = .ok (.iconst 0, 1) := by decide +kernel
theorem dX12_pairs_16 : decode cX12_pairs 16 = .ok (.aload_n 0, 1) := by decide +kernel
theorem dX12_pairs_17 : decode cX12_pairs 17 = .ok (.getfield 38, 3) := by decide +kernel
theorem dX12_pairs_20 : decode cX12_pairs 20 = .ok (.iconst 1, 1) := by decide +kernel
theorem dX12_pairs_21 : decode cX12_pairs 21 = .ok (.isub, 1) := by decide +kernel
theorem dX12_pairs_22 : decode cX12_pairs 22 = .ok (.invokestatic 63, 3) := by decide +kernel
theorem dX12_pairs_25 : decode cX12_pairs 25 = .ok (.ifCond .eq 7, 3) := by decide +kernel
theorem dX12_pairs_28 : decode cX12_pairs 28 = .ok (.iconst 1, 1) := by decide +kernel
theorem dX12_pairs_29 : decode cX12_pairs 29 = .ok (.goto 4, 3) := by decide +kernel
theorem dX12_pairs_32 : decode cX12_pairs 32 = .ok (.iconst 0, 1) := by decide +kernel
theorem dX12_pairs_33 : decode cX12_pairs 33 = .ok (.istore_n 3, 1) := by decide +kernel
theorem dX12_pairs_34 : decode cX12_pairs 34 = .ok (.aload_n 0, 1) := by decide +kernel
theorem dX12_pairs_35 : decode cX12_pairs 35 = .ok (.iload_n 3, 1) := by decide +kernel
theorem dX12_pairs_36 : decode cX12_pairs 36 = .ok (.ifCond .ne 7, 3) := by decide +kernel
theorem dX12_pairs_39 : decode cX12_pairs 39 = .ok (.iconst 1, 1) := by decide +kernel
theorem dX12_pairs_40 : decode cX12_pairs 40 = .ok (.goto 13, 3) := by decide +kernel
theorem dX12_pairs_43 : decode cX12_pairs 43 = .ok (.iload_n 1, 1) := by decide +kernel
theorem dX12_pairs_44 : decode cX12_pairs 44 = .ok (.iload_n 2, 1) := by decide +kernel
theorem dX12_pairs_45 : decode cX12_pairs 45 = .ok (.if_icmp .ne 7, 3) := by decide +kernel
theorem dX12_pairs_48 : decode cX12_pairs 48 = .ok (.iconst 2, 1) := by decide +kernel
theorem dX12_pairs_49 : decode cX12_pairs 49 = .ok (.goto 4, 3) := by decide +kernel
theorem dX12_pairs_52 : decode cX12_pairs 52 = .ok (.iconst 0, 1) := by decide +kernel
theorem dX12_pairs_53 : decode cX12_pairs 53 = .ok (.putfield 56, 3) := by decide +kernel
theorem dX12_pairs_56 : decode cX12_pairs 56 = .ok (.aload_n 0, 1) := by decide +kernel
theorem dX12_pairs_57 : decode cX12_pairs 57 = .ok (.getfield 56, 3) := by decide +kernel
theorem dX12_pairs_60 : decode cX12_pairs 60 = .ok (.ifCond .le 5, 3) := by decide +kernel
theorem dX12_pairs_63 : decode cX12_pairs 63 = .ok (.iconst 0, 1) := by decide +kernel
theorem dX12_pairs_64 : decode cX12_pairs 64 = .ok (.ireturn, 1) := by decide +kernel
theorem dX12_pairs_65 : decode cX12_pairs 65 = .ok (.aload_n 0, 1) := by decide +kernel
theorem dX12_pairs_66 : decode cX12_pairs 66 = .ok (.invokevirtual 236, 3) := by decide +kernel
theorem dX12_pairs_69 : decode cX12_pairs 69 = .ok (.aload_n 0, 1) := by decide +kernel
theorem dX12_pairs_70 : decode cX12_pairs 70 = .ok (.getfield 53, 3) := by decide +kernel
theorem dX12_pairs_73 : decode cX12_pairs 73 = .ok (.bipush 6, 2) := by decide +kernel
theorem dX12_pairs_75 : decode cX12_pairs 75 = .ok (.iload_n 1, 1) := by decide +kernel
theorem dX12_pairs_76 : decode cX12_pairs 76 = .ok (.imul, 1) := by decide +kernel
theorem dX12_pairs_77 : decode cX12_pairs 77 = .ok (.iload_n 2, 1) := by decide +kernel
theorem dX12_pairs_78 : decode cX12_pairs 78 = .ok (.iadd, 1) := by decide +kernel
theorem dX12_pairs_79 : decode cX12_pairs 79 = .ok (.iaload, 1) := by decide +kernel
theorem dX12_pairs_80 : decode cX12_pairs 80 = .ok (.ireturn, 1) := by decide +kernel

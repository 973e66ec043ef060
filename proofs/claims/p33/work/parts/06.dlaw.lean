theorem dL_low_0 : decode cL_low 0 = .ok (.iload_n 0, 1) := by decide +kernel
theorem dL_low_1 : decode cL_low 1 = .ok (.ldc 7, 2) := by decide +kernel
theorem dL_low_3 : decode cL_low 3 = .ok (.iand, 1) := by decide +kernel
theorem dL_low_4 : decode cL_low 4 = .ok (.iload_n 1, 1) := by decide +kernel
theorem dL_low_5 : decode cL_low 5 = .ok (.irem, 1) := by decide +kernel
theorem dL_low_6 : decode cL_low 6 = .ok (.ireturn, 1) := by decide +kernel
theorem dL_cell_0 : decode cL_cell 0 = .ok (.iload_n 1, 1) := by decide +kernel
theorem dL_cell_1 : decode cL_cell 1 = .ok (.aload_n 0, 1) := by decide +kernel
theorem dL_cell_2 : decode cL_cell 2 = .ok (.arraylength, 1) := by decide +kernel
theorem dL_cell_3 : decode cL_cell 3 = .ok (.if_icmp .ge 9, 3) := by decide +kernel
theorem dL_cell_6 : decode cL_cell 6 = .ok (.aload_n 0, 1) := by decide +kernel
theorem dL_cell_7 : decode cL_cell 7 = .ok (.iload_n 1, 1) := by decide +kernel
theorem dL_cell_8 : decode cL_cell 8 = .ok (.iaload, 1) := by decide +kernel
theorem dL_cell_9 : decode cL_cell 9 = .ok (.goto 11, 3) := by decide +kernel
theorem dL_cell_12 : decode cL_cell 12 = .ok (.ldc 8, 2) := by decide +kernel
theorem dL_cell_14 : decode cL_cell 14 = .ok (.iload_n 1, 1) := by decide +kernel
theorem dL_cell_15 : decode cL_cell 15 = .ok (.imul, 1) := by decide +kernel
theorem dL_cell_16 : decode cL_cell 16 = .ok (.sipush 977, 3) := by decide +kernel
theorem dL_cell_19 : decode cL_cell 19 = .ok (.iadd, 1) := by decide +kernel
theorem dL_cell_20 : decode cL_cell 20 = .ok (.ireturn, 1) := by decide +kernel
theorem dL_relates_0 : decode cL_relates 0 = .ok (.aload_n 0, 1) := by decide +kernel
theorem dL_relates_1 : decode cL_relates 1 = .ok (.iload_n 1, 1) := by decide +kernel
theorem dL_relates_2 : decode cL_relates 2 = .ok (.invokevirtual 9, 3) := by decide +kernel
theorem dL_relates_5 : decode cL_relates 5 = .ok (.ireturn, 1) := by decide +kernel
theorem dL_relates_6 : decode cL_relates 6 = .ok (.astore_n 2, 1) := by decide +kernel
theorem dL_relates_7 : decode cL_relates 7 = .ok (.bipush (-9), 2) := by decide +kernel
theorem dL_relates_9 : decode cL_relates 9 = .ok (.ireturn, 1) := by decide +kernel
theorem dL_relates_10 : decode cL_relates 10 = .ok (.astore_n 2, 1) := by decide +kernel
theorem dL_relates_11 : decode cL_relates 11 = .ok (.bipush (-7), 2) := by decide +kernel
theorem dL_relates_13 : decode cL_relates 13 = .ok (.ireturn, 1) := by decide +kernel
theorem dL_takes_0 : decode cL_takes 0 = .ok (.iload_n 1, 1) := by decide +kernel
theorem dL_takes_1 : decode cL_takes 1 = .ok (.iconst 2, 1) := by decide +kernel
theorem dL_takes_2 : decode cL_takes 2 = .ok (.invokestatic 19, 3) := by decide +kernel
theorem dL_takes_5 : decode cL_takes 5 = .ok (.ifCond .ne 17, 3) := by decide +kernel
theorem dL_takes_8 : decode cL_takes 8 = .ok (.aload_n 0, 1) := by decide +kernel
theorem dL_takes_9 : decode cL_takes 9 = .ok (.iload_n 1, 1) := by decide +kernel
theorem dL_takes_10 : decode cL_takes 10 = .ok (.iconst 1, 1) := by decide +kernel
theorem dL_takes_11 : decode cL_takes 11 = .ok (.ishr, 1) := by decide +kernel
theorem dL_takes_12 : decode cL_takes 12 = .ok (.iconst 5, 1) := by decide +kernel
theorem dL_takes_13 : decode cL_takes 13 = .ok (.invokestatic 19, 3) := by decide +kernel
theorem dL_takes_16 : decode cL_takes 16 = .ok (.invokevirtual 25, 3) := by decide +kernel
theorem dL_takes_19 : decode cL_takes 19 = .ok (.goto 16, 3) := by decide +kernel
theorem dL_takes_22 : decode cL_takes 22 = .ok (.aload_n 0, 1) := by decide +kernel
theorem dL_takes_23 : decode cL_takes 23 = .ok (.iconst 1, 1) := by decide +kernel
theorem dL_takes_24 : decode cL_takes 24 = .ok (.iload_n 1, 1) := by decide +kernel
theorem dL_takes_25 : decode cL_takes 25 = .ok (.iconst 1, 1) := by decide +kernel
theorem dL_takes_26 : decode cL_takes 26 = .ok (.ishr, 1) := by decide +kernel
theorem dL_takes_27 : decode cL_takes 27 = .ok (.iconst 3, 1) := by decide +kernel
theorem dL_takes_28 : decode cL_takes 28 = .ok (.invokestatic 19, 3) := by decide +kernel
theorem dL_takes_31 : decode cL_takes 31 = .ok (.iadd, 1) := by decide +kernel
theorem dL_takes_32 : decode cL_takes 32 = .ok (.invokevirtual 28, 3) := by decide +kernel
theorem dL_takes_35 : decode cL_takes 35 = .ok (.ireturn, 1) := by decide +kernel
theorem dL_takes_36 : decode cL_takes 36 = .ok (.astore_n 2, 1) := by decide +kernel
theorem dL_takes_37 : decode cL_takes 37 = .ok (.bipush (-9), 2) := by decide +kernel
theorem dL_takes_39 : decode cL_takes 39 = .ok (.ireturn, 1) := by decide +kernel
theorem dL_puts_0 : decode cL_puts 0 = .ok (.aload_n 0, 1) := by decide +kernel
theorem dL_puts_1 : decode cL_puts 1 = .ok (.iload_n 1, 1) := by decide +kernel
theorem dL_puts_2 : decode cL_puts 2 = .ok (.iload_n 2, 1) := by decide +kernel
theorem dL_puts_3 : decode cL_puts 3 = .ok (.iload_n 3, 1) := by decide +kernel
theorem dL_puts_4 : decode cL_puts 4 = .ok (.invokevirtual 31, 3) := by decide +kernel
theorem dL_puts_7 : decode cL_puts 7 = .ok (.ireturn, 1) := by decide +kernel
theorem dL_puts_8 : decode cL_puts 8 = .ok (.astore 4, 2) := by decide +kernel
theorem dL_puts_10 : decode cL_puts 10 = .ok (.iconst 0, 1) := by decide +kernel
theorem dL_puts_11 : decode cL_puts 11 = .ok (.ireturn, 1) := by decide +kernel
theorem dL_tells_0 : decode cL_tells 0 = .ok (.aload_n 0, 1) := by decide +kernel
theorem dL_tells_1 : decode cL_tells 1 = .ok (.iload_n 1, 1) := by decide +kernel
theorem dL_tells_2 : decode cL_tells 2 = .ok (.iload_n 2, 1) := by decide +kernel
theorem dL_tells_3 : decode cL_tells 3 = .ok (.iload_n 3, 1) := by decide +kernel
theorem dL_tells_4 : decode cL_tells 4 = .ok (.invokevirtual 37, 3) := by decide +kernel
theorem dL_tells_7 : decode cL_tells 7 = .ok (.ireturn, 1) := by decide +kernel
theorem dL_tells_8 : decode cL_tells 8 = .ok (.astore 4, 2) := by decide +kernel
theorem dL_tells_10 : decode cL_tells 10 = .ok (.bipush (-5), 2) := by decide +kernel
theorem dL_tells_12 : decode cL_tells 12 = .ok (.ireturn, 1) := by decide +kernel
theorem dL_tells_13 : decode cL_tells 13 = .ok (.astore 4, 2) := by decide +kernel
theorem dL_tells_15 : decode cL_tells 15 = .ok (.bipush (-7), 2) := by decide +kernel
theorem dL_tells_17 : decode cL_tells 17 = .ok (.ireturn, 1) := by decide +kernel
theorem dL_constrains_0 : decode cL_constrains 0 = .ok (.aload_n 0, 1) := by decide +kernel
theorem dL_constrains_1 : decode cL_constrains 1 = .ok (.iload_n 1, 1) := by decide +kernel
theorem dL_constrains_2 : decode cL_constrains 2 = .ok (.iload_n 2, 1) := by decide +kernel
theorem dL_constrains_3 : decode cL_constrains 3 = .ok (.iload_n 3, 1) := by decide +kernel
theorem dL_constrains_4 : decode cL_constrains 4 = .ok (.iload 4, 2) := by decide +kernel
theorem dL_constrains_6 : decode cL_constrains 6 = .ok (.invokevirtual 41, 3) := by decide +kernel
theorem dL_constrains_9 : decode cL_constrains 9 = .ok (.ireturn, 1) := by decide +kernel
theorem dL_constrains_10 : decode cL_constrains 10 = .ok (.astore 5, 2) := by decide +kernel
theorem dL_constrains_12 : decode cL_constrains 12 = .ok (.bipush (-5), 2) := by decide +kernel
theorem dL_constrains_14 : decode cL_constrains 14 = .ok (.ireturn, 1) := by decide +kernel
theorem dL_constrains_15 : decode cL_constrains 15 = .ok (.astore 5, 2) := by decide +kernel
theorem dL_constrains_17 : decode cL_constrains 17 = .ok (.bipush (-9), 2) := by decide +kernel
theorem dL_constrains_19 : decode cL_constrains 19 = .ok (.ireturn, 1) := by decide +kernel
theorem dL_types_0 : decode cL_types 0 = .ok (.aload_n 0, 1) := by decide +kernel
theorem dL_types_1 : decode cL_types 1 = .ok (.iload_n 1, 1) := by decide +kernel
theorem dL_types_2 : decode cL_types 2 = .ok (.i2l, 1) := by decide +kernel
theorem dL_types_3 : decode cL_types 3 = .ok (.ldc2_w 45, 3) := by decide +kernel
theorem dL_types_6 : decode cL_types 6 = .ok (.iload_n 2, 1) := by decide +kernel
theorem dL_types_7 : decode cL_types 7 = .ok (.i2l, 1) := by decide +kernel
theorem dL_types_8 : decode cL_types 8 = .ok (.lmul, 1) := by decide +kernel
theorem dL_types_9 : decode cL_types 9 = .ok (.ladd, 1) := by decide +kernel
theorem dL_types_10 : decode cL_types 10 = .ok (.ldc2_w 47, 3) := by decide +kernel
theorem dL_types_13 : decode cL_types 13 = .ok (.iload_n 3, 1) := by decide +kernel
theorem dL_types_14 : decode cL_types 14 = .ok (.i2l, 1) := by decide +kernel
theorem dL_types_15 : decode cL_types 15 = .ok (.lmul, 1) := by decide +kernel
theorem dL_types_16 : decode cL_types 16 = .ok (.ladd, 1) := by decide +kernel
theorem dL_types_17 : decode cL_types 17 = .ok (.ldc2_w 49, 3) := by decide +kernel
theorem dL_types_20 : decode cL_types 20 = .ok (.iload 4, 2) := by decide +kernel
theorem dL_types_22 : decode cL_types 22 = .ok (.i2l, 1) := by decide +kernel
theorem dL_types_23 : decode cL_types 23 = .ok (.lmul, 1) := by decide +kernel
theorem dL_types_24 : decode cL_types 24 = .ok (.ladd, 1) := by decide +kernel
theorem dL_types_25 : decode cL_types 25 = .ok (.iconst 4, 1) := by decide +kernel
theorem dL_types_26 : decode cL_types 26 = .ok (.invokevirtual 51, 3) := by decide +kernel
theorem dL_types_29 : decode cL_types 29 = .ok (.ireturn, 1) := by decide +kernel
theorem dL_types_30 : decode cL_types 30 = .ok (.astore 5, 2) := by decide +kernel
theorem dL_types_32 : decode cL_types 32 = .ok (.bipush (-9), 2) := by decide +kernel
theorem dL_types_34 : decode cL_types 34 = .ok (.ireturn, 1) := by decide +kernel
theorem dL_ends_0 : decode cL_ends 0 = .ok (.aload_n 0, 1) := by decide +kernel
theorem dL_ends_1 : decode cL_ends 1 = .ok (.iload_n 1, 1) := by decide +kernel
theorem dL_ends_2 : decode cL_ends 2 = .ok (.i2l, 1) := by decide +kernel
theorem dL_ends_3 : decode cL_ends 3 = .ok (.iconst 1, 1) := by decide +kernel
theorem dL_ends_4 : decode cL_ends 4 = .ok (.invokevirtual 51, 3) := by decide +kernel
theorem dL_ends_7 : decode cL_ends 7 = .ok (.ireturn, 1) := by decide +kernel
theorem dL_ends_8 : decode cL_ends 8 = .ok (.astore_n 2, 1) := by decide +kernel
theorem dL_ends_9 : decode cL_ends 9 = .ok (.bipush (-9), 2) := by decide +kernel
theorem dL_ends_11 : decode cL_ends 11 = .ok (.ireturn, 1) := by decide +kernel
theorem dL_defines_0 : decode cL_defines 0 = .ok (.aload_n 0, 1) := by decide +kernel
theorem dL_defines_1 : decode cL_defines 1 = .ok (.invokevirtual 55, 3) := by decide +kernel
theorem dL_defines_4 : decode cL_defines 4 = .ok (.ireturn, 1) := by decide +kernel
theorem dL_defines_5 : decode cL_defines 5 = .ok (.astore_n 1, 1) := by decide +kernel
theorem dL_defines_6 : decode cL_defines 6 = .ok (.bipush (-9), 2) := by decide +kernel
theorem dL_defines_8 : decode cL_defines 8 = .ok (.ireturn, 1) := by decide +kernel
theorem dL_defines_9 : decode cL_defines 9 = .ok (.astore_n 1, 1) := by decide +kernel
theorem dL_defines_10 : decode cL_defines 10 = .ok (.bipush (-7), 2) := by decide +kernel
theorem dL_defines_12 : decode cL_defines 12 = .ok (.ireturn, 1) := by decide +kernel
theorem dL_surrounds_0 : decode cL_surrounds 0 = .ok (.aload_n 0, 1) := by decide +kernel
theorem dL_surrounds_1 : decode cL_surrounds 1 = .ok (.iload_n 1, 1) := by decide +kernel
theorem dL_surrounds_2 : decode cL_surrounds 2 = .ok (.invokevirtual 59, 3) := by decide +kernel
theorem dL_surrounds_5 : decode cL_surrounds 5 = .ok (.ireturn, 1) := by decide +kernel
theorem dL_surrounds_6 : decode cL_surrounds 6 = .ok (.astore_n 2, 1) := by decide +kernel
theorem dL_surrounds_7 : decode cL_surrounds 7 = .ok (.bipush (-9), 2) := by decide +kernel
theorem dL_surrounds_9 : decode cL_surrounds 9 = .ok (.ireturn, 1) := by decide +kernel
theorem dL_bits_0 : decode cL_bits 0 = .ok (.iconst 0, 1) := by decide +kernel
theorem dL_bits_1 : decode cL_bits 1 = .ok (.istore_n 1, 1) := by decide +kernel
theorem dL_bits_2 : decode cL_bits 2 = .ok (.iconst 0, 1) := by decide +kernel
theorem dL_bits_3 : decode cL_bits 3 = .ok (.istore_n 2, 1) := by decide +kernel
theorem dL_bits_4 : decode cL_bits 4 = .ok (.iload_n 2, 1) := by decide +kernel
theorem dL_bits_5 : decode cL_bits 5 = .ok (.bipush 9, 2) := by decide +kernel
theorem dL_bits_7 : decode cL_bits 7 = .ok (.if_icmp .ge 17, 3) := by decide +kernel
theorem dL_bits_10 : decode cL_bits 10 = .ok (.iload_n 1, 1) := by decide +kernel
theorem dL_bits_11 : decode cL_bits 11 = .ok (.iload_n 0, 1) := by decide +kernel
theorem dL_bits_12 : decode cL_bits 12 = .ok (.iload_n 2, 1) := by decide +kernel
theorem dL_bits_13 : decode cL_bits 13 = .ok (.ishr, 1) := by decide +kernel
theorem dL_bits_14 : decode cL_bits 14 = .ok (.iconst 1, 1) := by decide +kernel
theorem dL_bits_15 : decode cL_bits 15 = .ok (.iand, 1) := by decide +kernel
theorem dL_bits_16 : decode cL_bits 16 = .ok (.iadd, 1) := by decide +kernel
theorem dL_bits_17 : decode cL_bits 17 = .ok (.istore_n 1, 1) := by decide +kernel
theorem dL_bits_18 : decode cL_bits 18 = .ok (.iinc 2 1, 3) := by decide +kernel
theorem dL_bits_21 : decode cL_bits 21 = .ok (.goto (-17), 3) := by decide +kernel
theorem dL_bits_24 : decode cL_bits 24 = .ok (.iload_n 1, 1) := by decide +kernel
theorem dL_bits_25 : decode cL_bits 25 = .ok (.ireturn, 1) := by decide +kernel
theorem dL_relations_0 : decode cL_relations 0 = .ok (.iconst 1, 1) := by decide +kernel
theorem dL_relations_1 : decode cL_relations 1 = .ok (.istore_n 3, 1) := by decide +kernel
theorem dL_relations_2 : decode cL_relations 2 = .ok (.iconst 0, 1) := by decide +kernel
theorem dL_relations_3 : decode cL_relations 3 = .ok (.istore 4, 2) := by decide +kernel
theorem dL_relations_5 : decode cL_relations 5 = .ok (.iload 4, 2) := by decide +kernel
theorem dL_relations_7 : decode cL_relations 7 = .ok (.iload_n 1, 1) := by decide +kernel
theorem dL_relations_8 : decode cL_relations 8 = .ok (.if_icmp .ge 173, 3) := by decide +kernel
theorem dL_relations_11 : decode cL_relations 11 = .ok (.iload_n 3, 1) := by decide +kernel
theorem dL_relations_12 : decode cL_relations 12 = .ok (.ifCond .eq 169, 3) := by decide +kernel
theorem dL_relations_15 : decode cL_relations 15 = .ok (.aload_n 0, 1) := by decide +kernel
theorem dL_relations_16 : decode cL_relations 16 = .ok (.iload 4, 2) := by decide +kernel
theorem dL_relations_18 : decode cL_relations 18 = .ok (.iconst 1, 1) := by decide +kernel
theorem dL_relations_19 : decode cL_relations 19 = .ok (.invokevirtual 62, 3) := by decide +kernel
theorem dL_relations_22 : decode cL_relations 22 = .ok (.istore 5, 2) := by decide +kernel
theorem dL_relations_24 : decode cL_relations 24 = .ok (.aload_n 0, 1) := by decide +kernel
theorem dL_relations_25 : decode cL_relations 25 = .ok (.iload 4, 2) := by decide +kernel
theorem dL_relations_27 : decode cL_relations 27 = .ok (.iconst 2, 1) := by decide +kernel
theorem dL_relations_28 : decode cL_relations 28 = .ok (.invokevirtual 62, 3) := by decide +kernel
theorem dL_relations_31 : decode cL_relations 31 = .ok (.iload 5, 2) := by decide +kernel
theorem dL_relations_33 : decode cL_relations 33 = .ok (.invokestatic 65, 3) := by decide +kernel
theorem dL_relations_36 : decode cL_relations 36 = .ok (.if_icmp .ne 7, 3) := by decide +kernel
theorem dL_relations_39 : decode cL_relations 39 = .ok (.iconst 1, 1) := by decide +kernel
theorem dL_relations_40 : decode cL_relations 40 = .ok (.goto 4, 3) := by decide +kernel
theorem dL_relations_43 : decode cL_relations 43 = .ok (.iconst 0, 1) := by decide +kernel
theorem dL_relations_44 : decode cL_relations 44 = .ok (.istore_n 3, 1) := by decide +kernel
theorem dL_relations_45 : decode cL_relations 45 = .ok (.iconst 0, 1) := by decide +kernel
theorem dL_relations_46 : decode cL_relations 46 = .ok (.istore 6, 2) := by decide +kernel
theorem dL_relations_48 : decode cL_relations 48 = .ok (.iload 6, 2) := by decide +kernel
theorem dL_relations_50 : decode cL_relations 50 = .ok (.iload_n 2, 1) := by decide +kernel
theorem dL_relations_51 : decode cL_relations 51 = .ok (.if_icmp .ge 124, 3) := by decide +kernel
theorem dL_relations_54 : decode cL_relations 54 = .ok (.iload_n 3, 1) := by decide +kernel
theorem dL_relations_55 : decode cL_relations 55 = .ok (.ifCond .eq 120, 3) := by decide +kernel
theorem dL_relations_58 : decode cL_relations 58 = .ok (.aload_n 0, 1) := by decide +kernel
theorem dL_relations_59 : decode cL_relations 59 = .ok (.iload 6, 2) := by decide +kernel
theorem dL_relations_61 : decode cL_relations 61 = .ok (.iload 4, 2) := by decide +kernel
theorem dL_relations_63 : decode cL_relations 63 = .ok (.invokevirtual 68, 3) := by decide +kernel
theorem dL_relations_66 : decode cL_relations 66 = .ok (.istore 7, 2) := by decide +kernel
theorem dL_relations_68 : decode cL_relations 68 = .ok (.aload_n 0, 1) := by decide +kernel
theorem dL_relations_69 : decode cL_relations 69 = .ok (.iload 6, 2) := by decide +kernel
theorem dL_relations_71 : decode cL_relations 71 = .ok (.iload 4, 2) := by decide +kernel
theorem dL_relations_73 : decode cL_relations 73 = .ok (.invokevirtual 71, 3) := by decide +kernel
theorem dL_relations_76 : decode cL_relations 76 = .ok (.istore 8, 2) := by decide +kernel
theorem dL_relations_78 : decode cL_relations 78 = .ok (.aload_n 0, 1) := by decide +kernel
theorem dL_relations_79 : decode cL_relations 79 = .ok (.iload 6, 2) := by decide +kernel
theorem dL_relations_81 : decode cL_relations 81 = .ok (.iload 4, 2) := by decide +kernel
theorem dL_relations_83 : decode cL_relations 83 = .ok (.invokevirtual 74, 3) := by decide +kernel
theorem dL_relations_86 : decode cL_relations 86 = .ok (.iload 8, 2) := by decide +kernel
theorem dL_relations_88 : decode cL_relations 88 = .ok (.iconst (-1), 1) := by decide +kernel
theorem dL_relations_89 : decode cL_relations 89 = .ok (.if_icmp .ne 7, 3) := by decide +kernel
theorem dL_relations_92 : decode cL_relations 92 = .ok (.iconst 1, 1) := by decide +kernel
theorem dL_relations_93 : decode cL_relations 93 = .ok (.goto 4, 3) := by decide +kernel
theorem dL_relations_96 : decode cL_relations 96 = .ok (.iconst 0, 1) := by decide +kernel
theorem dL_relations_97 : decode cL_relations 97 = .ok (.if_icmp .ne 70, 3) := by decide +kernel
theorem dL_relations_100 : decode cL_relations 100 = .ok (.iload 7, 2) := by decide +kernel
theorem dL_relations_102 : decode cL_relations 102 = .ok (.iload 5, 2) := by decide +kernel
theorem dL_relations_104 : decode cL_relations 104 = .ok (.if_icmp .ne 7, 3) := by decide +kernel
theorem dL_relations_107 : decode cL_relations 107 = .ok (.iconst 1, 1) := by decide +kernel
theorem dL_relations_108 : decode cL_relations 108 = .ok (.goto 4, 3) := by decide +kernel
theorem dL_relations_111 : decode cL_relations 111 = .ok (.iconst 0, 1) := by decide +kernel
theorem dL_relations_112 : decode cL_relations 112 = .ok (.iload 8, 2) := by decide +kernel
theorem dL_relations_114 : decode cL_relations 114 = .ok (.iconst (-1), 1) := by decide +kernel
theorem dL_relations_115 : decode cL_relations 115 = .ok (.if_icmp .ne 7, 3) := by decide +kernel
theorem dL_relations_118 : decode cL_relations 118 = .ok (.iconst 1, 1) := by decide +kernel
theorem dL_relations_119 : decode cL_relations 119 = .ok (.goto 4, 3) := by decide +kernel
theorem dL_relations_122 : decode cL_relations 122 = .ok (.iconst 0, 1) := by decide +kernel
theorem dL_relations_123 : decode cL_relations 123 = .ok (.if_icmp .ne 44, 3) := by decide +kernel
theorem dL_relations_126 : decode cL_relations 126 = .ok (.iload 7, 2) := by decide +kernel
theorem dL_relations_128 : decode cL_relations 128 = .ok (.iload 5, 2) := by decide +kernel
theorem dL_relations_130 : decode cL_relations 130 = .ok (.iand, 1) := by decide +kernel
theorem dL_relations_131 : decode cL_relations 131 = .ok (.iload 5, 2) := by decide +kernel
theorem dL_relations_133 : decode cL_relations 133 = .ok (.if_icmp .ne 34, 3) := by decide +kernel
theorem dL_relations_136 : decode cL_relations 136 = .ok (.iload 8, 2) := by decide +kernel
theorem dL_relations_138 : decode cL_relations 138 = .ok (.iconst (-1), 1) := by decide +kernel
theorem dL_relations_139 : decode cL_relations 139 = .ok (.if_icmp .eq 24, 3) := by decide +kernel
theorem dL_relations_142 : decode cL_relations 142 = .ok (.iload 5, 2) := by decide +kernel
theorem dL_relations_144 : decode cL_relations 144 = .ok (.iload 8, 2) := by decide +kernel
theorem dL_relations_146 : decode cL_relations 146 = .ok (.ishr, 1) := by decide +kernel
theorem dL_relations_147 : decode cL_relations 147 = .ok (.iconst 1, 1) := by decide +kernel
theorem dL_relations_148 : decode cL_relations 148 = .ok (.iand, 1) := by decide +kernel
theorem dL_relations_149 : decode cL_relations 149 = .ok (.ifCond .ne 18, 3) := by decide +kernel
theorem dL_relations_152 : decode cL_relations 152 = .ok (.iload 7, 2) := by decide +kernel
theorem dL_relations_154 : decode cL_relations 154 = .ok (.iload 8, 2) := by decide +kernel
theorem dL_relations_156 : decode cL_relations 156 = .ok (.ishr, 1) := by decide +kernel
theorem dL_relations_157 : decode cL_relations 157 = .ok (.iconst 1, 1) := by decide +kernel
theorem dL_relations_158 : decode cL_relations 158 = .ok (.iand, 1) := by decide +kernel
theorem dL_relations_159 : decode cL_relations 159 = .ok (.iconst 1, 1) := by decide +kernel
theorem dL_relations_160 : decode cL_relations 160 = .ok (.if_icmp .ne 7, 3) := by decide +kernel
theorem dL_relations_163 : decode cL_relations 163 = .ok (.iconst 1, 1) := by decide +kernel
theorem dL_relations_164 : decode cL_relations 164 = .ok (.goto 4, 3) := by decide +kernel
theorem dL_relations_167 : decode cL_relations 167 = .ok (.iconst 0, 1) := by decide +kernel
theorem dL_relations_168 : decode cL_relations 168 = .ok (.istore_n 3, 1) := by decide +kernel
theorem dL_relations_169 : decode cL_relations 169 = .ok (.iinc 6 1, 3) := by decide +kernel
theorem dL_relations_172 : decode cL_relations 172 = .ok (.goto (-124), 3) := by decide +kernel
theorem dL_relations_175 : decode cL_relations 175 = .ok (.iinc 4 1, 3) := by decide +kernel
theorem dL_relations_178 : decode cL_relations 178 = .ok (.goto (-173), 3) := by decide +kernel
theorem dL_relations_181 : decode cL_relations 181 = .ok (.iload_n 3, 1) := by decide +kernel
theorem dL_relations_182 : decode cL_relations 182 = .ok (.ireturn, 1) := by decide +kernel
theorem dL_surrounded_0 : decode cL_surrounded 0 = .ok (.iconst 1, 1) := by decide +kernel
theorem dL_surrounded_1 : decode cL_surrounded 1 = .ok (.istore_n 2, 1) := by decide +kernel
theorem dL_surrounded_2 : decode cL_surrounded 2 = .ok (.iconst 0, 1) := by decide +kernel
theorem dL_surrounded_3 : decode cL_surrounded 3 = .ok (.istore_n 3, 1) := by decide +kernel
theorem dL_surrounded_4 : decode cL_surrounded 4 = .ok (.iload_n 3, 1) := by decide +kernel
theorem dL_surrounded_5 : decode cL_surrounded 5 = .ok (.iload_n 1, 1) := by decide +kernel
theorem dL_surrounded_6 : decode cL_surrounded 6 = .ok (.if_icmp .ge 66, 3) := by decide +kernel
theorem dL_surrounded_9 : decode cL_surrounded 9 = .ok (.iload_n 3, 1) := by decide +kernel
theorem dL_surrounded_10 : decode cL_surrounded 10 = .ok (.iconst 3, 1) := by decide +kernel
theorem dL_surrounded_11 : decode cL_surrounded 11 = .ok (.if_icmp .ge 61, 3) := by decide +kernel
theorem dL_surrounded_14 : decode cL_surrounded 14 = .ok (.iload_n 2, 1) := by decide +kernel
theorem dL_surrounded_15 : decode cL_surrounded 15 = .ok (.ifCond .eq 57, 3) := by decide +kernel
theorem dL_surrounded_18 : decode cL_surrounded 18 = .ok (.aload_n 0, 1) := by decide +kernel
theorem dL_surrounded_19 : decode cL_surrounded 19 = .ok (.iload_n 3, 1) := by decide +kernel
theorem dL_surrounded_20 : decode cL_surrounded 20 = .ok (.iconst 1, 1) := by decide +kernel
theorem dL_surrounded_21 : decode cL_surrounded 21 = .ok (.invokevirtual 62, 3) := by decide +kernel
theorem dL_surrounded_24 : decode cL_surrounded 24 = .ok (.istore 4, 2) := by decide +kernel
theorem dL_surrounded_26 : decode cL_surrounded 26 = .ok (.aload_n 0, 1) := by decide +kernel
theorem dL_surrounded_27 : decode cL_surrounded 27 = .ok (.iload_n 3, 1) := by decide +kernel
theorem dL_surrounded_28 : decode cL_surrounded 28 = .ok (.invokestatic 78, 3) := by decide +kernel
theorem dL_surrounded_31 : decode cL_surrounded 31 = .ok (.istore 5, 2) := by decide +kernel
theorem dL_surrounded_33 : decode cL_surrounded 33 = .ok (.iload 5, 2) := by decide +kernel
theorem dL_surrounded_35 : decode cL_surrounded 35 = .ok (.bipush (-9), 2) := by decide +kernel
theorem dL_surrounded_37 : decode cL_surrounded 37 = .ok (.if_icmp .eq 23, 3) := by decide +kernel
theorem dL_surrounded_40 : decode cL_surrounded 40 = .ok (.iload 5, 2) := by decide +kernel
theorem dL_surrounded_42 : decode cL_surrounded 42 = .ok (.iload 4, 2) := by decide +kernel
theorem dL_surrounded_44 : decode cL_surrounded 44 = .ok (.iand, 1) := by decide +kernel
theorem dL_surrounded_45 : decode cL_surrounded 45 = .ok (.iload 4, 2) := by decide +kernel
theorem dL_surrounded_47 : decode cL_surrounded 47 = .ok (.if_icmp .ne 17, 3) := by decide +kernel
theorem dL_surrounded_50 : decode cL_surrounded 50 = .ok (.iload 4, 2) := by decide +kernel
theorem dL_surrounded_52 : decode cL_surrounded 52 = .ok (.ifCond .ne 8, 3) := by decide +kernel
theorem dL_surrounded_55 : decode cL_surrounded 55 = .ok (.iload 5, 2) := by decide +kernel
theorem dL_surrounded_57 : decode cL_surrounded 57 = .ok (.ifCond .ne 7, 3) := by decide +kernel
theorem dL_surrounded_60 : decode cL_surrounded 60 = .ok (.iconst 1, 1) := by decide +kernel
theorem dL_surrounded_61 : decode cL_surrounded 61 = .ok (.goto 4, 3) := by decide +kernel
theorem dL_surrounded_64 : decode cL_surrounded 64 = .ok (.iconst 0, 1) := by decide +kernel
theorem dL_surrounded_65 : decode cL_surrounded 65 = .ok (.istore_n 2, 1) := by decide +kernel
theorem dL_surrounded_66 : decode cL_surrounded 66 = .ok (.iinc 3 1, 3) := by decide +kernel
theorem dL_surrounded_69 : decode cL_surrounded 69 = .ok (.goto (-65), 3) := by decide +kernel
theorem dL_surrounded_72 : decode cL_surrounded 72 = .ok (.iload_n 2, 1) := by decide +kernel
theorem dL_surrounded_73 : decode cL_surrounded 73 = .ok (.ireturn, 1) := by decide +kernel
theorem dL_templates_0 : decode cL_templates 0 = .ok (.aload_n 0, 1) := by decide +kernel
theorem dL_templates_1 : decode cL_templates 1 = .ok (.invokevirtual 82, 3) := by decide +kernel
theorem dL_templates_4 : decode cL_templates 4 = .ok (.istore_n 2, 1) := by decide +kernel
theorem dL_templates_5 : decode cL_templates 5 = .ok (.aload_n 0, 1) := by decide +kernel
theorem dL_templates_6 : decode cL_templates 6 = .ok (.invokevirtual 85, 3) := by decide +kernel
theorem dL_templates_9 : decode cL_templates 9 = .ok (.istore_n 3, 1) := by decide +kernel
theorem dL_templates_10 : decode cL_templates 10 = .ok (.iload_n 2, 1) := by decide +kernel
theorem dL_templates_11 : decode cL_templates 11 = .ok (.iconst 1, 1) := by decide +kernel
theorem dL_templates_12 : decode cL_templates 12 = .ok (.if_icmp .lt 102, 3) := by decide +kernel
theorem dL_templates_15 : decode cL_templates 15 = .ok (.iload_n 3, 1) := by decide +kernel
theorem dL_templates_16 : decode cL_templates 16 = .ok (.iconst 1, 1) := by decide +kernel
theorem dL_templates_17 : decode cL_templates 17 = .ok (.if_icmp .lt 97, 3) := by decide +kernel
theorem dL_templates_20 : decode cL_templates 20 = .ok (.iload_n 3, 1) := by decide +kernel
theorem dL_templates_21 : decode cL_templates 21 = .ok (.iload_n 1, 1) := by decide +kernel
theorem dL_templates_22 : decode cL_templates 22 = .ok (.if_icmp .gt 92, 3) := by decide +kernel
theorem dL_templates_25 : decode cL_templates 25 = .ok (.iload_n 3, 1) := by decide +kernel
theorem dL_templates_26 : decode cL_templates 26 = .ok (.iconst 1, 1) := by decide +kernel
theorem dL_templates_27 : decode cL_templates 27 = .ok (.if_icmp .ne 7, 3) := by decide +kernel
theorem dL_templates_30 : decode cL_templates 30 = .ok (.iconst 1, 1) := by decide +kernel
theorem dL_templates_31 : decode cL_templates 31 = .ok (.goto 4, 3) := by decide +kernel
theorem dL_templates_34 : decode cL_templates 34 = .ok (.iconst 0, 1) := by decide +kernel
theorem dL_templates_35 : decode cL_templates 35 = .ok (.aload_n 0, 1) := by decide +kernel
theorem dL_templates_36 : decode cL_templates 36 = .ok (.iconst 0, 1) := by decide +kernel
theorem dL_templates_37 : decode cL_templates 37 = .ok (.invokevirtual 88, 3) := by decide +kernel
theorem dL_templates_40 : decode cL_templates 40 = .ok (.ldc2_w 92, 3) := by decide +kernel
theorem dL_templates_43 : decode cL_templates 43 = .ok (.lcmp, 1) := by decide +kernel
theorem dL_templates_44 : decode cL_templates 44 = .ok (.ifCond .eq 7, 3) := by decide +kernel
theorem dL_templates_47 : decode cL_templates 47 = .ok (.iconst 1, 1) := by decide +kernel
theorem dL_templates_48 : decode cL_templates 48 = .ok (.goto 4, 3) := by decide +kernel
theorem dL_templates_51 : decode cL_templates 51 = .ok (.iconst 0, 1) := by decide +kernel
theorem dL_templates_52 : decode cL_templates 52 = .ok (.if_icmp .ne 62, 3) := by decide +kernel
theorem dL_templates_55 : decode cL_templates 55 = .ok (.aload_n 0, 1) := by decide +kernel
theorem dL_templates_56 : decode cL_templates 56 = .ok (.invokevirtual 94, 3) := by decide +kernel
theorem dL_templates_59 : decode cL_templates 59 = .ok (.iconst 1, 1) := by decide +kernel
theorem dL_templates_60 : decode cL_templates 60 = .ok (.if_icmp .lt 54, 3) := by decide +kernel
theorem dL_templates_63 : decode cL_templates 63 = .ok (.aload_n 0, 1) := by decide +kernel
theorem dL_templates_64 : decode cL_templates 64 = .ok (.iconst 1, 1) := by decide +kernel
theorem dL_templates_65 : decode cL_templates 65 = .ok (.invokevirtual 97, 3) := by decide +kernel
theorem dL_templates_68 : decode cL_templates 68 = .ok (.iconst 2, 1) := by decide +kernel
theorem dL_templates_69 : decode cL_templates 69 = .ok (.if_icmp .lt 45, 3) := by decide +kernel
theorem dL_templates_72 : decode cL_templates 72 = .ok (.aload_n 0, 1) := by decide +kernel
theorem dL_templates_73 : decode cL_templates 73 = .ok (.iconst 2, 1) := by decide +kernel
theorem dL_templates_74 : decode cL_templates 74 = .ok (.invokevirtual 97, 3) := by decide +kernel
theorem dL_templates_77 : decode cL_templates 77 = .ok (.iconst 2, 1) := by decide +kernel
theorem dL_templates_78 : decode cL_templates 78 = .ok (.if_icmp .lt 36, 3) := by decide +kernel
theorem dL_templates_81 : decode cL_templates 81 = .ok (.aload_n 0, 1) := by decide +kernel
theorem dL_templates_82 : decode cL_templates 82 = .ok (.iconst 3, 1) := by decide +kernel
theorem dL_templates_83 : decode cL_templates 83 = .ok (.invokevirtual 88, 3) := by decide +kernel
theorem dL_templates_86 : decode cL_templates 86 = .ok (.ldc2_w 92, 3) := by decide +kernel
theorem dL_templates_89 : decode cL_templates 89 = .ok (.lcmp, 1) := by decide +kernel
theorem dL_templates_90 : decode cL_templates 90 = .ok (.ifCond .eq 20, 3) := by decide +kernel
theorem dL_templates_93 : decode cL_templates 93 = .ok (.iload_n 1, 1) := by decide +kernel
theorem dL_templates_94 : decode cL_templates 94 = .ok (.iconst 3, 1) := by decide +kernel
theorem dL_templates_95 : decode cL_templates 95 = .ok (.if_icmp .eq 15, 3) := by decide +kernel
theorem dL_templates_98 : decode cL_templates 98 = .ok (.aload_n 0, 1) := by decide +kernel
theorem dL_templates_99 : decode cL_templates 99 = .ok (.iconst 3, 1) := by decide +kernel
theorem dL_templates_100 : decode cL_templates 100 = .ok (.invokevirtual 88, 3) := by decide +kernel
theorem dL_templates_103 : decode cL_templates 103 = .ok (.ldc2_w 100, 3) := by decide +kernel
theorem dL_templates_106 : decode cL_templates 106 = .ok (.lcmp, 1) := by decide +kernel
theorem dL_templates_107 : decode cL_templates 107 = .ok (.ifCond .ne 7, 3) := by decide +kernel
theorem dL_templates_110 : decode cL_templates 110 = .ok (.iconst 1, 1) := by decide +kernel
theorem dL_templates_111 : decode cL_templates 111 = .ok (.goto 4, 3) := by decide +kernel
theorem dL_templates_114 : decode cL_templates 114 = .ok (.iconst 0, 1) := by decide +kernel
theorem dL_templates_115 : decode cL_templates 115 = .ok (.ireturn, 1) := by decide +kernel
theorem dL_value_0 : decode cL_value 0 = .ok (.iload_n 0, 1) := by decide +kernel
theorem dL_value_1 : decode cL_value 1 = .ok (.istore_n 3, 1) := by decide +kernel
theorem dL_value_2 : decode cL_value 2 = .ok (.iconst 0, 1) := by decide +kernel
theorem dL_value_3 : decode cL_value 3 = .ok (.istore 4, 2) := by decide +kernel
theorem dL_value_5 : decode cL_value 5 = .ok (.iload 4, 2) := by decide +kernel
theorem dL_value_7 : decode cL_value 7 = .ok (.iload_n 2, 1) := by decide +kernel
theorem dL_value_8 : decode cL_value 8 = .ok (.if_icmp .ge 13, 3) := by decide +kernel
theorem dL_value_11 : decode cL_value 11 = .ok (.iload_n 3, 1) := by decide +kernel
theorem dL_value_12 : decode cL_value 12 = .ok (.iload_n 1, 1) := by decide +kernel
theorem dL_value_13 : decode cL_value 13 = .ok (.idiv, 1) := by decide +kernel
theorem dL_value_14 : decode cL_value 14 = .ok (.istore_n 3, 1) := by decide +kernel
theorem dL_value_15 : decode cL_value 15 = .ok (.iinc 4 1, 3) := by decide +kernel
theorem dL_value_18 : decode cL_value 18 = .ok (.goto (-13), 3) := by decide +kernel
theorem dL_value_21 : decode cL_value 21 = .ok (.iload_n 3, 1) := by decide +kernel
theorem dL_value_22 : decode cL_value 22 = .ok (.iload_n 1, 1) := by decide +kernel
theorem dL_value_23 : decode cL_value 23 = .ok (.irem, 1) := by decide +kernel
theorem dL_value_24 : decode cL_value 24 = .ok (.ireturn, 1) := by decide +kernel
theorem dL_instances_0 : decode cL_instances 0 = .ok (.aload_n 0, 1) := by decide +kernel
theorem dL_instances_1 : decode cL_instances 1 = .ok (.invokevirtual 102, 3) := by decide +kernel
theorem dL_instances_4 : decode cL_instances 4 = .ok (.istore_n 3, 1) := by decide +kernel
theorem dL_instances_5 : decode cL_instances 5 = .ok (.aload_n 0, 1) := by decide +kernel
theorem dL_instances_6 : decode cL_instances 6 = .ok (.invokevirtual 105, 3) := by decide +kernel
theorem dL_instances_9 : decode cL_instances 9 = .ok (.istore 4, 2) := by decide +kernel
theorem dL_instances_11 : decode cL_instances 11 = .ok (.iload_n 3, 1) := by decide +kernel
theorem dL_instances_12 : decode cL_instances 12 = .ok (.aload_n 0, 1) := by decide +kernel
theorem dL_instances_13 : decode cL_instances 13 = .ok (.invokevirtual 108, 3) := by decide +kernel
theorem dL_instances_16 : decode cL_instances 16 = .ok (.if_icmp .ne 30, 3) := by decide +kernel
theorem dL_instances_19 : decode cL_instances 19 = .ok (.iload_n 3, 1) := by decide +kernel
theorem dL_instances_20 : decode cL_instances 20 = .ok (.ifCond .ne 7, 3) := by decide +kernel
theorem dL_instances_23 : decode cL_instances 23 = .ok (.iconst 1, 1) := by decide +kernel
theorem dL_instances_24 : decode cL_instances 24 = .ok (.goto 4, 3) := by decide +kernel
theorem dL_instances_27 : decode cL_instances 27 = .ok (.iconst 0, 1) := by decide +kernel
theorem dL_instances_28 : decode cL_instances 28 = .ok (.iload 4, 2) := by decide +kernel
theorem dL_instances_30 : decode cL_instances 30 = .ok (.iconst (-1), 1) := by decide +kernel
theorem dL_instances_31 : decode cL_instances 31 = .ok (.if_icmp .ne 7, 3) := by decide +kernel
theorem dL_instances_34 : decode cL_instances 34 = .ok (.iconst 1, 1) := by decide +kernel
theorem dL_instances_35 : decode cL_instances 35 = .ok (.goto 4, 3) := by decide +kernel
theorem dL_instances_38 : decode cL_instances 38 = .ok (.iconst 0, 1) := by decide +kernel
theorem dL_instances_39 : decode cL_instances 39 = .ok (.if_icmp .ne 7, 3) := by decide +kernel
theorem dL_instances_42 : decode cL_instances 42 = .ok (.iconst 1, 1) := by decide +kernel
theorem dL_instances_43 : decode cL_instances 43 = .ok (.goto 4, 3) := by decide +kernel
theorem dL_instances_46 : decode cL_instances 46 = .ok (.iconst 0, 1) := by decide +kernel
theorem dL_instances_47 : decode cL_instances 47 = .ok (.istore 5, 2) := by decide +kernel
theorem dL_instances_49 : decode cL_instances 49 = .ok (.iconst 0, 1) := by decide +kernel
theorem dL_instances_50 : decode cL_instances 50 = .ok (.istore 6, 2) := by decide +kernel
theorem dL_instances_52 : decode cL_instances 52 = .ok (.iload 6, 2) := by decide +kernel
theorem dL_instances_54 : decode cL_instances 54 = .ok (.iload_n 2, 1) := by decide +kernel
theorem dL_instances_55 : decode cL_instances 55 = .ok (.if_icmp .ge 167, 3) := by decide +kernel
theorem dL_instances_58 : decode cL_instances 58 = .ok (.iload 5, 2) := by decide +kernel
theorem dL_instances_60 : decode cL_instances 60 = .ok (.ifCond .eq 162, 3) := by decide +kernel
theorem dL_instances_63 : decode cL_instances 63 = .ok (.aload_n 0, 1) := by decide +kernel
theorem dL_instances_64 : decode cL_instances 64 = .ok (.iload 6, 2) := by decide +kernel
theorem dL_instances_66 : decode cL_instances 66 = .ok (.invokevirtual 111, 3) := by decide +kernel
theorem dL_instances_69 : decode cL_instances 69 = .ok (.istore 7, 2) := by decide +kernel
theorem dL_instances_71 : decode cL_instances 71 = .ok (.iload 7, 2) := by decide +kernel
theorem dL_instances_73 : decode cL_instances 73 = .ok (.ifCond .ne 7, 3) := by decide +kernel
theorem dL_instances_76 : decode cL_instances 76 = .ok (.iload_n 3, 1) := by decide +kernel
theorem dL_instances_77 : decode cL_instances 77 = .ok (.ifCond .ne 28, 3) := by decide +kernel
theorem dL_instances_80 : decode cL_instances 80 = .ok (.iload_n 3, 1) := by decide +kernel
theorem dL_instances_81 : decode cL_instances 81 = .ok (.ifCond .eq 20, 3) := by decide +kernel
theorem dL_instances_84 : decode cL_instances 84 = .ok (.iload 7, 2) := by decide +kernel
theorem dL_instances_86 : decode cL_instances 86 = .ok (.iload 4, 2) := by decide +kernel
theorem dL_instances_88 : decode cL_instances 88 = .ok (.iload_n 1, 1) := by decide +kernel
theorem dL_instances_89 : decode cL_instances 89 = .ok (.iload 6, 2) := by decide +kernel
theorem dL_instances_91 : decode cL_instances 91 = .ok (.invokestatic 114, 3) := by decide +kernel
theorem dL_instances_94 : decode cL_instances 94 = .ok (.ishr, 1) := by decide +kernel
theorem dL_instances_95 : decode cL_instances 95 = .ok (.iconst 1, 1) := by decide +kernel
theorem dL_instances_96 : decode cL_instances 96 = .ok (.iand, 1) := by decide +kernel
theorem dL_instances_97 : decode cL_instances 97 = .ok (.iconst 1, 1) := by decide +kernel
theorem dL_instances_98 : decode cL_instances 98 = .ok (.if_icmp .ne 7, 3) := by decide +kernel
theorem dL_instances_101 : decode cL_instances 101 = .ok (.iconst 1, 1) := by decide +kernel
theorem dL_instances_102 : decode cL_instances 102 = .ok (.goto 4, 3) := by decide +kernel
theorem dL_instances_105 : decode cL_instances 105 = .ok (.iconst 0, 1) := by decide +kernel
theorem dL_instances_106 : decode cL_instances 106 = .ok (.istore 5, 2) := by decide +kernel
theorem dL_instances_108 : decode cL_instances 108 = .ok (.iconst 0, 1) := by decide +kernel
theorem dL_instances_109 : decode cL_instances 109 = .ok (.istore 8, 2) := by decide +kernel
theorem dL_instances_111 : decode cL_instances 111 = .ok (.iload 8, 2) := by decide +kernel
theorem dL_instances_113 : decode cL_instances 113 = .ok (.iload 6, 2) := by decide +kernel
theorem dL_instances_115 : decode cL_instances 115 = .ok (.if_icmp .ge 101, 3) := by decide +kernel
theorem dL_instances_118 : decode cL_instances 118 = .ok (.iload 5, 2) := by decide +kernel
theorem dL_instances_120 : decode cL_instances 120 = .ok (.ifCond .eq 96, 3) := by decide +kernel
theorem dL_instances_123 : decode cL_instances 123 = .ok (.iload_n 3, 1) := by decide +kernel
theorem dL_instances_124 : decode cL_instances 124 = .ok (.ifCond .le 92, 3) := by decide +kernel
theorem dL_instances_127 : decode cL_instances 127 = .ok (.iload 4, 2) := by decide +kernel
theorem dL_instances_129 : decode cL_instances 129 = .ok (.iload_n 1, 1) := by decide +kernel
theorem dL_instances_130 : decode cL_instances 130 = .ok (.iload 8, 2) := by decide +kernel
theorem dL_instances_132 : decode cL_instances 132 = .ok (.invokestatic 114, 3) := by decide +kernel
theorem dL_instances_135 : decode cL_instances 135 = .ok (.iload_n 1, 1) := by decide +kernel
theorem dL_instances_136 : decode cL_instances 136 = .ok (.iload 4, 2) := by decide +kernel
theorem dL_instances_138 : decode cL_instances 138 = .ok (.iload_n 1, 1) := by decide +kernel
theorem dL_instances_139 : decode cL_instances 139 = .ok (.iload 6, 2) := by decide +kernel
theorem dL_instances_141 : decode cL_instances 141 = .ok (.invokestatic 114, 3) := by decide +kernel
theorem dL_instances_144 : decode cL_instances 144 = .ok (.imul, 1) := by decide +kernel
theorem dL_instances_145 : decode cL_instances 145 = .ok (.iadd, 1) := by decide +kernel
theorem dL_instances_146 : decode cL_instances 146 = .ok (.istore 9, 2) := by decide +kernel
theorem dL_instances_148 : decode cL_instances 148 = .ok (.iload 4, 2) := by decide +kernel
theorem dL_instances_150 : decode cL_instances 150 = .ok (.iload_n 1, 1) := by decide +kernel
theorem dL_instances_151 : decode cL_instances 151 = .ok (.iload 6, 2) := by decide +kernel
theorem dL_instances_153 : decode cL_instances 153 = .ok (.invokestatic 114, 3) := by decide +kernel
theorem dL_instances_156 : decode cL_instances 156 = .ok (.iload_n 1, 1) := by decide +kernel
theorem dL_instances_157 : decode cL_instances 157 = .ok (.iload 4, 2) := by decide +kernel
theorem dL_instances_159 : decode cL_instances 159 = .ok (.iload_n 1, 1) := by decide +kernel
theorem dL_instances_160 : decode cL_instances 160 = .ok (.iload 8, 2) := by decide +kernel
theorem dL_instances_162 : decode cL_instances 162 = .ok (.invokestatic 114, 3) := by decide +kernel
theorem dL_instances_165 : decode cL_instances 165 = .ok (.imul, 1) := by decide +kernel
theorem dL_instances_166 : decode cL_instances 166 = .ok (.iadd, 1) := by decide +kernel
theorem dL_instances_167 : decode cL_instances 167 = .ok (.istore 10, 2) := by decide +kernel
theorem dL_instances_169 : decode cL_instances 169 = .ok (.aload_n 0, 1) := by decide +kernel
theorem dL_instances_170 : decode cL_instances 170 = .ok (.iload 8, 2) := by decide +kernel
theorem dL_instances_172 : decode cL_instances 172 = .ok (.iload 6, 2) := by decide +kernel
theorem dL_instances_174 : decode cL_instances 174 = .ok (.invokevirtual 117, 3) := by decide +kernel
theorem dL_instances_177 : decode cL_instances 177 = .ok (.iload 9, 2) := by decide +kernel
theorem dL_instances_179 : decode cL_instances 179 = .ok (.ishr, 1) := by decide +kernel
theorem dL_instances_180 : decode cL_instances 180 = .ok (.iconst 1, 1) := by decide +kernel
theorem dL_instances_181 : decode cL_instances 181 = .ok (.iand, 1) := by decide +kernel
theorem dL_instances_182 : decode cL_instances 182 = .ok (.iconst 1, 1) := by decide +kernel
theorem dL_instances_183 : decode cL_instances 183 = .ok (.if_icmp .ne 24, 3) := by decide +kernel
theorem dL_instances_186 : decode cL_instances 186 = .ok (.aload_n 0, 1) := by decide +kernel
theorem dL_instances_187 : decode cL_instances 187 = .ok (.iload 6, 2) := by decide +kernel
theorem dL_instances_189 : decode cL_instances 189 = .ok (.iload 8, 2) := by decide +kernel
theorem dL_instances_191 : decode cL_instances 191 = .ok (.invokevirtual 117, 3) := by decide +kernel
theorem dL_instances_194 : decode cL_instances 194 = .ok (.iload 10, 2) := by decide +kernel
theorem dL_instances_196 : decode cL_instances 196 = .ok (.ishr, 1) := by decide +kernel
theorem dL_instances_197 : decode cL_instances 197 = .ok (.iconst 1, 1) := by decide +kernel
theorem dL_instances_198 : decode cL_instances 198 = .ok (.iand, 1) := by decide +kernel
theorem dL_instances_199 : decode cL_instances 199 = .ok (.iconst 1, 1) := by decide +kernel
theorem dL_instances_200 : decode cL_instances 200 = .ok (.if_icmp .ne 7, 3) := by decide +kernel
theorem dL_instances_203 : decode cL_instances 203 = .ok (.iconst 1, 1) := by decide +kernel
theorem dL_instances_204 : decode cL_instances 204 = .ok (.goto 4, 3) := by decide +kernel
theorem dL_instances_207 : decode cL_instances 207 = .ok (.iconst 0, 1) := by decide +kernel
theorem dL_instances_208 : decode cL_instances 208 = .ok (.istore 5, 2) := by decide +kernel
theorem dL_instances_210 : decode cL_instances 210 = .ok (.iinc 8 1, 3) := by decide +kernel
theorem dL_instances_213 : decode cL_instances 213 = .ok (.goto (-102), 3) := by decide +kernel
theorem dL_instances_216 : decode cL_instances 216 = .ok (.iinc 6 1, 3) := by decide +kernel
theorem dL_instances_219 : decode cL_instances 219 = .ok (.goto (-167), 3) := by decide +kernel
theorem dL_instances_222 : decode cL_instances 222 = .ok (.iload 5, 2) := by decide +kernel
theorem dL_instances_224 : decode cL_instances 224 = .ok (.ireturn, 1) := by decide +kernel
theorem dL_keepsAll_0 : decode cL_keepsAll 0 = .ok (.iconst 1, 1) := by decide +kernel
theorem dL_keepsAll_1 : decode cL_keepsAll 1 = .ok (.istore_n 3, 1) := by decide +kernel
theorem dL_keepsAll_2 : decode cL_keepsAll 2 = .ok (.iconst 0, 1) := by decide +kernel
theorem dL_keepsAll_3 : decode cL_keepsAll 3 = .ok (.istore 4, 2) := by decide +kernel
theorem dL_keepsAll_5 : decode cL_keepsAll 5 = .ok (.iload 4, 2) := by decide +kernel
theorem dL_keepsAll_7 : decode cL_keepsAll 7 = .ok (.iload_n 2, 1) := by decide +kernel
theorem dL_keepsAll_8 : decode cL_keepsAll 8 = .ok (.if_icmp .ge 29, 3) := by decide +kernel
theorem dL_keepsAll_11 : decode cL_keepsAll 11 = .ok (.iload_n 3, 1) := by decide +kernel
theorem dL_keepsAll_12 : decode cL_keepsAll 12 = .ok (.ifCond .eq 17, 3) := by decide +kernel
theorem dL_keepsAll_15 : decode cL_keepsAll 15 = .ok (.aload_n 0, 1) := by decide +kernel
theorem dL_keepsAll_16 : decode cL_keepsAll 16 = .ok (.iload_n 1, 1) := by decide +kernel
theorem dL_keepsAll_17 : decode cL_keepsAll 17 = .ok (.iload 4, 2) := by decide +kernel
theorem dL_keepsAll_19 : decode cL_keepsAll 19 = .ok (.invokevirtual 74, 3) := by decide +kernel
theorem dL_keepsAll_22 : decode cL_keepsAll 22 = .ok (.ifCond .eq 7, 3) := by decide +kernel
theorem dL_keepsAll_25 : decode cL_keepsAll 25 = .ok (.iconst 1, 1) := by decide +kernel
theorem dL_keepsAll_26 : decode cL_keepsAll 26 = .ok (.goto 4, 3) := by decide +kernel
theorem dL_keepsAll_29 : decode cL_keepsAll 29 = .ok (.iconst 0, 1) := by decide +kernel
theorem dL_keepsAll_30 : decode cL_keepsAll 30 = .ok (.istore_n 3, 1) := by decide +kernel
theorem dL_keepsAll_31 : decode cL_keepsAll 31 = .ok (.iinc 4 1, 3) := by decide +kernel
theorem dL_keepsAll_34 : decode cL_keepsAll 34 = .ok (.goto (-29), 3) := by decide +kernel
theorem dL_keepsAll_37 : decode cL_keepsAll 37 = .ok (.iload_n 3, 1) := by decide +kernel
theorem dL_keepsAll_38 : decode cL_keepsAll 38 = .ok (.ireturn, 1) := by decide +kernel
theorem dL_formula_0 : decode cL_formula 0 = .ok (.iload_n 1, 1) := by decide +kernel
theorem dL_formula_1 : decode cL_formula 1 = .ok (.iload_n 2, 1) := by decide +kernel
theorem dL_formula_2 : decode cL_formula 2 = .ok (.invokestatic 19, 3) := by decide +kernel
theorem dL_formula_5 : decode cL_formula 5 = .ok (.istore 4, 2) := by decide +kernel
theorem dL_formula_7 : decode cL_formula 7 = .ok (.iload_n 1, 1) := by decide +kernel
theorem dL_formula_8 : decode cL_formula 8 = .ok (.iconst 3, 1) := by decide +kernel
theorem dL_formula_9 : decode cL_formula 9 = .ok (.ishr, 1) := by decide +kernel
theorem dL_formula_10 : decode cL_formula 10 = .ok (.iload_n 2, 1) := by decide +kernel
theorem dL_formula_11 : decode cL_formula 11 = .ok (.invokestatic 19, 3) := by decide +kernel
theorem dL_formula_14 : decode cL_formula 14 = .ok (.istore 5, 2) := by decide +kernel
theorem dL_formula_16 : decode cL_formula 16 = .ok (.aload_n 0, 1) := by decide +kernel
theorem dL_formula_17 : decode cL_formula 17 = .ok (.invokevirtual 120, 3) := by decide +kernel
theorem dL_formula_20 : decode cL_formula 20 = .ok (.pop, 1) := by decide +kernel
theorem dL_formula_21 : decode cL_formula 21 = .ok (.aload_n 0, 1) := by decide +kernel
theorem dL_formula_22 : decode cL_formula 22 = .ok (.bipush 97, 2) := by decide +kernel
theorem dL_formula_24 : decode cL_formula 24 = .ok (.bipush 98, 2) := by decide +kernel
theorem dL_formula_26 : decode cL_formula 26 = .ok (.bipush 58, 2) := by decide +kernel
theorem dL_formula_28 : decode cL_formula 28 = .ok (.bipush 48, 2) := by decide +kernel
theorem dL_formula_30 : decode cL_formula 30 = .ok (.iload 4, 2) := by decide +kernel
theorem dL_formula_32 : decode cL_formula 32 = .ok (.iadd, 1) := by decide +kernel
theorem dL_formula_33 : decode cL_formula 33 = .ok (.invokestatic 123, 3) := by decide +kernel
theorem dL_formula_36 : decode cL_formula 36 = .ok (.pop, 1) := by decide +kernel
theorem dL_formula_37 : decode cL_formula 37 = .ok (.aload_n 0, 1) := by decide +kernel
theorem dL_formula_38 : decode cL_formula 38 = .ok (.bipush 40, 2) := by decide +kernel
theorem dL_formula_40 : decode cL_formula 40 = .ok (.bipush 97, 2) := by decide +kernel
theorem dL_formula_42 : decode cL_formula 42 = .ok (.bipush 44, 2) := by decide +kernel
theorem dL_formula_44 : decode cL_formula 44 = .ok (.bipush 97, 2) := by decide +kernel
theorem dL_formula_46 : decode cL_formula 46 = .ok (.iload_n 1, 1) := by decide +kernel
theorem dL_formula_47 : decode cL_formula 47 = .ok (.iconst 5, 1) := by decide +kernel
theorem dL_formula_48 : decode cL_formula 48 = .ok (.ishr, 1) := by decide +kernel
theorem dL_formula_49 : decode cL_formula 49 = .ok (.iconst 4, 1) := by decide +kernel
theorem dL_formula_50 : decode cL_formula 50 = .ok (.invokestatic 19, 3) := by decide +kernel
theorem dL_formula_53 : decode cL_formula 53 = .ok (.iadd, 1) := by decide +kernel
theorem dL_formula_54 : decode cL_formula 54 = .ok (.invokestatic 123, 3) := by decide +kernel
theorem dL_formula_57 : decode cL_formula 57 = .ok (.pop, 1) := by decide +kernel
theorem dL_formula_58 : decode cL_formula 58 = .ok (.aload_n 0, 1) := by decide +kernel
theorem dL_formula_59 : decode cL_formula 59 = .ok (.bipush 41, 2) := by decide +kernel
theorem dL_formula_61 : decode cL_formula 61 = .ok (.bipush 38, 2) := by decide +kernel
theorem dL_formula_63 : decode cL_formula 63 = .ok (.bipush 48, 2) := by decide +kernel
theorem dL_formula_65 : decode cL_formula 65 = .ok (.iload 5, 2) := by decide +kernel
theorem dL_formula_67 : decode cL_formula 67 = .ok (.iadd, 1) := by decide +kernel
theorem dL_formula_68 : decode cL_formula 68 = .ok (.bipush 40, 2) := by decide +kernel
theorem dL_formula_70 : decode cL_formula 70 = .ok (.invokestatic 123, 3) := by decide +kernel
theorem dL_formula_73 : decode cL_formula 73 = .ok (.pop, 1) := by decide +kernel
theorem dL_formula_74 : decode cL_formula 74 = .ok (.aload_n 0, 1) := by decide +kernel
theorem dL_formula_75 : decode cL_formula 75 = .ok (.bipush 97, 2) := by decide +kernel
theorem dL_formula_77 : decode cL_formula 77 = .ok (.iload_n 1, 1) := by decide +kernel
theorem dL_formula_78 : decode cL_formula 78 = .ok (.bipush 7, 2) := by decide +kernel
theorem dL_formula_80 : decode cL_formula 80 = .ok (.ishr, 1) := by decide +kernel
theorem dL_formula_81 : decode cL_formula 81 = .ok (.iconst 4, 1) := by decide +kernel
theorem dL_formula_82 : decode cL_formula 82 = .ok (.invokestatic 19, 3) := by decide +kernel
theorem dL_formula_85 : decode cL_formula 85 = .ok (.iadd, 1) := by decide +kernel
theorem dL_formula_86 : decode cL_formula 86 = .ok (.bipush 44, 2) := by decide +kernel
theorem dL_formula_88 : decode cL_formula 88 = .ok (.bipush 98, 2) := by decide +kernel
theorem dL_formula_90 : decode cL_formula 90 = .ok (.bipush 41, 2) := by decide +kernel
theorem dL_formula_92 : decode cL_formula 92 = .ok (.invokestatic 123, 3) := by decide +kernel
theorem dL_formula_95 : decode cL_formula 95 = .ok (.pop, 1) := by decide +kernel
theorem dL_formula_96 : decode cL_formula 96 = .ok (.aload_n 0, 1) := by decide +kernel
theorem dL_formula_97 : decode cL_formula 97 = .ok (.invokevirtual 127, 3) := by decide +kernel
theorem dL_formula_100 : decode cL_formula 100 = .ok (.istore 6, 2) := by decide +kernel
theorem dL_formula_102 : decode cL_formula 102 = .ok (.aload_n 0, 1) := by decide +kernel
theorem dL_formula_103 : decode cL_formula 103 = .ok (.iload 4, 2) := by decide +kernel
theorem dL_formula_105 : decode cL_formula 105 = .ok (.iconst 0, 1) := by decide +kernel
theorem dL_formula_106 : decode cL_formula 106 = .ok (.invokevirtual 62, 3) := by decide +kernel
theorem dL_formula_109 : decode cL_formula 109 = .ok (.iconst 2, 1) := by decide +kernel
theorem dL_formula_110 : decode cL_formula 110 = .ok (.if_icmp .ne 18, 3) := by decide +kernel
theorem dL_formula_113 : decode cL_formula 113 = .ok (.aload_n 0, 1) := by decide +kernel
theorem dL_formula_114 : decode cL_formula 114 = .ok (.iload 5, 2) := by decide +kernel
theorem dL_formula_116 : decode cL_formula 116 = .ok (.iconst 0, 1) := by decide +kernel
theorem dL_formula_117 : decode cL_formula 117 = .ok (.invokevirtual 62, 3) := by decide +kernel
theorem dL_formula_120 : decode cL_formula 120 = .ok (.iconst 2, 1) := by decide +kernel
theorem dL_formula_121 : decode cL_formula 121 = .ok (.if_icmp .ne 7, 3) := by decide +kernel
theorem dL_formula_124 : decode cL_formula 124 = .ok (.iconst 1, 1) := by decide +kernel
theorem dL_formula_125 : decode cL_formula 125 = .ok (.goto 4, 3) := by decide +kernel
theorem dL_formula_128 : decode cL_formula 128 = .ok (.iconst 0, 1) := by decide +kernel
theorem dL_formula_129 : decode cL_formula 129 = .ok (.istore 7, 2) := by decide +kernel
theorem dL_formula_131 : decode cL_formula 131 = .ok (.aload_n 0, 1) := by decide +kernel
theorem dL_formula_132 : decode cL_formula 132 = .ok (.invokestatic 130, 3) := by decide +kernel
theorem dL_formula_135 : decode cL_formula 135 = .ok (.istore 8, 2) := by decide +kernel
theorem dL_formula_137 : decode cL_formula 137 = .ok (.iload 6, 2) := by decide +kernel
theorem dL_formula_139 : decode cL_formula 139 = .ok (.iconst (-1), 1) := by decide +kernel
theorem dL_formula_140 : decode cL_formula 140 = .ok (.if_icmp .ne 7, 3) := by decide +kernel
theorem dL_formula_143 : decode cL_formula 143 = .ok (.iconst 1, 1) := by decide +kernel
theorem dL_formula_144 : decode cL_formula 144 = .ok (.goto 4, 3) := by decide +kernel
theorem dL_formula_147 : decode cL_formula 147 = .ok (.iconst 0, 1) := by decide +kernel
theorem dL_formula_148 : decode cL_formula 148 = .ok (.iload 7, 2) := by decide +kernel
theorem dL_formula_150 : decode cL_formula 150 = .ok (.if_icmp .ne 29, 3) := by decide +kernel
theorem dL_formula_153 : decode cL_formula 153 = .ok (.iload 8, 2) := by decide +kernel
theorem dL_formula_155 : decode cL_formula 155 = .ok (.bipush (-7), 2) := by decide +kernel
theorem dL_formula_157 : decode cL_formula 157 = .ok (.if_icmp .ne 7, 3) := by decide +kernel
theorem dL_formula_160 : decode cL_formula 160 = .ok (.iconst 1, 1) := by decide +kernel
theorem dL_formula_161 : decode cL_formula 161 = .ok (.goto 4, 3) := by decide +kernel
theorem dL_formula_164 : decode cL_formula 164 = .ok (.iconst 0, 1) := by decide +kernel
theorem dL_formula_165 : decode cL_formula 165 = .ok (.iload 6, 2) := by decide +kernel
theorem dL_formula_167 : decode cL_formula 167 = .ok (.iconst (-1), 1) := by decide +kernel
theorem dL_formula_168 : decode cL_formula 168 = .ok (.if_icmp .eq 7, 3) := by decide +kernel
theorem dL_formula_171 : decode cL_formula 171 = .ok (.iconst 1, 1) := by decide +kernel
theorem dL_formula_172 : decode cL_formula 172 = .ok (.goto 4, 3) := by decide +kernel
theorem dL_formula_175 : decode cL_formula 175 = .ok (.iconst 0, 1) := by decide +kernel
theorem dL_formula_176 : decode cL_formula 176 = .ok (.if_icmp .eq 5, 3) := by decide +kernel
theorem dL_formula_179 : decode cL_formula 179 = .ok (.iconst (-1), 1) := by decide +kernel
theorem dL_formula_180 : decode cL_formula 180 = .ok (.ireturn, 1) := by decide +kernel
theorem dL_formula_181 : decode cL_formula 181 = .ok (.iload 8, 2) := by decide +kernel
theorem dL_formula_183 : decode cL_formula 183 = .ok (.ifCond .lt 9, 3) := by decide +kernel
theorem dL_formula_186 : decode cL_formula 186 = .ok (.iload_n 2, 1) := by decide +kernel
theorem dL_formula_187 : decode cL_formula 187 = .ok (.iconst 1, 1) := by decide +kernel
theorem dL_formula_188 : decode cL_formula 188 = .ok (.iadd, 1) := by decide +kernel
theorem dL_formula_189 : decode cL_formula 189 = .ok (.goto 4, 3) := by decide +kernel
theorem dL_formula_192 : decode cL_formula 192 = .ok (.iload_n 2, 1) := by decide +kernel
theorem dL_formula_193 : decode cL_formula 193 = .ok (.istore 9, 2) := by decide +kernel
theorem dL_formula_195 : decode cL_formula 195 = .ok (.iload 8, 2) := by decide +kernel
theorem dL_formula_197 : decode cL_formula 197 = .ok (.ifCond .lt 9, 3) := by decide +kernel
theorem dL_formula_200 : decode cL_formula 200 = .ok (.iload 8, 2) := by decide +kernel
theorem dL_formula_202 : decode cL_formula 202 = .ok (.iload_n 2, 1) := by decide +kernel
theorem dL_formula_203 : decode cL_formula 203 = .ok (.if_icmp .ne 7, 3) := by decide +kernel
theorem dL_formula_206 : decode cL_formula 206 = .ok (.iconst 1, 1) := by decide +kernel
theorem dL_formula_207 : decode cL_formula 207 = .ok (.goto 4, 3) := by decide +kernel
theorem dL_formula_210 : decode cL_formula 210 = .ok (.iconst 0, 1) := by decide +kernel
theorem dL_formula_211 : decode cL_formula 211 = .ok (.istore 10, 2) := by decide +kernel
theorem dL_formula_213 : decode cL_formula 213 = .ok (.iconst 0, 1) := by decide +kernel
theorem dL_formula_214 : decode cL_formula 214 = .ok (.istore 11, 2) := by decide +kernel
theorem dL_formula_216 : decode cL_formula 216 = .ok (.iload 11, 2) := by decide +kernel
theorem dL_formula_218 : decode cL_formula 218 = .ok (.iload_n 3, 1) := by decide +kernel
theorem dL_formula_219 : decode cL_formula 219 = .ok (.if_icmp .ge 47, 3) := by decide +kernel
theorem dL_formula_222 : decode cL_formula 222 = .ok (.iload 10, 2) := by decide +kernel
theorem dL_formula_224 : decode cL_formula 224 = .ok (.ifCond .eq 42, 3) := by decide +kernel
theorem dL_formula_227 : decode cL_formula 227 = .ok (.iload 8, 2) := by decide +kernel
theorem dL_formula_229 : decode cL_formula 229 = .ok (.ifCond .lt 37, 3) := by decide +kernel
theorem dL_formula_232 : decode cL_formula 232 = .ok (.aload_n 0, 1) := by decide +kernel
theorem dL_formula_233 : decode cL_formula 233 = .ok (.iload 11, 2) := by decide +kernel
theorem dL_formula_235 : decode cL_formula 235 = .ok (.iload_n 2, 1) := by decide +kernel
theorem dL_formula_236 : decode cL_formula 236 = .ok (.invokestatic 134, 3) := by decide +kernel
theorem dL_formula_239 : decode cL_formula 239 = .ok (.ifCond .eq 14, 3) := by decide +kernel
theorem dL_formula_242 : decode cL_formula 242 = .ok (.aload_n 0, 1) := by decide +kernel
theorem dL_formula_243 : decode cL_formula 243 = .ok (.iload 11, 2) := by decide +kernel
theorem dL_formula_245 : decode cL_formula 245 = .ok (.iload 8, 2) := by decide +kernel
theorem dL_formula_247 : decode cL_formula 247 = .ok (.invokevirtual 74, 3) := by decide +kernel
theorem dL_formula_250 : decode cL_formula 250 = .ok (.ifCond .eq 7, 3) := by decide +kernel
theorem dL_formula_253 : decode cL_formula 253 = .ok (.iconst 1, 1) := by decide +kernel
theorem dL_formula_254 : decode cL_formula 254 = .ok (.goto 4, 3) := by decide +kernel
theorem dL_formula_257 : decode cL_formula 257 = .ok (.iconst 0, 1) := by decide +kernel
theorem dL_formula_258 : decode cL_formula 258 = .ok (.istore 10, 2) := by decide +kernel
theorem dL_formula_260 : decode cL_formula 260 = .ok (.iinc 11 1, 3) := by decide +kernel
theorem dL_formula_263 : decode cL_formula 263 = .ok (.goto (-47), 3) := by decide +kernel
theorem dL_formula_266 : decode cL_formula 266 = .ok (.iload 10, 2) := by decide +kernel
theorem dL_formula_268 : decode cL_formula 268 = .ok (.ifCond .eq 8, 3) := by decide +kernel
theorem dL_formula_271 : decode cL_formula 271 = .ok (.iload 9, 2) := by decide +kernel
theorem dL_formula_273 : decode cL_formula 273 = .ok (.goto 4, 3) := by decide +kernel
theorem dL_formula_276 : decode cL_formula 276 = .ok (.iconst (-1), 1) := by decide +kernel
theorem dL_formula_277 : decode cL_formula 277 = .ok (.ireturn, 1) := by decide +kernel
theorem dL_law_0 : decode cL_law 0 = .ok (.new 10, 3) := by decide +kernel
theorem dL_law_3 : decode cL_law 3 = .ok (.dup, 1) := by decide +kernel
theorem dL_law_4 : decode cL_law 4 = .ok (.invokespecial 138, 3) := by decide +kernel
theorem dL_law_7 : decode cL_law 7 = .ok (.astore_n 1, 1) := by decide +kernel
theorem dL_law_8 : decode cL_law 8 = .ok (.iconst 2, 1) := by decide +kernel
theorem dL_law_9 : decode cL_law 9 = .ok (.aload_n 0, 1) := by decide +kernel
theorem dL_law_10 : decode cL_law 10 = .ok (.iconst 0, 1) := by decide +kernel
theorem dL_law_11 : decode cL_law 11 = .ok (.invokestatic 139, 3) := by decide +kernel
theorem dL_law_14 : decode cL_law 14 = .ok (.iconst 2, 1) := by decide +kernel
theorem dL_law_15 : decode cL_law 15 = .ok (.invokestatic 19, 3) := by decide +kernel
theorem dL_law_18 : decode cL_law 18 = .ok (.iadd, 1) := by decide +kernel
theorem dL_law_19 : decode cL_law 19 = .ok (.istore_n 2, 1) := by decide +kernel
theorem dL_law_20 : decode cL_law 20 = .ok (.iconst 1, 1) := by decide +kernel
theorem dL_law_21 : decode cL_law 21 = .ok (.istore_n 3, 1) := by decide +kernel
theorem dL_law_22 : decode cL_law 22 = .ok (.iconst 0, 1) := by decide +kernel
theorem dL_law_23 : decode cL_law 23 = .ok (.istore 4, 2) := by decide +kernel
theorem dL_law_25 : decode cL_law 25 = .ok (.iconst 1, 1) := by decide +kernel
theorem dL_law_26 : decode cL_law 26 = .ok (.istore 5, 2) := by decide +kernel
theorem dL_law_28 : decode cL_law 28 = .ok (.aload_n 1, 1) := by decide +kernel
theorem dL_law_29 : decode cL_law 29 = .ok (.iload_n 2, 1) := by decide +kernel
theorem dL_law_30 : decode cL_law 30 = .ok (.invokevirtual 143, 3) := by decide +kernel
theorem dL_law_33 : decode cL_law 33 = .ok (.iconst 2, 1) := by decide +kernel
theorem dL_law_34 : decode cL_law 34 = .ok (.if_icmp .ne 15, 3) := by decide +kernel
theorem dL_law_37 : decode cL_law 37 = .ok (.aload_n 1, 1) := by decide +kernel
theorem dL_law_38 : decode cL_law 38 = .ok (.iconst 2, 1) := by decide +kernel
theorem dL_law_39 : decode cL_law 39 = .ok (.invokevirtual 9, 3) := by decide +kernel
theorem dL_law_42 : decode cL_law 42 = .ok (.ifCond .ne 7, 3) := by decide +kernel
theorem dL_law_45 : decode cL_law 45 = .ok (.iconst 1, 1) := by decide +kernel
theorem dL_law_46 : decode cL_law 46 = .ok (.goto 4, 3) := by decide +kernel
theorem dL_law_49 : decode cL_law 49 = .ok (.iconst 0, 1) := by decide +kernel
theorem dL_law_50 : decode cL_law 50 = .ok (.istore 6, 2) := by decide +kernel
theorem dL_law_52 : decode cL_law 52 = .ok (.bipush 6, 2) := by decide +kernel
theorem dL_law_54 : decode cL_law 54 = .ok (.aload_n 0, 1) := by decide +kernel
theorem dL_law_55 : decode cL_law 55 = .ok (.iconst 1, 1) := by decide +kernel
theorem dL_law_56 : decode cL_law 56 = .ok (.invokestatic 139, 3) := by decide +kernel
theorem dL_law_59 : decode cL_law 59 = .ok (.bipush 30, 2) := by decide +kernel
theorem dL_law_61 : decode cL_law 61 = .ok (.invokestatic 19, 3) := by decide +kernel
theorem dL_law_64 : decode cL_law 64 = .ok (.iadd, 1) := by decide +kernel
theorem dL_law_65 : decode cL_law 65 = .ok (.istore 7, 2) := by decide +kernel
theorem dL_law_67 : decode cL_law 67 = .ok (.iconst 0, 1) := by decide +kernel
theorem dL_law_68 : decode cL_law 68 = .ok (.istore 8, 2) := by decide +kernel
theorem dL_law_70 : decode cL_law 70 = .ok (.iload 8, 2) := by decide +kernel
theorem dL_law_72 : decode cL_law 72 = .ok (.iload 7, 2) := by decide +kernel
theorem dL_law_74 : decode cL_law 74 = .ok (.if_icmp .ge 419, 3) := by decide +kernel
theorem dL_law_77 : decode cL_law 77 = .ok (.iload 6, 2) := by decide +kernel
theorem dL_law_79 : decode cL_law 79 = .ok (.ifCond .eq 414, 3) := by decide +kernel
theorem dL_law_82 : decode cL_law 82 = .ok (.aload_n 0, 1) := by decide +kernel
theorem dL_law_83 : decode cL_law 83 = .ok (.iconst 2, 1) := by decide +kernel
theorem dL_law_84 : decode cL_law 84 = .ok (.iload 8, 2) := by decide +kernel
theorem dL_law_86 : decode cL_law 86 = .ok (.iadd, 1) := by decide +kernel
theorem dL_law_87 : decode cL_law 87 = .ok (.invokestatic 139, 3) := by decide +kernel
theorem dL_law_90 : decode cL_law 90 = .ok (.istore 9, 2) := by decide +kernel
theorem dL_law_92 : decode cL_law 92 = .ok (.iload 9, 2) := by decide +kernel
theorem dL_law_94 : decode cL_law 94 = .ok (.bipush 13, 2) := by decide +kernel
theorem dL_law_96 : decode cL_law 96 = .ok (.invokestatic 19, 3) := by decide +kernel
theorem dL_law_99 : decode cL_law 99 = .ok (.istore 10, 2) := by decide +kernel
theorem dL_law_101 : decode cL_law 101 = .ok (.iload 10, 2) := by decide +kernel
theorem dL_law_103 : decode cL_law 103 = .ok (.iconst 4, 1) := by decide +kernel
theorem dL_law_104 : decode cL_law 104 = .ok (.if_icmp .ge 46, 3) := by decide +kernel
theorem dL_law_107 : decode cL_law 107 = .ok (.aload_n 1, 1) := by decide +kernel
theorem dL_law_108 : decode cL_law 108 = .ok (.iload 9, 2) := by decide +kernel
theorem dL_law_110 : decode cL_law 110 = .ok (.iconst 4, 1) := by decide +kernel
theorem dL_law_111 : decode cL_law 111 = .ok (.ishr, 1) := by decide +kernel
theorem dL_law_112 : decode cL_law 112 = .ok (.iload_n 3, 1) := by decide +kernel
theorem dL_law_113 : decode cL_law 113 = .ok (.invokestatic 19, 3) := by decide +kernel
theorem dL_law_116 : decode cL_law 116 = .ok (.iload 9, 2) := by decide +kernel
theorem dL_law_118 : decode cL_law 118 = .ok (.bipush 7, 2) := by decide +kernel
theorem dL_law_120 : decode cL_law 120 = .ok (.ishr, 1) := by decide +kernel
theorem dL_law_121 : decode cL_law 121 = .ok (.bipush 9, 2) := by decide +kernel
theorem dL_law_123 : decode cL_law 123 = .ok (.invokestatic 19, 3) := by decide +kernel
theorem dL_law_126 : decode cL_law 126 = .ok (.iload 9, 2) := by decide +kernel
theorem dL_law_128 : decode cL_law 128 = .ok (.bipush 11, 2) := by decide +kernel
theorem dL_law_130 : decode cL_law 130 = .ok (.ishr, 1) := by decide +kernel
theorem dL_law_131 : decode cL_law 131 = .ok (.iconst 4, 1) := by decide +kernel
theorem dL_law_132 : decode cL_law 132 = .ok (.invokestatic 19, 3) := by decide +kernel
theorem dL_law_135 : decode cL_law 135 = .ok (.ifCond .le 7, 3) := by decide +kernel
theorem dL_law_138 : decode cL_law 138 = .ok (.iconst 1, 1) := by decide +kernel
theorem dL_law_139 : decode cL_law 139 = .ok (.goto 4, 3) := by decide +kernel
theorem dL_law_142 : decode cL_law 142 = .ok (.iconst 0, 1) := by decide +kernel
theorem dL_law_143 : decode cL_law 143 = .ok (.invokestatic 146, 3) := by decide +kernel
theorem dL_law_146 : decode cL_law 146 = .ok (.pop, 1) := by decide +kernel
theorem dL_law_147 : decode cL_law 147 = .ok (.goto 340, 3) := by decide +kernel
theorem dL_law_150 : decode cL_law 150 = .ok (.iload 10, 2) := by decide +kernel
theorem dL_law_152 : decode cL_law 152 = .ok (.iconst 4, 1) := by decide +kernel
theorem dL_law_153 : decode cL_law 153 = .ok (.if_icmp .ne 31, 3) := by decide +kernel
theorem dL_law_156 : decode cL_law 156 = .ok (.aload_n 1, 1) := by decide +kernel
theorem dL_law_157 : decode cL_law 157 = .ok (.iconst 1, 1) := by decide +kernel
theorem dL_law_158 : decode cL_law 158 = .ok (.iload 9, 2) := by decide +kernel
theorem dL_law_160 : decode cL_law 160 = .ok (.iconst 4, 1) := by decide +kernel
theorem dL_law_161 : decode cL_law 161 = .ok (.ishr, 1) := by decide +kernel
theorem dL_law_162 : decode cL_law 162 = .ok (.iconst 3, 1) := by decide +kernel
theorem dL_law_163 : decode cL_law 163 = .ok (.invokestatic 19, 3) := by decide +kernel
theorem dL_law_166 : decode cL_law 166 = .ok (.iadd, 1) := by decide +kernel
theorem dL_law_167 : decode cL_law 167 = .ok (.invokestatic 150, 3) := by decide +kernel
theorem dL_law_170 : decode cL_law 170 = .ok (.ifCond .lt 9, 3) := by decide +kernel
theorem dL_law_173 : decode cL_law 173 = .ok (.iload_n 3, 1) := by decide +kernel
theorem dL_law_174 : decode cL_law 174 = .ok (.iconst 1, 1) := by decide +kernel
theorem dL_law_175 : decode cL_law 175 = .ok (.iadd, 1) := by decide +kernel
theorem dL_law_176 : decode cL_law 176 = .ok (.goto 4, 3) := by decide +kernel
theorem dL_law_179 : decode cL_law 179 = .ok (.iload_n 3, 1) := by decide +kernel
theorem dL_law_180 : decode cL_law 180 = .ok (.istore_n 3, 1) := by decide +kernel
theorem dL_law_181 : decode cL_law 181 = .ok (.goto 306, 3) := by decide +kernel
theorem dL_law_184 : decode cL_law 184 = .ok (.iload 10, 2) := by decide +kernel
theorem dL_law_186 : decode cL_law 186 = .ok (.iconst 5, 1) := by decide +kernel
theorem dL_law_187 : decode cL_law 187 = .ok (.if_icmp .ne 28, 3) := by decide +kernel
theorem dL_law_190 : decode cL_law 190 = .ok (.aload_n 1, 1) := by decide +kernel
theorem dL_law_191 : decode cL_law 191 = .ok (.iload 9, 2) := by decide +kernel
theorem dL_law_193 : decode cL_law 193 = .ok (.iconst 4, 1) := by decide +kernel
theorem dL_law_194 : decode cL_law 194 = .ok (.ishr, 1) := by decide +kernel
theorem dL_law_195 : decode cL_law 195 = .ok (.invokestatic 153, 3) := by decide +kernel
theorem dL_law_198 : decode cL_law 198 = .ok (.ifCond .lt 10, 3) := by decide +kernel
theorem dL_law_201 : decode cL_law 201 = .ok (.iload 4, 2) := by decide +kernel
theorem dL_law_203 : decode cL_law 203 = .ok (.iconst 1, 1) := by decide +kernel
theorem dL_law_204 : decode cL_law 204 = .ok (.iadd, 1) := by decide +kernel
theorem dL_law_205 : decode cL_law 205 = .ok (.goto 5, 3) := by decide +kernel
theorem dL_law_208 : decode cL_law 208 = .ok (.iload 4, 2) := by decide +kernel
theorem dL_law_210 : decode cL_law 210 = .ok (.istore 4, 2) := by decide +kernel
theorem dL_law_212 : decode cL_law 212 = .ok (.goto 275, 3) := by decide +kernel
theorem dL_law_215 : decode cL_law 215 = .ok (.iload 10, 2) := by decide +kernel
theorem dL_law_217 : decode cL_law 217 = .ok (.bipush 6, 2) := by decide +kernel
theorem dL_law_219 : decode cL_law 219 = .ok (.if_icmp .ne 44, 3) := by decide +kernel
theorem dL_law_222 : decode cL_law 222 = .ok (.iload 4, 2) := by decide +kernel
theorem dL_law_224 : decode cL_law 224 = .ok (.ifCond .le 39, 3) := by decide +kernel
theorem dL_law_227 : decode cL_law 227 = .ok (.aload_n 1, 1) := by decide +kernel
theorem dL_law_228 : decode cL_law 228 = .ok (.iload 9, 2) := by decide +kernel
theorem dL_law_230 : decode cL_law 230 = .ok (.iconst 4, 1) := by decide +kernel
theorem dL_law_231 : decode cL_law 231 = .ok (.ishr, 1) := by decide +kernel
theorem dL_law_232 : decode cL_law 232 = .ok (.iload 4, 2) := by decide +kernel
theorem dL_law_234 : decode cL_law 234 = .ok (.invokestatic 19, 3) := by decide +kernel
theorem dL_law_237 : decode cL_law 237 = .ok (.iload 9, 2) := by decide +kernel
theorem dL_law_239 : decode cL_law 239 = .ok (.bipush 7, 2) := by decide +kernel
theorem dL_law_241 : decode cL_law 241 = .ok (.ishr, 1) := by decide +kernel
theorem dL_law_242 : decode cL_law 242 = .ok (.bipush 9, 2) := by decide +kernel
theorem dL_law_244 : decode cL_law 244 = .ok (.invokestatic 19, 3) := by decide +kernel
theorem dL_law_247 : decode cL_law 247 = .ok (.iload 9, 2) := by decide +kernel
theorem dL_law_249 : decode cL_law 249 = .ok (.bipush 11, 2) := by decide +kernel
theorem dL_law_251 : decode cL_law 251 = .ok (.ishr, 1) := by decide +kernel
theorem dL_law_252 : decode cL_law 252 = .ok (.iload_n 2, 1) := by decide +kernel
theorem dL_law_253 : decode cL_law 253 = .ok (.invokestatic 19, 3) := by decide +kernel
theorem dL_law_256 : decode cL_law 256 = .ok (.invokestatic 156, 3) := by decide +kernel
theorem dL_law_259 : decode cL_law 259 = .ok (.pop, 1) := by decide +kernel
theorem dL_law_260 : decode cL_law 260 = .ok (.goto 227, 3) := by decide +kernel
theorem dL_law_263 : decode cL_law 263 = .ok (.iload 10, 2) := by decide +kernel
theorem dL_law_265 : decode cL_law 265 = .ok (.bipush 7, 2) := by decide +kernel
theorem dL_law_267 : decode cL_law 267 = .ok (.if_icmp .ne 43, 3) := by decide +kernel
theorem dL_law_270 : decode cL_law 270 = .ok (.aload_n 1, 1) := by decide +kernel
theorem dL_law_271 : decode cL_law 271 = .ok (.iload 9, 2) := by decide +kernel
theorem dL_law_273 : decode cL_law 273 = .ok (.iconst 4, 1) := by decide +kernel
theorem dL_law_274 : decode cL_law 274 = .ok (.ishr, 1) := by decide +kernel
theorem dL_law_275 : decode cL_law 275 = .ok (.iload_n 3, 1) := by decide +kernel
theorem dL_law_276 : decode cL_law 276 = .ok (.iload 4, 2) := by decide +kernel
theorem dL_law_278 : decode cL_law 278 = .ok (.invokestatic 160, 3) := by decide +kernel
theorem dL_law_281 : decode cL_law 281 = .ok (.istore 11, 2) := by decide +kernel
theorem dL_law_283 : decode cL_law 283 = .ok (.iload 11, 2) := by decide +kernel
theorem dL_law_285 : decode cL_law 285 = .ok (.ifCond .le 7, 3) := by decide +kernel
theorem dL_law_288 : decode cL_law 288 = .ok (.iconst 1, 1) := by decide +kernel
theorem dL_law_289 : decode cL_law 289 = .ok (.goto 4, 3) := by decide +kernel
theorem dL_law_292 : decode cL_law 292 = .ok (.iconst 0, 1) := by decide +kernel
theorem dL_law_293 : decode cL_law 293 = .ok (.istore 6, 2) := by decide +kernel
theorem dL_law_295 : decode cL_law 295 = .ok (.iload 6, 2) := by decide +kernel
theorem dL_law_297 : decode cL_law 297 = .ok (.ifCond .eq 8, 3) := by decide +kernel
theorem dL_law_300 : decode cL_law 300 = .ok (.iload 11, 2) := by decide +kernel
theorem dL_law_302 : decode cL_law 302 = .ok (.goto 4, 3) := by decide +kernel
theorem dL_law_305 : decode cL_law 305 = .ok (.iload_n 3, 1) := by decide +kernel
theorem dL_law_306 : decode cL_law 306 = .ok (.istore_n 3, 1) := by decide +kernel
theorem dL_law_307 : decode cL_law 307 = .ok (.goto 180, 3) := by decide +kernel
theorem dL_law_310 : decode cL_law 310 = .ok (.iload 10, 2) := by decide +kernel
theorem dL_law_312 : decode cL_law 312 = .ok (.bipush 8, 2) := by decide +kernel
theorem dL_law_314 : decode cL_law 314 = .ok (.if_icmp .ne 41, 3) := by decide +kernel
theorem dL_law_317 : decode cL_law 317 = .ok (.iconst 2, 1) := by decide +kernel
theorem dL_law_318 : decode cL_law 318 = .ok (.iload 9, 2) := by decide +kernel
theorem dL_law_320 : decode cL_law 320 = .ok (.iconst 4, 1) := by decide +kernel
theorem dL_law_321 : decode cL_law 321 = .ok (.ishr, 1) := by decide +kernel
theorem dL_law_322 : decode cL_law 322 = .ok (.iconst 3, 1) := by decide +kernel
theorem dL_law_323 : decode cL_law 323 = .ok (.invokestatic 19, 3) := by decide +kernel
theorem dL_law_326 : decode cL_law 326 = .ok (.iadd, 1) := by decide +kernel
theorem dL_law_327 : decode cL_law 327 = .ok (.istore 5, 2) := by decide +kernel
theorem dL_law_329 : decode cL_law 329 = .ok (.aload_n 1, 1) := by decide +kernel
theorem dL_law_330 : decode cL_law 330 = .ok (.iload 5, 2) := by decide +kernel
theorem dL_law_332 : decode cL_law 332 = .ok (.invokevirtual 163, 3) := by decide +kernel
theorem dL_law_335 : decode cL_law 335 = .ok (.ifCond .lt 14, 3) := by decide +kernel
theorem dL_law_338 : decode cL_law 338 = .ok (.aload_n 1, 1) := by decide +kernel
theorem dL_law_339 : decode cL_law 339 = .ok (.invokevirtual 105, 3) := by decide +kernel
theorem dL_law_342 : decode cL_law 342 = .ok (.ifCond .ne 7, 3) := by decide +kernel
theorem dL_law_345 : decode cL_law 345 = .ok (.iconst 1, 1) := by decide +kernel
theorem dL_law_346 : decode cL_law 346 = .ok (.goto 4, 3) := by decide +kernel
theorem dL_law_349 : decode cL_law 349 = .ok (.iconst 0, 1) := by decide +kernel
theorem dL_law_350 : decode cL_law 350 = .ok (.istore 6, 2) := by decide +kernel
theorem dL_law_352 : decode cL_law 352 = .ok (.goto 135, 3) := by decide +kernel
theorem dL_law_355 : decode cL_law 355 = .ok (.iload 10, 2) := by decide +kernel
theorem dL_law_357 : decode cL_law 357 = .ok (.bipush 11, 2) := by decide +kernel
theorem dL_law_359 : decode cL_law 359 = .ok (.if_icmp .ge 102, 3) := by decide +kernel
theorem dL_law_362 : decode cL_law 362 = .ok (.iload 9, 2) := by decide +kernel
theorem dL_law_364 : decode cL_law 364 = .ok (.iconst 4, 1) := by decide +kernel
theorem dL_law_365 : decode cL_law 365 = .ok (.ishr, 1) := by decide +kernel
theorem dL_law_366 : decode cL_law 366 = .ok (.iload_n 3, 1) := by decide +kernel
theorem dL_law_367 : decode cL_law 367 = .ok (.invokestatic 19, 3) := by decide +kernel
theorem dL_law_370 : decode cL_law 370 = .ok (.istore 11, 2) := by decide +kernel
theorem dL_law_372 : decode cL_law 372 = .ok (.aload_n 1, 1) := by decide +kernel
theorem dL_law_373 : decode cL_law 373 = .ok (.iload 11, 2) := by decide +kernel
theorem dL_law_375 : decode cL_law 375 = .ok (.iconst 0, 1) := by decide +kernel
theorem dL_law_376 : decode cL_law 376 = .ok (.invokevirtual 62, 3) := by decide +kernel
theorem dL_law_379 : decode cL_law 379 = .ok (.istore 12, 2) := by decide +kernel
theorem dL_law_381 : decode cL_law 381 = .ok (.aload_n 1, 1) := by decide +kernel
theorem dL_law_382 : decode cL_law 382 = .ok (.iload 11, 2) := by decide +kernel
theorem dL_law_384 : decode cL_law 384 = .ok (.iload 9, 2) := by decide +kernel
theorem dL_law_386 : decode cL_law 386 = .ok (.bipush 7, 2) := by decide +kernel
theorem dL_law_388 : decode cL_law 388 = .ok (.ishr, 1) := by decide +kernel
theorem dL_law_389 : decode cL_law 389 = .ok (.iload 5, 2) := by decide +kernel
theorem dL_law_391 : decode cL_law 391 = .ok (.invokestatic 19, 3) := by decide +kernel
theorem dL_law_394 : decode cL_law 394 = .ok (.iload 12, 2) := by decide +kernel
theorem dL_law_396 : decode cL_law 396 = .ok (.iconst 1, 1) := by decide +kernel
theorem dL_law_397 : decode cL_law 397 = .ok (.if_icmp .le 16, 3) := by decide +kernel
theorem dL_law_400 : decode cL_law 400 = .ok (.iload 9, 2) := by decide +kernel
theorem dL_law_402 : decode cL_law 402 = .ok (.bipush 9, 2) := by decide +kernel
theorem dL_law_404 : decode cL_law 404 = .ok (.ishr, 1) := by decide +kernel
theorem dL_law_405 : decode cL_law 405 = .ok (.iload 5, 2) := by decide +kernel
theorem dL_law_407 : decode cL_law 407 = .ok (.invokestatic 19, 3) := by decide +kernel
theorem dL_law_410 : decode cL_law 410 = .ok (.goto 4, 3) := by decide +kernel
theorem dL_law_413 : decode cL_law 413 = .ok (.iconst (-1), 1) := by decide +kernel
theorem dL_law_414 : decode cL_law 414 = .ok (.iload 12, 2) := by decide +kernel
theorem dL_law_416 : decode cL_law 416 = .ok (.iconst 2, 1) := by decide +kernel
theorem dL_law_417 : decode cL_law 417 = .ok (.if_icmp .le 16, 3) := by decide +kernel
theorem dL_law_420 : decode cL_law 420 = .ok (.iload 9, 2) := by decide +kernel
theorem dL_law_422 : decode cL_law 422 = .ok (.bipush 11, 2) := by decide +kernel
theorem dL_law_424 : decode cL_law 424 = .ok (.ishr, 1) := by decide +kernel
theorem dL_law_425 : decode cL_law 425 = .ok (.iload 5, 2) := by decide +kernel
theorem dL_law_427 : decode cL_law 427 = .ok (.invokestatic 19, 3) := by decide +kernel
theorem dL_law_430 : decode cL_law 430 = .ok (.goto 4, 3) := by decide +kernel
theorem dL_law_433 : decode cL_law 433 = .ok (.iconst (-1), 1) := by decide +kernel
theorem dL_law_434 : decode cL_law 434 = .ok (.invokestatic 166, 3) := by decide +kernel
theorem dL_law_437 : decode cL_law 437 = .ok (.istore 13, 2) := by decide +kernel
theorem dL_law_439 : decode cL_law 439 = .ok (.iload 13, 2) := by decide +kernel
theorem dL_law_441 : decode cL_law 441 = .ok (.bipush (-9), 2) := by decide +kernel
theorem dL_law_443 : decode cL_law 443 = .ok (.if_icmp .eq 8, 3) := by decide +kernel
theorem dL_law_446 : decode cL_law 446 = .ok (.iload 13, 2) := by decide +kernel
theorem dL_law_448 : decode cL_law 448 = .ok (.ifCond .le 7, 3) := by decide +kernel
theorem dL_law_451 : decode cL_law 451 = .ok (.iconst 1, 1) := by decide +kernel
theorem dL_law_452 : decode cL_law 452 = .ok (.goto 4, 3) := by decide +kernel
theorem dL_law_455 : decode cL_law 455 = .ok (.iconst 0, 1) := by decide +kernel
theorem dL_law_456 : decode cL_law 456 = .ok (.istore 6, 2) := by decide +kernel
theorem dL_law_458 : decode cL_law 458 = .ok (.goto 29, 3) := by decide +kernel
theorem dL_law_461 : decode cL_law 461 = .ok (.iload 10, 2) := by decide +kernel
theorem dL_law_463 : decode cL_law 463 = .ok (.bipush 11, 2) := by decide +kernel
theorem dL_law_465 : decode cL_law 465 = .ok (.if_icmp .ne 13, 3) := by decide +kernel
theorem dL_law_468 : decode cL_law 468 = .ok (.aload_n 1, 1) := by decide +kernel
theorem dL_law_469 : decode cL_law 469 = .ok (.iload_n 3, 1) := by decide +kernel
theorem dL_law_470 : decode cL_law 470 = .ok (.iload 4, 2) := by decide +kernel
theorem dL_law_472 : decode cL_law 472 = .ok (.invokestatic 169, 3) := by decide +kernel
theorem dL_law_475 : decode cL_law 475 = .ok (.goto 10, 3) := by decide +kernel
theorem dL_law_478 : decode cL_law 478 = .ok (.aload_n 1, 1) := by decide +kernel
theorem dL_law_479 : decode cL_law 479 = .ok (.iload_n 2, 1) := by decide +kernel
theorem dL_law_480 : decode cL_law 480 = .ok (.iload 5, 2) := by decide +kernel
theorem dL_law_482 : decode cL_law 482 = .ok (.invokestatic 172, 3) := by decide +kernel
theorem dL_law_485 : decode cL_law 485 = .ok (.istore 6, 2) := by decide +kernel
theorem dL_law_487 : decode cL_law 487 = .ok (.iinc 8 1, 3) := by decide +kernel
theorem dL_law_490 : decode cL_law 490 = .ok (.goto (-420), 3) := by decide +kernel
theorem dL_law_493 : decode cL_law 493 = .ok (.iload 6, 2) := by decide +kernel
theorem dL_law_495 : decode cL_law 495 = .ok (.ifCond .eq 54, 3) := by decide +kernel
theorem dL_law_498 : decode cL_law 498 = .ok (.aload_n 1, 1) := by decide +kernel
theorem dL_law_499 : decode cL_law 499 = .ok (.iload_n 3, 1) := by decide +kernel
theorem dL_law_500 : decode cL_law 500 = .ok (.iload 4, 2) := by decide +kernel
theorem dL_law_502 : decode cL_law 502 = .ok (.invokestatic 169, 3) := by decide +kernel
theorem dL_law_505 : decode cL_law 505 = .ok (.ifCond .eq 44, 3) := by decide +kernel
theorem dL_law_508 : decode cL_law 508 = .ok (.aload_n 1, 1) := by decide +kernel
theorem dL_law_509 : decode cL_law 509 = .ok (.iload_n 3, 1) := by decide +kernel
theorem dL_law_510 : decode cL_law 510 = .ok (.invokestatic 175, 3) := by decide +kernel
theorem dL_law_513 : decode cL_law 513 = .ok (.ifCond .eq 36, 3) := by decide +kernel
theorem dL_law_516 : decode cL_law 516 = .ok (.aload_n 1, 1) := by decide +kernel
theorem dL_law_517 : decode cL_law 517 = .ok (.iload_n 2, 1) := by decide +kernel
theorem dL_law_518 : decode cL_law 518 = .ok (.invokestatic 179, 3) := by decide +kernel
theorem dL_law_521 : decode cL_law 521 = .ok (.ifCond .eq 28, 3) := by decide +kernel
theorem dL_law_524 : decode cL_law 524 = .ok (.aload_n 1, 1) := by decide +kernel
theorem dL_law_525 : decode cL_law 525 = .ok (.iload_n 2, 1) := by decide +kernel
theorem dL_law_526 : decode cL_law 526 = .ok (.iload 5, 2) := by decide +kernel
theorem dL_law_528 : decode cL_law 528 = .ok (.invokestatic 172, 3) := by decide +kernel
theorem dL_law_531 : decode cL_law 531 = .ok (.ifCond .eq 18, 3) := by decide +kernel
theorem dL_law_534 : decode cL_law 534 = .ok (.aload_n 1, 1) := by decide +kernel
theorem dL_law_535 : decode cL_law 535 = .ok (.bipush 97, 2) := by decide +kernel
theorem dL_law_537 : decode cL_law 537 = .ok (.invokestatic 182, 3) := by decide +kernel
theorem dL_law_540 : decode cL_law 540 = .ok (.bipush (-9), 2) := by decide +kernel
theorem dL_law_542 : decode cL_law 542 = .ok (.if_icmp .lt 7, 3) := by decide +kernel
theorem dL_law_545 : decode cL_law 545 = .ok (.iconst 1, 1) := by decide +kernel
theorem dL_law_546 : decode cL_law 546 = .ok (.goto 4, 3) := by decide +kernel
theorem dL_law_549 : decode cL_law 549 = .ok (.iconst 0, 1) := by decide +kernel
theorem dL_law_550 : decode cL_law 550 = .ok (.ireturn, 1) := by decide +kernel

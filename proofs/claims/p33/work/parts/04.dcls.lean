theorem dX0_init_0 : decode cX0_init 0 = .ok (.aload_n 0, 1) := by decide +kernel
theorem dX0_init_1 : decode cX0_init 1 = .ok (.invokespecial 3, 3) := by decide +kernel
theorem dX0_init_4 : decode cX0_init 4 = .ok (.aload_n 0, 1) := by decide +kernel
theorem dX0_init_5 : decode cX0_init 5 = .ok (.bipush 27, 2) := by decide +kernel
theorem dX0_init_7 : decode cX0_init 7 = .ok (.newarray .int, 2) := by decide +kernel
theorem dX0_init_9 : decode cX0_init 9 = .ok (.putfield 9, 3) := by decide +kernel
theorem dX0_init_12 : decode cX0_init 12 = .ok (.aload_n 0, 1) := by decide +kernel
theorem dX0_init_13 : decode cX0_init 13 = .ok (.iconst 3, 1) := by decide +kernel
theorem dX0_init_14 : decode cX0_init 14 = .ok (.newarray .int, 2) := by decide +kernel
theorem dX0_init_16 : decode cX0_init 16 = .ok (.putfield 15, 3) := by decide +kernel
theorem dX0_init_19 : decode cX0_init 19 = .ok (.aload_n 0, 1) := by decide +kernel
theorem dX0_init_20 : decode cX0_init 20 = .ok (.aload_n 1, 1) := by decide +kernel
theorem dX0_init_21 : decode cX0_init 21 = .ok (.putfield 18, 3) := by decide +kernel
theorem dX0_init_24 : decode cX0_init 24 = .ok (.return_, 1) := by decide +kernel
theorem dX0_beginChoices_0 : decode cX0_beginChoices 0 = .ok (.aload_n 0, 1) := by decide +kernel
theorem dX0_beginChoices_1 : decode cX0_beginChoices 1 = .ok (.iconst 0, 1) := by decide +kernel
theorem dX0_beginChoices_2 : decode cX0_beginChoices 2 = .ok (.putfield 22, 3) := by decide +kernel
theorem dX0_beginChoices_5 : decode cX0_beginChoices 5 = .ok (.iconst 0, 1) := by decide +kernel
theorem dX0_beginChoices_6 : decode cX0_beginChoices 6 = .ok (.istore_n 3, 1) := by decide +kernel
theorem dX0_beginChoices_7 : decode cX0_beginChoices 7 = .ok (.iload_n 3, 1) := by decide +kernel
theorem dX0_beginChoices_8 : decode cX0_beginChoices 8 = .ok (.bipush 27, 2) := by decide +kernel
theorem dX0_beginChoices_10 : decode cX0_beginChoices 10 = .ok (.if_icmp .ge 46, 3) := by decide +kernel
theorem dX0_beginChoices_13 : decode cX0_beginChoices 13 = .ok (.iload_n 3, 1) := by decide +kernel
theorem dX0_beginChoices_14 : decode cX0_beginChoices 14 = .ok (.iload_n 2, 1) := by decide +kernel
theorem dX0_beginChoices_15 : decode cX0_beginChoices 15 = .ok (.invokestatic 26, 3) := by decide +kernel
theorem dX0_beginChoices_18 : decode cX0_beginChoices 18 = .ok (.ifCond .eq 32, 3) := by decide +kernel
theorem dX0_beginChoices_21 : decode cX0_beginChoices 21 = .ok (.aload_n 0, 1) := by decide +kernel
theorem dX0_beginChoices_22 : decode cX0_beginChoices 22 = .ok (.getfield 9, 3) := by decide +kernel
theorem dX0_beginChoices_25 : decode cX0_beginChoices 25 = .ok (.aload_n 0, 1) := by decide +kernel
theorem dX0_beginChoices_26 : decode cX0_beginChoices 26 = .ok (.getfield 22, 3) := by decide +kernel
theorem dX0_beginChoices_29 : decode cX0_beginChoices 29 = .ok (.aload_n 0, 1) := by decide +kernel
theorem dX0_beginChoices_30 : decode cX0_beginChoices 30 = .ok (.getfield 18, 3) := by decide +kernel
theorem dX0_beginChoices_33 : decode cX0_beginChoices 33 = .ok (.iload_n 3, 1) := by decide +kernel
theorem dX0_beginChoices_34 : decode cX0_beginChoices 34 = .ok (.invokevirtual 30, 3) := by decide +kernel
theorem dX0_beginChoices_37 : decode cX0_beginChoices 37 = .ok (.invokestatic 36, 3) := by decide +kernel
theorem dX0_beginChoices_40 : decode cX0_beginChoices 40 = .ok (.aload_n 0, 1) := by decide +kernel
theorem dX0_beginChoices_41 : decode cX0_beginChoices 41 = .ok (.dup, 1) := by decide +kernel
theorem dX0_beginChoices_42 : decode cX0_beginChoices 42 = .ok (.getfield 22, 3) := by decide +kernel
theorem dX0_beginChoices_45 : decode cX0_beginChoices 45 = .ok (.iconst 1, 1) := by decide +kernel
theorem dX0_beginChoices_46 : decode cX0_beginChoices 46 = .ok (.iadd, 1) := by decide +kernel
theorem dX0_beginChoices_47 : decode cX0_beginChoices 47 = .ok (.putfield 22, 3) := by decide +kernel
theorem dX0_beginChoices_50 : decode cX0_beginChoices 50 = .ok (.iinc 3 1, 3) := by decide +kernel
theorem dX0_beginChoices_53 : decode cX0_beginChoices 53 = .ok (.goto (-46), 3) := by decide +kernel
theorem dX0_beginChoices_56 : decode cX0_beginChoices 56 = .ok (.aload_n 0, 1) := by decide +kernel
theorem dX0_beginChoices_57 : decode cX0_beginChoices 57 = .ok (.iload_n 1, 1) := by decide +kernel
theorem dX0_beginChoices_58 : decode cX0_beginChoices 58 = .ok (.putfield 40, 3) := by decide +kernel
theorem dX0_beginChoices_61 : decode cX0_beginChoices 61 = .ok (.iconst 1, 1) := by decide +kernel
theorem dX0_beginChoices_62 : decode cX0_beginChoices 62 = .ok (.istore_n 3, 1) := by decide +kernel
theorem dX0_beginChoices_63 : decode cX0_beginChoices 63 = .ok (.iconst 0, 1) := by decide +kernel
theorem dX0_beginChoices_64 : decode cX0_beginChoices 64 = .ok (.istore 4, 2) := by decide +kernel
theorem dX0_beginChoices_66 : decode cX0_beginChoices 66 = .ok (.iload 4, 2) := by decide +kernel
theorem dX0_beginChoices_68 : decode cX0_beginChoices 68 = .ok (.aload_n 0, 1) := by decide +kernel
theorem dX0_beginChoices_69 : decode cX0_beginChoices 69 = .ok (.getfield 40, 3) := by decide +kernel
theorem dX0_beginChoices_72 : decode cX0_beginChoices 72 = .ok (.if_icmp .ge 26, 3) := by decide +kernel
theorem dX0_beginChoices_75 : decode cX0_beginChoices 75 = .ok (.aload_n 0, 1) := by decide +kernel
theorem dX0_beginChoices_76 : decode cX0_beginChoices 76 = .ok (.getfield 15, 3) := by decide +kernel
theorem dX0_beginChoices_79 : decode cX0_beginChoices 79 = .ok (.iload 4, 2) := by decide +kernel
theorem dX0_beginChoices_81 : decode cX0_beginChoices 81 = .ok (.iconst 0, 1) := by decide +kernel
theorem dX0_beginChoices_82 : decode cX0_beginChoices 82 = .ok (.invokestatic 36, 3) := by decide +kernel
theorem dX0_beginChoices_85 : decode cX0_beginChoices 85 = .ok (.iload_n 3, 1) := by decide +kernel
theorem dX0_beginChoices_86 : decode cX0_beginChoices 86 = .ok (.aload_n 0, 1) := by decide +kernel
theorem dX0_beginChoices_87 : decode cX0_beginChoices 87 = .ok (.getfield 22, 3) := by decide +kernel
theorem dX0_beginChoices_90 : decode cX0_beginChoices 90 = .ok (.imul, 1) := by decide +kernel
theorem dX0_beginChoices_91 : decode cX0_beginChoices 91 = .ok (.istore_n 3, 1) := by decide +kernel
theorem dX0_beginChoices_92 : decode cX0_beginChoices 92 = .ok (.iinc 4 1, 3) := by decide +kernel
theorem dX0_beginChoices_95 : decode cX0_beginChoices 95 = .ok (.goto (-29), 3) := by decide +kernel
theorem dX0_beginChoices_98 : decode cX0_beginChoices 98 = .ok (.iload_n 3, 1) := by decide +kernel
theorem dX0_beginChoices_99 : decode cX0_beginChoices 99 = .ok (.ireturn, 1) := by decide +kernel
theorem dX0_nextColumns_0 : decode cX0_nextColumns 0 = .ok (.iconst 0, 1) := by decide +kernel
theorem dX0_nextColumns_1 : decode cX0_nextColumns 1 = .ok (.istore_n 1, 1) := by decide +kernel
theorem dX0_nextColumns_2 : decode cX0_nextColumns 2 = .ok (.aload_n 0, 1) := by decide +kernel
theorem dX0_nextColumns_3 : decode cX0_nextColumns 3 = .ok (.getfield 40, 3) := by decide +kernel
theorem dX0_nextColumns_6 : decode cX0_nextColumns 6 = .ok (.iconst 1, 1) := by decide +kernel
theorem dX0_nextColumns_7 : decode cX0_nextColumns 7 = .ok (.isub, 1) := by decide +kernel
theorem dX0_nextColumns_8 : decode cX0_nextColumns 8 = .ok (.istore_n 2, 1) := by decide +kernel
theorem dX0_nextColumns_9 : decode cX0_nextColumns 9 = .ok (.iload_n 2, 1) := by decide +kernel
theorem dX0_nextColumns_10 : decode cX0_nextColumns 10 = .ok (.ifCond .lt 35, 3) := by decide +kernel
theorem dX0_nextColumns_13 : decode cX0_nextColumns 13 = .ok (.iload_n 1, 1) := by decide +kernel
theorem dX0_nextColumns_14 : decode cX0_nextColumns 14 = .ok (.aload_n 0, 1) := by decide +kernel
theorem dX0_nextColumns_15 : decode cX0_nextColumns 15 = .ok (.getfield 18, 3) := by decide +kernel
theorem dX0_nextColumns_18 : decode cX0_nextColumns 18 = .ok (.getfield 43, 3) := by decide +kernel
theorem dX0_nextColumns_21 : decode cX0_nextColumns 21 = .ok (.imul, 1) := by decide +kernel
theorem dX0_nextColumns_22 : decode cX0_nextColumns 22 = .ok (.aload_n 0, 1) := by decide +kernel
theorem dX0_nextColumns_23 : decode cX0_nextColumns 23 = .ok (.getfield 9, 3) := by decide +kernel
theorem dX0_nextColumns_26 : decode cX0_nextColumns 26 = .ok (.aload_n 0, 1) := by decide +kernel
theorem dX0_nextColumns_27 : decode cX0_nextColumns 27 = .ok (.getfield 15, 3) := by decide +kernel
theorem dX0_nextColumns_30 : decode cX0_nextColumns 30 = .ok (.iload_n 2, 1) := by decide +kernel
theorem dX0_nextColumns_31 : decode cX0_nextColumns 31 = .ok (.invokestatic 46, 3) := by decide +kernel
theorem dX0_nextColumns_34 : decode cX0_nextColumns 34 = .ok (.invokestatic 46, 3) := by decide +kernel
theorem dX0_nextColumns_37 : decode cX0_nextColumns 37 = .ok (.iadd, 1) := by decide +kernel
theorem dX0_nextColumns_38 : decode cX0_nextColumns 38 = .ok (.istore_n 1, 1) := by decide +kernel
theorem dX0_nextColumns_39 : decode cX0_nextColumns 39 = .ok (.iinc 2 (-1), 3) := by decide +kernel
theorem dX0_nextColumns_42 : decode cX0_nextColumns 42 = .ok (.goto (-33), 3) := by decide +kernel
theorem dX0_nextColumns_45 : decode cX0_nextColumns 45 = .ok (.aload_n 0, 1) := by decide +kernel
theorem dX0_nextColumns_46 : decode cX0_nextColumns 46 = .ok (.invokevirtual 50, 3) := by decide +kernel
theorem dX0_nextColumns_49 : decode cX0_nextColumns 49 = .ok (.iload_n 1, 1) := by decide +kernel
theorem dX0_nextColumns_50 : decode cX0_nextColumns 50 = .ok (.ireturn, 1) := by decide +kernel
theorem dX0_stepOn_0 : decode cX0_stepOn 0 = .ok (.iconst 0, 1) := by decide +kernel
theorem dX0_stepOn_1 : decode cX0_stepOn 1 = .ok (.istore_n 1, 1) := by decide +kernel
theorem dX0_stepOn_2 : decode cX0_stepOn 2 = .ok (.iload_n 1, 1) := by decide +kernel
theorem dX0_stepOn_3 : decode cX0_stepOn 3 = .ok (.aload_n 0, 1) := by decide +kernel
theorem dX0_stepOn_4 : decode cX0_stepOn 4 = .ok (.getfield 40, 3) := by decide +kernel
theorem dX0_stepOn_7 : decode cX0_stepOn 7 = .ok (.if_icmp .ge 47, 3) := by decide +kernel
theorem dX0_stepOn_10 : decode cX0_stepOn 10 = .ok (.aload_n 0, 1) := by decide +kernel
theorem dX0_stepOn_11 : decode cX0_stepOn 11 = .ok (.getfield 15, 3) := by decide +kernel
theorem dX0_stepOn_14 : decode cX0_stepOn 14 = .ok (.iload_n 1, 1) := by decide +kernel
theorem dX0_stepOn_15 : decode cX0_stepOn 15 = .ok (.invokestatic 46, 3) := by decide +kernel
theorem dX0_stepOn_18 : decode cX0_stepOn 18 = .ok (.iconst 1, 1) := by decide +kernel
theorem dX0_stepOn_19 : decode cX0_stepOn 19 = .ok (.iadd, 1) := by decide +kernel
theorem dX0_stepOn_20 : decode cX0_stepOn 20 = .ok (.istore_n 2, 1) := by decide +kernel
theorem dX0_stepOn_21 : decode cX0_stepOn 21 = .ok (.iload_n 2, 1) := by decide +kernel
theorem dX0_stepOn_22 : decode cX0_stepOn 22 = .ok (.aload_n 0, 1) := by decide +kernel
theorem dX0_stepOn_23 : decode cX0_stepOn 23 = .ok (.getfield 22, 3) := by decide +kernel
theorem dX0_stepOn_26 : decode cX0_stepOn 26 = .ok (.if_icmp .ge 13, 3) := by decide +kernel
theorem dX0_stepOn_29 : decode cX0_stepOn 29 = .ok (.aload_n 0, 1) := by decide +kernel
theorem dX0_stepOn_30 : decode cX0_stepOn 30 = .ok (.getfield 15, 3) := by decide +kernel
theorem dX0_stepOn_33 : decode cX0_stepOn 33 = .ok (.iload_n 1, 1) := by decide +kernel
theorem dX0_stepOn_34 : decode cX0_stepOn 34 = .ok (.iload_n 2, 1) := by decide +kernel
theorem dX0_stepOn_35 : decode cX0_stepOn 35 = .ok (.invokestatic 36, 3) := by decide +kernel
theorem dX0_stepOn_38 : decode cX0_stepOn 38 = .ok (.return_, 1) := by decide +kernel
theorem dX0_stepOn_39 : decode cX0_stepOn 39 = .ok (.aload_n 0, 1) := by decide +kernel
theorem dX0_stepOn_40 : decode cX0_stepOn 40 = .ok (.getfield 15, 3) := by decide +kernel
theorem dX0_stepOn_43 : decode cX0_stepOn 43 = .ok (.iload_n 1, 1) := by decide +kernel
theorem dX0_stepOn_44 : decode cX0_stepOn 44 = .ok (.iconst 0, 1) := by decide +kernel
theorem dX0_stepOn_45 : decode cX0_stepOn 45 = .ok (.invokestatic 36, 3) := by decide +kernel
theorem dX0_stepOn_48 : decode cX0_stepOn 48 = .ok (.iinc 1 1, 3) := by decide +kernel
theorem dX0_stepOn_51 : decode cX0_stepOn 51 = .ok (.goto (-49), 3) := by decide +kernel
theorem dX0_stepOn_54 : decode cX0_stepOn 54 = .ok (.return_, 1) := by decide +kernel
theorem dX0_images_0 : decode cX0_images 0 = .ok (.iconst 0, 1) := by decide +kernel
theorem dX0_images_1 : decode cX0_images 1 = .ok (.istore 4, 2) := by decide +kernel
theorem dX0_images_3 : decode cX0_images 3 = .ok (.aload_n 0, 1) := by decide +kernel
theorem dX0_images_4 : decode cX0_images 4 = .ok (.aload_n 1, 1) := by decide +kernel
theorem dX0_images_5 : decode cX0_images 5 = .ok (.invokevirtual 53, 3) := by decide +kernel
theorem dX0_images_8 : decode cX0_images 8 = .ok (.iload_n 3, 1) := by decide +kernel
theorem dX0_images_9 : decode cX0_images 9 = .ok (.invokevirtual 59, 3) := by decide +kernel
theorem dX0_images_12 : decode cX0_images 12 = .ok (.istore 5, 2) := by decide +kernel
theorem dX0_images_14 : decode cX0_images 14 = .ok (.iload 5, 2) := by decide +kernel
theorem dX0_images_16 : decode cX0_images 16 = .ok (.ifCond .le 25, 3) := by decide +kernel
theorem dX0_images_19 : decode cX0_images 19 = .ok (.iload 4, 2) := by decide +kernel
theorem dX0_images_21 : decode cX0_images 21 = .ok (.iconst 1, 1) := by decide +kernel
theorem dX0_images_22 : decode cX0_images 22 = .ok (.aload_n 1, 1) := by decide +kernel
theorem dX0_images_23 : decode cX0_images 23 = .ok (.aload_n 0, 1) := by decide +kernel
theorem dX0_images_24 : decode cX0_images 24 = .ok (.invokevirtual 63, 3) := by decide +kernel
theorem dX0_images_27 : decode cX0_images 27 = .ok (.iload_n 2, 1) := by decide +kernel
theorem dX0_images_28 : decode cX0_images 28 = .ok (.invokevirtual 66, 3) := by decide +kernel
theorem dX0_images_31 : decode cX0_images 31 = .ok (.ishl, 1) := by decide +kernel
theorem dX0_images_32 : decode cX0_images 32 = .ok (.ior, 1) := by decide +kernel
theorem dX0_images_33 : decode cX0_images 33 = .ok (.istore 4, 2) := by decide +kernel
theorem dX0_images_35 : decode cX0_images 35 = .ok (.iinc 5 (-1), 3) := by decide +kernel
theorem dX0_images_38 : decode cX0_images 38 = .ok (.goto (-24), 3) := by decide +kernel
theorem dX0_images_41 : decode cX0_images 41 = .ok (.iload 4, 2) := by decide +kernel
theorem dX0_images_43 : decode cX0_images 43 = .ok (.ireturn, 1) := by decide +kernel
theorem dX0_strays_0 : decode cX0_strays 0 = .ok (.iconst 1, 1) := by decide +kernel
theorem dX0_strays_1 : decode cX0_strays 1 = .ok (.aload_n 0, 1) := by decide +kernel
theorem dX0_strays_2 : decode cX0_strays 2 = .ok (.getfield 18, 3) := by decide +kernel
theorem dX0_strays_5 : decode cX0_strays 5 = .ok (.iload_n 2, 1) := by decide +kernel
theorem dX0_strays_6 : decode cX0_strays 6 = .ok (.invokevirtual 69, 3) := by decide +kernel
theorem dX0_strays_9 : decode cX0_strays 9 = .ok (.ishl, 1) := by decide +kernel
theorem dX0_strays_10 : decode cX0_strays 10 = .ok (.iconst 1, 1) := by decide +kernel
theorem dX0_strays_11 : decode cX0_strays 11 = .ok (.isub, 1) := by decide +kernel
theorem dX0_strays_12 : decode cX0_strays 12 = .ok (.istore 4, 2) := by decide +kernel
theorem dX0_strays_14 : decode cX0_strays 14 = .ok (.iload_n 3, 1) := by decide +kernel
theorem dX0_strays_15 : decode cX0_strays 15 = .ok (.iload 4, 2) := by decide +kernel
theorem dX0_strays_17 : decode cX0_strays 17 = .ok (.if_icmp .ne 7, 3) := by decide +kernel
theorem dX0_strays_20 : decode cX0_strays 20 = .ok (.iconst 0, 1) := by decide +kernel
theorem dX0_strays_21 : decode cX0_strays 21 = .ok (.goto 14, 3) := by decide +kernel
theorem dX0_strays_24 : decode cX0_strays 24 = .ok (.aload_n 0, 1) := by decide +kernel
theorem dX0_strays_25 : decode cX0_strays 25 = .ok (.aload_n 1, 1) := by decide +kernel
theorem dX0_strays_26 : decode cX0_strays 26 = .ok (.iload_n 2, 1) := by decide +kernel
theorem dX0_strays_27 : decode cX0_strays 27 = .ok (.iload_n 3, 1) := by decide +kernel
theorem dX0_strays_28 : decode cX0_strays 28 = .ok (.invokevirtual 72, 3) := by decide +kernel
theorem dX0_strays_31 : decode cX0_strays 31 = .ok (.iload_n 3, 1) := by decide +kernel
theorem dX0_strays_32 : decode cX0_strays 32 = .ok (.iconst (-1), 1) := by decide +kernel
theorem dX0_strays_33 : decode cX0_strays 33 = .ok (.ixor, 1) := by decide +kernel
theorem dX0_strays_34 : decode cX0_strays 34 = .ok (.iand, 1) := by decide +kernel
theorem dX0_strays_35 : decode cX0_strays 35 = .ok (.ireturn, 1) := by decide +kernel
theorem dX0_closure_0 : decode cX0_closure 0 = .ok (.iload_n 3, 1) := by decide +kernel
theorem dX0_closure_1 : decode cX0_closure 1 = .ok (.istore 4, 2) := by decide +kernel
theorem dX0_closure_3 : decode cX0_closure 3 = .ok (.iconst 0, 1) := by decide +kernel
theorem dX0_closure_4 : decode cX0_closure 4 = .ok (.istore 5, 2) := by decide +kernel
theorem dX0_closure_6 : decode cX0_closure 6 = .ok (.iload 5, 2) := by decide +kernel
theorem dX0_closure_8 : decode cX0_closure 8 = .ok (.bipush 27, 2) := by decide +kernel
theorem dX0_closure_10 : decode cX0_closure 10 = .ok (.if_icmp .gt 34, 3) := by decide +kernel
theorem dX0_closure_13 : decode cX0_closure 13 = .ok (.aload_n 0, 1) := by decide +kernel
theorem dX0_closure_14 : decode cX0_closure 14 = .ok (.aload_n 1, 1) := by decide +kernel
theorem dX0_closure_15 : decode cX0_closure 15 = .ok (.iload_n 2, 1) := by decide +kernel
theorem dX0_closure_16 : decode cX0_closure 16 = .ok (.iload 4, 2) := by decide +kernel
theorem dX0_closure_18 : decode cX0_closure 18 = .ok (.invokevirtual 76, 3) := by decide +kernel
theorem dX0_closure_21 : decode cX0_closure 21 = .ok (.istore 6, 2) := by decide +kernel
theorem dX0_closure_23 : decode cX0_closure 23 = .ok (.iload 6, 2) := by decide +kernel
theorem dX0_closure_25 : decode cX0_closure 25 = .ok (.ifCond .ne 6, 3) := by decide +kernel
theorem dX0_closure_28 : decode cX0_closure 28 = .ok (.goto 16, 3) := by decide +kernel
theorem dX0_closure_31 : decode cX0_closure 31 = .ok (.iload 4, 2) := by decide +kernel
theorem dX0_closure_33 : decode cX0_closure 33 = .ok (.iload 6, 2) := by decide +kernel
theorem dX0_closure_35 : decode cX0_closure 35 = .ok (.ior, 1) := by decide +kernel
theorem dX0_closure_36 : decode cX0_closure 36 = .ok (.istore 4, 2) := by decide +kernel
theorem dX0_closure_38 : decode cX0_closure 38 = .ok (.iinc 5 1, 3) := by decide +kernel
theorem dX0_closure_41 : decode cX0_closure 41 = .ok (.goto (-35), 3) := by decide +kernel
theorem dX0_closure_44 : decode cX0_closure 44 = .ok (.iload 4, 2) := by decide +kernel
theorem dX0_closure_46 : decode cX0_closure 46 = .ok (.ireturn, 1) := by decide +kernel
theorem dX1_init_0 : decode cX1_init 0 = .ok (.aload_n 0, 1) := by decide +kernel
theorem dX1_init_1 : decode cX1_init 1 = .ok (.invokespecial 3, 3) := by decide +kernel
theorem dX1_init_4 : decode cX1_init 4 = .ok (.aload_n 0, 1) := by decide +kernel
theorem dX1_init_5 : decode cX1_init 5 = .ok (.iconst 3, 1) := by decide +kernel
theorem dX1_init_6 : decode cX1_init 6 = .ok (.newarray .int, 2) := by decide +kernel
theorem dX1_init_8 : decode cX1_init 8 = .ok (.putfield 9, 3) := by decide +kernel
theorem dX1_init_11 : decode cX1_init 11 = .ok (.aload_n 0, 1) := by decide +kernel
theorem dX1_init_12 : decode cX1_init 12 = .ok (.iconst 3, 1) := by decide +kernel
theorem dX1_init_13 : decode cX1_init 13 = .ok (.newarray .int, 2) := by decide +kernel
theorem dX1_init_15 : decode cX1_init 15 = .ok (.putfield 15, 3) := by decide +kernel
theorem dX1_init_18 : decode cX1_init 18 = .ok (.aload_n 0, 1) := by decide +kernel
theorem dX1_init_19 : decode cX1_init 19 = .ok (.aload_n 1, 1) := by decide +kernel
theorem dX1_init_20 : decode cX1_init 20 = .ok (.putfield 18, 3) := by decide +kernel
theorem dX1_init_23 : decode cX1_init 23 = .ok (.aload_n 0, 1) := by decide +kernel
theorem dX1_init_24 : decode cX1_init 24 = .ok (.aload_n 2, 1) := by decide +kernel
theorem dX1_init_25 : decode cX1_init 25 = .ok (.putfield 22, 3) := by decide +kernel
theorem dX1_init_28 : decode cX1_init 28 = .ok (.aload_n 0, 1) := by decide +kernel
theorem dX1_init_29 : decode cX1_init 29 = .ok (.new 26, 3) := by decide +kernel
theorem dX1_init_32 : decode cX1_init 32 = .ok (.dup, 1) := by decide +kernel
theorem dX1_init_33 : decode cX1_init 33 = .ok (.aload_n 1, 1) := by decide +kernel
theorem dX1_init_34 : decode cX1_init 34 = .ok (.aload_n 2, 1) := by decide +kernel
theorem dX1_init_35 : decode cX1_init 35 = .ok (.invokespecial 28, 3) := by decide +kernel
theorem dX1_init_38 : decode cX1_init 38 = .ok (.putfield 31, 3) := by decide +kernel
theorem dX1_init_41 : decode cX1_init 41 = .ok (.return_, 1) := by decide +kernel
theorem dX1_read_0 : decode cX1_read 0 = .ok (.aload_n 0, 1) := by decide +kernel
theorem dX1_read_1 : decode cX1_read 1 = .ok (.iconst 0, 1) := by decide +kernel
theorem dX1_read_2 : decode cX1_read 2 = .ok (.putfield 35, 3) := by decide +kernel
theorem dX1_read_5 : decode cX1_read 5 = .ok (.aload_n 0, 1) := by decide +kernel
theorem dX1_read_6 : decode cX1_read 6 = .ok (.iconst 0, 1) := by decide +kernel
theorem dX1_read_7 : decode cX1_read 7 = .ok (.putfield 39, 3) := by decide +kernel
theorem dX1_read_10 : decode cX1_read 10 = .ok (.aload_n 0, 1) := by decide +kernel
theorem dX1_read_11 : decode cX1_read 11 = .ok (.getfield 31, 3) := by decide +kernel
theorem dX1_read_14 : decode cX1_read 14 = .ok (.bipush 6, 2) := by decide +kernel
theorem dX1_read_16 : decode cX1_read 16 = .ok (.invokevirtual 42, 3) := by decide +kernel
theorem dX1_read_19 : decode cX1_read 19 = .ok (.iconst 0, 1) := by decide +kernel
theorem dX1_read_20 : decode cX1_read 20 = .ok (.istore_n 2, 1) := by decide +kernel
theorem dX1_read_21 : decode cX1_read 21 = .ok (.iload_n 2, 1) := by decide +kernel
theorem dX1_read_22 : decode cX1_read 22 = .ok (.aload_n 1, 1) := by decide +kernel
theorem dX1_read_23 : decode cX1_read 23 = .ok (.getfield 46, 3) := by decide +kernel
theorem dX1_read_26 : decode cX1_read 26 = .ok (.if_icmp .ge 23, 3) := by decide +kernel
theorem dX1_read_29 : decode cX1_read 29 = .ok (.aload_n 0, 1) := by decide +kernel
theorem dX1_read_30 : decode cX1_read 30 = .ok (.aload_n 1, 1) := by decide +kernel
theorem dX1_read_31 : decode cX1_read 31 = .ok (.iload_n 2, 1) := by decide +kernel
theorem dX1_read_32 : decode cX1_read 32 = .ok (.invokevirtual 51, 3) := by decide +kernel
theorem dX1_read_35 : decode cX1_read 35 = .ok (.invokevirtual 55, 3) := by decide +kernel
theorem dX1_read_38 : decode cX1_read 38 = .ok (.ifCond .ne 5, 3) := by decide +kernel
theorem dX1_read_41 : decode cX1_read 41 = .ok (.iload_n 2, 1) := by decide +kernel
theorem dX1_read_42 : decode cX1_read 42 = .ok (.ireturn, 1) := by decide +kernel
theorem dX1_read_43 : decode cX1_read 43 = .ok (.iinc 2 1, 3) := by decide +kernel
theorem dX1_read_46 : decode cX1_read 46 = .ok (.goto (-25), 3) := by decide +kernel
theorem dX1_read_49 : decode cX1_read 49 = .ok (.aload_n 0, 1) := by decide +kernel
theorem dX1_read_50 : decode cX1_read 50 = .ok (.getfield 35, 3) := by decide +kernel
theorem dX1_read_53 : decode cX1_read 53 = .ok (.bipush 7, 2) := by decide +kernel
theorem dX1_read_55 : decode cX1_read 55 = .ok (.if_icmp .ne 7, 3) := by decide +kernel
theorem dX1_read_58 : decode cX1_read 58 = .ok (.iconst (-1), 1) := by decide +kernel
theorem dX1_read_59 : decode cX1_read 59 = .ok (.goto 7, 3) := by decide +kernel
theorem dX1_read_62 : decode cX1_read 62 = .ok (.aload_n 1, 1) := by decide +kernel
theorem dX1_read_63 : decode cX1_read 63 = .ok (.getfield 46, 3) := by decide +kernel
theorem dX1_read_66 : decode cX1_read 66 = .ok (.ireturn, 1) := by decide +kernel
theorem dX1_takes_0 : decode cX1_takes 0 = .ok (.aload_n 0, 1) := by decide +kernel
theorem dX1_takes_1 : decode cX1_takes 1 = .ok (.getfield 35, 3) := by decide +kernel
theorem dX1_takes_4 : decode cX1_takes 4 = .ok (.tableswitch 99 0 6 #[44, 50, 56, 65, 74, 80, 89], 44) := by decide +kernel
theorem dX1_takes_48 : decode cX1_takes 48 = .ok (.aload_n 0, 1) := by decide +kernel
theorem dX1_takes_49 : decode cX1_takes 49 = .ok (.iload_n 1, 1) := by decide +kernel
theorem dX1_takes_50 : decode cX1_takes 50 = .ok (.invokevirtual 59, 3) := by decide +kernel
theorem dX1_takes_53 : decode cX1_takes 53 = .ok (.ireturn, 1) := by decide +kernel
theorem dX1_takes_54 : decode cX1_takes 54 = .ok (.aload_n 0, 1) := by decide +kernel
theorem dX1_takes_55 : decode cX1_takes 55 = .ok (.iload_n 1, 1) := by decide +kernel
theorem dX1_takes_56 : decode cX1_takes 56 = .ok (.invokevirtual 62, 3) := by decide +kernel
theorem dX1_takes_59 : decode cX1_takes 59 = .ok (.ireturn, 1) := by decide +kernel
theorem dX1_takes_60 : decode cX1_takes 60 = .ok (.aload_n 0, 1) := by decide +kernel
theorem dX1_takes_61 : decode cX1_takes 61 = .ok (.bipush 61, 2) := by decide +kernel
theorem dX1_takes_63 : decode cX1_takes 63 = .ok (.iload_n 1, 1) := by decide +kernel
theorem dX1_takes_64 : decode cX1_takes 64 = .ok (.iconst 4, 1) := by decide +kernel
theorem dX1_takes_65 : decode cX1_takes 65 = .ok (.invokevirtual 65, 3) := by decide +kernel
theorem dX1_takes_68 : decode cX1_takes 68 = .ok (.ireturn, 1) := by decide +kernel
theorem dX1_takes_69 : decode cX1_takes 69 = .ok (.aload_n 0, 1) := by decide +kernel
theorem dX1_takes_70 : decode cX1_takes 70 = .ok (.bipush 40, 2) := by decide +kernel
theorem dX1_takes_72 : decode cX1_takes 72 = .ok (.iload_n 1, 1) := by decide +kernel
theorem dX1_takes_73 : decode cX1_takes 73 = .ok (.iconst 4, 1) := by decide +kernel
theorem dX1_takes_74 : decode cX1_takes 74 = .ok (.invokevirtual 65, 3) := by decide +kernel
theorem dX1_takes_77 : decode cX1_takes 77 = .ok (.ireturn, 1) := by decide +kernel
theorem dX1_takes_78 : decode cX1_takes 78 = .ok (.aload_n 0, 1) := by decide +kernel
theorem dX1_takes_79 : decode cX1_takes 79 = .ok (.iload_n 1, 1) := by decide +kernel
theorem dX1_takes_80 : decode cX1_takes 80 = .ok (.invokevirtual 69, 3) := by decide +kernel
theorem dX1_takes_83 : decode cX1_takes 83 = .ok (.ireturn, 1) := by decide +kernel
theorem dX1_takes_84 : decode cX1_takes 84 = .ok (.aload_n 0, 1) := by decide +kernel
theorem dX1_takes_85 : decode cX1_takes 85 = .ok (.bipush 44, 2) := by decide +kernel
theorem dX1_takes_87 : decode cX1_takes 87 = .ok (.iload_n 1, 1) := by decide +kernel
theorem dX1_takes_88 : decode cX1_takes 88 = .ok (.iconst 4, 1) := by decide +kernel
theorem dX1_takes_89 : decode cX1_takes 89 = .ok (.invokevirtual 65, 3) := by decide +kernel
theorem dX1_takes_92 : decode cX1_takes 92 = .ok (.ireturn, 1) := by decide +kernel
theorem dX1_takes_93 : decode cX1_takes 93 = .ok (.aload_n 0, 1) := by decide +kernel
theorem dX1_takes_94 : decode cX1_takes 94 = .ok (.bipush 41, 2) := by decide +kernel
theorem dX1_takes_96 : decode cX1_takes 96 = .ok (.iload_n 1, 1) := by decide +kernel
theorem dX1_takes_97 : decode cX1_takes 97 = .ok (.bipush 7, 2) := by decide +kernel
theorem dX1_takes_99 : decode cX1_takes 99 = .ok (.invokevirtual 65, 3) := by decide +kernel
theorem dX1_takes_102 : decode cX1_takes 102 = .ok (.ireturn, 1) := by decide +kernel
theorem dX1_takes_103 : decode cX1_takes 103 = .ok (.aload_n 0, 1) := by decide +kernel
theorem dX1_takes_104 : decode cX1_takes 104 = .ok (.bipush 38, 2) := by decide +kernel
theorem dX1_takes_106 : decode cX1_takes 106 = .ok (.iload_n 1, 1) := by decide +kernel
theorem dX1_takes_107 : decode cX1_takes 107 = .ok (.iconst 1, 1) := by decide +kernel
theorem dX1_takes_108 : decode cX1_takes 108 = .ok (.invokevirtual 65, 3) := by decide +kernel
theorem dX1_takes_111 : decode cX1_takes 111 = .ok (.ireturn, 1) := by decide +kernel
theorem dX1_takesJust_0 : decode cX1_takesJust 0 = .ok (.aload_n 0, 1) := by decide +kernel
theorem dX1_takesJust_1 : decode cX1_takesJust 1 = .ok (.iload_n 3, 1) := by decide +kernel
theorem dX1_takesJust_2 : decode cX1_takesJust 2 = .ok (.putfield 35, 3) := by decide +kernel
theorem dX1_takesJust_5 : decode cX1_takesJust 5 = .ok (.iload_n 2, 1) := by decide +kernel
theorem dX1_takesJust_6 : decode cX1_takesJust 6 = .ok (.iload_n 1, 1) := by decide +kernel
theorem dX1_takesJust_7 : decode cX1_takesJust 7 = .ok (.if_icmp .ne 7, 3) := by decide +kernel
theorem dX1_takesJust_10 : decode cX1_takesJust 10 = .ok (.iconst 1, 1) := by decide +kernel
theorem dX1_takesJust_11 : decode cX1_takesJust 11 = .ok (.goto 4, 3) := by decide +kernel
theorem dX1_takesJust_14 : decode cX1_takesJust 14 = .ok (.iconst 0, 1) := by decide +kernel
theorem dX1_takesJust_15 : decode cX1_takesJust 15 = .ok (.ireturn, 1) := by decide +kernel
theorem dX1_takesInHead_0 : decode cX1_takesInHead 0 = .ok (.iload_n 1, 1) := by decide +kernel
theorem dX1_takesInHead_1 : decode cX1_takesInHead 1 = .ok (.invokestatic 72, 3) := by decide +kernel
theorem dX1_takesInHead_4 : decode cX1_takesInHead 4 = .ok (.ifCond .ne 27, 3) := by decide +kernel
theorem dX1_takesInHead_7 : decode cX1_takesInHead 7 = .ok (.aload_n 0, 1) := by decide +kernel
theorem dX1_takesInHead_8 : decode cX1_takesInHead 8 = .ok (.iconst 1, 1) := by decide +kernel
theorem dX1_takesInHead_9 : decode cX1_takesInHead 9 = .ok (.putfield 35, 3) := by decide +kernel
theorem dX1_takesInHead_12 : decode cX1_takesInHead 12 = .ok (.iload_n 1, 1) := by decide +kernel
theorem dX1_takesInHead_13 : decode cX1_takesInHead 13 = .ok (.bipush 58, 2) := by decide +kernel
theorem dX1_takesInHead_15 : decode cX1_takesInHead 15 = .ok (.if_icmp .ne 14, 3) := by decide +kernel
theorem dX1_takesInHead_18 : decode cX1_takesInHead 18 = .ok (.aload_n 0, 1) := by decide +kernel
theorem dX1_takesInHead_19 : decode cX1_takesInHead 19 = .ok (.getfield 39, 3) := by decide +kernel
theorem dX1_takesInHead_22 : decode cX1_takesInHead 22 = .ok (.ifCond .le 7, 3) := by decide +kernel
theorem dX1_takesInHead_25 : decode cX1_takesInHead 25 = .ok (.iconst 1, 1) := by decide +kernel
theorem dX1_takesInHead_26 : decode cX1_takesInHead 26 = .ok (.goto 4, 3) := by decide +kernel
theorem dX1_takesInHead_29 : decode cX1_takesInHead 29 = .ok (.iconst 0, 1) := by decide +kernel
theorem dX1_takesInHead_30 : decode cX1_takesInHead 30 = .ok (.ireturn, 1) := by decide +kernel
theorem dX1_takesInHead_31 : decode cX1_takesInHead 31 = .ok (.iload_n 1, 1) := by decide +kernel
theorem dX1_takesInHead_32 : decode cX1_takesInHead 32 = .ok (.bipush 97, 2) := by decide +kernel
theorem dX1_takesInHead_34 : decode cX1_takesInHead 34 = .ok (.isub, 1) := by decide +kernel
theorem dX1_takesInHead_35 : decode cX1_takesInHead 35 = .ok (.istore_n 2, 1) := by decide +kernel
theorem dX1_takesInHead_36 : decode cX1_takesInHead 36 = .ok (.iconst 0, 1) := by decide +kernel
theorem dX1_takesInHead_37 : decode cX1_takesInHead 37 = .ok (.istore_n 3, 1) := by decide +kernel
theorem dX1_takesInHead_38 : decode cX1_takesInHead 38 = .ok (.iload_n 3, 1) := by decide +kernel
theorem dX1_takesInHead_39 : decode cX1_takesInHead 39 = .ok (.aload_n 0, 1) := by decide +kernel
theorem dX1_takesInHead_40 : decode cX1_takesInHead 40 = .ok (.getfield 39, 3) := by decide +kernel
theorem dX1_takesInHead_43 : decode cX1_takesInHead 43 = .ok (.if_icmp .ge 23, 3) := by decide +kernel
theorem dX1_takesInHead_46 : decode cX1_takesInHead 46 = .ok (.aload_n 0, 1) := by decide +kernel
theorem dX1_takesInHead_47 : decode cX1_takesInHead 47 = .ok (.getfield 9, 3) := by decide +kernel
theorem dX1_takesInHead_50 : decode cX1_takesInHead 50 = .ok (.iload_n 3, 1) := by decide +kernel
theorem dX1_takesInHead_51 : decode cX1_takesInHead 51 = .ok (.invokestatic 75, 3) := by decide +kernel
theorem dX1_takesInHead_54 : decode cX1_takesInHead 54 = .ok (.iload_n 2, 1) := by decide +kernel
theorem dX1_takesInHead_55 : decode cX1_takesInHead 55 = .ok (.if_icmp .ne 5, 3) := by decide +kernel
theorem dX1_takesInHead_58 : decode cX1_takesInHead 58 = .ok (.iconst 0, 1) := by decide +kernel
theorem dX1_takesInHead_59 : decode cX1_takesInHead 59 = .ok (.ireturn, 1) := by decide +kernel
theorem dX1_takesInHead_60 : decode cX1_takesInHead 60 = .ok (.iinc 3 1, 3) := by decide +kernel
theorem dX1_takesInHead_63 : decode cX1_takesInHead 63 = .ok (.goto (-25), 3) := by decide +kernel
theorem dX1_takesInHead_66 : decode cX1_takesInHead 66 = .ok (.aload_n 0, 1) := by decide +kernel
theorem dX1_takesInHead_67 : decode cX1_takesInHead 67 = .ok (.getfield 39, 3) := by decide +kernel
theorem dX1_takesInHead_70 : decode cX1_takesInHead 70 = .ok (.aload_n 0, 1) := by decide +kernel
theorem dX1_takesInHead_71 : decode cX1_takesInHead 71 = .ok (.getfield 18, 3) := by decide +kernel
theorem dX1_takesInHead_74 : decode cX1_takesInHead 74 = .ok (.invokevirtual 79, 3) := by decide +kernel
theorem dX1_takesInHead_77 : decode cX1_takesInHead 77 = .ok (.if_icmp .lt 5, 3) := by decide +kernel
theorem dX1_takesInHead_80 : decode cX1_takesInHead 80 = .ok (.iconst 0, 1) := by decide +kernel
theorem dX1_takesInHead_81 : decode cX1_takesInHead 81 = .ok (.ireturn, 1) := by decide +kernel
theorem dX1_takesInHead_82 : decode cX1_takesInHead 82 = .ok (.aload_n 0, 1) := by decide +kernel
theorem dX1_takesInHead_83 : decode cX1_takesInHead 83 = .ok (.getfield 9, 3) := by decide +kernel
theorem dX1_takesInHead_86 : decode cX1_takesInHead 86 = .ok (.aload_n 0, 1) := by decide +kernel
theorem dX1_takesInHead_87 : decode cX1_takesInHead 87 = .ok (.getfield 39, 3) := by decide +kernel
theorem dX1_takesInHead_90 : decode cX1_takesInHead 90 = .ok (.iload_n 2, 1) := by decide +kernel
theorem dX1_takesInHead_91 : decode cX1_takesInHead 91 = .ok (.invokestatic 85, 3) := by decide +kernel
theorem dX1_takesInHead_94 : decode cX1_takesInHead 94 = .ok (.aload_n 0, 1) := by decide +kernel
theorem dX1_takesInHead_95 : decode cX1_takesInHead 95 = .ok (.dup, 1) := by decide +kernel
theorem dX1_takesInHead_96 : decode cX1_takesInHead 96 = .ok (.getfield 39, 3) := by decide +kernel
theorem dX1_takesInHead_99 : decode cX1_takesInHead 99 = .ok (.iconst 1, 1) := by decide +kernel
theorem dX1_takesInHead_100 : decode cX1_takesInHead 100 = .ok (.iadd, 1) := by decide +kernel
theorem dX1_takesInHead_101 : decode cX1_takesInHead 101 = .ok (.putfield 39, 3) := by decide +kernel
theorem dX1_takesInHead_104 : decode cX1_takesInHead 104 = .ok (.iconst 1, 1) := by decide +kernel
theorem dX1_takesInHead_105 : decode cX1_takesInHead 105 = .ok (.ireturn, 1) := by decide +kernel
theorem dX1_takesAtBeginningOfAtom_0 : decode cX1_takesAtBeginningOfAtom 0 = .ok (.aload_n 0, 1) := by decide +kernel
theorem dX1_takesAtBeginningOfAtom_1 : decode cX1_takesAtBeginningOfAtom 1 = .ok (.iconst 0, 1) := by decide +kernel
theorem dX1_takesAtBeginningOfAtom_2 : decode cX1_takesAtBeginningOfAtom 2 = .ok (.putfield 89, 3) := by decide +kernel
theorem dX1_takesAtBeginningOfAtom_5 : decode cX1_takesAtBeginningOfAtom 5 = .ok (.iload_n 1, 1) := by decide +kernel
theorem dX1_takesAtBeginningOfAtom_6 : decode cX1_takesAtBeginningOfAtom 6 = .ok (.invokestatic 72, 3) := by decide +kernel
theorem dX1_takesAtBeginningOfAtom_9 : decode cX1_takesAtBeginningOfAtom 9 = .ok (.ifCond .eq 33, 3) := by decide +kernel
theorem dX1_takesAtBeginningOfAtom_12 : decode cX1_takesAtBeginningOfAtom 12 = .ok (.aload_n 0, 1) := by decide +kernel
theorem dX1_takesAtBeginningOfAtom_13 : decode cX1_takesAtBeginningOfAtom 13 = .ok (.bipush 8, 2) := by decide +kernel
theorem dX1_takesAtBeginningOfAtom_15 : decode cX1_takesAtBeginningOfAtom 15 = .ok (.putfield 92, 3) := by decide +kernel
theorem dX1_takesAtBeginningOfAtom_18 : decode cX1_takesAtBeginningOfAtom 18 = .ok (.aload_n 0, 1) := by decide +kernel
theorem dX1_takesAtBeginningOfAtom_19 : decode cX1_takesAtBeginningOfAtom 19 = .ok (.getfield 15, 3) := by decide +kernel
theorem dX1_takesAtBeginningOfAtom_22 : decode cX1_takesAtBeginningOfAtom 22 = .ok (.iconst 0, 1) := by decide +kernel
theorem dX1_takesAtBeginningOfAtom_23 : decode cX1_takesAtBeginningOfAtom 23 = .ok (.iload_n 1, 1) := by decide +kernel
theorem dX1_takesAtBeginningOfAtom_24 : decode cX1_takesAtBeginningOfAtom 24 = .ok (.bipush 97, 2) := by decide +kernel
theorem dX1_takesAtBeginningOfAtom_26 : decode cX1_takesAtBeginningOfAtom 26 = .ok (.isub, 1) := by decide +kernel
theorem dX1_takesAtBeginningOfAtom_27 : decode cX1_takesAtBeginningOfAtom 27 = .ok (.invokestatic 85, 3) := by decide +kernel
theorem dX1_takesAtBeginningOfAtom_30 : decode cX1_takesAtBeginningOfAtom 30 = .ok (.aload_n 0, 1) := by decide +kernel
theorem dX1_takesAtBeginningOfAtom_31 : decode cX1_takesAtBeginningOfAtom 31 = .ok (.iconst 1, 1) := by decide +kernel
theorem dX1_takesAtBeginningOfAtom_32 : decode cX1_takesAtBeginningOfAtom 32 = .ok (.putfield 89, 3) := by decide +kernel
theorem dX1_takesAtBeginningOfAtom_35 : decode cX1_takesAtBeginningOfAtom 35 = .ok (.aload_n 0, 1) := by decide +kernel
theorem dX1_takesAtBeginningOfAtom_36 : decode cX1_takesAtBeginningOfAtom 36 = .ok (.iconst 2, 1) := by decide +kernel
theorem dX1_takesAtBeginningOfAtom_37 : decode cX1_takesAtBeginningOfAtom 37 = .ok (.putfield 35, 3) := by decide +kernel
theorem dX1_takesAtBeginningOfAtom_40 : decode cX1_takesAtBeginningOfAtom 40 = .ok (.iconst 1, 1) := by decide +kernel
theorem dX1_takesAtBeginningOfAtom_41 : decode cX1_takesAtBeginningOfAtom 41 = .ok (.ireturn, 1) := by decide +kernel
theorem dX1_takesAtBeginningOfAtom_42 : decode cX1_takesAtBeginningOfAtom 42 = .ok (.aload_n 0, 1) := by decide +kernel
theorem dX1_takesAtBeginningOfAtom_43 : decode cX1_takesAtBeginningOfAtom 43 = .ok (.iload_n 1, 1) := by decide +kernel
theorem dX1_takesAtBeginningOfAtom_44 : decode cX1_takesAtBeginningOfAtom 44 = .ok (.bipush 48, 2) := by decide +kernel
theorem dX1_takesAtBeginningOfAtom_46 : decode cX1_takesAtBeginningOfAtom 46 = .ok (.isub, 1) := by decide +kernel
theorem dX1_takesAtBeginningOfAtom_47 : decode cX1_takesAtBeginningOfAtom 47 = .ok (.putfield 92, 3) := by decide +kernel
theorem dX1_takesAtBeginningOfAtom_50 : decode cX1_takesAtBeginningOfAtom 50 = .ok (.aload_n 0, 1) := by decide +kernel
theorem dX1_takesAtBeginningOfAtom_51 : decode cX1_takesAtBeginningOfAtom 51 = .ok (.iconst 3, 1) := by decide +kernel
theorem dX1_takesAtBeginningOfAtom_52 : decode cX1_takesAtBeginningOfAtom 52 = .ok (.putfield 35, 3) := by decide +kernel
theorem dX1_takesAtBeginningOfAtom_55 : decode cX1_takesAtBeginningOfAtom 55 = .ok (.aload_n 0, 1) := by decide +kernel
theorem dX1_takesAtBeginningOfAtom_56 : decode cX1_takesAtBeginningOfAtom 56 = .ok (.getfield 22, 3) := by decide +kernel
theorem dX1_takesAtBeginningOfAtom_59 : decode cX1_takesAtBeginningOfAtom 59 = .ok (.aload_n 0, 1) := by decide +kernel
theorem dX1_takesAtBeginningOfAtom_60 : decode cX1_takesAtBeginningOfAtom 60 = .ok (.getfield 92, 3) := by decide +kernel
theorem dX1_takesAtBeginningOfAtom_63 : decode cX1_takesAtBeginningOfAtom 63 = .ok (.invokevirtual 95, 3) := by decide +kernel
theorem dX1_takesAtBeginningOfAtom_66 : decode cX1_takesAtBeginningOfAtom 66 = .ok (.ireturn, 1) := by decide +kernel
theorem dX1_takesVariable_0 : decode cX1_takesVariable 0 = .ok (.iload_n 1, 1) := by decide +kernel
theorem dX1_takesVariable_1 : decode cX1_takesVariable 1 = .ok (.invokestatic 72, 3) := by decide +kernel
theorem dX1_takesVariable_4 : decode cX1_takesVariable 4 = .ok (.ifCond .ne 5, 3) := by decide +kernel
theorem dX1_takesVariable_7 : decode cX1_takesVariable 7 = .ok (.iconst 0, 1) := by decide +kernel
theorem dX1_takesVariable_8 : decode cX1_takesVariable 8 = .ok (.ireturn, 1) := by decide +kernel
theorem dX1_takesVariable_9 : decode cX1_takesVariable 9 = .ok (.aload_n 0, 1) := by decide +kernel
theorem dX1_takesVariable_10 : decode cX1_takesVariable 10 = .ok (.getfield 15, 3) := by decide +kernel
theorem dX1_takesVariable_13 : decode cX1_takesVariable 13 = .ok (.aload_n 0, 1) := by decide +kernel
theorem dX1_takesVariable_14 : decode cX1_takesVariable 14 = .ok (.getfield 89, 3) := by decide +kernel
theorem dX1_takesVariable_17 : decode cX1_takesVariable 17 = .ok (.iload_n 1, 1) := by decide +kernel
theorem dX1_takesVariable_18 : decode cX1_takesVariable 18 = .ok (.bipush 97, 2) := by decide +kernel
theorem dX1_takesVariable_20 : decode cX1_takesVariable 20 = .ok (.isub, 1) := by decide +kernel
theorem dX1_takesVariable_21 : decode cX1_takesVariable 21 = .ok (.invokestatic 85, 3) := by decide +kernel
theorem dX1_takesVariable_24 : decode cX1_takesVariable 24 = .ok (.aload_n 0, 1) := by decide +kernel
theorem dX1_takesVariable_25 : decode cX1_takesVariable 25 = .ok (.dup, 1) := by decide +kernel
theorem dX1_takesVariable_26 : decode cX1_takesVariable 26 = .ok (.getfield 89, 3) := by decide +kernel
theorem dX1_takesVariable_29 : decode cX1_takesVariable 29 = .ok (.iconst 1, 1) := by decide +kernel
theorem dX1_takesVariable_30 : decode cX1_takesVariable 30 = .ok (.iadd, 1) := by decide +kernel
theorem dX1_takesVariable_31 : decode cX1_takesVariable 31 = .ok (.putfield 89, 3) := by decide +kernel
theorem dX1_takesVariable_34 : decode cX1_takesVariable 34 = .ok (.aload_n 0, 1) := by decide +kernel
theorem dX1_takesVariable_35 : decode cX1_takesVariable 35 = .ok (.getfield 89, 3) := by decide +kernel
theorem dX1_takesVariable_38 : decode cX1_takesVariable 38 = .ok (.aload_n 0, 1) := by decide +kernel
theorem dX1_takesVariable_39 : decode cX1_takesVariable 39 = .ok (.getfield 22, 3) := by decide +kernel
theorem dX1_takesVariable_42 : decode cX1_takesVariable 42 = .ok (.aload_n 0, 1) := by decide +kernel
theorem dX1_takesVariable_43 : decode cX1_takesVariable 43 = .ok (.getfield 92, 3) := by decide +kernel
theorem dX1_takesVariable_46 : decode cX1_takesVariable 46 = .ok (.invokevirtual 101, 3) := by decide +kernel
theorem dX1_takesVariable_49 : decode cX1_takesVariable 49 = .ok (.if_icmp .ge 11, 3) := by decide +kernel
theorem dX1_takesVariable_52 : decode cX1_takesVariable 52 = .ok (.aload_n 0, 1) := by decide +kernel
theorem dX1_takesVariable_53 : decode cX1_takesVariable 53 = .ok (.iconst 5, 1) := by decide +kernel
theorem dX1_takesVariable_54 : decode cX1_takesVariable 54 = .ok (.putfield 35, 3) := by decide +kernel
theorem dX1_takesVariable_57 : decode cX1_takesVariable 57 = .ok (.goto 58, 3) := by decide +kernel
theorem dX1_takesVariable_60 : decode cX1_takesVariable 60 = .ok (.aload_n 0, 1) := by decide +kernel
theorem dX1_takesVariable_61 : decode cX1_takesVariable 61 = .ok (.getfield 31, 3) := by decide +kernel
theorem dX1_takesVariable_64 : decode cX1_takesVariable 64 = .ok (.aload_n 0, 1) := by decide +kernel
theorem dX1_takesVariable_65 : decode cX1_takesVariable 65 = .ok (.getfield 92, 3) := by decide +kernel
theorem dX1_takesVariable_68 : decode cX1_takesVariable 68 = .ok (.aload_n 0, 1) := by decide +kernel
theorem dX1_takesVariable_69 : decode cX1_takesVariable 69 = .ok (.getfield 15, 3) := by decide +kernel
theorem dX1_takesVariable_72 : decode cX1_takesVariable 72 = .ok (.iconst 0, 1) := by decide +kernel
theorem dX1_takesVariable_73 : decode cX1_takesVariable 73 = .ok (.invokestatic 75, 3) := by decide +kernel
theorem dX1_takesVariable_76 : decode cX1_takesVariable 76 = .ok (.aload_n 0, 1) := by decide +kernel
theorem dX1_takesVariable_77 : decode cX1_takesVariable 77 = .ok (.getfield 15, 3) := by decide +kernel
theorem dX1_takesVariable_80 : decode cX1_takesVariable 80 = .ok (.iconst 1, 1) := by decide +kernel
theorem dX1_takesVariable_81 : decode cX1_takesVariable 81 = .ok (.invokestatic 75, 3) := by decide +kernel
theorem dX1_takesVariable_84 : decode cX1_takesVariable 84 = .ok (.aload_n 0, 1) := by decide +kernel
theorem dX1_takesVariable_85 : decode cX1_takesVariable 85 = .ok (.getfield 15, 3) := by decide +kernel
theorem dX1_takesVariable_88 : decode cX1_takesVariable 88 = .ok (.iconst 2, 1) := by decide +kernel
theorem dX1_takesVariable_89 : decode cX1_takesVariable 89 = .ok (.invokestatic 75, 3) := by decide +kernel
theorem dX1_takesVariable_92 : decode cX1_takesVariable 92 = .ok (.invokevirtual 105, 3) := by decide +kernel
theorem dX1_takesVariable_95 : decode cX1_takesVariable 95 = .ok (.aload_n 0, 1) := by decide +kernel
theorem dX1_takesVariable_96 : decode cX1_takesVariable 96 = .ok (.aload_n 0, 1) := by decide +kernel
theorem dX1_takesVariable_97 : decode cX1_takesVariable 97 = .ok (.getfield 92, 3) := by decide +kernel
theorem dX1_takesVariable_100 : decode cX1_takesVariable 100 = .ok (.bipush 8, 2) := by decide +kernel
theorem dX1_takesVariable_102 : decode cX1_takesVariable 102 = .ok (.if_icmp .ne 8, 3) := by decide +kernel
theorem dX1_takesVariable_105 : decode cX1_takesVariable 105 = .ok (.bipush 7, 2) := by decide +kernel
theorem dX1_takesVariable_107 : decode cX1_takesVariable 107 = .ok (.goto 5, 3) := by decide +kernel
theorem dX1_takesVariable_110 : decode cX1_takesVariable 110 = .ok (.bipush 6, 2) := by decide +kernel
theorem dX1_takesVariable_112 : decode cX1_takesVariable 112 = .ok (.putfield 35, 3) := by decide +kernel
theorem dX1_takesVariable_115 : decode cX1_takesVariable 115 = .ok (.iconst 1, 1) := by decide +kernel
theorem dX1_takesVariable_116 : decode cX1_takesVariable 116 = .ok (.ireturn, 1) := by decide +kernel
theorem dX1_tuplesOfHead_0 : decode cX1_tuplesOfHead 0 = .ok (.iconst 0, 1) := by decide +kernel
theorem dX1_tuplesOfHead_1 : decode cX1_tuplesOfHead 1 = .ok (.istore_n 1, 1) := by decide +kernel
theorem dX1_tuplesOfHead_2 : decode cX1_tuplesOfHead 2 = .ok (.iconst 0, 1) := by decide +kernel
theorem dX1_tuplesOfHead_3 : decode cX1_tuplesOfHead 3 = .ok (.istore_n 2, 1) := by decide +kernel
theorem dX1_tuplesOfHead_4 : decode cX1_tuplesOfHead 4 = .ok (.iload_n 2, 1) := by decide +kernel
theorem dX1_tuplesOfHead_5 : decode cX1_tuplesOfHead 5 = .ok (.aload_n 0, 1) := by decide +kernel
theorem dX1_tuplesOfHead_6 : decode cX1_tuplesOfHead 6 = .ok (.getfield 18, 3) := by decide +kernel
theorem dX1_tuplesOfHead_9 : decode cX1_tuplesOfHead 9 = .ok (.aload_n 0, 1) := by decide +kernel
theorem dX1_tuplesOfHead_10 : decode cX1_tuplesOfHead 10 = .ok (.getfield 39, 3) := by decide +kernel
theorem dX1_tuplesOfHead_13 : decode cX1_tuplesOfHead 13 = .ok (.invokevirtual 109, 3) := by decide +kernel
theorem dX1_tuplesOfHead_16 : decode cX1_tuplesOfHead 16 = .ok (.if_icmp .ge 72, 3) := by decide +kernel
theorem dX1_tuplesOfHead_19 : decode cX1_tuplesOfHead 19 = .ok (.aload_n 0, 1) := by decide +kernel
theorem dX1_tuplesOfHead_20 : decode cX1_tuplesOfHead 20 = .ok (.getfield 31, 3) := by decide +kernel
theorem dX1_tuplesOfHead_23 : decode cX1_tuplesOfHead 23 = .ok (.invokevirtual 112, 3) := by decide +kernel
theorem dX1_tuplesOfHead_26 : decode cX1_tuplesOfHead 26 = .ok (.iconst 0, 1) := by decide +kernel
theorem dX1_tuplesOfHead_27 : decode cX1_tuplesOfHead 27 = .ok (.istore_n 3, 1) := by decide +kernel
theorem dX1_tuplesOfHead_28 : decode cX1_tuplesOfHead 28 = .ok (.iload_n 3, 1) := by decide +kernel
theorem dX1_tuplesOfHead_29 : decode cX1_tuplesOfHead 29 = .ok (.aload_n 0, 1) := by decide +kernel
theorem dX1_tuplesOfHead_30 : decode cX1_tuplesOfHead 30 = .ok (.getfield 39, 3) := by decide +kernel
theorem dX1_tuplesOfHead_33 : decode cX1_tuplesOfHead 33 = .ok (.if_icmp .ge 33, 3) := by decide +kernel
theorem dX1_tuplesOfHead_36 : decode cX1_tuplesOfHead 36 = .ok (.aload_n 0, 1) := by decide +kernel
theorem dX1_tuplesOfHead_37 : decode cX1_tuplesOfHead 37 = .ok (.getfield 31, 3) := by decide +kernel
theorem dX1_tuplesOfHead_40 : decode cX1_tuplesOfHead 40 = .ok (.aload_n 0, 1) := by decide +kernel
theorem dX1_tuplesOfHead_41 : decode cX1_tuplesOfHead 41 = .ok (.getfield 9, 3) := by decide +kernel
theorem dX1_tuplesOfHead_44 : decode cX1_tuplesOfHead 44 = .ok (.iload_n 3, 1) := by decide +kernel
theorem dX1_tuplesOfHead_45 : decode cX1_tuplesOfHead 45 = .ok (.invokestatic 75, 3) := by decide +kernel
theorem dX1_tuplesOfHead_48 : decode cX1_tuplesOfHead 48 = .ok (.aload_n 0, 1) := by decide +kernel
theorem dX1_tuplesOfHead_49 : decode cX1_tuplesOfHead 49 = .ok (.getfield 18, 3) := by decide +kernel
theorem dX1_tuplesOfHead_52 : decode cX1_tuplesOfHead 52 = .ok (.iload_n 2, 1) := by decide +kernel
theorem dX1_tuplesOfHead_53 : decode cX1_tuplesOfHead 53 = .ok (.iload_n 3, 1) := by decide +kernel
theorem dX1_tuplesOfHead_54 : decode cX1_tuplesOfHead 54 = .ok (.invokevirtual 115, 3) := by decide +kernel
theorem dX1_tuplesOfHead_57 : decode cX1_tuplesOfHead 57 = .ok (.invokevirtual 119, 3) := by decide +kernel
theorem dX1_tuplesOfHead_60 : decode cX1_tuplesOfHead 60 = .ok (.iinc 3 1, 3) := by decide +kernel
theorem dX1_tuplesOfHead_63 : decode cX1_tuplesOfHead 63 = .ok (.goto (-35), 3) := by decide +kernel
theorem dX1_tuplesOfHead_66 : decode cX1_tuplesOfHead 66 = .ok (.aload_n 0, 1) := by decide +kernel
theorem dX1_tuplesOfHead_67 : decode cX1_tuplesOfHead 67 = .ok (.getfield 31, 3) := by decide +kernel
theorem dX1_tuplesOfHead_70 : decode cX1_tuplesOfHead 70 = .ok (.invokevirtual 123, 3) := by decide +kernel
theorem dX1_tuplesOfHead_73 : decode cX1_tuplesOfHead 73 = .ok (.ifCond .eq 9, 3) := by decide +kernel
theorem dX1_tuplesOfHead_76 : decode cX1_tuplesOfHead 76 = .ok (.iload_n 1, 1) := by decide +kernel
theorem dX1_tuplesOfHead_77 : decode cX1_tuplesOfHead 77 = .ok (.iconst 1, 1) := by decide +kernel
theorem dX1_tuplesOfHead_78 : decode cX1_tuplesOfHead 78 = .ok (.iload_n 2, 1) := by decide +kernel
theorem dX1_tuplesOfHead_79 : decode cX1_tuplesOfHead 79 = .ok (.ishl, 1) := by decide +kernel
theorem dX1_tuplesOfHead_80 : decode cX1_tuplesOfHead 80 = .ok (.ior, 1) := by decide +kernel
theorem dX1_tuplesOfHead_81 : decode cX1_tuplesOfHead 81 = .ok (.istore_n 1, 1) := by decide +kernel
theorem dX1_tuplesOfHead_82 : decode cX1_tuplesOfHead 82 = .ok (.iinc 2 1, 3) := by decide +kernel
theorem dX1_tuplesOfHead_85 : decode cX1_tuplesOfHead 85 = .ok (.goto (-81), 3) := by decide +kernel
theorem dX1_tuplesOfHead_88 : decode cX1_tuplesOfHead 88 = .ok (.iload_n 1, 1) := by decide +kernel
theorem dX1_tuplesOfHead_89 : decode cX1_tuplesOfHead 89 = .ok (.ireturn, 1) := by decide +kernel
theorem dX2_init_0 : decode cX2_init 0 = .ok (.aload_n 0, 1) := by decide +kernel
theorem dX2_init_1 : decode cX2_init 1 = .ok (.invokespecial 3, 3) := by decide +kernel
theorem dX2_init_4 : decode cX2_init 4 = .ok (.aload_n 0, 1) := by decide +kernel
theorem dX2_init_5 : decode cX2_init 5 = .ok (.bipush 16, 2) := by decide +kernel
theorem dX2_init_7 : decode cX2_init 7 = .ok (.newarray .int, 2) := by decide +kernel
theorem dX2_init_9 : decode cX2_init 9 = .ok (.putfield 9, 3) := by decide +kernel
theorem dX2_init_12 : decode cX2_init 12 = .ok (.aload_n 0, 1) := by decide +kernel
theorem dX2_init_13 : decode cX2_init 13 = .ok (.bipush 16, 2) := by decide +kernel
theorem dX2_init_15 : decode cX2_init 15 = .ok (.newarray .int, 2) := by decide +kernel
theorem dX2_init_17 : decode cX2_init 17 = .ok (.putfield 15, 3) := by decide +kernel
theorem dX2_init_20 : decode cX2_init 20 = .ok (.aload_n 0, 1) := by decide +kernel
theorem dX2_init_21 : decode cX2_init 21 = .ok (.bipush 48, 2) := by decide +kernel
theorem dX2_init_23 : decode cX2_init 23 = .ok (.newarray .int, 2) := by decide +kernel
theorem dX2_init_25 : decode cX2_init 25 = .ok (.putfield 18, 3) := by decide +kernel
theorem dX2_init_28 : decode cX2_init 28 = .ok (.aload_n 0, 1) := by decide +kernel
theorem dX2_init_29 : decode cX2_init 29 = .ok (.bipush 16, 2) := by decide +kernel
theorem dX2_init_31 : decode cX2_init 31 = .ok (.newarray .int, 2) := by decide +kernel
theorem dX2_init_33 : decode cX2_init 33 = .ok (.putfield 21, 3) := by decide +kernel
theorem dX2_init_36 : decode cX2_init 36 = .ok (.aload_n 0, 1) := by decide +kernel
theorem dX2_init_37 : decode cX2_init 37 = .ok (.bipush 6, 2) := by decide +kernel
theorem dX2_init_39 : decode cX2_init 39 = .ok (.newarray .int, 2) := by decide +kernel
theorem dX2_init_41 : decode cX2_init 41 = .ok (.putfield 24, 3) := by decide +kernel
theorem dX2_init_44 : decode cX2_init 44 = .ok (.aload_n 0, 1) := by decide +kernel
theorem dX2_init_45 : decode cX2_init 45 = .ok (.bipush 6, 2) := by decide +kernel
theorem dX2_init_47 : decode cX2_init 47 = .ok (.newarray .int, 2) := by decide +kernel
theorem dX2_init_49 : decode cX2_init 49 = .ok (.putfield 27, 3) := by decide +kernel
theorem dX2_init_52 : decode cX2_init 52 = .ok (.aload_n 0, 1) := by decide +kernel
theorem dX2_init_53 : decode cX2_init 53 = .ok (.aload_n 1, 1) := by decide +kernel
theorem dX2_init_54 : decode cX2_init 54 = .ok (.putfield 30, 3) := by decide +kernel
theorem dX2_init_57 : decode cX2_init 57 = .ok (.aload_n 0, 1) := by decide +kernel
theorem dX2_init_58 : decode cX2_init 58 = .ok (.aload_n 2, 1) := by decide +kernel
theorem dX2_init_59 : decode cX2_init 59 = .ok (.putfield 34, 3) := by decide +kernel
theorem dX2_init_62 : decode cX2_init 62 = .ok (.return_, 1) := by decide +kernel
theorem dX2_begin_0 : decode cX2_begin 0 = .ok (.aload_n 0, 1) := by decide +kernel
theorem dX2_begin_1 : decode cX2_begin 1 = .ok (.iload_n 1, 1) := by decide +kernel
theorem dX2_begin_2 : decode cX2_begin 2 = .ok (.putfield 38, 3) := by decide +kernel
theorem dX2_begin_5 : decode cX2_begin 5 = .ok (.aload_n 0, 1) := by decide +kernel
theorem dX2_begin_6 : decode cX2_begin 6 = .ok (.iconst 0, 1) := by decide +kernel
theorem dX2_begin_7 : decode cX2_begin 7 = .ok (.putfield 42, 3) := by decide +kernel
theorem dX2_begin_10 : decode cX2_begin 10 = .ok (.return_, 1) := by decide +kernel
theorem dX2_isThere_0 : decode cX2_isThere 0 = .ok (.iload_n 1, 1) := by decide +kernel
theorem dX2_isThere_1 : decode cX2_isThere 1 = .ok (.ifCond .lt 15, 3) := by decide +kernel
theorem dX2_isThere_4 : decode cX2_isThere 4 = .ok (.iload_n 1, 1) := by decide +kernel
theorem dX2_isThere_5 : decode cX2_isThere 5 = .ok (.aload_n 0, 1) := by decide +kernel
theorem dX2_isThere_6 : decode cX2_isThere 6 = .ok (.getfield 38, 3) := by decide +kernel
theorem dX2_isThere_9 : decode cX2_isThere 9 = .ok (.if_icmp .ge 7, 3) := by decide +kernel
theorem dX2_isThere_12 : decode cX2_isThere 12 = .ok (.iconst 1, 1) := by decide +kernel
theorem dX2_isThere_13 : decode cX2_isThere 13 = .ok (.goto 4, 3) := by decide +kernel
theorem dX2_isThere_16 : decode cX2_isThere 16 = .ok (.iconst 0, 1) := by decide +kernel
theorem dX2_isThere_17 : decode cX2_isThere 17 = .ok (.ireturn, 1) := by decide +kernel
theorem dX2_variableCount_0 : decode cX2_variableCount 0 = .ok (.aload_n 0, 1) := by decide +kernel
theorem dX2_variableCount_1 : decode cX2_variableCount 1 = .ok (.getfield 38, 3) := by decide +kernel
theorem dX2_variableCount_4 : decode cX2_variableCount 4 = .ok (.ireturn, 1) := by decide +kernel
theorem dX2_add_0 : decode cX2_add 0 = .ok (.aload_n 0, 1) := by decide +kernel
theorem dX2_add_1 : decode cX2_add 1 = .ok (.getfield 9, 3) := by decide +kernel
theorem dX2_add_4 : decode cX2_add 4 = .ok (.aload_n 0, 1) := by decide +kernel
theorem dX2_add_5 : decode cX2_add 5 = .ok (.getfield 42, 3) := by decide +kernel
theorem dX2_add_8 : decode cX2_add 8 = .ok (.iload_n 1, 1) := by decide +kernel
theorem dX2_add_9 : decode cX2_add 9 = .ok (.invokestatic 45, 3) := by decide +kernel
theorem dX2_add_12 : decode cX2_add 12 = .ok (.aload_n 0, 1) := by decide +kernel
theorem dX2_add_13 : decode cX2_add 13 = .ok (.getfield 15, 3) := by decide +kernel
theorem dX2_add_16 : decode cX2_add 16 = .ok (.aload_n 0, 1) := by decide +kernel
theorem dX2_add_17 : decode cX2_add 17 = .ok (.getfield 42, 3) := by decide +kernel
theorem dX2_add_20 : decode cX2_add 20 = .ok (.aload_n 0, 1) := by decide +kernel
theorem dX2_add_21 : decode cX2_add 21 = .ok (.getfield 34, 3) := by decide +kernel
theorem dX2_add_24 : decode cX2_add 24 = .ok (.iload_n 1, 1) := by decide +kernel
theorem dX2_add_25 : decode cX2_add 25 = .ok (.invokevirtual 49, 3) := by decide +kernel
theorem dX2_add_28 : decode cX2_add 28 = .ok (.invokestatic 45, 3) := by decide +kernel
theorem dX2_add_31 : decode cX2_add 31 = .ok (.aload_n 0, 1) := by decide +kernel
theorem dX2_add_32 : decode cX2_add 32 = .ok (.getfield 18, 3) := by decide +kernel
theorem dX2_add_35 : decode cX2_add 35 = .ok (.iconst 3, 1) := by decide +kernel
theorem dX2_add_36 : decode cX2_add 36 = .ok (.aload_n 0, 1) := by decide +kernel
theorem dX2_add_37 : decode cX2_add 37 = .ok (.getfield 42, 3) := by decide +kernel
theorem dX2_add_40 : decode cX2_add 40 = .ok (.imul, 1) := by decide +kernel
theorem dX2_add_41 : decode cX2_add 41 = .ok (.iload_n 2, 1) := by decide +kernel
theorem dX2_add_42 : decode cX2_add 42 = .ok (.invokestatic 45, 3) := by decide +kernel
theorem dX2_add_45 : decode cX2_add 45 = .ok (.aload_n 0, 1) := by decide +kernel
theorem dX2_add_46 : decode cX2_add 46 = .ok (.getfield 18, 3) := by decide +kernel
theorem dX2_add_49 : decode cX2_add 49 = .ok (.iconst 3, 1) := by decide +kernel
theorem dX2_add_50 : decode cX2_add 50 = .ok (.aload_n 0, 1) := by decide +kernel
theorem dX2_add_51 : decode cX2_add 51 = .ok (.getfield 42, 3) := by decide +kernel
theorem dX2_add_54 : decode cX2_add 54 = .ok (.imul, 1) := by decide +kernel
theorem dX2_add_55 : decode cX2_add 55 = .ok (.iconst 1, 1) := by decide +kernel
theorem dX2_add_56 : decode cX2_add 56 = .ok (.iadd, 1) := by decide +kernel
theorem dX2_add_57 : decode cX2_add 57 = .ok (.iload_n 3, 1) := by decide +kernel
theorem dX2_add_58 : decode cX2_add 58 = .ok (.invokestatic 45, 3) := by decide +kernel
theorem dX2_add_61 : decode cX2_add 61 = .ok (.aload_n 0, 1) := by decide +kernel
theorem dX2_add_62 : decode cX2_add 62 = .ok (.getfield 18, 3) := by decide +kernel
theorem dX2_add_65 : decode cX2_add 65 = .ok (.iconst 3, 1) := by decide +kernel
theorem dX2_add_66 : decode cX2_add 66 = .ok (.aload_n 0, 1) := by decide +kernel
theorem dX2_add_67 : decode cX2_add 67 = .ok (.getfield 42, 3) := by decide +kernel
theorem dX2_add_70 : decode cX2_add 70 = .ok (.imul, 1) := by decide +kernel
theorem dX2_add_71 : decode cX2_add 71 = .ok (.iconst 2, 1) := by decide +kernel
theorem dX2_add_72 : decode cX2_add 72 = .ok (.iadd, 1) := by decide +kernel
theorem dX2_add_73 : decode cX2_add 73 = .ok (.iload 4, 2) := by decide +kernel
theorem dX2_add_75 : decode cX2_add 75 = .ok (.invokestatic 45, 3) := by decide +kernel
theorem dX2_add_78 : decode cX2_add 78 = .ok (.aload_n 0, 1) := by decide +kernel
theorem dX2_add_79 : decode cX2_add 79 = .ok (.getfield 21, 3) := by decide +kernel
theorem dX2_add_82 : decode cX2_add 82 = .ok (.aload_n 0, 1) := by decide +kernel
theorem dX2_add_83 : decode cX2_add 83 = .ok (.getfield 42, 3) := by decide +kernel
theorem dX2_add_86 : decode cX2_add 86 = .ok (.aload_n 0, 1) := by decide +kernel
theorem dX2_add_87 : decode cX2_add 87 = .ok (.aload_n 0, 1) := by decide +kernel
theorem dX2_add_88 : decode cX2_add 88 = .ok (.getfield 42, 3) := by decide +kernel
theorem dX2_add_91 : decode cX2_add 91 = .ok (.invokevirtual 55, 3) := by decide +kernel
theorem dX2_add_94 : decode cX2_add 94 = .ok (.invokestatic 45, 3) := by decide +kernel
theorem dX2_add_97 : decode cX2_add 97 = .ok (.aload_n 0, 1) := by decide +kernel
theorem dX2_add_98 : decode cX2_add 98 = .ok (.dup, 1) := by decide +kernel
theorem dX2_add_99 : decode cX2_add 99 = .ok (.getfield 42, 3) := by decide +kernel
theorem dX2_add_102 : decode cX2_add 102 = .ok (.iconst 1, 1) := by decide +kernel
theorem dX2_add_103 : decode cX2_add 103 = .ok (.iadd, 1) := by decide +kernel
theorem dX2_add_104 : decode cX2_add 104 = .ok (.putfield 42, 3) := by decide +kernel
theorem dX2_add_107 : decode cX2_add 107 = .ok (.return_, 1) := by decide +kernel
theorem dX2_lowestVariable_0 : decode cX2_lowestVariable 0 = .ok (.bipush 6, 2) := by decide +kernel
theorem dX2_lowestVariable_2 : decode cX2_lowestVariable 2 = .ok (.istore_n 2, 1) := by decide +kernel
theorem dX2_lowestVariable_3 : decode cX2_lowestVariable 3 = .ok (.iconst 0, 1) := by decide +kernel
theorem dX2_lowestVariable_4 : decode cX2_lowestVariable 4 = .ok (.istore_n 3, 1) := by decide +kernel
theorem dX2_lowestVariable_5 : decode cX2_lowestVariable 5 = .ok (.iload_n 3, 1) := by decide +kernel
theorem dX2_lowestVariable_6 : decode cX2_lowestVariable 6 = .ok (.aload_n 0, 1) := by decide +kernel
theorem dX2_lowestVariable_7 : decode cX2_lowestVariable 7 = .ok (.iload_n 1, 1) := by decide +kernel
theorem dX2_lowestVariable_8 : decode cX2_lowestVariable 8 = .ok (.invokevirtual 58, 3) := by decide +kernel
theorem dX2_lowestVariable_11 : decode cX2_lowestVariable 11 = .ok (.if_icmp .ge 20, 3) := by decide +kernel
theorem dX2_lowestVariable_14 : decode cX2_lowestVariable 14 = .ok (.iload_n 2, 1) := by decide +kernel
theorem dX2_lowestVariable_15 : decode cX2_lowestVariable 15 = .ok (.aload_n 0, 1) := by decide +kernel
theorem dX2_lowestVariable_16 : decode cX2_lowestVariable 16 = .ok (.iload_n 1, 1) := by decide +kernel
theorem dX2_lowestVariable_17 : decode cX2_lowestVariable 17 = .ok (.iload_n 3, 1) := by decide +kernel
theorem dX2_lowestVariable_18 : decode cX2_lowestVariable 18 = .ok (.invokevirtual 59, 3) := by decide +kernel
theorem dX2_lowestVariable_21 : decode cX2_lowestVariable 21 = .ok (.invokestatic 63, 3) := by decide +kernel
theorem dX2_lowestVariable_24 : decode cX2_lowestVariable 24 = .ok (.istore_n 2, 1) := by decide +kernel
theorem dX2_lowestVariable_25 : decode cX2_lowestVariable 25 = .ok (.iinc 3 1, 3) := by decide +kernel
theorem dX2_lowestVariable_28 : decode cX2_lowestVariable 28 = .ok (.goto (-23), 3) := by decide +kernel
theorem dX2_lowestVariable_31 : decode cX2_lowestVariable 31 = .ok (.iload_n 2, 1) := by decide +kernel
theorem dX2_lowestVariable_32 : decode cX2_lowestVariable 32 = .ok (.ireturn, 1) := by decide +kernel
theorem dX2_placesOf_0 : decode cX2_placesOf 0 = .ok (.aload_n 0, 1) := by decide +kernel
theorem dX2_placesOf_1 : decode cX2_placesOf 1 = .ok (.getfield 15, 3) := by decide +kernel
theorem dX2_placesOf_4 : decode cX2_placesOf 4 = .ok (.iload_n 1, 1) := by decide +kernel
theorem dX2_placesOf_5 : decode cX2_placesOf 5 = .ok (.invokestatic 68, 3) := by decide +kernel
theorem dX2_placesOf_8 : decode cX2_placesOf 8 = .ok (.ireturn, 1) := by decide +kernel
theorem dX2_variableOn_0 : decode cX2_variableOn 0 = .ok (.aload_n 0, 1) := by decide +kernel
theorem dX2_variableOn_1 : decode cX2_variableOn 1 = .ok (.getfield 18, 3) := by decide +kernel
theorem dX2_variableOn_4 : decode cX2_variableOn 4 = .ok (.iconst 3, 1) := by decide +kernel
theorem dX2_variableOn_5 : decode cX2_variableOn 5 = .ok (.iload_n 1, 1) := by decide +kernel
theorem dX2_variableOn_6 : decode cX2_variableOn 6 = .ok (.imul, 1) := by decide +kernel
theorem dX2_variableOn_7 : decode cX2_variableOn 7 = .ok (.iload_n 2, 1) := by decide +kernel
theorem dX2_variableOn_8 : decode cX2_variableOn 8 = .ok (.iadd, 1) := by decide +kernel
theorem dX2_variableOn_9 : decode cX2_variableOn 9 = .ok (.invokestatic 68, 3) := by decide +kernel
theorem dX2_variableOn_12 : decode cX2_variableOn 12 = .ok (.ireturn, 1) := by decide +kernel
theorem dX2_allowAll_0 : decode cX2_allowAll 0 = .ok (.iconst 0, 1) := by decide +kernel
theorem dX2_allowAll_1 : decode cX2_allowAll 1 = .ok (.istore_n 1, 1) := by decide +kernel
theorem dX2_allowAll_2 : decode cX2_allowAll 2 = .ok (.iload_n 1, 1) := by decide +kernel
theorem dX2_allowAll_3 : decode cX2_allowAll 3 = .ok (.aload_n 0, 1) := by decide +kernel
theorem dX2_allowAll_4 : decode cX2_allowAll 4 = .ok (.getfield 24, 3) := by decide +kernel
theorem dX2_allowAll_7 : decode cX2_allowAll 7 = .ok (.arraylength, 1) := by decide +kernel
theorem dX2_allowAll_8 : decode cX2_allowAll 8 = .ok (.if_icmp .ge 22, 3) := by decide +kernel
theorem dX2_allowAll_11 : decode cX2_allowAll 11 = .ok (.aload_n 0, 1) := by decide +kernel
theorem dX2_allowAll_12 : decode cX2_allowAll 12 = .ok (.getfield 24, 3) := by decide +kernel
theorem dX2_allowAll_15 : decode cX2_allowAll 15 = .ok (.iload_n 1, 1) := by decide +kernel
theorem dX2_allowAll_16 : decode cX2_allowAll 16 = .ok (.aload_n 0, 1) := by decide +kernel
theorem dX2_allowAll_17 : decode cX2_allowAll 17 = .ok (.getfield 30, 3) := by decide +kernel
theorem dX2_allowAll_20 : decode cX2_allowAll 20 = .ok (.invokevirtual 72, 3) := by decide +kernel
theorem dX2_allowAll_23 : decode cX2_allowAll 23 = .ok (.iastore, 1) := by decide +kernel
theorem dX2_allowAll_24 : decode cX2_allowAll 24 = .ok (.iinc 1 1, 3) := by decide +kernel
theorem dX2_allowAll_27 : decode cX2_allowAll 27 = .ok (.goto (-25), 3) := by decide +kernel
theorem dX2_allowAll_30 : decode cX2_allowAll 30 = .ok (.return_, 1) := by decide +kernel
theorem dX2_allowOnly_0 : decode cX2_allowOnly 0 = .ok (.aload_n 0, 1) := by decide +kernel
theorem dX2_allowOnly_1 : decode cX2_allowOnly 1 = .ok (.getfield 24, 3) := by decide +kernel
theorem dX2_allowOnly_4 : decode cX2_allowOnly 4 = .ok (.iload_n 1, 1) := by decide +kernel
theorem dX2_allowOnly_5 : decode cX2_allowOnly 5 = .ok (.aload_n 0, 1) := by decide +kernel
theorem dX2_allowOnly_6 : decode cX2_allowOnly 6 = .ok (.getfield 24, 3) := by decide +kernel
theorem dX2_allowOnly_9 : decode cX2_allowOnly 9 = .ok (.iload_n 1, 1) := by decide +kernel
theorem dX2_allowOnly_10 : decode cX2_allowOnly 10 = .ok (.invokestatic 68, 3) := by decide +kernel
theorem dX2_allowOnly_13 : decode cX2_allowOnly 13 = .ok (.iconst 1, 1) := by decide +kernel
theorem dX2_allowOnly_14 : decode cX2_allowOnly 14 = .ok (.iload_n 2, 1) := by decide +kernel
theorem dX2_allowOnly_15 : decode cX2_allowOnly 15 = .ok (.ishl, 1) := by decide +kernel
theorem dX2_allowOnly_16 : decode cX2_allowOnly 16 = .ok (.iand, 1) := by decide +kernel
theorem dX2_allowOnly_17 : decode cX2_allowOnly 17 = .ok (.invokestatic 45, 3) := by decide +kernel
theorem dX2_allowOnly_20 : decode cX2_allowOnly 20 = .ok (.return_, 1) := by decide +kernel
theorem dX2_countSolutions_0 : decode cX2_countSolutions 0 = .ok (.aload_n 0, 1) := by decide +kernel
theorem dX2_countSolutions_1 : decode cX2_countSolutions 1 = .ok (.invokevirtual 78, 3) := by decide +kernel
theorem dX2_countSolutions_4 : decode cX2_countSolutions 4 = .ok (.aload_n 0, 1) := by decide +kernel
theorem dX2_countSolutions_5 : decode cX2_countSolutions 5 = .ok (.aload_n 0, 1) := by decide +kernel
theorem dX2_countSolutions_6 : decode cX2_countSolutions 6 = .ok (.getfield 38, 3) := by decide +kernel
theorem dX2_countSolutions_9 : decode cX2_countSolutions 9 = .ok (.iconst 1, 1) := by decide +kernel
theorem dX2_countSolutions_10 : decode cX2_countSolutions 10 = .ok (.isub, 1) := by decide +kernel
theorem dX2_countSolutions_11 : decode cX2_countSolutions 11 = .ok (.aload_n 0, 1) := by decide +kernel
theorem dX2_countSolutions_12 : decode cX2_countSolutions 12 = .ok (.getfield 30, 3) := by decide +kernel
theorem dX2_countSolutions_15 : decode cX2_countSolutions 15 = .ok (.aload_n 0, 1) := by decide +kernel
theorem dX2_countSolutions_16 : decode cX2_countSolutions 16 = .ok (.getfield 38, 3) := by decide +kernel
theorem dX2_countSolutions_19 : decode cX2_countSolutions 19 = .ok (.invokevirtual 81, 3) := by decide +kernel
theorem dX2_countSolutions_22 : decode cX2_countSolutions 22 = .ok (.invokestatic 84, 3) := by decide +kernel
theorem dX2_countSolutions_25 : decode cX2_countSolutions 25 = .ok (.ireturn, 1) := by decide +kernel
theorem dX2_hasSolution_0 : decode cX2_hasSolution 0 = .ok (.aload_n 0, 1) := by decide +kernel
theorem dX2_hasSolution_1 : decode cX2_hasSolution 1 = .ok (.aload_n 0, 1) := by decide +kernel
theorem dX2_hasSolution_2 : decode cX2_hasSolution 2 = .ok (.getfield 38, 3) := by decide +kernel
theorem dX2_hasSolution_5 : decode cX2_hasSolution 5 = .ok (.iconst 1, 1) := by decide +kernel
theorem dX2_hasSolution_6 : decode cX2_hasSolution 6 = .ok (.isub, 1) := by decide +kernel
theorem dX2_hasSolution_7 : decode cX2_hasSolution 7 = .ok (.iconst 1, 1) := by decide +kernel
theorem dX2_hasSolution_8 : decode cX2_hasSolution 8 = .ok (.invokestatic 84, 3) := by decide +kernel
theorem dX2_hasSolution_11 : decode cX2_hasSolution 11 = .ok (.ifCond .le 7, 3) := by decide +kernel
theorem dX2_hasSolution_14 : decode cX2_hasSolution 14 = .ok (.iconst 1, 1) := by decide +kernel
theorem dX2_hasSolution_15 : decode cX2_hasSolution 15 = .ok (.goto 4, 3) := by decide +kernel
theorem dX2_hasSolution_18 : decode cX2_hasSolution 18 = .ok (.iconst 0, 1) := by decide +kernel
theorem dX2_hasSolution_19 : decode cX2_hasSolution 19 = .ok (.ireturn, 1) := by decide +kernel
theorem dX2_lowestSolution_0 : decode cX2_lowestSolution 0 = .ok (.aload_n 0, 1) := by decide +kernel
theorem dX2_lowestSolution_1 : decode cX2_lowestSolution 1 = .ok (.invokevirtual 78, 3) := by decide +kernel
theorem dX2_lowestSolution_4 : decode cX2_lowestSolution 4 = .ok (.aload_n 0, 1) := by decide +kernel
theorem dX2_lowestSolution_5 : decode cX2_lowestSolution 5 = .ok (.invokevirtual 88, 3) := by decide +kernel
theorem dX2_lowestSolution_8 : decode cX2_lowestSolution 8 = .ok (.ifCond .ne 5, 3) := by decide +kernel
theorem dX2_lowestSolution_11 : decode cX2_lowestSolution 11 = .ok (.iconst (-1), 1) := by decide +kernel
theorem dX2_lowestSolution_12 : decode cX2_lowestSolution 12 = .ok (.ireturn, 1) := by decide +kernel
theorem dX2_lowestSolution_13 : decode cX2_lowestSolution 13 = .ok (.iconst 0, 1) := by decide +kernel
theorem dX2_lowestSolution_14 : decode cX2_lowestSolution 14 = .ok (.istore_n 1, 1) := by decide +kernel
theorem dX2_lowestSolution_15 : decode cX2_lowestSolution 15 = .ok (.aload_n 0, 1) := by decide +kernel
theorem dX2_lowestSolution_16 : decode cX2_lowestSolution 16 = .ok (.getfield 38, 3) := by decide +kernel
theorem dX2_lowestSolution_19 : decode cX2_lowestSolution 19 = .ok (.iconst 1, 1) := by decide +kernel
theorem dX2_lowestSolution_20 : decode cX2_lowestSolution 20 = .ok (.isub, 1) := by decide +kernel
theorem dX2_lowestSolution_21 : decode cX2_lowestSolution 21 = .ok (.istore_n 2, 1) := by decide +kernel
theorem dX2_lowestSolution_22 : decode cX2_lowestSolution 22 = .ok (.iload_n 2, 1) := by decide +kernel
theorem dX2_lowestSolution_23 : decode cX2_lowestSolution 23 = .ok (.ifCond .lt 28, 3) := by decide +kernel
theorem dX2_lowestSolution_26 : decode cX2_lowestSolution 26 = .ok (.iload_n 1, 1) := by decide +kernel
theorem dX2_lowestSolution_27 : decode cX2_lowestSolution 27 = .ok (.aload_n 0, 1) := by decide +kernel
theorem dX2_lowestSolution_28 : decode cX2_lowestSolution 28 = .ok (.getfield 30, 3) := by decide +kernel
theorem dX2_lowestSolution_31 : decode cX2_lowestSolution 31 = .ok (.getfield 92, 3) := by decide +kernel
theorem dX2_lowestSolution_34 : decode cX2_lowestSolution 34 = .ok (.imul, 1) := by decide +kernel
theorem dX2_lowestSolution_35 : decode cX2_lowestSolution 35 = .ok (.aload_n 0, 1) := by decide +kernel
theorem dX2_lowestSolution_36 : decode cX2_lowestSolution 36 = .ok (.getfield 27, 3) := by decide +kernel
theorem dX2_lowestSolution_39 : decode cX2_lowestSolution 39 = .ok (.iload_n 2, 1) := by decide +kernel
theorem dX2_lowestSolution_40 : decode cX2_lowestSolution 40 = .ok (.invokestatic 68, 3) := by decide +kernel
theorem dX2_lowestSolution_43 : decode cX2_lowestSolution 43 = .ok (.iadd, 1) := by decide +kernel
theorem dX2_lowestSolution_44 : decode cX2_lowestSolution 44 = .ok (.istore_n 1, 1) := by decide +kernel
theorem dX2_lowestSolution_45 : decode cX2_lowestSolution 45 = .ok (.iinc 2 (-1), 3) := by decide +kernel
theorem dX2_lowestSolution_48 : decode cX2_lowestSolution 48 = .ok (.goto (-26), 3) := by decide +kernel
theorem dX2_lowestSolution_51 : decode cX2_lowestSolution 51 = .ok (.iload_n 1, 1) := by decide +kernel
theorem dX2_lowestSolution_52 : decode cX2_lowestSolution 52 = .ok (.ireturn, 1) := by decide +kernel
theorem dX2_completed_0 : decode cX2_completed 0 = .ok (.iload_n 1, 1) := by decide +kernel
theorem dX2_completed_1 : decode cX2_completed 1 = .ok (.ifCond .ge 5, 3) := by decide +kernel
theorem dX2_completed_4 : decode cX2_completed 4 = .ok (.iconst 1, 1) := by decide +kernel
theorem dX2_completed_5 : decode cX2_completed 5 = .ok (.ireturn, 1) := by decide +kernel
theorem dX2_completed_6 : decode cX2_completed 6 = .ok (.iconst 0, 1) := by decide +kernel
theorem dX2_completed_7 : decode cX2_completed 7 = .ok (.istore_n 3, 1) := by decide +kernel
theorem dX2_completed_8 : decode cX2_completed 8 = .ok (.iconst 0, 1) := by decide +kernel
theorem dX2_completed_9 : decode cX2_completed 9 = .ok (.istore 4, 2) := by decide +kernel
theorem dX2_completed_11 : decode cX2_completed 11 = .ok (.iload 4, 2) := by decide +kernel
theorem dX2_completed_13 : decode cX2_completed 13 = .ok (.aload_n 0, 1) := by decide +kernel
theorem dX2_completed_14 : decode cX2_completed 14 = .ok (.getfield 30, 3) := by decide +kernel
theorem dX2_completed_17 : decode cX2_completed 17 = .ok (.getfield 92, 3) := by decide +kernel
theorem dX2_completed_20 : decode cX2_completed 20 = .ok (.if_icmp .ge 61, 3) := by decide +kernel
theorem dX2_completed_23 : decode cX2_completed 23 = .ok (.iload_n 3, 1) := by decide +kernel
theorem dX2_completed_24 : decode cX2_completed 24 = .ok (.iload_n 2, 1) := by decide +kernel
theorem dX2_completed_25 : decode cX2_completed 25 = .ok (.if_icmp .ge 56, 3) := by decide +kernel
theorem dX2_completed_28 : decode cX2_completed 28 = .ok (.iload 4, 2) := by decide +kernel
theorem dX2_completed_30 : decode cX2_completed 30 = .ok (.aload_n 0, 1) := by decide +kernel
theorem dX2_completed_31 : decode cX2_completed 31 = .ok (.getfield 24, 3) := by decide +kernel
theorem dX2_completed_34 : decode cX2_completed 34 = .ok (.iload_n 1, 1) := by decide +kernel
theorem dX2_completed_35 : decode cX2_completed 35 = .ok (.invokestatic 68, 3) := by decide +kernel
theorem dX2_completed_38 : decode cX2_completed 38 = .ok (.invokestatic 95, 3) := by decide +kernel
theorem dX2_completed_41 : decode cX2_completed 41 = .ok (.ifCond .eq 34, 3) := by decide +kernel
theorem dX2_completed_44 : decode cX2_completed 44 = .ok (.aload_n 0, 1) := by decide +kernel
theorem dX2_completed_45 : decode cX2_completed 45 = .ok (.getfield 27, 3) := by decide +kernel
theorem dX2_completed_48 : decode cX2_completed 48 = .ok (.iload_n 1, 1) := by decide +kernel
theorem dX2_completed_49 : decode cX2_completed 49 = .ok (.iload 4, 2) := by decide +kernel
theorem dX2_completed_51 : decode cX2_completed 51 = .ok (.invokestatic 45, 3) := by decide +kernel
theorem dX2_completed_54 : decode cX2_completed 54 = .ok (.aload_n 0, 1) := by decide +kernel
theorem dX2_completed_55 : decode cX2_completed 55 = .ok (.iload_n 1, 1) := by decide +kernel
theorem dX2_completed_56 : decode cX2_completed 56 = .ok (.invokevirtual 99, 3) := by decide +kernel
theorem dX2_completed_59 : decode cX2_completed 59 = .ok (.ifCond .eq 16, 3) := by decide +kernel
theorem dX2_completed_62 : decode cX2_completed 62 = .ok (.iload_n 3, 1) := by decide +kernel
theorem dX2_completed_63 : decode cX2_completed 63 = .ok (.aload_n 0, 1) := by decide +kernel
theorem dX2_completed_64 : decode cX2_completed 64 = .ok (.iload_n 1, 1) := by decide +kernel
theorem dX2_completed_65 : decode cX2_completed 65 = .ok (.iconst 1, 1) := by decide +kernel
theorem dX2_completed_66 : decode cX2_completed 66 = .ok (.isub, 1) := by decide +kernel
theorem dX2_completed_67 : decode cX2_completed 67 = .ok (.iload_n 2, 1) := by decide +kernel
theorem dX2_completed_68 : decode cX2_completed 68 = .ok (.iload_n 3, 1) := by decide +kernel
theorem dX2_completed_69 : decode cX2_completed 69 = .ok (.isub, 1) := by decide +kernel
theorem dX2_completed_70 : decode cX2_completed 70 = .ok (.invokestatic 84, 3) := by decide +kernel
theorem dX2_completed_73 : decode cX2_completed 73 = .ok (.iadd, 1) := by decide +kernel
theorem dX2_completed_74 : decode cX2_completed 74 = .ok (.istore_n 3, 1) := by decide +kernel
theorem dX2_completed_75 : decode cX2_completed 75 = .ok (.iinc 4 1, 3) := by decide +kernel
theorem dX2_completed_78 : decode cX2_completed 78 = .ok (.goto (-67), 3) := by decide +kernel
theorem dX2_completed_81 : decode cX2_completed 81 = .ok (.iload_n 3, 1) := by decide +kernel
theorem dX2_completed_82 : decode cX2_completed 82 = .ok (.ireturn, 1) := by decide +kernel
theorem dX2_holdsFrom_0 : decode cX2_holdsFrom 0 = .ok (.iconst 0, 1) := by decide +kernel
theorem dX2_holdsFrom_1 : decode cX2_holdsFrom 1 = .ok (.istore_n 2, 1) := by decide +kernel
theorem dX2_holdsFrom_2 : decode cX2_holdsFrom 2 = .ok (.iload_n 2, 1) := by decide +kernel
theorem dX2_holdsFrom_3 : decode cX2_holdsFrom 3 = .ok (.aload_n 0, 1) := by decide +kernel
theorem dX2_holdsFrom_4 : decode cX2_holdsFrom 4 = .ok (.getfield 42, 3) := by decide +kernel
theorem dX2_holdsFrom_7 : decode cX2_holdsFrom 7 = .ok (.if_icmp .ge 31, 3) := by decide +kernel
theorem dX2_holdsFrom_10 : decode cX2_holdsFrom 10 = .ok (.aload_n 0, 1) := by decide +kernel
theorem dX2_holdsFrom_11 : decode cX2_holdsFrom 11 = .ok (.getfield 21, 3) := by decide +kernel
theorem dX2_holdsFrom_14 : decode cX2_holdsFrom 14 = .ok (.iload_n 2, 1) := by decide +kernel
theorem dX2_holdsFrom_15 : decode cX2_holdsFrom 15 = .ok (.invokestatic 68, 3) := by decide +kernel
theorem dX2_holdsFrom_18 : decode cX2_holdsFrom 18 = .ok (.iload_n 1, 1) := by decide +kernel
theorem dX2_holdsFrom_19 : decode cX2_holdsFrom 19 = .ok (.if_icmp .ne 13, 3) := by decide +kernel
theorem dX2_holdsFrom_22 : decode cX2_holdsFrom 22 = .ok (.aload_n 0, 1) := by decide +kernel
theorem dX2_holdsFrom_23 : decode cX2_holdsFrom 23 = .ok (.iload_n 2, 1) := by decide +kernel
theorem dX2_holdsFrom_24 : decode cX2_holdsFrom 24 = .ok (.invokevirtual 103, 3) := by decide +kernel
theorem dX2_holdsFrom_27 : decode cX2_holdsFrom 27 = .ok (.ifCond .ne 5, 3) := by decide +kernel
theorem dX2_holdsFrom_30 : decode cX2_holdsFrom 30 = .ok (.iconst 0, 1) := by decide +kernel
theorem dX2_holdsFrom_31 : decode cX2_holdsFrom 31 = .ok (.ireturn, 1) := by decide +kernel
theorem dX2_holdsFrom_32 : decode cX2_holdsFrom 32 = .ok (.iinc 2 1, 3) := by decide +kernel
theorem dX2_holdsFrom_35 : decode cX2_holdsFrom 35 = .ok (.goto (-33), 3) := by decide +kernel
theorem dX2_holdsFrom_38 : decode cX2_holdsFrom 38 = .ok (.iconst 1, 1) := by decide +kernel
theorem dX2_holdsFrom_39 : decode cX2_holdsFrom 39 = .ok (.ireturn, 1) := by decide +kernel
theorem dX2_holds_0 : decode cX2_holds 0 = .ok (.iconst 0, 1) := by decide +kernel
theorem dX2_holds_1 : decode cX2_holds 1 = .ok (.istore_n 2, 1) := by decide +kernel
theorem dX2_holds_2 : decode cX2_holds 2 = .ok (.aload_n 0, 1) := by decide +kernel
theorem dX2_holds_3 : decode cX2_holds 3 = .ok (.iload_n 1, 1) := by decide +kernel
theorem dX2_holds_4 : decode cX2_holds 4 = .ok (.invokevirtual 58, 3) := by decide +kernel
theorem dX2_holds_7 : decode cX2_holds 7 = .ok (.iconst 1, 1) := by decide +kernel
theorem dX2_holds_8 : decode cX2_holds 8 = .ok (.isub, 1) := by decide +kernel
theorem dX2_holds_9 : decode cX2_holds 9 = .ok (.istore_n 3, 1) := by decide +kernel
theorem dX2_holds_10 : decode cX2_holds 10 = .ok (.iload_n 3, 1) := by decide +kernel
theorem dX2_holds_11 : decode cX2_holds 11 = .ok (.ifCond .lt 33, 3) := by decide +kernel
theorem dX2_holds_14 : decode cX2_holds 14 = .ok (.iload_n 2, 1) := by decide +kernel
theorem dX2_holds_15 : decode cX2_holds 15 = .ok (.aload_n 0, 1) := by decide +kernel
theorem dX2_holds_16 : decode cX2_holds 16 = .ok (.getfield 30, 3) := by decide +kernel
theorem dX2_holds_19 : decode cX2_holds 19 = .ok (.getfield 92, 3) := by decide +kernel
theorem dX2_holds_22 : decode cX2_holds 22 = .ok (.imul, 1) := by decide +kernel
theorem dX2_holds_23 : decode cX2_holds 23 = .ok (.aload_n 0, 1) := by decide +kernel
theorem dX2_holds_24 : decode cX2_holds 24 = .ok (.getfield 27, 3) := by decide +kernel
theorem dX2_holds_27 : decode cX2_holds 27 = .ok (.aload_n 0, 1) := by decide +kernel
theorem dX2_holds_28 : decode cX2_holds 28 = .ok (.iload_n 1, 1) := by decide +kernel
theorem dX2_holds_29 : decode cX2_holds 29 = .ok (.iload_n 3, 1) := by decide +kernel
theorem dX2_holds_30 : decode cX2_holds 30 = .ok (.invokevirtual 59, 3) := by decide +kernel
theorem dX2_holds_33 : decode cX2_holds 33 = .ok (.invokestatic 68, 3) := by decide +kernel
theorem dX2_holds_36 : decode cX2_holds 36 = .ok (.iadd, 1) := by decide +kernel
theorem dX2_holds_37 : decode cX2_holds 37 = .ok (.istore_n 2, 1) := by decide +kernel
theorem dX2_holds_38 : decode cX2_holds 38 = .ok (.iinc 3 (-1), 3) := by decide +kernel
theorem dX2_holds_41 : decode cX2_holds 41 = .ok (.goto (-31), 3) := by decide +kernel
theorem dX2_holds_44 : decode cX2_holds 44 = .ok (.iload_n 2, 1) := by decide +kernel
theorem dX2_holds_45 : decode cX2_holds 45 = .ok (.aload_n 0, 1) := by decide +kernel
theorem dX2_holds_46 : decode cX2_holds 46 = .ok (.getfield 34, 3) := by decide +kernel
theorem dX2_holds_49 : decode cX2_holds 49 = .ok (.aload_n 0, 1) := by decide +kernel
theorem dX2_holds_50 : decode cX2_holds 50 = .ok (.getfield 9, 3) := by decide +kernel
theorem dX2_holds_53 : decode cX2_holds 53 = .ok (.iload_n 1, 1) := by decide +kernel
theorem dX2_holds_54 : decode cX2_holds 54 = .ok (.invokestatic 68, 3) := by decide +kernel
theorem dX2_holds_57 : decode cX2_holds 57 = .ok (.invokevirtual 106, 3) := by decide +kernel
theorem dX2_holds_60 : decode cX2_holds 60 = .ok (.invokestatic 95, 3) := by decide +kernel
theorem dX2_holds_63 : decode cX2_holds 63 = .ok (.ireturn, 1) := by decide +kernel
theorem dX2_countByTryingAll_0 : decode cX2_countByTryingAll 0 = .ok (.iconst 0, 1) := by decide +kernel
theorem dX2_countByTryingAll_1 : decode cX2_countByTryingAll 1 = .ok (.istore_n 1, 1) := by decide +kernel
theorem dX2_countByTryingAll_2 : decode cX2_countByTryingAll 2 = .ok (.iload_n 1, 1) := by decide +kernel
theorem dX2_countByTryingAll_3 : decode cX2_countByTryingAll 3 = .ok (.aload_n 0, 1) := by decide +kernel
theorem dX2_countByTryingAll_4 : decode cX2_countByTryingAll 4 = .ok (.getfield 27, 3) := by decide +kernel
theorem dX2_countByTryingAll_7 : decode cX2_countByTryingAll 7 = .ok (.arraylength, 1) := by decide +kernel
theorem dX2_countByTryingAll_8 : decode cX2_countByTryingAll 8 = .ok (.if_icmp .ge 16, 3) := by decide +kernel
theorem dX2_countByTryingAll_11 : decode cX2_countByTryingAll 11 = .ok (.aload_n 0, 1) := by decide +kernel
theorem dX2_countByTryingAll_12 : decode cX2_countByTryingAll 12 = .ok (.getfield 27, 3) := by decide +kernel
theorem dX2_countByTryingAll_15 : decode cX2_countByTryingAll 15 = .ok (.iload_n 1, 1) := by decide +kernel
theorem dX2_countByTryingAll_16 : decode cX2_countByTryingAll 16 = .ok (.iconst 0, 1) := by decide +kernel
theorem dX2_countByTryingAll_17 : decode cX2_countByTryingAll 17 = .ok (.iastore, 1) := by decide +kernel
theorem dX2_countByTryingAll_18 : decode cX2_countByTryingAll 18 = .ok (.iinc 1 1, 3) := by decide +kernel
theorem dX2_countByTryingAll_21 : decode cX2_countByTryingAll 21 = .ok (.goto (-19), 3) := by decide +kernel
theorem dX2_countByTryingAll_24 : decode cX2_countByTryingAll 24 = .ok (.iconst 0, 1) := by decide +kernel
theorem dX2_countByTryingAll_25 : decode cX2_countByTryingAll 25 = .ok (.istore_n 1, 1) := by decide +kernel
theorem dX2_countByTryingAll_26 : decode cX2_countByTryingAll 26 = .ok (.aload_n 0, 1) := by decide +kernel
theorem dX2_countByTryingAll_27 : decode cX2_countByTryingAll 27 = .ok (.getfield 30, 3) := by decide +kernel
theorem dX2_countByTryingAll_30 : decode cX2_countByTryingAll 30 = .ok (.aload_n 0, 1) := by decide +kernel
theorem dX2_countByTryingAll_31 : decode cX2_countByTryingAll 31 = .ok (.getfield 38, 3) := by decide +kernel
theorem dX2_countByTryingAll_34 : decode cX2_countByTryingAll 34 = .ok (.invokevirtual 81, 3) := by decide +kernel
theorem dX2_countByTryingAll_37 : decode cX2_countByTryingAll 37 = .ok (.istore_n 2, 1) := by decide +kernel
theorem dX2_countByTryingAll_38 : decode cX2_countByTryingAll 38 = .ok (.iload_n 2, 1) := by decide +kernel
theorem dX2_countByTryingAll_39 : decode cX2_countByTryingAll 39 = .ok (.ifCond .le 23, 3) := by decide +kernel
theorem dX2_countByTryingAll_42 : decode cX2_countByTryingAll 42 = .ok (.aload_n 0, 1) := by decide +kernel
theorem dX2_countByTryingAll_43 : decode cX2_countByTryingAll 43 = .ok (.invokevirtual 109, 3) := by decide +kernel
theorem dX2_countByTryingAll_46 : decode cX2_countByTryingAll 46 = .ok (.ifCond .eq 6, 3) := by decide +kernel
theorem dX2_countByTryingAll_49 : decode cX2_countByTryingAll 49 = .ok (.iinc 1 1, 3) := by decide +kernel
theorem dX2_countByTryingAll_52 : decode cX2_countByTryingAll 52 = .ok (.aload_n 0, 1) := by decide +kernel
theorem dX2_countByTryingAll_53 : decode cX2_countByTryingAll 53 = .ok (.invokevirtual 112, 3) := by decide +kernel
theorem dX2_countByTryingAll_56 : decode cX2_countByTryingAll 56 = .ok (.iinc 2 (-1), 3) := by decide +kernel
theorem dX2_countByTryingAll_59 : decode cX2_countByTryingAll 59 = .ok (.goto (-21), 3) := by decide +kernel
theorem dX2_countByTryingAll_62 : decode cX2_countByTryingAll 62 = .ok (.iload_n 1, 1) := by decide +kernel
theorem dX2_countByTryingAll_63 : decode cX2_countByTryingAll 63 = .ok (.ireturn, 1) := by decide +kernel
theorem dX2_holdsEverywhere_0 : decode cX2_holdsEverywhere 0 = .ok (.iconst 0, 1) := by decide +kernel
theorem dX2_holdsEverywhere_1 : decode cX2_holdsEverywhere 1 = .ok (.istore_n 1, 1) := by decide +kernel
theorem dX2_holdsEverywhere_2 : decode cX2_holdsEverywhere 2 = .ok (.iload_n 1, 1) := by decide +kernel
theorem dX2_holdsEverywhere_3 : decode cX2_holdsEverywhere 3 = .ok (.aload_n 0, 1) := by decide +kernel
theorem dX2_holdsEverywhere_4 : decode cX2_holdsEverywhere 4 = .ok (.getfield 42, 3) := by decide +kernel
theorem dX2_holdsEverywhere_7 : decode cX2_holdsEverywhere 7 = .ok (.if_icmp .ge 19, 3) := by decide +kernel
theorem dX2_holdsEverywhere_10 : decode cX2_holdsEverywhere 10 = .ok (.aload_n 0, 1) := by decide +kernel
theorem dX2_holdsEverywhere_11 : decode cX2_holdsEverywhere 11 = .ok (.iload_n 1, 1) := by decide +kernel
theorem dX2_holdsEverywhere_12 : decode cX2_holdsEverywhere 12 = .ok (.invokevirtual 103, 3) := by decide +kernel
theorem dX2_holdsEverywhere_15 : decode cX2_holdsEverywhere 15 = .ok (.ifCond .ne 5, 3) := by decide +kernel
theorem dX2_holdsEverywhere_18 : decode cX2_holdsEverywhere 18 = .ok (.iconst 0, 1) := by decide +kernel
theorem dX2_holdsEverywhere_19 : decode cX2_holdsEverywhere 19 = .ok (.ireturn, 1) := by decide +kernel
theorem dX2_holdsEverywhere_20 : decode cX2_holdsEverywhere 20 = .ok (.iinc 1 1, 3) := by decide +kernel
theorem dX2_holdsEverywhere_23 : decode cX2_holdsEverywhere 23 = .ok (.goto (-21), 3) := by decide +kernel
theorem dX2_holdsEverywhere_26 : decode cX2_holdsEverywhere 26 = .ok (.iconst 1, 1) := by decide +kernel
theorem dX2_holdsEverywhere_27 : decode cX2_holdsEverywhere 27 = .ok (.ireturn, 1) := by decide +kernel
theorem dX2_stepOn_0 : decode cX2_stepOn 0 = .ok (.iconst 0, 1) := by decide +kernel
theorem dX2_stepOn_1 : decode cX2_stepOn 1 = .ok (.istore_n 1, 1) := by decide +kernel
theorem dX2_stepOn_2 : decode cX2_stepOn 2 = .ok (.iload_n 1, 1) := by decide +kernel
theorem dX2_stepOn_3 : decode cX2_stepOn 3 = .ok (.aload_n 0, 1) := by decide +kernel
theorem dX2_stepOn_4 : decode cX2_stepOn 4 = .ok (.getfield 38, 3) := by decide +kernel
theorem dX2_stepOn_7 : decode cX2_stepOn 7 = .ok (.if_icmp .ge 50, 3) := by decide +kernel
theorem dX2_stepOn_10 : decode cX2_stepOn 10 = .ok (.aload_n 0, 1) := by decide +kernel
theorem dX2_stepOn_11 : decode cX2_stepOn 11 = .ok (.getfield 27, 3) := by decide +kernel
theorem dX2_stepOn_14 : decode cX2_stepOn 14 = .ok (.iload_n 1, 1) := by decide +kernel
theorem dX2_stepOn_15 : decode cX2_stepOn 15 = .ok (.invokestatic 68, 3) := by decide +kernel
theorem dX2_stepOn_18 : decode cX2_stepOn 18 = .ok (.iconst 1, 1) := by decide +kernel
theorem dX2_stepOn_19 : decode cX2_stepOn 19 = .ok (.iadd, 1) := by decide +kernel
theorem dX2_stepOn_20 : decode cX2_stepOn 20 = .ok (.istore_n 2, 1) := by decide +kernel
theorem dX2_stepOn_21 : decode cX2_stepOn 21 = .ok (.iload_n 2, 1) := by decide +kernel
theorem dX2_stepOn_22 : decode cX2_stepOn 22 = .ok (.aload_n 0, 1) := by decide +kernel
theorem dX2_stepOn_23 : decode cX2_stepOn 23 = .ok (.getfield 30, 3) := by decide +kernel
theorem dX2_stepOn_26 : decode cX2_stepOn 26 = .ok (.getfield 92, 3) := by decide +kernel
theorem dX2_stepOn_29 : decode cX2_stepOn 29 = .ok (.if_icmp .ge 13, 3) := by decide +kernel
theorem dX2_stepOn_32 : decode cX2_stepOn 32 = .ok (.aload_n 0, 1) := by decide +kernel
theorem dX2_stepOn_33 : decode cX2_stepOn 33 = .ok (.getfield 27, 3) := by decide +kernel
theorem dX2_stepOn_36 : decode cX2_stepOn 36 = .ok (.iload_n 1, 1) := by decide +kernel
theorem dX2_stepOn_37 : decode cX2_stepOn 37 = .ok (.iload_n 2, 1) := by decide +kernel
theorem dX2_stepOn_38 : decode cX2_stepOn 38 = .ok (.invokestatic 45, 3) := by decide +kernel
theorem dX2_stepOn_41 : decode cX2_stepOn 41 = .ok (.return_, 1) := by decide +kernel
theorem dX2_stepOn_42 : decode cX2_stepOn 42 = .ok (.aload_n 0, 1) := by decide +kernel
theorem dX2_stepOn_43 : decode cX2_stepOn 43 = .ok (.getfield 27, 3) := by decide +kernel
theorem dX2_stepOn_46 : decode cX2_stepOn 46 = .ok (.iload_n 1, 1) := by decide +kernel
theorem dX2_stepOn_47 : decode cX2_stepOn 47 = .ok (.iconst 0, 1) := by decide +kernel
theorem dX2_stepOn_48 : decode cX2_stepOn 48 = .ok (.invokestatic 45, 3) := by decide +kernel
theorem dX2_stepOn_51 : decode cX2_stepOn 51 = .ok (.iinc 1 1, 3) := by decide +kernel
theorem dX2_stepOn_54 : decode cX2_stepOn 54 = .ok (.goto (-52), 3) := by decide +kernel
theorem dX2_stepOn_57 : decode cX2_stepOn 57 = .ok (.return_, 1) := by decide +kernel
theorem dX2_standing_0 : decode cX2_standing 0 = .ok (.aload_n 0, 1) := by decide +kernel
theorem dX2_standing_1 : decode cX2_standing 1 = .ok (.getfield 34, 3) := by decide +kernel
theorem dX2_standing_4 : decode cX2_standing 4 = .ok (.aload_n 0, 1) := by decide +kernel
theorem dX2_standing_5 : decode cX2_standing 5 = .ok (.getfield 9, 3) := by decide +kernel
theorem dX2_standing_8 : decode cX2_standing 8 = .ok (.iload_n 1, 1) := by decide +kernel
theorem dX2_standing_9 : decode cX2_standing 9 = .ok (.invokestatic 68, 3) := by decide +kernel
theorem dX2_standing_12 : decode cX2_standing 12 = .ok (.invokevirtual 106, 3) := by decide +kernel
theorem dX2_standing_15 : decode cX2_standing 15 = .ok (.istore_n 2, 1) := by decide +kernel
theorem dX2_standing_16 : decode cX2_standing 16 = .ok (.iconst 0, 1) := by decide +kernel
theorem dX2_standing_17 : decode cX2_standing 17 = .ok (.istore_n 3, 1) := by decide +kernel
theorem dX2_standing_18 : decode cX2_standing 18 = .ok (.iconst 0, 1) := by decide +kernel
theorem dX2_standing_19 : decode cX2_standing 19 = .ok (.istore 4, 2) := by decide +kernel
theorem dX2_standing_21 : decode cX2_standing 21 = .ok (.iload 4, 2) := by decide +kernel
theorem dX2_standing_23 : decode cX2_standing 23 = .ok (.aload_n 0, 1) := by decide +kernel
theorem dX2_standing_24 : decode cX2_standing 24 = .ok (.getfield 30, 3) := by decide +kernel
theorem dX2_standing_27 : decode cX2_standing 27 = .ok (.aload_n 0, 1) := by decide +kernel
theorem dX2_standing_28 : decode cX2_standing 28 = .ok (.iload_n 1, 1) := by decide +kernel
theorem dX2_standing_29 : decode cX2_standing 29 = .ok (.invokevirtual 58, 3) := by decide +kernel
theorem dX2_standing_32 : decode cX2_standing 32 = .ok (.invokevirtual 81, 3) := by decide +kernel
theorem dX2_standing_35 : decode cX2_standing 35 = .ok (.if_icmp .ge 35, 3) := by decide +kernel
theorem dX2_standing_38 : decode cX2_standing 38 = .ok (.iload 4, 2) := by decide +kernel
theorem dX2_standing_40 : decode cX2_standing 40 = .ok (.iload_n 2, 1) := by decide +kernel
theorem dX2_standing_41 : decode cX2_standing 41 = .ok (.invokestatic 95, 3) := by decide +kernel
theorem dX2_standing_44 : decode cX2_standing 44 = .ok (.ifCond .eq 20, 3) := by decide +kernel
theorem dX2_standing_47 : decode cX2_standing 47 = .ok (.aload_n 0, 1) := by decide +kernel
theorem dX2_standing_48 : decode cX2_standing 48 = .ok (.iload_n 1, 1) := by decide +kernel
theorem dX2_standing_49 : decode cX2_standing 49 = .ok (.iload 4, 2) := by decide +kernel
theorem dX2_standing_51 : decode cX2_standing 51 = .ok (.invokevirtual 115, 3) := by decide +kernel
theorem dX2_standing_54 : decode cX2_standing 54 = .ok (.ifCond .eq 10, 3) := by decide +kernel
theorem dX2_standing_57 : decode cX2_standing 57 = .ok (.iload_n 3, 1) := by decide +kernel
theorem dX2_standing_58 : decode cX2_standing 58 = .ok (.iconst 1, 1) := by decide +kernel
theorem dX2_standing_59 : decode cX2_standing 59 = .ok (.iload 4, 2) := by decide +kernel
theorem dX2_standing_61 : decode cX2_standing 61 = .ok (.ishl, 1) := by decide +kernel
theorem dX2_standing_62 : decode cX2_standing 62 = .ok (.ior, 1) := by decide +kernel
theorem dX2_standing_63 : decode cX2_standing 63 = .ok (.istore_n 3, 1) := by decide +kernel
theorem dX2_standing_64 : decode cX2_standing 64 = .ok (.iinc 4 1, 3) := by decide +kernel
theorem dX2_standing_67 : decode cX2_standing 67 = .ok (.goto (-46), 3) := by decide +kernel
theorem dX2_standing_70 : decode cX2_standing 70 = .ok (.iload_n 3, 1) := by decide +kernel
theorem dX2_standing_71 : decode cX2_standing 71 = .ok (.ireturn, 1) := by decide +kernel
theorem dX2_isLikeOnLike_0 : decode cX2_isLikeOnLike 0 = .ok (.iconst 0, 1) := by decide +kernel
theorem dX2_isLikeOnLike_1 : decode cX2_isLikeOnLike 1 = .ok (.istore_n 3, 1) := by decide +kernel
theorem dX2_isLikeOnLike_2 : decode cX2_isLikeOnLike 2 = .ok (.iload_n 3, 1) := by decide +kernel
theorem dX2_isLikeOnLike_3 : decode cX2_isLikeOnLike 3 = .ok (.aload_n 0, 1) := by decide +kernel
theorem dX2_isLikeOnLike_4 : decode cX2_isLikeOnLike 4 = .ok (.iload_n 1, 1) := by decide +kernel
theorem dX2_isLikeOnLike_5 : decode cX2_isLikeOnLike 5 = .ok (.invokevirtual 58, 3) := by decide +kernel
theorem dX2_isLikeOnLike_8 : decode cX2_isLikeOnLike 8 = .ok (.if_icmp .ge 64, 3) := by decide +kernel
theorem dX2_isLikeOnLike_11 : decode cX2_isLikeOnLike 11 = .ok (.iconst 0, 1) := by decide +kernel
theorem dX2_isLikeOnLike_12 : decode cX2_isLikeOnLike 12 = .ok (.istore 4, 2) := by decide +kernel
theorem dX2_isLikeOnLike_14 : decode cX2_isLikeOnLike 14 = .ok (.iload 4, 2) := by decide +kernel
theorem dX2_isLikeOnLike_16 : decode cX2_isLikeOnLike 16 = .ok (.iload_n 3, 1) := by decide +kernel
theorem dX2_isLikeOnLike_17 : decode cX2_isLikeOnLike 17 = .ok (.if_icmp .ge 49, 3) := by decide +kernel
theorem dX2_isLikeOnLike_20 : decode cX2_isLikeOnLike 20 = .ok (.aload_n 0, 1) := by decide +kernel
theorem dX2_isLikeOnLike_21 : decode cX2_isLikeOnLike 21 = .ok (.iload_n 1, 1) := by decide +kernel
theorem dX2_isLikeOnLike_22 : decode cX2_isLikeOnLike 22 = .ok (.iload_n 3, 1) := by decide +kernel
theorem dX2_isLikeOnLike_23 : decode cX2_isLikeOnLike 23 = .ok (.invokevirtual 59, 3) := by decide +kernel
theorem dX2_isLikeOnLike_26 : decode cX2_isLikeOnLike 26 = .ok (.aload_n 0, 1) := by decide +kernel
theorem dX2_isLikeOnLike_27 : decode cX2_isLikeOnLike 27 = .ok (.iload_n 1, 1) := by decide +kernel
theorem dX2_isLikeOnLike_28 : decode cX2_isLikeOnLike 28 = .ok (.iload 4, 2) := by decide +kernel
theorem dX2_isLikeOnLike_30 : decode cX2_isLikeOnLike 30 = .ok (.invokevirtual 59, 3) := by decide +kernel
theorem dX2_isLikeOnLike_33 : decode cX2_isLikeOnLike 33 = .ok (.if_icmp .ne 27, 3) := by decide +kernel
theorem dX2_isLikeOnLike_36 : decode cX2_isLikeOnLike 36 = .ok (.aload_n 0, 1) := by decide +kernel
theorem dX2_isLikeOnLike_37 : decode cX2_isLikeOnLike 37 = .ok (.getfield 30, 3) := by decide +kernel
theorem dX2_isLikeOnLike_40 : decode cX2_isLikeOnLike 40 = .ok (.iload_n 2, 1) := by decide +kernel
theorem dX2_isLikeOnLike_41 : decode cX2_isLikeOnLike 41 = .ok (.iload_n 3, 1) := by decide +kernel
theorem dX2_isLikeOnLike_42 : decode cX2_isLikeOnLike 42 = .ok (.invokevirtual 118, 3) := by decide +kernel
theorem dX2_isLikeOnLike_45 : decode cX2_isLikeOnLike 45 = .ok (.aload_n 0, 1) := by decide +kernel
theorem dX2_isLikeOnLike_46 : decode cX2_isLikeOnLike 46 = .ok (.getfield 30, 3) := by decide +kernel
theorem dX2_isLikeOnLike_49 : decode cX2_isLikeOnLike 49 = .ok (.iload_n 2, 1) := by decide +kernel
theorem dX2_isLikeOnLike_50 : decode cX2_isLikeOnLike 50 = .ok (.iload 4, 2) := by decide +kernel
theorem dX2_isLikeOnLike_52 : decode cX2_isLikeOnLike 52 = .ok (.invokevirtual 118, 3) := by decide +kernel
theorem dX2_isLikeOnLike_55 : decode cX2_isLikeOnLike 55 = .ok (.if_icmp .eq 5, 3) := by decide +kernel
theorem dX2_isLikeOnLike_58 : decode cX2_isLikeOnLike 58 = .ok (.iconst 0, 1) := by decide +kernel
theorem dX2_isLikeOnLike_59 : decode cX2_isLikeOnLike 59 = .ok (.ireturn, 1) := by decide +kernel
theorem dX2_isLikeOnLike_60 : decode cX2_isLikeOnLike 60 = .ok (.iinc 4 1, 3) := by decide +kernel
theorem dX2_isLikeOnLike_63 : decode cX2_isLikeOnLike 63 = .ok (.goto (-49), 3) := by decide +kernel
theorem dX2_isLikeOnLike_66 : decode cX2_isLikeOnLike 66 = .ok (.iinc 3 1, 3) := by decide +kernel
theorem dX2_isLikeOnLike_69 : decode cX2_isLikeOnLike 69 = .ok (.goto (-67), 3) := by decide +kernel
theorem dX2_isLikeOnLike_72 : decode cX2_isLikeOnLike 72 = .ok (.iconst 1, 1) := by decide +kernel
theorem dX2_isLikeOnLike_73 : decode cX2_isLikeOnLike 73 = .ok (.ireturn, 1) := by decide +kernel
theorem dX2_valuesLeft_0 : decode cX2_valuesLeft 0 = .ok (.aload_n 0, 1) := by decide +kernel
theorem dX2_valuesLeft_1 : decode cX2_valuesLeft 1 = .ok (.invokevirtual 78, 3) := by decide +kernel
theorem dX2_valuesLeft_4 : decode cX2_valuesLeft 4 = .ok (.iconst 0, 1) := by decide +kernel
theorem dX2_valuesLeft_5 : decode cX2_valuesLeft 5 = .ok (.istore_n 2, 1) := by decide +kernel
theorem dX2_valuesLeft_6 : decode cX2_valuesLeft 6 = .ok (.iload_n 2, 1) := by decide +kernel
theorem dX2_valuesLeft_7 : decode cX2_valuesLeft 7 = .ok (.bipush 18, 2) := by decide +kernel
theorem dX2_valuesLeft_9 : decode cX2_valuesLeft 9 = .ok (.if_icmp .gt 19, 3) := by decide +kernel
theorem dX2_valuesLeft_12 : decode cX2_valuesLeft 12 = .ok (.aload_n 0, 1) := by decide +kernel
theorem dX2_valuesLeft_13 : decode cX2_valuesLeft 13 = .ok (.invokevirtual 121, 3) := by decide +kernel
theorem dX2_valuesLeft_16 : decode cX2_valuesLeft 16 = .ok (.ifCond .ne 6, 3) := by decide +kernel
theorem dX2_valuesLeft_19 : decode cX2_valuesLeft 19 = .ok (.goto 9, 3) := by decide +kernel
theorem dX2_valuesLeft_22 : decode cX2_valuesLeft 22 = .ok (.iinc 2 1, 3) := by decide +kernel
theorem dX2_valuesLeft_25 : decode cX2_valuesLeft 25 = .ok (.goto (-19), 3) := by decide +kernel
theorem dX2_valuesLeft_28 : decode cX2_valuesLeft 28 = .ok (.aload_n 0, 1) := by decide +kernel
theorem dX2_valuesLeft_29 : decode cX2_valuesLeft 29 = .ok (.getfield 24, 3) := by decide +kernel
theorem dX2_valuesLeft_32 : decode cX2_valuesLeft 32 = .ok (.iload_n 1, 1) := by decide +kernel
theorem dX2_valuesLeft_33 : decode cX2_valuesLeft 33 = .ok (.invokestatic 68, 3) := by decide +kernel
theorem dX2_valuesLeft_36 : decode cX2_valuesLeft 36 = .ok (.ireturn, 1) := by decide +kernel
theorem dX2_isSomethingTakenAway_0 : decode cX2_isSomethingTakenAway 0 = .ok (.iconst 0, 1) := by decide +kernel
theorem dX2_isSomethingTakenAway_1 : decode cX2_isSomethingTakenAway 1 = .ok (.istore_n 1, 1) := by decide +kernel
theorem dX2_isSomethingTakenAway_2 : decode cX2_isSomethingTakenAway 2 = .ok (.iconst 0, 1) := by decide +kernel
theorem dX2_isSomethingTakenAway_3 : decode cX2_isSomethingTakenAway 3 = .ok (.istore_n 2, 1) := by decide +kernel
theorem dX2_isSomethingTakenAway_4 : decode cX2_isSomethingTakenAway 4 = .ok (.iload_n 2, 1) := by decide +kernel
theorem dX2_isSomethingTakenAway_5 : decode cX2_isSomethingTakenAway 5 = .ok (.aload_n 0, 1) := by decide +kernel
theorem dX2_isSomethingTakenAway_6 : decode cX2_isSomethingTakenAway 6 = .ok (.getfield 42, 3) := by decide +kernel
theorem dX2_isSomethingTakenAway_9 : decode cX2_isSomethingTakenAway 9 = .ok (.if_icmp .ge 76, 3) := by decide +kernel
theorem dX2_isSomethingTakenAway_12 : decode cX2_isSomethingTakenAway 12 = .ok (.iconst 0, 1) := by decide +kernel
theorem dX2_isSomethingTakenAway_13 : decode cX2_isSomethingTakenAway 13 = .ok (.istore_n 3, 1) := by decide +kernel
theorem dX2_isSomethingTakenAway_14 : decode cX2_isSomethingTakenAway 14 = .ok (.iload_n 3, 1) := by decide +kernel
theorem dX2_isSomethingTakenAway_15 : decode cX2_isSomethingTakenAway 15 = .ok (.aload_n 0, 1) := by decide +kernel
theorem dX2_isSomethingTakenAway_16 : decode cX2_isSomethingTakenAway 16 = .ok (.iload_n 2, 1) := by decide +kernel
theorem dX2_isSomethingTakenAway_17 : decode cX2_isSomethingTakenAway 17 = .ok (.invokevirtual 58, 3) := by decide +kernel
theorem dX2_isSomethingTakenAway_20 : decode cX2_isSomethingTakenAway 20 = .ok (.if_icmp .ge 59, 3) := by decide +kernel
theorem dX2_isSomethingTakenAway_23 : decode cX2_isSomethingTakenAway 23 = .ok (.aload_n 0, 1) := by decide +kernel
theorem dX2_isSomethingTakenAway_24 : decode cX2_isSomethingTakenAway 24 = .ok (.iload_n 2, 1) := by decide +kernel
theorem dX2_isSomethingTakenAway_25 : decode cX2_isSomethingTakenAway 25 = .ok (.iload_n 3, 1) := by decide +kernel
theorem dX2_isSomethingTakenAway_26 : decode cX2_isSomethingTakenAway 26 = .ok (.invokevirtual 59, 3) := by decide +kernel
theorem dX2_isSomethingTakenAway_29 : decode cX2_isSomethingTakenAway 29 = .ok (.istore 4, 2) := by decide +kernel
theorem dX2_isSomethingTakenAway_31 : decode cX2_isSomethingTakenAway 31 = .ok (.aload_n 0, 1) := by decide +kernel
theorem dX2_isSomethingTakenAway_32 : decode cX2_isSomethingTakenAway 32 = .ok (.getfield 24, 3) := by decide +kernel
theorem dX2_isSomethingTakenAway_35 : decode cX2_isSomethingTakenAway 35 = .ok (.iload 4, 2) := by decide +kernel
theorem dX2_isSomethingTakenAway_37 : decode cX2_isSomethingTakenAway 37 = .ok (.invokestatic 68, 3) := by decide +kernel
theorem dX2_isSomethingTakenAway_40 : decode cX2_isSomethingTakenAway 40 = .ok (.istore 5, 2) := by decide +kernel
theorem dX2_isSomethingTakenAway_42 : decode cX2_isSomethingTakenAway 42 = .ok (.iload 5, 2) := by decide +kernel
theorem dX2_isSomethingTakenAway_44 : decode cX2_isSomethingTakenAway 44 = .ok (.aload_n 0, 1) := by decide +kernel
theorem dX2_isSomethingTakenAway_45 : decode cX2_isSomethingTakenAway 45 = .ok (.iload_n 2, 1) := by decide +kernel
theorem dX2_isSomethingTakenAway_46 : decode cX2_isSomethingTakenAway 46 = .ok (.iload_n 3, 1) := by decide +kernel
theorem dX2_isSomethingTakenAway_47 : decode cX2_isSomethingTakenAway 47 = .ok (.invokevirtual 124, 3) := by decide +kernel
theorem dX2_isSomethingTakenAway_50 : decode cX2_isSomethingTakenAway 50 = .ok (.iand, 1) := by decide +kernel
theorem dX2_isSomethingTakenAway_51 : decode cX2_isSomethingTakenAway 51 = .ok (.istore 6, 2) := by decide +kernel
theorem dX2_isSomethingTakenAway_53 : decode cX2_isSomethingTakenAway 53 = .ok (.iload 6, 2) := by decide +kernel
theorem dX2_isSomethingTakenAway_55 : decode cX2_isSomethingTakenAway 55 = .ok (.iload 5, 2) := by decide +kernel
theorem dX2_isSomethingTakenAway_57 : decode cX2_isSomethingTakenAway 57 = .ok (.if_icmp .eq 16, 3) := by decide +kernel
theorem dX2_isSomethingTakenAway_60 : decode cX2_isSomethingTakenAway 60 = .ok (.aload_n 0, 1) := by decide +kernel
theorem dX2_isSomethingTakenAway_61 : decode cX2_isSomethingTakenAway 61 = .ok (.getfield 24, 3) := by decide +kernel
theorem dX2_isSomethingTakenAway_64 : decode cX2_isSomethingTakenAway 64 = .ok (.iload 4, 2) := by decide +kernel
theorem dX2_isSomethingTakenAway_66 : decode cX2_isSomethingTakenAway 66 = .ok (.iload 6, 2) := by decide +kernel
theorem dX2_isSomethingTakenAway_68 : decode cX2_isSomethingTakenAway 68 = .ok (.invokestatic 45, 3) := by decide +kernel
theorem dX2_isSomethingTakenAway_71 : decode cX2_isSomethingTakenAway 71 = .ok (.iconst 1, 1) := by decide +kernel
theorem dX2_isSomethingTakenAway_72 : decode cX2_isSomethingTakenAway 72 = .ok (.istore_n 1, 1) := by decide +kernel
theorem dX2_isSomethingTakenAway_73 : decode cX2_isSomethingTakenAway 73 = .ok (.iinc 3 1, 3) := by decide +kernel
theorem dX2_isSomethingTakenAway_76 : decode cX2_isSomethingTakenAway 76 = .ok (.goto (-62), 3) := by decide +kernel
theorem dX2_isSomethingTakenAway_79 : decode cX2_isSomethingTakenAway 79 = .ok (.iinc 2 1, 3) := by decide +kernel
theorem dX2_isSomethingTakenAway_82 : decode cX2_isSomethingTakenAway 82 = .ok (.goto (-78), 3) := by decide +kernel
theorem dX2_isSomethingTakenAway_85 : decode cX2_isSomethingTakenAway 85 = .ok (.iload_n 1, 1) := by decide +kernel
theorem dX2_isSomethingTakenAway_86 : decode cX2_isSomethingTakenAway 86 = .ok (.ireturn, 1) := by decide +kernel
theorem dX2_supported_0 : decode cX2_supported 0 = .ok (.aload_n 0, 1) := by decide +kernel
theorem dX2_supported_1 : decode cX2_supported 1 = .ok (.iload_n 1, 1) := by decide +kernel
theorem dX2_supported_2 : decode cX2_supported 2 = .ok (.invokevirtual 127, 3) := by decide +kernel
theorem dX2_supported_5 : decode cX2_supported 5 = .ok (.istore_n 3, 1) := by decide +kernel
theorem dX2_supported_6 : decode cX2_supported 6 = .ok (.iconst 0, 1) := by decide +kernel
theorem dX2_supported_7 : decode cX2_supported 7 = .ok (.istore 4, 2) := by decide +kernel
theorem dX2_supported_9 : decode cX2_supported 9 = .ok (.iconst 0, 1) := by decide +kernel
theorem dX2_supported_10 : decode cX2_supported 10 = .ok (.istore 5, 2) := by decide +kernel
theorem dX2_supported_12 : decode cX2_supported 12 = .ok (.iload 5, 2) := by decide +kernel
theorem dX2_supported_14 : decode cX2_supported 14 = .ok (.aload_n 0, 1) := by decide +kernel
theorem dX2_supported_15 : decode cX2_supported 15 = .ok (.getfield 30, 3) := by decide +kernel
theorem dX2_supported_18 : decode cX2_supported 18 = .ok (.aload_n 0, 1) := by decide +kernel
theorem dX2_supported_19 : decode cX2_supported 19 = .ok (.iload_n 1, 1) := by decide +kernel
theorem dX2_supported_20 : decode cX2_supported 20 = .ok (.invokevirtual 58, 3) := by decide +kernel
theorem dX2_supported_23 : decode cX2_supported 23 = .ok (.invokevirtual 81, 3) := by decide +kernel
theorem dX2_supported_26 : decode cX2_supported 26 = .ok (.if_icmp .ge 45, 3) := by decide +kernel
theorem dX2_supported_29 : decode cX2_supported 29 = .ok (.iload 5, 2) := by decide +kernel
theorem dX2_supported_31 : decode cX2_supported 31 = .ok (.iload_n 3, 1) := by decide +kernel
theorem dX2_supported_32 : decode cX2_supported 32 = .ok (.invokestatic 95, 3) := by decide +kernel
theorem dX2_supported_35 : decode cX2_supported 35 = .ok (.ifCond .eq 30, 3) := by decide +kernel
theorem dX2_supported_38 : decode cX2_supported 38 = .ok (.aload_n 0, 1) := by decide +kernel
theorem dX2_supported_39 : decode cX2_supported 39 = .ok (.iload_n 1, 1) := by decide +kernel
theorem dX2_supported_40 : decode cX2_supported 40 = .ok (.iload 5, 2) := by decide +kernel
theorem dX2_supported_42 : decode cX2_supported 42 = .ok (.invokevirtual 130, 3) := by decide +kernel
theorem dX2_supported_45 : decode cX2_supported 45 = .ok (.ifCond .eq 20, 3) := by decide +kernel
theorem dX2_supported_48 : decode cX2_supported 48 = .ok (.iload 4, 2) := by decide +kernel
theorem dX2_supported_50 : decode cX2_supported 50 = .ok (.iconst 1, 1) := by decide +kernel
theorem dX2_supported_51 : decode cX2_supported 51 = .ok (.aload_n 0, 1) := by decide +kernel
theorem dX2_supported_52 : decode cX2_supported 52 = .ok (.getfield 30, 3) := by decide +kernel
theorem dX2_supported_55 : decode cX2_supported 55 = .ok (.iload 5, 2) := by decide +kernel
theorem dX2_supported_57 : decode cX2_supported 57 = .ok (.iload_n 2, 1) := by decide +kernel
theorem dX2_supported_58 : decode cX2_supported 58 = .ok (.invokevirtual 118, 3) := by decide +kernel
theorem dX2_supported_61 : decode cX2_supported 61 = .ok (.ishl, 1) := by decide +kernel
theorem dX2_supported_62 : decode cX2_supported 62 = .ok (.ior, 1) := by decide +kernel
theorem dX2_supported_63 : decode cX2_supported 63 = .ok (.istore 4, 2) := by decide +kernel
theorem dX2_supported_65 : decode cX2_supported 65 = .ok (.iinc 5 1, 3) := by decide +kernel
theorem dX2_supported_68 : decode cX2_supported 68 = .ok (.goto (-56), 3) := by decide +kernel
theorem dX2_supported_71 : decode cX2_supported 71 = .ok (.iload 4, 2) := by decide +kernel
theorem dX2_supported_73 : decode cX2_supported 73 = .ok (.ireturn, 1) := by decide +kernel
theorem dX2_isLeft_0 : decode cX2_isLeft 0 = .ok (.iconst 0, 1) := by decide +kernel
theorem dX2_isLeft_1 : decode cX2_isLeft 1 = .ok (.istore_n 3, 1) := by decide +kernel
theorem dX2_isLeft_2 : decode cX2_isLeft 2 = .ok (.iload_n 3, 1) := by decide +kernel
theorem dX2_isLeft_3 : decode cX2_isLeft 3 = .ok (.aload_n 0, 1) := by decide +kernel
theorem dX2_isLeft_4 : decode cX2_isLeft 4 = .ok (.iload_n 1, 1) := by decide +kernel
theorem dX2_isLeft_5 : decode cX2_isLeft 5 = .ok (.invokevirtual 58, 3) := by decide +kernel
theorem dX2_isLeft_8 : decode cX2_isLeft 8 = .ok (.if_icmp .ge 39, 3) := by decide +kernel
theorem dX2_isLeft_11 : decode cX2_isLeft 11 = .ok (.aload_n 0, 1) := by decide +kernel
theorem dX2_isLeft_12 : decode cX2_isLeft 12 = .ok (.getfield 30, 3) := by decide +kernel
theorem dX2_isLeft_15 : decode cX2_isLeft 15 = .ok (.iload_n 2, 1) := by decide +kernel
theorem dX2_isLeft_16 : decode cX2_isLeft 16 = .ok (.iload_n 3, 1) := by decide +kernel
theorem dX2_isLeft_17 : decode cX2_isLeft 17 = .ok (.invokevirtual 118, 3) := by decide +kernel
theorem dX2_isLeft_20 : decode cX2_isLeft 20 = .ok (.aload_n 0, 1) := by decide +kernel
theorem dX2_isLeft_21 : decode cX2_isLeft 21 = .ok (.getfield 24, 3) := by decide +kernel
theorem dX2_isLeft_24 : decode cX2_isLeft 24 = .ok (.aload_n 0, 1) := by decide +kernel
theorem dX2_isLeft_25 : decode cX2_isLeft 25 = .ok (.iload_n 1, 1) := by decide +kernel
theorem dX2_isLeft_26 : decode cX2_isLeft 26 = .ok (.iload_n 3, 1) := by decide +kernel
theorem dX2_isLeft_27 : decode cX2_isLeft 27 = .ok (.invokevirtual 59, 3) := by decide +kernel
theorem dX2_isLeft_30 : decode cX2_isLeft 30 = .ok (.invokestatic 68, 3) := by decide +kernel
theorem dX2_isLeft_33 : decode cX2_isLeft 33 = .ok (.invokestatic 95, 3) := by decide +kernel
theorem dX2_isLeft_36 : decode cX2_isLeft 36 = .ok (.ifCond .ne 5, 3) := by decide +kernel
theorem dX2_isLeft_39 : decode cX2_isLeft 39 = .ok (.iconst 0, 1) := by decide +kernel
theorem dX2_isLeft_40 : decode cX2_isLeft 40 = .ok (.ireturn, 1) := by decide +kernel
theorem dX2_isLeft_41 : decode cX2_isLeft 41 = .ok (.iinc 3 1, 3) := by decide +kernel
theorem dX2_isLeft_44 : decode cX2_isLeft 44 = .ok (.goto (-42), 3) := by decide +kernel
theorem dX2_isLeft_47 : decode cX2_isLeft 47 = .ok (.iconst 1, 1) := by decide +kernel
theorem dX2_isLeft_48 : decode cX2_isLeft 48 = .ok (.ireturn, 1) := by decide +kernel
theorem dX3_init_0 : decode cX3_init 0 = .ok (.aload_n 0, 1) := by decide +kernel
theorem dX3_init_1 : decode cX3_init 1 = .ok (.invokespecial 3, 3) := by decide +kernel
theorem dX3_init_4 : decode cX3_init 4 = .ok (.aload_n 0, 1) := by decide +kernel
theorem dX3_init_5 : decode cX3_init 5 = .ok (.aload_n 1, 1) := by decide +kernel
theorem dX3_init_6 : decode cX3_init 6 = .ok (.putfield 9, 3) := by decide +kernel
theorem dX3_init_9 : decode cX3_init 9 = .ok (.aload_n 0, 1) := by decide +kernel
theorem dX3_init_10 : decode cX3_init 10 = .ok (.aload_n 2, 1) := by decide +kernel
theorem dX3_init_11 : decode cX3_init 11 = .ok (.putfield 15, 3) := by decide +kernel
theorem dX3_init_14 : decode cX3_init 14 = .ok (.aload_n 0, 1) := by decide +kernel
theorem dX3_init_15 : decode cX3_init 15 = .ok (.aload_n 3, 1) := by decide +kernel
theorem dX3_init_16 : decode cX3_init 16 = .ok (.putfield 19, 3) := by decide +kernel
theorem dX3_init_19 : decode cX3_init 19 = .ok (.aload_n 0, 1) := by decide +kernel
theorem dX3_init_20 : decode cX3_init 20 = .ok (.new 23, 3) := by decide +kernel
theorem dX3_init_23 : decode cX3_init 23 = .ok (.dup, 1) := by decide +kernel
theorem dX3_init_24 : decode cX3_init 24 = .ok (.aload_n 1, 1) := by decide +kernel
theorem dX3_init_25 : decode cX3_init 25 = .ok (.aload_n 2, 1) := by decide +kernel
theorem dX3_init_26 : decode cX3_init 26 = .ok (.aload_n 3, 1) := by decide +kernel
theorem dX3_init_27 : decode cX3_init 27 = .ok (.invokespecial 25, 3) := by decide +kernel
theorem dX3_init_30 : decode cX3_init 30 = .ok (.putfield 28, 3) := by decide +kernel
theorem dX3_init_33 : decode cX3_init 33 = .ok (.aload_n 0, 1) := by decide +kernel
theorem dX3_init_34 : decode cX3_init 34 = .ok (.new 32, 3) := by decide +kernel
theorem dX3_init_37 : decode cX3_init 37 = .ok (.dup, 1) := by decide +kernel
theorem dX3_init_38 : decode cX3_init 38 = .ok (.aload_n 1, 1) := by decide +kernel
theorem dX3_init_39 : decode cX3_init 39 = .ok (.invokespecial 34, 3) := by decide +kernel
theorem dX3_init_42 : decode cX3_init 42 = .ok (.putfield 37, 3) := by decide +kernel
theorem dX3_init_45 : decode cX3_init 45 = .ok (.return_, 1) := by decide +kernel
theorem dX3_triedKeepsAll_0 : decode cX3_triedKeepsAll 0 = .ok (.iconst 0, 1) := by decide +kernel
theorem dX3_triedKeepsAll_1 : decode cX3_triedKeepsAll 1 = .ok (.istore_n 1, 1) := by decide +kernel
theorem dX3_triedKeepsAll_2 : decode cX3_triedKeepsAll 2 = .ok (.iload_n 1, 1) := by decide +kernel
theorem dX3_triedKeepsAll_3 : decode cX3_triedKeepsAll 3 = .ok (.aload_n 0, 1) := by decide +kernel
theorem dX3_triedKeepsAll_4 : decode cX3_triedKeepsAll 4 = .ok (.getfield 15, 3) := by decide +kernel
theorem dX3_triedKeepsAll_7 : decode cX3_triedKeepsAll 7 = .ok (.getfield 41, 3) := by decide +kernel
theorem dX3_triedKeepsAll_10 : decode cX3_triedKeepsAll 10 = .ok (.if_icmp .ge 41, 3) := by decide +kernel
theorem dX3_triedKeepsAll_13 : decode cX3_triedKeepsAll 13 = .ok (.aload_n 0, 1) := by decide +kernel
theorem dX3_triedKeepsAll_14 : decode cX3_triedKeepsAll 14 = .ok (.getfield 19, 3) := by decide +kernel
theorem dX3_triedKeepsAll_17 : decode cX3_triedKeepsAll 17 = .ok (.aload_n 0, 1) := by decide +kernel
theorem dX3_triedKeepsAll_18 : decode cX3_triedKeepsAll 18 = .ok (.getfield 37, 3) := by decide +kernel
theorem dX3_triedKeepsAll_21 : decode cX3_triedKeepsAll 21 = .ok (.aload_n 0, 1) := by decide +kernel
theorem dX3_triedKeepsAll_22 : decode cX3_triedKeepsAll 22 = .ok (.getfield 15, 3) := by decide +kernel
theorem dX3_triedKeepsAll_25 : decode cX3_triedKeepsAll 25 = .ok (.iload_n 1, 1) := by decide +kernel
theorem dX3_triedKeepsAll_26 : decode cX3_triedKeepsAll 26 = .ok (.invokevirtual 47, 3) := by decide +kernel
theorem dX3_triedKeepsAll_29 : decode cX3_triedKeepsAll 29 = .ok (.aload_n 0, 1) := by decide +kernel
theorem dX3_triedKeepsAll_30 : decode cX3_triedKeepsAll 30 = .ok (.getfield 15, 3) := by decide +kernel
theorem dX3_triedKeepsAll_33 : decode cX3_triedKeepsAll 33 = .ok (.iload_n 1, 1) := by decide +kernel
theorem dX3_triedKeepsAll_34 : decode cX3_triedKeepsAll 34 = .ok (.invokevirtual 51, 3) := by decide +kernel
theorem dX3_triedKeepsAll_37 : decode cX3_triedKeepsAll 37 = .ok (.invokevirtual 54, 3) := by decide +kernel
theorem dX3_triedKeepsAll_40 : decode cX3_triedKeepsAll 40 = .ok (.ifCond .eq 5, 3) := by decide +kernel
theorem dX3_triedKeepsAll_43 : decode cX3_triedKeepsAll 43 = .ok (.iconst 0, 1) := by decide +kernel
theorem dX3_triedKeepsAll_44 : decode cX3_triedKeepsAll 44 = .ok (.ireturn, 1) := by decide +kernel
theorem dX3_triedKeepsAll_45 : decode cX3_triedKeepsAll 45 = .ok (.iinc 1 1, 3) := by decide +kernel
theorem dX3_triedKeepsAll_48 : decode cX3_triedKeepsAll 48 = .ok (.goto (-46), 3) := by decide +kernel
theorem dX3_triedKeepsAll_51 : decode cX3_triedKeepsAll 51 = .ok (.iconst 1, 1) := by decide +kernel
theorem dX3_triedKeepsAll_52 : decode cX3_triedKeepsAll 52 = .ok (.ireturn, 1) := by decide +kernel
theorem dX3_firstConstant_0 : decode cX3_firstConstant 0 = .ok (.aload_n 0, 1) := by decide +kernel
theorem dX3_firstConstant_1 : decode cX3_firstConstant 1 = .ok (.getfield 37, 3) := by decide +kernel
theorem dX3_firstConstant_4 : decode cX3_firstConstant 4 = .ok (.iconst 1, 1) := by decide +kernel
theorem dX3_firstConstant_5 : decode cX3_firstConstant 5 = .ok (.invokevirtual 60, 3) := by decide +kernel
theorem dX3_firstConstant_8 : decode cX3_firstConstant 8 = .ok (.iconst 0, 1) := by decide +kernel
theorem dX3_firstConstant_9 : decode cX3_firstConstant 9 = .ok (.istore_n 1, 1) := by decide +kernel
theorem dX3_firstConstant_10 : decode cX3_firstConstant 10 = .ok (.iload_n 1, 1) := by decide +kernel
theorem dX3_firstConstant_11 : decode cX3_firstConstant 11 = .ok (.aload_n 0, 1) := by decide +kernel
theorem dX3_firstConstant_12 : decode cX3_firstConstant 12 = .ok (.getfield 9, 3) := by decide +kernel
theorem dX3_firstConstant_15 : decode cX3_firstConstant 15 = .ok (.getfield 64, 3) := by decide +kernel
theorem dX3_firstConstant_18 : decode cX3_firstConstant 18 = .ok (.if_icmp .ge 52, 3) := by decide +kernel
theorem dX3_firstConstant_21 : decode cX3_firstConstant 21 = .ok (.iconst 0, 1) := by decide +kernel
theorem dX3_firstConstant_22 : decode cX3_firstConstant 22 = .ok (.istore_n 2, 1) := by decide +kernel
theorem dX3_firstConstant_23 : decode cX3_firstConstant 23 = .ok (.iload_n 2, 1) := by decide +kernel
theorem dX3_firstConstant_24 : decode cX3_firstConstant 24 = .ok (.aload_n 0, 1) := by decide +kernel
theorem dX3_firstConstant_25 : decode cX3_firstConstant 25 = .ok (.getfield 9, 3) := by decide +kernel
theorem dX3_firstConstant_28 : decode cX3_firstConstant 28 = .ok (.getfield 64, 3) := by decide +kernel
theorem dX3_firstConstant_31 : decode cX3_firstConstant 31 = .ok (.if_icmp .ge 18, 3) := by decide +kernel
theorem dX3_firstConstant_34 : decode cX3_firstConstant 34 = .ok (.aload_n 0, 1) := by decide +kernel
theorem dX3_firstConstant_35 : decode cX3_firstConstant 35 = .ok (.getfield 37, 3) := by decide +kernel
theorem dX3_firstConstant_38 : decode cX3_firstConstant 38 = .ok (.iload_n 2, 1) := by decide +kernel
theorem dX3_firstConstant_39 : decode cX3_firstConstant 39 = .ok (.iload_n 1, 1) := by decide +kernel
theorem dX3_firstConstant_40 : decode cX3_firstConstant 40 = .ok (.invokevirtual 69, 3) := by decide +kernel
theorem dX3_firstConstant_43 : decode cX3_firstConstant 43 = .ok (.iinc 2 1, 3) := by decide +kernel
theorem dX3_firstConstant_46 : decode cX3_firstConstant 46 = .ok (.goto (-23), 3) := by decide +kernel
theorem dX3_firstConstant_49 : decode cX3_firstConstant 49 = .ok (.aload_n 0, 1) := by decide +kernel
theorem dX3_firstConstant_50 : decode cX3_firstConstant 50 = .ok (.invokevirtual 73, 3) := by decide +kernel
theorem dX3_firstConstant_53 : decode cX3_firstConstant 53 = .ok (.ifCond .eq 11, 3) := by decide +kernel
theorem dX3_firstConstant_56 : decode cX3_firstConstant 56 = .ok (.aload_n 0, 1) := by decide +kernel
theorem dX3_firstConstant_57 : decode cX3_firstConstant 57 = .ok (.getfield 37, 3) := by decide +kernel
theorem dX3_firstConstant_60 : decode cX3_firstConstant 60 = .ok (.invokevirtual 77, 3) := by decide +kernel
theorem dX3_firstConstant_63 : decode cX3_firstConstant 63 = .ok (.lreturn, 1) := by decide +kernel
theorem dX3_firstConstant_64 : decode cX3_firstConstant 64 = .ok (.iinc 1 1, 3) := by decide +kernel
theorem dX3_firstConstant_67 : decode cX3_firstConstant 67 = .ok (.goto (-57), 3) := by decide +kernel
theorem dX3_firstConstant_70 : decode cX3_firstConstant 70 = .ok (.ldc2_w 81, 3) := by decide +kernel
theorem dX3_firstConstant_73 : decode cX3_firstConstant 73 = .ok (.lreturn, 1) := by decide +kernel
theorem dX3_firstSemilattice_0 : decode cX3_firstSemilattice 0 = .ok (.aload_n 0, 1) := by decide +kernel
theorem dX3_firstSemilattice_1 : decode cX3_firstSemilattice 1 = .ok (.getfield 9, 3) := by decide +kernel
theorem dX3_firstSemilattice_4 : decode cX3_firstSemilattice 4 = .ok (.getfield 64, 3) := by decide +kernel
theorem dX3_firstSemilattice_7 : decode cX3_firstSemilattice 7 = .ok (.iconst 2, 1) := by decide +kernel
theorem dX3_firstSemilattice_8 : decode cX3_firstSemilattice 8 = .ok (.if_icmp .ne 7, 3) := by decide +kernel
theorem dX3_firstSemilattice_11 : decode cX3_firstSemilattice 11 = .ok (.iconst 2, 1) := by decide +kernel
theorem dX3_firstSemilattice_12 : decode cX3_firstSemilattice 12 = .ok (.goto 5, 3) := by decide +kernel
theorem dX3_firstSemilattice_15 : decode cX3_firstSemilattice 15 = .ok (.bipush 27, 2) := by decide +kernel
theorem dX3_firstSemilattice_17 : decode cX3_firstSemilattice 17 = .ok (.istore_n 1, 1) := by decide +kernel
theorem dX3_firstSemilattice_18 : decode cX3_firstSemilattice 18 = .ok (.iconst 0, 1) := by decide +kernel
theorem dX3_firstSemilattice_19 : decode cX3_firstSemilattice 19 = .ok (.istore_n 2, 1) := by decide +kernel
theorem dX3_firstSemilattice_20 : decode cX3_firstSemilattice 20 = .ok (.iload_n 2, 1) := by decide +kernel
theorem dX3_firstSemilattice_21 : decode cX3_firstSemilattice 21 = .ok (.iload_n 1, 1) := by decide +kernel
theorem dX3_firstSemilattice_22 : decode cX3_firstSemilattice 22 = .ok (.if_icmp .ge 39, 3) := by decide +kernel
theorem dX3_firstSemilattice_25 : decode cX3_firstSemilattice 25 = .ok (.aload_n 0, 1) := by decide +kernel
theorem dX3_firstSemilattice_26 : decode cX3_firstSemilattice 26 = .ok (.iload_n 2, 1) := by decide +kernel
theorem dX3_firstSemilattice_27 : decode cX3_firstSemilattice 27 = .ok (.invokevirtual 83, 3) := by decide +kernel
theorem dX3_firstSemilattice_30 : decode cX3_firstSemilattice 30 = .ok (.aload_n 0, 1) := by decide +kernel
theorem dX3_firstSemilattice_31 : decode cX3_firstSemilattice 31 = .ok (.getfield 37, 3) := by decide +kernel
theorem dX3_firstSemilattice_34 : decode cX3_firstSemilattice 34 = .ok (.invokevirtual 86, 3) := by decide +kernel
theorem dX3_firstSemilattice_37 : decode cX3_firstSemilattice 37 = .ok (.ifCond .eq 18, 3) := by decide +kernel
theorem dX3_firstSemilattice_40 : decode cX3_firstSemilattice 40 = .ok (.aload_n 0, 1) := by decide +kernel
theorem dX3_firstSemilattice_41 : decode cX3_firstSemilattice 41 = .ok (.invokevirtual 73, 3) := by decide +kernel
theorem dX3_firstSemilattice_44 : decode cX3_firstSemilattice 44 = .ok (.ifCond .eq 11, 3) := by decide +kernel
theorem dX3_firstSemilattice_47 : decode cX3_firstSemilattice 47 = .ok (.aload_n 0, 1) := by decide +kernel
theorem dX3_firstSemilattice_48 : decode cX3_firstSemilattice 48 = .ok (.getfield 37, 3) := by decide +kernel
theorem dX3_firstSemilattice_51 : decode cX3_firstSemilattice 51 = .ok (.invokevirtual 77, 3) := by decide +kernel
theorem dX3_firstSemilattice_54 : decode cX3_firstSemilattice 54 = .ok (.lreturn, 1) := by decide +kernel
theorem dX3_firstSemilattice_55 : decode cX3_firstSemilattice 55 = .ok (.iinc 2 1, 3) := by decide +kernel
theorem dX3_firstSemilattice_58 : decode cX3_firstSemilattice 58 = .ok (.goto (-38), 3) := by decide +kernel
theorem dX3_firstSemilattice_61 : decode cX3_firstSemilattice 61 = .ok (.ldc2_w 81, 3) := by decide +kernel
theorem dX3_firstSemilattice_64 : decode cX3_firstSemilattice 64 = .ok (.lreturn, 1) := by decide +kernel
theorem dX3_trySymmetric_0 : decode cX3_trySymmetric 0 = .ok (.aload_n 0, 1) := by decide +kernel
theorem dX3_trySymmetric_1 : decode cX3_trySymmetric 1 = .ok (.getfield 37, 3) := by decide +kernel
theorem dX3_trySymmetric_4 : decode cX3_trySymmetric 4 = .ok (.iconst 2, 1) := by decide +kernel
theorem dX3_trySymmetric_5 : decode cX3_trySymmetric 5 = .ok (.invokevirtual 60, 3) := by decide +kernel
theorem dX3_trySymmetric_8 : decode cX3_trySymmetric 8 = .ok (.iconst 0, 1) := by decide +kernel
theorem dX3_trySymmetric_9 : decode cX3_trySymmetric 9 = .ok (.istore_n 2, 1) := by decide +kernel
theorem dX3_trySymmetric_10 : decode cX3_trySymmetric 10 = .ok (.iload_n 2, 1) := by decide +kernel
theorem dX3_trySymmetric_11 : decode cX3_trySymmetric 11 = .ok (.aload_n 0, 1) := by decide +kernel
theorem dX3_trySymmetric_12 : decode cX3_trySymmetric 12 = .ok (.getfield 9, 3) := by decide +kernel
theorem dX3_trySymmetric_15 : decode cX3_trySymmetric 15 = .ok (.getfield 64, 3) := by decide +kernel
theorem dX3_trySymmetric_18 : decode cX3_trySymmetric 18 = .ok (.if_icmp .ge 83, 3) := by decide +kernel
theorem dX3_trySymmetric_21 : decode cX3_trySymmetric 21 = .ok (.iload_n 2, 1) := by decide +kernel
theorem dX3_trySymmetric_22 : decode cX3_trySymmetric 22 = .ok (.iconst 1, 1) := by decide +kernel
theorem dX3_trySymmetric_23 : decode cX3_trySymmetric 23 = .ok (.iadd, 1) := by decide +kernel
theorem dX3_trySymmetric_24 : decode cX3_trySymmetric 24 = .ok (.istore_n 3, 1) := by decide +kernel
theorem dX3_trySymmetric_25 : decode cX3_trySymmetric 25 = .ok (.iload_n 3, 1) := by decide +kernel
theorem dX3_trySymmetric_26 : decode cX3_trySymmetric 26 = .ok (.aload_n 0, 1) := by decide +kernel
theorem dX3_trySymmetric_27 : decode cX3_trySymmetric 27 = .ok (.getfield 9, 3) := by decide +kernel
theorem dX3_trySymmetric_30 : decode cX3_trySymmetric 30 = .ok (.getfield 64, 3) := by decide +kernel
theorem dX3_trySymmetric_33 : decode cX3_trySymmetric 33 = .ok (.if_icmp .ge 62, 3) := by decide +kernel
theorem dX3_trySymmetric_36 : decode cX3_trySymmetric 36 = .ok (.aload_n 0, 1) := by decide +kernel
theorem dX3_trySymmetric_37 : decode cX3_trySymmetric 37 = .ok (.getfield 9, 3) := by decide +kernel
theorem dX3_trySymmetric_40 : decode cX3_trySymmetric 40 = .ok (.iload_n 1, 1) := by decide +kernel
theorem dX3_trySymmetric_41 : decode cX3_trySymmetric 41 = .ok (.iload_n 2, 1) := by decide +kernel
theorem dX3_trySymmetric_42 : decode cX3_trySymmetric 42 = .ok (.iload_n 3, 1) := by decide +kernel
theorem dX3_trySymmetric_43 : decode cX3_trySymmetric 43 = .ok (.iadd, 1) := by decide +kernel
theorem dX3_trySymmetric_44 : decode cX3_trySymmetric 44 = .ok (.iconst 1, 1) := by decide +kernel
theorem dX3_trySymmetric_45 : decode cX3_trySymmetric 45 = .ok (.isub, 1) := by decide +kernel
theorem dX3_trySymmetric_46 : decode cX3_trySymmetric 46 = .ok (.invokevirtual 89, 3) := by decide +kernel
theorem dX3_trySymmetric_49 : decode cX3_trySymmetric 49 = .ok (.istore 4, 2) := by decide +kernel
theorem dX3_trySymmetric_51 : decode cX3_trySymmetric 51 = .ok (.aload_n 0, 1) := by decide +kernel
theorem dX3_trySymmetric_52 : decode cX3_trySymmetric 52 = .ok (.getfield 37, 3) := by decide +kernel
theorem dX3_trySymmetric_55 : decode cX3_trySymmetric 55 = .ok (.aload_n 0, 1) := by decide +kernel
theorem dX3_trySymmetric_56 : decode cX3_trySymmetric 56 = .ok (.getfield 37, 3) := by decide +kernel
theorem dX3_trySymmetric_59 : decode cX3_trySymmetric 59 = .ok (.iload_n 2, 1) := by decide +kernel
theorem dX3_trySymmetric_60 : decode cX3_trySymmetric 60 = .ok (.iload_n 3, 1) := by decide +kernel
theorem dX3_trySymmetric_61 : decode cX3_trySymmetric 61 = .ok (.iconst 0, 1) := by decide +kernel
theorem dX3_trySymmetric_62 : decode cX3_trySymmetric 62 = .ok (.invokevirtual 93, 3) := by decide +kernel
theorem dX3_trySymmetric_65 : decode cX3_trySymmetric 65 = .ok (.iload 4, 2) := by decide +kernel
theorem dX3_trySymmetric_67 : decode cX3_trySymmetric 67 = .ok (.invokevirtual 69, 3) := by decide +kernel
theorem dX3_trySymmetric_70 : decode cX3_trySymmetric 70 = .ok (.aload_n 0, 1) := by decide +kernel
theorem dX3_trySymmetric_71 : decode cX3_trySymmetric 71 = .ok (.getfield 37, 3) := by decide +kernel
theorem dX3_trySymmetric_74 : decode cX3_trySymmetric 74 = .ok (.aload_n 0, 1) := by decide +kernel
theorem dX3_trySymmetric_75 : decode cX3_trySymmetric 75 = .ok (.getfield 37, 3) := by decide +kernel
theorem dX3_trySymmetric_78 : decode cX3_trySymmetric 78 = .ok (.iload_n 3, 1) := by decide +kernel
theorem dX3_trySymmetric_79 : decode cX3_trySymmetric 79 = .ok (.iload_n 2, 1) := by decide +kernel
theorem dX3_trySymmetric_80 : decode cX3_trySymmetric 80 = .ok (.iconst 0, 1) := by decide +kernel
theorem dX3_trySymmetric_81 : decode cX3_trySymmetric 81 = .ok (.invokevirtual 93, 3) := by decide +kernel
theorem dX3_trySymmetric_84 : decode cX3_trySymmetric 84 = .ok (.iload 4, 2) := by decide +kernel
theorem dX3_trySymmetric_86 : decode cX3_trySymmetric 86 = .ok (.invokevirtual 69, 3) := by decide +kernel
theorem dX3_trySymmetric_89 : decode cX3_trySymmetric 89 = .ok (.iinc 3 1, 3) := by decide +kernel
theorem dX3_trySymmetric_92 : decode cX3_trySymmetric 92 = .ok (.goto (-67), 3) := by decide +kernel
theorem dX3_trySymmetric_95 : decode cX3_trySymmetric 95 = .ok (.iinc 2 1, 3) := by decide +kernel
theorem dX3_trySymmetric_98 : decode cX3_trySymmetric 98 = .ok (.goto (-88), 3) := by decide +kernel
theorem dX3_trySymmetric_101 : decode cX3_trySymmetric 101 = .ok (.return_, 1) := by decide +kernel
theorem dX3_firstVote_0 : decode cX3_firstVote 0 = .ok (.aload_n 0, 1) := by decide +kernel
theorem dX3_firstVote_1 : decode cX3_firstVote 1 = .ok (.getfield 28, 3) := by decide +kernel
theorem dX3_firstVote_4 : decode cX3_firstVote 4 = .ok (.iconst 3, 1) := by decide +kernel
theorem dX3_firstVote_5 : decode cX3_firstVote 5 = .ok (.iconst (-1), 1) := by decide +kernel
theorem dX3_firstVote_6 : decode cX3_firstVote 6 = .ok (.invokevirtual 97, 3) := by decide +kernel
theorem dX3_firstVote_9 : decode cX3_firstVote 9 = .ok (.iconst 0, 1) := by decide +kernel
theorem dX3_firstVote_10 : decode cX3_firstVote 10 = .ok (.istore_n 1, 1) := by decide +kernel
theorem dX3_firstVote_11 : decode cX3_firstVote 11 = .ok (.iload_n 1, 1) := by decide +kernel
theorem dX3_firstVote_12 : decode cX3_firstVote 12 = .ok (.aload_n 0, 1) := by decide +kernel
theorem dX3_firstVote_13 : decode cX3_firstVote 13 = .ok (.getfield 9, 3) := by decide +kernel
theorem dX3_firstVote_16 : decode cX3_firstVote 16 = .ok (.iconst 3, 1) := by decide +kernel
theorem dX3_firstVote_17 : decode cX3_firstVote 17 = .ok (.invokevirtual 99, 3) := by decide +kernel
theorem dX3_firstVote_20 : decode cX3_firstVote 20 = .ok (.if_icmp .ge 78, 3) := by decide +kernel
theorem dX3_firstVote_23 : decode cX3_firstVote 23 = .ok (.aload_n 0, 1) := by decide +kernel
theorem dX3_firstVote_24 : decode cX3_firstVote 24 = .ok (.getfield 9, 3) := by decide +kernel
theorem dX3_firstVote_27 : decode cX3_firstVote 27 = .ok (.iload_n 1, 1) := by decide +kernel
theorem dX3_firstVote_28 : decode cX3_firstVote 28 = .ok (.iconst 0, 1) := by decide +kernel
theorem dX3_firstVote_29 : decode cX3_firstVote 29 = .ok (.invokevirtual 89, 3) := by decide +kernel
theorem dX3_firstVote_32 : decode cX3_firstVote 32 = .ok (.istore_n 2, 1) := by decide +kernel
theorem dX3_firstVote_33 : decode cX3_firstVote 33 = .ok (.aload_n 0, 1) := by decide +kernel
theorem dX3_firstVote_34 : decode cX3_firstVote 34 = .ok (.getfield 9, 3) := by decide +kernel
theorem dX3_firstVote_37 : decode cX3_firstVote 37 = .ok (.iload_n 1, 1) := by decide +kernel
theorem dX3_firstVote_38 : decode cX3_firstVote 38 = .ok (.iconst 1, 1) := by decide +kernel
theorem dX3_firstVote_39 : decode cX3_firstVote 39 = .ok (.invokevirtual 89, 3) := by decide +kernel
theorem dX3_firstVote_42 : decode cX3_firstVote 42 = .ok (.istore_n 3, 1) := by decide +kernel
theorem dX3_firstVote_43 : decode cX3_firstVote 43 = .ok (.aload_n 0, 1) := by decide +kernel
theorem dX3_firstVote_44 : decode cX3_firstVote 44 = .ok (.getfield 9, 3) := by decide +kernel
theorem dX3_firstVote_47 : decode cX3_firstVote 47 = .ok (.iload_n 1, 1) := by decide +kernel
theorem dX3_firstVote_48 : decode cX3_firstVote 48 = .ok (.iconst 2, 1) := by decide +kernel
theorem dX3_firstVote_49 : decode cX3_firstVote 49 = .ok (.invokevirtual 89, 3) := by decide +kernel
theorem dX3_firstVote_52 : decode cX3_firstVote 52 = .ok (.istore 4, 2) := by decide +kernel
theorem dX3_firstVote_54 : decode cX3_firstVote 54 = .ok (.iload_n 2, 1) := by decide +kernel
theorem dX3_firstVote_55 : decode cX3_firstVote 55 = .ok (.iload_n 3, 1) := by decide +kernel
theorem dX3_firstVote_56 : decode cX3_firstVote 56 = .ok (.if_icmp .eq 9, 3) := by decide +kernel
theorem dX3_firstVote_59 : decode cX3_firstVote 59 = .ok (.iload_n 2, 1) := by decide +kernel
theorem dX3_firstVote_60 : decode cX3_firstVote 60 = .ok (.iload 4, 2) := by decide +kernel
theorem dX3_firstVote_62 : decode cX3_firstVote 62 = .ok (.if_icmp .ne 15, 3) := by decide +kernel
theorem dX3_firstVote_65 : decode cX3_firstVote 65 = .ok (.aload_n 0, 1) := by decide +kernel
theorem dX3_firstVote_66 : decode cX3_firstVote 66 = .ok (.getfield 28, 3) := by decide +kernel
theorem dX3_firstVote_69 : decode cX3_firstVote 69 = .ok (.iload_n 1, 1) := by decide +kernel
theorem dX3_firstVote_70 : decode cX3_firstVote 70 = .ok (.iload_n 2, 1) := by decide +kernel
theorem dX3_firstVote_71 : decode cX3_firstVote 71 = .ok (.invokevirtual 102, 3) := by decide +kernel
theorem dX3_firstVote_74 : decode cX3_firstVote 74 = .ok (.goto 18, 3) := by decide +kernel
theorem dX3_firstVote_77 : decode cX3_firstVote 77 = .ok (.iload_n 3, 1) := by decide +kernel
theorem dX3_firstVote_78 : decode cX3_firstVote 78 = .ok (.iload 4, 2) := by decide +kernel
theorem dX3_firstVote_80 : decode cX3_firstVote 80 = .ok (.if_icmp .ne 12, 3) := by decide +kernel
theorem dX3_firstVote_83 : decode cX3_firstVote 83 = .ok (.aload_n 0, 1) := by decide +kernel
theorem dX3_firstVote_84 : decode cX3_firstVote 84 = .ok (.getfield 28, 3) := by decide +kernel
theorem dX3_firstVote_87 : decode cX3_firstVote 87 = .ok (.iload_n 1, 1) := by decide +kernel
theorem dX3_firstVote_88 : decode cX3_firstVote 88 = .ok (.iload_n 3, 1) := by decide +kernel
theorem dX3_firstVote_89 : decode cX3_firstVote 89 = .ok (.invokevirtual 102, 3) := by decide +kernel
theorem dX3_firstVote_92 : decode cX3_firstVote 92 = .ok (.iinc 1 1, 3) := by decide +kernel
theorem dX3_firstVote_95 : decode cX3_firstVote 95 = .ok (.goto (-84), 3) := by decide +kernel
theorem dX3_firstVote_98 : decode cX3_firstVote 98 = .ok (.aload_n 0, 1) := by decide +kernel
theorem dX3_firstVote_99 : decode cX3_firstVote 99 = .ok (.getfield 28, 3) := by decide +kernel
theorem dX3_firstVote_102 : decode cX3_firstVote 102 = .ok (.invokevirtual 105, 3) := by decide +kernel
theorem dX3_firstVote_105 : decode cX3_firstVote 105 = .ok (.ifCond .eq 13, 3) := by decide +kernel
theorem dX3_firstVote_108 : decode cX3_firstVote 108 = .ok (.aload_n 0, 1) := by decide +kernel
theorem dX3_firstVote_109 : decode cX3_firstVote 109 = .ok (.getfield 28, 3) := by decide +kernel
theorem dX3_firstVote_112 : decode cX3_firstVote 112 = .ok (.invokevirtual 108, 3) := by decide +kernel
theorem dX3_firstVote_115 : decode cX3_firstVote 115 = .ok (.goto 6, 3) := by decide +kernel
theorem dX3_firstVote_118 : decode cX3_firstVote 118 = .ok (.ldc2_w 81, 3) := by decide +kernel
theorem dX3_firstVote_121 : decode cX3_firstVote 121 = .ok (.lreturn, 1) := by decide +kernel
theorem dX3_firstSum_0 : decode cX3_firstSum 0 = .ok (.aload_n 0, 1) := by decide +kernel
theorem dX3_firstSum_1 : decode cX3_firstSum 1 = .ok (.getfield 37, 3) := by decide +kernel
theorem dX3_firstSum_4 : decode cX3_firstSum 4 = .ok (.iconst 3, 1) := by decide +kernel
theorem dX3_firstSum_5 : decode cX3_firstSum 5 = .ok (.invokevirtual 111, 3) := by decide +kernel
theorem dX3_firstSum_8 : decode cX3_firstSum 8 = .ok (.aload_n 0, 1) := by decide +kernel
theorem dX3_firstSum_9 : decode cX3_firstSum 9 = .ok (.invokevirtual 73, 3) := by decide +kernel
theorem dX3_firstSum_12 : decode cX3_firstSum 12 = .ok (.ifCond .eq 13, 3) := by decide +kernel
theorem dX3_firstSum_15 : decode cX3_firstSum 15 = .ok (.aload_n 0, 1) := by decide +kernel
theorem dX3_firstSum_16 : decode cX3_firstSum 16 = .ok (.getfield 37, 3) := by decide +kernel
theorem dX3_firstSum_19 : decode cX3_firstSum 19 = .ok (.invokevirtual 77, 3) := by decide +kernel
theorem dX3_firstSum_22 : decode cX3_firstSum 22 = .ok (.goto 6, 3) := by decide +kernel
theorem dX3_firstSum_25 : decode cX3_firstSum 25 = .ok (.ldc2_w 81, 3) := by decide +kernel
theorem dX3_firstSum_28 : decode cX3_firstSum 28 = .ok (.lreturn, 1) := by decide +kernel
theorem dX3_countEnds_0 : decode cX3_countEnds 0 = .ok (.iconst 0, 1) := by decide +kernel
theorem dX3_countEnds_1 : decode cX3_countEnds 1 = .ok (.istore_n 1, 1) := by decide +kernel
theorem dX3_countEnds_2 : decode cX3_countEnds 2 = .ok (.iconst 0, 1) := by decide +kernel
theorem dX3_countEnds_3 : decode cX3_countEnds 3 = .ok (.istore_n 2, 1) := by decide +kernel
theorem dX3_countEnds_4 : decode cX3_countEnds 4 = .ok (.iload_n 2, 1) := by decide +kernel
theorem dX3_countEnds_5 : decode cX3_countEnds 5 = .ok (.aload_n 0, 1) := by decide +kernel
theorem dX3_countEnds_6 : decode cX3_countEnds 6 = .ok (.getfield 9, 3) := by decide +kernel
theorem dX3_countEnds_9 : decode cX3_countEnds 9 = .ok (.aload_n 0, 1) := by decide +kernel
theorem dX3_countEnds_10 : decode cX3_countEnds 10 = .ok (.getfield 9, 3) := by decide +kernel
theorem dX3_countEnds_13 : decode cX3_countEnds 13 = .ok (.getfield 64, 3) := by decide +kernel
theorem dX3_countEnds_16 : decode cX3_countEnds 16 = .ok (.invokevirtual 99, 3) := by decide +kernel
theorem dX3_countEnds_19 : decode cX3_countEnds 19 = .ok (.if_icmp .ge 27, 3) := by decide +kernel
theorem dX3_countEnds_22 : decode cX3_countEnds 22 = .ok (.aload_n 0, 1) := by decide +kernel
theorem dX3_countEnds_23 : decode cX3_countEnds 23 = .ok (.getfield 37, 3) := by decide +kernel
theorem dX3_countEnds_26 : decode cX3_countEnds 26 = .ok (.iload_n 2, 1) := by decide +kernel
theorem dX3_countEnds_27 : decode cX3_countEnds 27 = .ok (.invokevirtual 114, 3) := by decide +kernel
theorem dX3_countEnds_30 : decode cX3_countEnds 30 = .ok (.aload_n 0, 1) := by decide +kernel
theorem dX3_countEnds_31 : decode cX3_countEnds 31 = .ok (.invokevirtual 73, 3) := by decide +kernel
theorem dX3_countEnds_34 : decode cX3_countEnds 34 = .ok (.ifCond .eq 6, 3) := by decide +kernel
theorem dX3_countEnds_37 : decode cX3_countEnds 37 = .ok (.iinc 1 1, 3) := by decide +kernel
theorem dX3_countEnds_40 : decode cX3_countEnds 40 = .ok (.iinc 2 1, 3) := by decide +kernel
theorem dX3_countEnds_43 : decode cX3_countEnds 43 = .ok (.goto (-39), 3) := by decide +kernel
theorem dX3_countEnds_46 : decode cX3_countEnds 46 = .ok (.iload_n 1, 1) := by decide +kernel
theorem dX3_countEnds_47 : decode cX3_countEnds 47 = .ok (.ireturn, 1) := by decide +kernel
theorem dX3_fewestEndValues_0 : decode cX3_fewestEndValues 0 = .ok (.aload_n 0, 1) := by decide +kernel
theorem dX3_fewestEndValues_1 : decode cX3_fewestEndValues 1 = .ok (.getfield 9, 3) := by decide +kernel
theorem dX3_fewestEndValues_4 : decode cX3_fewestEndValues 4 = .ok (.getfield 64, 3) := by decide +kernel
theorem dX3_fewestEndValues_7 : decode cX3_fewestEndValues 7 = .ok (.istore_n 1, 1) := by decide +kernel
theorem dX3_fewestEndValues_8 : decode cX3_fewestEndValues 8 = .ok (.iconst 0, 1) := by decide +kernel
theorem dX3_fewestEndValues_9 : decode cX3_fewestEndValues 9 = .ok (.istore_n 2, 1) := by decide +kernel
theorem dX3_fewestEndValues_10 : decode cX3_fewestEndValues 10 = .ok (.iload_n 2, 1) := by decide +kernel
theorem dX3_fewestEndValues_11 : decode cX3_fewestEndValues 11 = .ok (.aload_n 0, 1) := by decide +kernel
theorem dX3_fewestEndValues_12 : decode cX3_fewestEndValues 12 = .ok (.getfield 9, 3) := by decide +kernel
theorem dX3_fewestEndValues_15 : decode cX3_fewestEndValues 15 = .ok (.aload_n 0, 1) := by decide +kernel
theorem dX3_fewestEndValues_16 : decode cX3_fewestEndValues 16 = .ok (.getfield 9, 3) := by decide +kernel
theorem dX3_fewestEndValues_19 : decode cX3_fewestEndValues 19 = .ok (.getfield 64, 3) := by decide +kernel
theorem dX3_fewestEndValues_22 : decode cX3_fewestEndValues 22 = .ok (.invokevirtual 99, 3) := by decide +kernel
theorem dX3_fewestEndValues_25 : decode cX3_fewestEndValues 25 = .ok (.if_icmp .ge 33, 3) := by decide +kernel
theorem dX3_fewestEndValues_28 : decode cX3_fewestEndValues 28 = .ok (.aload_n 0, 1) := by decide +kernel
theorem dX3_fewestEndValues_29 : decode cX3_fewestEndValues 29 = .ok (.getfield 37, 3) := by decide +kernel
theorem dX3_fewestEndValues_32 : decode cX3_fewestEndValues 32 = .ok (.iload_n 2, 1) := by decide +kernel
theorem dX3_fewestEndValues_33 : decode cX3_fewestEndValues 33 = .ok (.invokevirtual 114, 3) := by decide +kernel
theorem dX3_fewestEndValues_36 : decode cX3_fewestEndValues 36 = .ok (.aload_n 0, 1) := by decide +kernel
theorem dX3_fewestEndValues_37 : decode cX3_fewestEndValues 37 = .ok (.invokevirtual 73, 3) := by decide +kernel
theorem dX3_fewestEndValues_40 : decode cX3_fewestEndValues 40 = .ok (.ifCond .eq 12, 3) := by decide +kernel
theorem dX3_fewestEndValues_43 : decode cX3_fewestEndValues 43 = .ok (.iload_n 1, 1) := by decide +kernel
theorem dX3_fewestEndValues_44 : decode cX3_fewestEndValues 44 = .ok (.aload_n 0, 1) := by decide +kernel
theorem dX3_fewestEndValues_45 : decode cX3_fewestEndValues 45 = .ok (.invokevirtual 117, 3) := by decide +kernel
theorem dX3_fewestEndValues_48 : decode cX3_fewestEndValues 48 = .ok (.invokestatic 121, 3) := by decide +kernel
theorem dX3_fewestEndValues_51 : decode cX3_fewestEndValues 51 = .ok (.istore_n 1, 1) := by decide +kernel
theorem dX3_fewestEndValues_52 : decode cX3_fewestEndValues 52 = .ok (.iinc 2 1, 3) := by decide +kernel
theorem dX3_fewestEndValues_55 : decode cX3_fewestEndValues 55 = .ok (.goto (-45), 3) := by decide +kernel
theorem dX3_fewestEndValues_58 : decode cX3_fewestEndValues 58 = .ok (.iload_n 1, 1) := by decide +kernel
theorem dX3_fewestEndValues_59 : decode cX3_fewestEndValues 59 = .ok (.ireturn, 1) := by decide +kernel
theorem dX3_answeredValues_0 : decode cX3_answeredValues 0 = .ok (.iconst 0, 1) := by decide +kernel
theorem dX3_answeredValues_1 : decode cX3_answeredValues 1 = .ok (.istore_n 1, 1) := by decide +kernel
theorem dX3_answeredValues_2 : decode cX3_answeredValues 2 = .ok (.iconst 0, 1) := by decide +kernel
theorem dX3_answeredValues_3 : decode cX3_answeredValues 3 = .ok (.istore_n 2, 1) := by decide +kernel
theorem dX3_answeredValues_4 : decode cX3_answeredValues 4 = .ok (.iload_n 2, 1) := by decide +kernel
theorem dX3_answeredValues_5 : decode cX3_answeredValues 5 = .ok (.aload_n 0, 1) := by decide +kernel
theorem dX3_answeredValues_6 : decode cX3_answeredValues 6 = .ok (.getfield 9, 3) := by decide +kernel
theorem dX3_answeredValues_9 : decode cX3_answeredValues 9 = .ok (.getfield 64, 3) := by decide +kernel
theorem dX3_answeredValues_12 : decode cX3_answeredValues 12 = .ok (.if_icmp .ge 22, 3) := by decide +kernel
theorem dX3_answeredValues_15 : decode cX3_answeredValues 15 = .ok (.iload_n 1, 1) := by decide +kernel
theorem dX3_answeredValues_16 : decode cX3_answeredValues 16 = .ok (.iconst 1, 1) := by decide +kernel
theorem dX3_answeredValues_17 : decode cX3_answeredValues 17 = .ok (.aload_n 0, 1) := by decide +kernel
theorem dX3_answeredValues_18 : decode cX3_answeredValues 18 = .ok (.getfield 37, 3) := by decide +kernel
theorem dX3_answeredValues_21 : decode cX3_answeredValues 21 = .ok (.iload_n 2, 1) := by decide +kernel
theorem dX3_answeredValues_22 : decode cX3_answeredValues 22 = .ok (.invokevirtual 126, 3) := by decide +kernel
theorem dX3_answeredValues_25 : decode cX3_answeredValues 25 = .ok (.ishl, 1) := by decide +kernel
theorem dX3_answeredValues_26 : decode cX3_answeredValues 26 = .ok (.ior, 1) := by decide +kernel
theorem dX3_answeredValues_27 : decode cX3_answeredValues 27 = .ok (.istore_n 1, 1) := by decide +kernel
theorem dX3_answeredValues_28 : decode cX3_answeredValues 28 = .ok (.iinc 2 1, 3) := by decide +kernel
theorem dX3_answeredValues_31 : decode cX3_answeredValues 31 = .ok (.goto (-27), 3) := by decide +kernel
theorem dX3_answeredValues_34 : decode cX3_answeredValues 34 = .ok (.iload_n 1, 1) := by decide +kernel
theorem dX3_answeredValues_35 : decode cX3_answeredValues 35 = .ok (.invokestatic 129, 3) := by decide +kernel
theorem dX3_answeredValues_38 : decode cX3_answeredValues 38 = .ok (.ireturn, 1) := by decide +kernel
theorem dX3_leastAround_0 : decode cX3_leastAround 0 = .ok (.aload_n 0, 1) := by decide +kernel
theorem dX3_leastAround_1 : decode cX3_leastAround 1 = .ok (.getfield 15, 3) := by decide +kernel
theorem dX3_leastAround_4 : decode cX3_leastAround 4 = .ok (.iload_n 1, 1) := by decide +kernel
theorem dX3_leastAround_5 : decode cX3_leastAround 5 = .ok (.invokevirtual 51, 3) := by decide +kernel
theorem dX3_leastAround_8 : decode cX3_leastAround 8 = .ok (.invokestatic 129, 3) := by decide +kernel
theorem dX3_leastAround_11 : decode cX3_leastAround 11 = .ok (.istore_n 2, 1) := by decide +kernel
theorem dX3_leastAround_12 : decode cX3_leastAround 12 = .ok (.iload_n 2, 1) := by decide +kernel
theorem dX3_leastAround_13 : decode cX3_leastAround 13 = .ok (.iconst 1, 1) := by decide +kernel
theorem dX3_leastAround_14 : decode cX3_leastAround 14 = .ok (.if_icmp .ge 5, 3) := by decide +kernel
theorem dX3_leastAround_17 : decode cX3_leastAround 17 = .ok (.iconst 0, 1) := by decide +kernel
theorem dX3_leastAround_18 : decode cX3_leastAround 18 = .ok (.ireturn, 1) := by decide +kernel
theorem dX3_leastAround_19 : decode cX3_leastAround 19 = .ok (.aload_n 0, 1) := by decide +kernel
theorem dX3_leastAround_20 : decode cX3_leastAround 20 = .ok (.getfield 15, 3) := by decide +kernel
theorem dX3_leastAround_23 : decode cX3_leastAround 23 = .ok (.iload_n 1, 1) := by decide +kernel
theorem dX3_leastAround_24 : decode cX3_leastAround 24 = .ok (.invokevirtual 47, 3) := by decide +kernel
theorem dX3_leastAround_27 : decode cX3_leastAround 27 = .ok (.istore_n 3, 1) := by decide +kernel
theorem dX3_leastAround_28 : decode cX3_leastAround 28 = .ok (.aload_n 0, 1) := by decide +kernel
theorem dX3_leastAround_29 : decode cX3_leastAround 29 = .ok (.aload_n 0, 1) := by decide +kernel
theorem dX3_leastAround_30 : decode cX3_leastAround 30 = .ok (.getfield 15, 3) := by decide +kernel
theorem dX3_leastAround_33 : decode cX3_leastAround 33 = .ok (.iload_n 1, 1) := by decide +kernel
theorem dX3_leastAround_34 : decode cX3_leastAround 34 = .ok (.invokevirtual 51, 3) := by decide +kernel
theorem dX3_leastAround_37 : decode cX3_leastAround 37 = .ok (.invokevirtual 134, 3) := by decide +kernel
theorem dX3_leastAround_40 : decode cX3_leastAround 40 = .ok (.istore 4, 2) := by decide +kernel
theorem dX3_leastAround_42 : decode cX3_leastAround 42 = .ok (.aload_n 0, 1) := by decide +kernel
theorem dX3_leastAround_43 : decode cX3_leastAround 43 = .ok (.getfield 28, 3) := by decide +kernel
theorem dX3_leastAround_46 : decode cX3_leastAround 46 = .ok (.iload_n 2, 1) := by decide +kernel
theorem dX3_leastAround_47 : decode cX3_leastAround 47 = .ok (.iload_n 1, 1) := by decide +kernel
theorem dX3_leastAround_48 : decode cX3_leastAround 48 = .ok (.invokevirtual 97, 3) := by decide +kernel
theorem dX3_leastAround_51 : decode cX3_leastAround 51 = .ok (.iconst 0, 1) := by decide +kernel
theorem dX3_leastAround_52 : decode cX3_leastAround 52 = .ok (.istore 5, 2) := by decide +kernel
theorem dX3_leastAround_54 : decode cX3_leastAround 54 = .ok (.iconst 0, 1) := by decide +kernel
theorem dX3_leastAround_55 : decode cX3_leastAround 55 = .ok (.istore 6, 2) := by decide +kernel
theorem dX3_leastAround_57 : decode cX3_leastAround 57 = .ok (.iload 6, 2) := by decide +kernel
theorem dX3_leastAround_59 : decode cX3_leastAround 59 = .ok (.aload_n 0, 1) := by decide +kernel
theorem dX3_leastAround_60 : decode cX3_leastAround 60 = .ok (.getfield 9, 3) := by decide +kernel
theorem dX3_leastAround_63 : decode cX3_leastAround 63 = .ok (.iload_n 3, 1) := by decide +kernel
theorem dX3_leastAround_64 : decode cX3_leastAround 64 = .ok (.invokevirtual 99, 3) := by decide +kernel
theorem dX3_leastAround_67 : decode cX3_leastAround 67 = .ok (.if_icmp .ge 79, 3) := by decide +kernel
theorem dX3_leastAround_70 : decode cX3_leastAround 70 = .ok (.aload_n 0, 1) := by decide +kernel
theorem dX3_leastAround_71 : decode cX3_leastAround 71 = .ok (.getfield 28, 3) := by decide +kernel
theorem dX3_leastAround_74 : decode cX3_leastAround 74 = .ok (.invokevirtual 137, 3) := by decide +kernel
theorem dX3_leastAround_77 : decode cX3_leastAround 77 = .ok (.iconst 0, 1) := by decide +kernel
theorem dX3_leastAround_78 : decode cX3_leastAround 78 = .ok (.istore 7, 2) := by decide +kernel
theorem dX3_leastAround_80 : decode cX3_leastAround 80 = .ok (.iload 7, 2) := by decide +kernel
theorem dX3_leastAround_82 : decode cX3_leastAround 82 = .ok (.iload_n 3, 1) := by decide +kernel
theorem dX3_leastAround_83 : decode cX3_leastAround 83 = .ok (.if_icmp .ge 38, 3) := by decide +kernel
theorem dX3_leastAround_86 : decode cX3_leastAround 86 = .ok (.aload_n 0, 1) := by decide +kernel
theorem dX3_leastAround_87 : decode cX3_leastAround 87 = .ok (.getfield 28, 3) := by decide +kernel
theorem dX3_leastAround_90 : decode cX3_leastAround 90 = .ok (.aload_n 0, 1) := by decide +kernel
theorem dX3_leastAround_91 : decode cX3_leastAround 91 = .ok (.getfield 9, 3) := by decide +kernel
theorem dX3_leastAround_94 : decode cX3_leastAround 94 = .ok (.iload 4, 2) := by decide +kernel
theorem dX3_leastAround_96 : decode cX3_leastAround 96 = .ok (.iload 7, 2) := by decide +kernel
theorem dX3_leastAround_98 : decode cX3_leastAround 98 = .ok (.invokevirtual 140, 3) := by decide +kernel
theorem dX3_leastAround_101 : decode cX3_leastAround 101 = .ok (.aload_n 0, 1) := by decide +kernel
theorem dX3_leastAround_102 : decode cX3_leastAround 102 = .ok (.getfield 9, 3) := by decide +kernel
theorem dX3_leastAround_105 : decode cX3_leastAround 105 = .ok (.iload 6, 2) := by decide +kernel
theorem dX3_leastAround_107 : decode cX3_leastAround 107 = .ok (.iload 7, 2) := by decide +kernel
theorem dX3_leastAround_109 : decode cX3_leastAround 109 = .ok (.invokevirtual 89, 3) := by decide +kernel
theorem dX3_leastAround_112 : decode cX3_leastAround 112 = .ok (.invokevirtual 102, 3) := by decide +kernel
theorem dX3_leastAround_115 : decode cX3_leastAround 115 = .ok (.iinc 7 1, 3) := by decide +kernel
theorem dX3_leastAround_118 : decode cX3_leastAround 118 = .ok (.goto (-38), 3) := by decide +kernel
theorem dX3_leastAround_121 : decode cX3_leastAround 121 = .ok (.aload_n 0, 1) := by decide +kernel
theorem dX3_leastAround_122 : decode cX3_leastAround 122 = .ok (.getfield 28, 3) := by decide +kernel
theorem dX3_leastAround_125 : decode cX3_leastAround 125 = .ok (.invokevirtual 105, 3) := by decide +kernel
theorem dX3_leastAround_128 : decode cX3_leastAround 128 = .ok (.ifCond .eq 12, 3) := by decide +kernel
theorem dX3_leastAround_131 : decode cX3_leastAround 131 = .ok (.iload 5, 2) := by decide +kernel
theorem dX3_leastAround_133 : decode cX3_leastAround 133 = .ok (.iconst 1, 1) := by decide +kernel
theorem dX3_leastAround_134 : decode cX3_leastAround 134 = .ok (.iload 6, 2) := by decide +kernel
theorem dX3_leastAround_136 : decode cX3_leastAround 136 = .ok (.ishl, 1) := by decide +kernel
theorem dX3_leastAround_137 : decode cX3_leastAround 137 = .ok (.ior, 1) := by decide +kernel
theorem dX3_leastAround_138 : decode cX3_leastAround 138 = .ok (.istore 5, 2) := by decide +kernel
theorem dX3_leastAround_140 : decode cX3_leastAround 140 = .ok (.iinc 6 1, 3) := by decide +kernel
theorem dX3_leastAround_143 : decode cX3_leastAround 143 = .ok (.goto (-86), 3) := by decide +kernel
theorem dX3_leastAround_146 : decode cX3_leastAround 146 = .ok (.iload 5, 2) := by decide +kernel
theorem dX3_leastAround_148 : decode cX3_leastAround 148 = .ok (.ireturn, 1) := by decide +kernel
theorem dX3_columnsOf_0 : decode cX3_columnsOf 0 = .ok (.iconst 0, 1) := by decide +kernel
theorem dX3_columnsOf_1 : decode cX3_columnsOf 1 = .ok (.istore_n 2, 1) := by decide +kernel
theorem dX3_columnsOf_2 : decode cX3_columnsOf 2 = .ok (.bipush 26, 2) := by decide +kernel
theorem dX3_columnsOf_4 : decode cX3_columnsOf 4 = .ok (.istore_n 3, 1) := by decide +kernel
theorem dX3_columnsOf_5 : decode cX3_columnsOf 5 = .ok (.iload_n 3, 1) := by decide +kernel
theorem dX3_columnsOf_6 : decode cX3_columnsOf 6 = .ok (.ifCond .lt 36, 3) := by decide +kernel
theorem dX3_columnsOf_9 : decode cX3_columnsOf 9 = .ok (.iload_n 3, 1) := by decide +kernel
theorem dX3_columnsOf_10 : decode cX3_columnsOf 10 = .ok (.iload_n 1, 1) := by decide +kernel
theorem dX3_columnsOf_11 : decode cX3_columnsOf 11 = .ok (.invokestatic 143, 3) := by decide +kernel
theorem dX3_columnsOf_14 : decode cX3_columnsOf 14 = .ok (.ifCond .eq 22, 3) := by decide +kernel
theorem dX3_columnsOf_17 : decode cX3_columnsOf 17 = .ok (.iload_n 2, 1) := by decide +kernel
theorem dX3_columnsOf_18 : decode cX3_columnsOf 18 = .ok (.aload_n 0, 1) := by decide +kernel
theorem dX3_columnsOf_19 : decode cX3_columnsOf 19 = .ok (.getfield 9, 3) := by decide +kernel
theorem dX3_columnsOf_22 : decode cX3_columnsOf 22 = .ok (.getfield 64, 3) := by decide +kernel
theorem dX3_columnsOf_25 : decode cX3_columnsOf 25 = .ok (.imul, 1) := by decide +kernel
theorem dX3_columnsOf_26 : decode cX3_columnsOf 26 = .ok (.aload_n 0, 1) := by decide +kernel
theorem dX3_columnsOf_27 : decode cX3_columnsOf 27 = .ok (.getfield 9, 3) := by decide +kernel
theorem dX3_columnsOf_30 : decode cX3_columnsOf 30 = .ok (.iload_n 3, 1) := by decide +kernel
theorem dX3_columnsOf_31 : decode cX3_columnsOf 31 = .ok (.invokevirtual 147, 3) := by decide +kernel
theorem dX3_columnsOf_34 : decode cX3_columnsOf 34 = .ok (.iadd, 1) := by decide +kernel
theorem dX3_columnsOf_35 : decode cX3_columnsOf 35 = .ok (.istore_n 2, 1) := by decide +kernel
theorem dX3_columnsOf_36 : decode cX3_columnsOf 36 = .ok (.iinc 3 (-1), 3) := by decide +kernel
theorem dX3_columnsOf_39 : decode cX3_columnsOf 39 = .ok (.goto (-34), 3) := by decide +kernel
theorem dX3_columnsOf_42 : decode cX3_columnsOf 42 = .ok (.iload_n 2, 1) := by decide +kernel
theorem dX3_columnsOf_43 : decode cX3_columnsOf 43 = .ok (.ireturn, 1) := by decide +kernel
theorem dX4_init_0 : decode cX4_init 0 = .ok (.aload_n 0, 1) := by decide +kernel
theorem dX4_init_1 : decode cX4_init 1 = .ok (.invokespecial 3, 3) := by decide +kernel
theorem dX4_init_4 : decode cX4_init 4 = .ok (.aload_n 0, 1) := by decide +kernel
theorem dX4_init_5 : decode cX4_init 5 = .ok (.bipush 7, 2) := by decide +kernel
theorem dX4_init_7 : decode cX4_init 7 = .ok (.newarray .int, 2) := by decide +kernel
theorem dX4_init_9 : decode cX4_init 9 = .ok (.putfield 9, 3) := by decide +kernel
theorem dX4_init_12 : decode cX4_init 12 = .ok (.aload_n 0, 1) := by decide +kernel
theorem dX4_init_13 : decode cX4_init 13 = .ok (.bipush 27, 2) := by decide +kernel
theorem dX4_init_15 : decode cX4_init 15 = .ok (.newarray .int, 2) := by decide +kernel
theorem dX4_init_17 : decode cX4_init 17 = .ok (.putfield 15, 3) := by decide +kernel
theorem dX4_init_20 : decode cX4_init 20 = .ok (.return_, 1) := by decide +kernel
theorem dX4_begin_0 : decode cX4_begin 0 = .ok (.aload_n 0, 1) := by decide +kernel
theorem dX4_begin_1 : decode cX4_begin 1 = .ok (.iload_n 1, 1) := by decide +kernel
theorem dX4_begin_2 : decode cX4_begin 2 = .ok (.putfield 18, 3) := by decide +kernel
theorem dX4_begin_5 : decode cX4_begin 5 = .ok (.iconst 1, 1) := by decide +kernel
theorem dX4_begin_6 : decode cX4_begin 6 = .ok (.istore_n 2, 1) := by decide +kernel
theorem dX4_begin_7 : decode cX4_begin 7 = .ok (.iconst 0, 1) := by decide +kernel
theorem dX4_begin_8 : decode cX4_begin 8 = .ok (.istore_n 3, 1) := by decide +kernel
theorem dX4_begin_9 : decode cX4_begin 9 = .ok (.iload_n 3, 1) := by decide +kernel
theorem dX4_begin_10 : decode cX4_begin 10 = .ok (.aload_n 0, 1) := by decide +kernel
theorem dX4_begin_11 : decode cX4_begin 11 = .ok (.getfield 9, 3) := by decide +kernel
theorem dX4_begin_14 : decode cX4_begin 14 = .ok (.arraylength, 1) := by decide +kernel
theorem dX4_begin_15 : decode cX4_begin 15 = .ok (.if_icmp .ge 20, 3) := by decide +kernel
theorem dX4_begin_18 : decode cX4_begin 18 = .ok (.aload_n 0, 1) := by decide +kernel
theorem dX4_begin_19 : decode cX4_begin 19 = .ok (.getfield 9, 3) := by decide +kernel
theorem dX4_begin_22 : decode cX4_begin 22 = .ok (.iload_n 3, 1) := by decide +kernel
theorem dX4_begin_23 : decode cX4_begin 23 = .ok (.iload_n 2, 1) := by decide +kernel
theorem dX4_begin_24 : decode cX4_begin 24 = .ok (.iastore, 1) := by decide +kernel
theorem dX4_begin_25 : decode cX4_begin 25 = .ok (.iload_n 2, 1) := by decide +kernel
theorem dX4_begin_26 : decode cX4_begin 26 = .ok (.iload_n 1, 1) := by decide +kernel
theorem dX4_begin_27 : decode cX4_begin 27 = .ok (.imul, 1) := by decide +kernel
theorem dX4_begin_28 : decode cX4_begin 28 = .ok (.istore_n 2, 1) := by decide +kernel
theorem dX4_begin_29 : decode cX4_begin 29 = .ok (.iinc 3 1, 3) := by decide +kernel
theorem dX4_begin_32 : decode cX4_begin 32 = .ok (.goto (-23), 3) := by decide +kernel
theorem dX4_begin_35 : decode cX4_begin 35 = .ok (.iconst 0, 1) := by decide +kernel
theorem dX4_begin_36 : decode cX4_begin 36 = .ok (.istore_n 3, 1) := by decide +kernel
theorem dX4_begin_37 : decode cX4_begin 37 = .ok (.iload_n 3, 1) := by decide +kernel
theorem dX4_begin_38 : decode cX4_begin 38 = .ok (.aload_n 0, 1) := by decide +kernel
theorem dX4_begin_39 : decode cX4_begin 39 = .ok (.getfield 15, 3) := by decide +kernel
theorem dX4_begin_42 : decode cX4_begin 42 = .ok (.arraylength, 1) := by decide +kernel
theorem dX4_begin_43 : decode cX4_begin 43 = .ok (.if_icmp .ge 20, 3) := by decide +kernel
theorem dX4_begin_46 : decode cX4_begin 46 = .ok (.aload_n 0, 1) := by decide +kernel
theorem dX4_begin_47 : decode cX4_begin 47 = .ok (.getfield 15, 3) := by decide +kernel
theorem dX4_begin_50 : decode cX4_begin 50 = .ok (.iload_n 3, 1) := by decide +kernel
theorem dX4_begin_51 : decode cX4_begin 51 = .ok (.iload_n 3, 1) := by decide +kernel
theorem dX4_begin_52 : decode cX4_begin 52 = .ok (.iload_n 1, 1) := by decide +kernel
theorem dX4_begin_53 : decode cX4_begin 53 = .ok (.invokestatic 22, 3) := by decide +kernel
theorem dX4_begin_56 : decode cX4_begin 56 = .ok (.iastore, 1) := by decide +kernel
theorem dX4_begin_57 : decode cX4_begin 57 = .ok (.iinc 3 1, 3) := by decide +kernel
theorem dX4_begin_60 : decode cX4_begin 60 = .ok (.goto (-23), 3) := by decide +kernel
theorem dX4_begin_63 : decode cX4_begin 63 = .ok (.return_, 1) := by decide +kernel
theorem dX4_spreadOut_0 : decode cX4_spreadOut 0 = .ok (.iconst 0, 1) := by decide +kernel
theorem dX4_spreadOut_1 : decode cX4_spreadOut 1 = .ok (.istore_n 2, 1) := by decide +kernel
theorem dX4_spreadOut_2 : decode cX4_spreadOut 2 = .ok (.iload_n 0, 1) := by decide +kernel
theorem dX4_spreadOut_3 : decode cX4_spreadOut 3 = .ok (.istore_n 3, 1) := by decide +kernel
theorem dX4_spreadOut_4 : decode cX4_spreadOut 4 = .ok (.iconst 0, 1) := by decide +kernel
theorem dX4_spreadOut_5 : decode cX4_spreadOut 5 = .ok (.istore 4, 2) := by decide +kernel
theorem dX4_spreadOut_7 : decode cX4_spreadOut 7 = .ok (.iload 4, 2) := by decide +kernel
theorem dX4_spreadOut_9 : decode cX4_spreadOut 9 = .ok (.iconst 4, 1) := by decide +kernel
theorem dX4_spreadOut_10 : decode cX4_spreadOut 10 = .ok (.if_icmp .ge 50, 3) := by decide +kernel
theorem dX4_spreadOut_13 : decode cX4_spreadOut 13 = .ok (.iload_n 1, 1) := by decide +kernel
theorem dX4_spreadOut_14 : decode cX4_spreadOut 14 = .ok (.iconst 3, 1) := by decide +kernel
theorem dX4_spreadOut_15 : decode cX4_spreadOut 15 = .ok (.if_icmp .ne 9, 3) := by decide +kernel
theorem dX4_spreadOut_18 : decode cX4_spreadOut 18 = .ok (.iload_n 3, 1) := by decide +kernel
theorem dX4_spreadOut_19 : decode cX4_spreadOut 19 = .ok (.iconst 3, 1) := by decide +kernel
theorem dX4_spreadOut_20 : decode cX4_spreadOut 20 = .ok (.irem, 1) := by decide +kernel
theorem dX4_spreadOut_21 : decode cX4_spreadOut 21 = .ok (.goto 6, 3) := by decide +kernel
theorem dX4_spreadOut_24 : decode cX4_spreadOut 24 = .ok (.iload_n 3, 1) := by decide +kernel
theorem dX4_spreadOut_25 : decode cX4_spreadOut 25 = .ok (.iconst 2, 1) := by decide +kernel
theorem dX4_spreadOut_26 : decode cX4_spreadOut 26 = .ok (.irem, 1) := by decide +kernel
theorem dX4_spreadOut_27 : decode cX4_spreadOut 27 = .ok (.istore 5, 2) := by decide +kernel
theorem dX4_spreadOut_29 : decode cX4_spreadOut 29 = .ok (.iload_n 1, 1) := by decide +kernel
theorem dX4_spreadOut_30 : decode cX4_spreadOut 30 = .ok (.iconst 3, 1) := by decide +kernel
theorem dX4_spreadOut_31 : decode cX4_spreadOut 31 = .ok (.if_icmp .ne 9, 3) := by decide +kernel
theorem dX4_spreadOut_34 : decode cX4_spreadOut 34 = .ok (.iload_n 3, 1) := by decide +kernel
theorem dX4_spreadOut_35 : decode cX4_spreadOut 35 = .ok (.iconst 3, 1) := by decide +kernel
theorem dX4_spreadOut_36 : decode cX4_spreadOut 36 = .ok (.idiv, 1) := by decide +kernel
theorem dX4_spreadOut_37 : decode cX4_spreadOut 37 = .ok (.goto 6, 3) := by decide +kernel
theorem dX4_spreadOut_40 : decode cX4_spreadOut 40 = .ok (.iload_n 3, 1) := by decide +kernel
theorem dX4_spreadOut_41 : decode cX4_spreadOut 41 = .ok (.iconst 2, 1) := by decide +kernel
theorem dX4_spreadOut_42 : decode cX4_spreadOut 42 = .ok (.idiv, 1) := by decide +kernel
theorem dX4_spreadOut_43 : decode cX4_spreadOut 43 = .ok (.istore_n 3, 1) := by decide +kernel
theorem dX4_spreadOut_44 : decode cX4_spreadOut 44 = .ok (.iload_n 2, 1) := by decide +kernel
theorem dX4_spreadOut_45 : decode cX4_spreadOut 45 = .ok (.iload 5, 2) := by decide +kernel
theorem dX4_spreadOut_47 : decode cX4_spreadOut 47 = .ok (.iconst 5, 1) := by decide +kernel
theorem dX4_spreadOut_48 : decode cX4_spreadOut 48 = .ok (.iload 4, 2) := by decide +kernel
theorem dX4_spreadOut_50 : decode cX4_spreadOut 50 = .ok (.imul, 1) := by decide +kernel
theorem dX4_spreadOut_51 : decode cX4_spreadOut 51 = .ok (.ishl, 1) := by decide +kernel
theorem dX4_spreadOut_52 : decode cX4_spreadOut 52 = .ok (.ior, 1) := by decide +kernel
theorem dX4_spreadOut_53 : decode cX4_spreadOut 53 = .ok (.istore_n 2, 1) := by decide +kernel
theorem dX4_spreadOut_54 : decode cX4_spreadOut 54 = .ok (.iinc 4 1, 3) := by decide +kernel
theorem dX4_spreadOut_57 : decode cX4_spreadOut 57 = .ok (.goto (-50), 3) := by decide +kernel
theorem dX4_spreadOut_60 : decode cX4_spreadOut 60 = .ok (.iload_n 2, 1) := by decide +kernel
theorem dX4_spreadOut_61 : decode cX4_spreadOut 61 = .ok (.ireturn, 1) := by decide +kernel
theorem dX4_power_0 : decode cX4_power 0 = .ok (.aload_n 0, 1) := by decide +kernel
theorem dX4_power_1 : decode cX4_power 1 = .ok (.getfield 9, 3) := by decide +kernel
theorem dX4_power_4 : decode cX4_power 4 = .ok (.iload_n 1, 1) := by decide +kernel
theorem dX4_power_5 : decode cX4_power 5 = .ok (.invokestatic 26, 3) := by decide +kernel
theorem dX4_power_8 : decode cX4_power 8 = .ok (.ireturn, 1) := by decide +kernel
theorem dX4_spread_0 : decode cX4_spread 0 = .ok (.aload_n 0, 1) := by decide +kernel
theorem dX4_spread_1 : decode cX4_spread 1 = .ok (.getfield 15, 3) := by decide +kernel
theorem dX4_spread_4 : decode cX4_spread 4 = .ok (.iload_n 1, 1) := by decide +kernel
theorem dX4_spread_5 : decode cX4_spread 5 = .ok (.invokestatic 26, 3) := by decide +kernel
theorem dX4_spread_8 : decode cX4_spread 8 = .ok (.ireturn, 1) := by decide +kernel
theorem dX4_onPlace_0 : decode cX4_onPlace 0 = .ok (.iload_n 1, 1) := by decide +kernel
theorem dX4_onPlace_1 : decode cX4_onPlace 1 = .ok (.iconst 5, 1) := by decide +kernel
theorem dX4_onPlace_2 : decode cX4_onPlace 2 = .ok (.iload_n 2, 1) := by decide +kernel
theorem dX4_onPlace_3 : decode cX4_onPlace 3 = .ok (.imul, 1) := by decide +kernel
theorem dX4_onPlace_4 : decode cX4_onPlace 4 = .ok (.ishr, 1) := by decide +kernel
theorem dX4_onPlace_5 : decode cX4_onPlace 5 = .ok (.bipush 31, 2) := by decide +kernel
theorem dX4_onPlace_7 : decode cX4_onPlace 7 = .ok (.iand, 1) := by decide +kernel
theorem dX4_onPlace_8 : decode cX4_onPlace 8 = .ok (.ireturn, 1) := by decide +kernel
theorem dX4_digit_0 : decode cX4_digit 0 = .ok (.aload_n 0, 1) := by decide +kernel
theorem dX4_digit_1 : decode cX4_digit 1 = .ok (.getfield 15, 3) := by decide +kernel
theorem dX4_digit_4 : decode cX4_digit 4 = .ok (.iload_n 1, 1) := by decide +kernel
theorem dX4_digit_5 : decode cX4_digit 5 = .ok (.invokestatic 26, 3) := by decide +kernel
theorem dX4_digit_8 : decode cX4_digit 8 = .ok (.iconst 5, 1) := by decide +kernel
theorem dX4_digit_9 : decode cX4_digit 9 = .ok (.iload_n 2, 1) := by decide +kernel
theorem dX4_digit_10 : decode cX4_digit 10 = .ok (.imul, 1) := by decide +kernel
theorem dX4_digit_11 : decode cX4_digit 11 = .ok (.ishr, 1) := by decide +kernel
theorem dX4_digit_12 : decode cX4_digit 12 = .ok (.bipush 31, 2) := by decide +kernel
theorem dX4_digit_14 : decode cX4_digit 14 = .ok (.iand, 1) := by decide +kernel
theorem dX4_digit_15 : decode cX4_digit 15 = .ok (.ireturn, 1) := by decide +kernel
theorem dX4_widest_0 : decode cX4_widest 0 = .ok (.aload_n 0, 1) := by decide +kernel
theorem dX4_widest_1 : decode cX4_widest 1 = .ok (.getfield 18, 3) := by decide +kernel
theorem dX4_widest_4 : decode cX4_widest 4 = .ok (.iconst 2, 1) := by decide +kernel
theorem dX4_widest_5 : decode cX4_widest 5 = .ok (.if_icmp .ne 7, 3) := by decide +kernel
theorem dX4_widest_8 : decode cX4_widest 8 = .ok (.iconst 3, 1) := by decide +kernel
theorem dX4_widest_9 : decode cX4_widest 9 = .ok (.goto 4, 3) := by decide +kernel
theorem dX4_widest_12 : decode cX4_widest 12 = .ok (.iconst 2, 1) := by decide +kernel
theorem dX4_widest_13 : decode cX4_widest 13 = .ok (.ireturn, 1) := by decide +kernel
theorem dX4_allValues_0 : decode cX4_allValues 0 = .ok (.iconst 1, 1) := by decide +kernel
theorem dX4_allValues_1 : decode cX4_allValues 1 = .ok (.aload_n 0, 1) := by decide +kernel
theorem dX4_allValues_2 : decode cX4_allValues 2 = .ok (.getfield 18, 3) := by decide +kernel
theorem dX4_allValues_5 : decode cX4_allValues 5 = .ok (.ishl, 1) := by decide +kernel
theorem dX4_allValues_6 : decode cX4_allValues 6 = .ok (.iconst 1, 1) := by decide +kernel
theorem dX4_allValues_7 : decode cX4_allValues 7 = .ok (.isub, 1) := by decide +kernel
theorem dX4_allValues_8 : decode cX4_allValues 8 = .ok (.ireturn, 1) := by decide +kernel
theorem dX5_init_0 : decode cX5_init 0 = .ok (.aload_n 0, 1) := by decide +kernel
theorem dX5_init_1 : decode cX5_init 1 = .ok (.invokespecial 3, 3) := by decide +kernel
theorem dX5_init_4 : decode cX5_init 4 = .ok (.aload_n 0, 1) := by decide +kernel
theorem dX5_init_5 : decode cX5_init 5 = .ok (.iconst 1, 1) := by decide +kernel
theorem dX5_init_6 : decode cX5_init 6 = .ok (.putfield 9, 3) := by decide +kernel
theorem dX5_init_9 : decode cX5_init 9 = .ok (.aload_n 0, 1) := by decide +kernel
theorem dX5_init_10 : decode cX5_init 10 = .ok (.bipush 32, 2) := by decide +kernel
theorem dX5_init_12 : decode cX5_init 12 = .ok (.newarray .int, 2) := by decide +kernel
theorem dX5_init_14 : decode cX5_init 14 = .ok (.putfield 17, 3) := by decide +kernel
theorem dX5_init_17 : decode cX5_init 17 = .ok (.aload_n 0, 1) := by decide +kernel
theorem dX5_init_18 : decode cX5_init 18 = .ok (.aload_n 1, 1) := by decide +kernel
theorem dX5_init_19 : decode cX5_init 19 = .ok (.putfield 21, 3) := by decide +kernel
theorem dX5_init_22 : decode cX5_init 22 = .ok (.return_, 1) := by decide +kernel
theorem dX5_begin_0 : decode cX5_begin 0 = .ok (.aload_n 0, 1) := by decide +kernel
theorem dX5_begin_1 : decode cX5_begin 1 = .ok (.iload_n 1, 1) := by decide +kernel
theorem dX5_begin_2 : decode cX5_begin 2 = .ok (.putfield 9, 3) := by decide +kernel
theorem dX5_begin_5 : decode cX5_begin 5 = .ok (.iconst 0, 1) := by decide +kernel
theorem dX5_begin_6 : decode cX5_begin 6 = .ok (.istore_n 2, 1) := by decide +kernel
theorem dX5_begin_7 : decode cX5_begin 7 = .ok (.iload_n 2, 1) := by decide +kernel
theorem dX5_begin_8 : decode cX5_begin 8 = .ok (.aload_n 0, 1) := by decide +kernel
theorem dX5_begin_9 : decode cX5_begin 9 = .ok (.invokevirtual 25, 3) := by decide +kernel
theorem dX5_begin_12 : decode cX5_begin 12 = .ok (.if_icmp .ge 23, 3) := by decide +kernel
theorem dX5_begin_15 : decode cX5_begin 15 = .ok (.aload_n 0, 1) := by decide +kernel
theorem dX5_begin_16 : decode cX5_begin 16 = .ok (.iload_n 2, 1) := by decide +kernel
theorem dX5_begin_17 : decode cX5_begin 17 = .ok (.aload_n 0, 1) := by decide +kernel
theorem dX5_begin_18 : decode cX5_begin 18 = .ok (.getfield 21, 3) := by decide +kernel
theorem dX5_begin_21 : decode cX5_begin 21 = .ok (.iload_n 2, 1) := by decide +kernel
theorem dX5_begin_22 : decode cX5_begin 22 = .ok (.iconst 0, 1) := by decide +kernel
theorem dX5_begin_23 : decode cX5_begin 23 = .ok (.invokevirtual 29, 3) := by decide +kernel
theorem dX5_begin_26 : decode cX5_begin 26 = .ok (.invokevirtual 33, 3) := by decide +kernel
theorem dX5_begin_29 : decode cX5_begin 29 = .ok (.iinc 2 1, 3) := by decide +kernel
theorem dX5_begin_32 : decode cX5_begin 32 = .ok (.goto (-25), 3) := by decide +kernel
theorem dX5_begin_35 : decode cX5_begin 35 = .ok (.return_, 1) := by decide +kernel
theorem dX5_become_0 : decode cX5_become 0 = .ok (.aload_n 0, 1) := by decide +kernel
theorem dX5_become_1 : decode cX5_become 1 = .ok (.iload_n 1, 1) := by decide +kernel
theorem dX5_become_2 : decode cX5_become 2 = .ok (.ifCond .eq 8, 3) := by decide +kernel
theorem dX5_become_5 : decode cX5_become 5 = .ok (.iload_n 1, 1) := by decide +kernel
theorem dX5_become_6 : decode cX5_become 6 = .ok (.iconst 1, 1) := by decide +kernel
theorem dX5_become_7 : decode cX5_become 7 = .ok (.if_icmp .ne 7, 3) := by decide +kernel
theorem dX5_become_10 : decode cX5_become 10 = .ok (.iconst 2, 1) := by decide +kernel
theorem dX5_become_11 : decode cX5_become 11 = .ok (.goto 13, 3) := by decide +kernel
theorem dX5_become_14 : decode cX5_become 14 = .ok (.iload_n 1, 1) := by decide +kernel
theorem dX5_become_15 : decode cX5_become 15 = .ok (.iconst 4, 1) := by decide +kernel
theorem dX5_become_16 : decode cX5_become 16 = .ok (.if_icmp .ne 7, 3) := by decide +kernel
theorem dX5_become_19 : decode cX5_become 19 = .ok (.iconst 1, 1) := by decide +kernel
theorem dX5_become_20 : decode cX5_become 20 = .ok (.goto 4, 3) := by decide +kernel
theorem dX5_become_23 : decode cX5_become 23 = .ok (.iconst 3, 1) := by decide +kernel
theorem dX5_become_24 : decode cX5_become 24 = .ok (.invokevirtual 37, 3) := by decide +kernel
theorem dX5_become_27 : decode cX5_become 27 = .ok (.iconst 0, 1) := by decide +kernel
theorem dX5_become_28 : decode cX5_become 28 = .ok (.istore_n 2, 1) := by decide +kernel
theorem dX5_become_29 : decode cX5_become 29 = .ok (.iload_n 2, 1) := by decide +kernel
theorem dX5_become_30 : decode cX5_become 30 = .ok (.aload_n 0, 1) := by decide +kernel
theorem dX5_become_31 : decode cX5_become 31 = .ok (.invokevirtual 25, 3) := by decide +kernel
theorem dX5_become_34 : decode cX5_become 34 = .ok (.if_icmp .ge 56, 3) := by decide +kernel
theorem dX5_become_37 : decode cX5_become 37 = .ok (.aload_n 0, 1) := by decide +kernel
theorem dX5_become_38 : decode cX5_become 38 = .ok (.getfield 21, 3) := by decide +kernel
theorem dX5_become_41 : decode cX5_become 41 = .ok (.iload_n 2, 1) := by decide +kernel
theorem dX5_become_42 : decode cX5_become 42 = .ok (.iconst 0, 1) := by decide +kernel
theorem dX5_become_43 : decode cX5_become 43 = .ok (.invokevirtual 29, 3) := by decide +kernel
theorem dX5_become_46 : decode cX5_become 46 = .ok (.istore_n 3, 1) := by decide +kernel
theorem dX5_become_47 : decode cX5_become 47 = .ok (.aload_n 0, 1) := by decide +kernel
theorem dX5_become_48 : decode cX5_become 48 = .ok (.getfield 21, 3) := by decide +kernel
theorem dX5_become_51 : decode cX5_become 51 = .ok (.iload_n 2, 1) := by decide +kernel
theorem dX5_become_52 : decode cX5_become 52 = .ok (.iconst 1, 1) := by decide +kernel
theorem dX5_become_53 : decode cX5_become 53 = .ok (.invokevirtual 29, 3) := by decide +kernel
theorem dX5_become_56 : decode cX5_become 56 = .ok (.istore 4, 2) := by decide +kernel
theorem dX5_become_58 : decode cX5_become 58 = .ok (.aload_n 0, 1) := by decide +kernel
theorem dX5_become_59 : decode cX5_become 59 = .ok (.getfield 21, 3) := by decide +kernel
theorem dX5_become_62 : decode cX5_become 62 = .ok (.iload_n 2, 1) := by decide +kernel
theorem dX5_become_63 : decode cX5_become 63 = .ok (.iconst 2, 1) := by decide +kernel
theorem dX5_become_64 : decode cX5_become 64 = .ok (.invokevirtual 29, 3) := by decide +kernel
theorem dX5_become_67 : decode cX5_become 67 = .ok (.istore 5, 2) := by decide +kernel
theorem dX5_become_69 : decode cX5_become 69 = .ok (.aload_n 0, 1) := by decide +kernel
theorem dX5_become_70 : decode cX5_become 70 = .ok (.iload_n 2, 1) := by decide +kernel
theorem dX5_become_71 : decode cX5_become 71 = .ok (.aload_n 0, 1) := by decide +kernel
theorem dX5_become_72 : decode cX5_become 72 = .ok (.iload_n 1, 1) := by decide +kernel
theorem dX5_become_73 : decode cX5_become 73 = .ok (.iload_n 3, 1) := by decide +kernel
theorem dX5_become_74 : decode cX5_become 74 = .ok (.iload 4, 2) := by decide +kernel
theorem dX5_become_76 : decode cX5_become 76 = .ok (.iload 5, 2) := by decide +kernel
theorem dX5_become_78 : decode cX5_become 78 = .ok (.invokevirtual 41, 3) := by decide +kernel
theorem dX5_become_81 : decode cX5_become 81 = .ok (.invokevirtual 33, 3) := by decide +kernel
theorem dX5_become_84 : decode cX5_become 84 = .ok (.iinc 2 1, 3) := by decide +kernel
theorem dX5_become_87 : decode cX5_become 87 = .ok (.goto (-58), 3) := by decide +kernel
theorem dX5_become_90 : decode cX5_become 90 = .ok (.return_, 1) := by decide +kernel
theorem dX5_madeAnswer_0 : decode cX5_madeAnswer 0 = .ok (.iload_n 1, 1) := by decide +kernel
theorem dX5_madeAnswer_1 : decode cX5_madeAnswer 1 = .ok (.tableswitch 73 0 3 #[31, 37, 43, 62], 31) := by decide +kernel
theorem dX5_madeAnswer_32 : decode cX5_madeAnswer 32 = .ok (.iload_n 2, 1) := by decide +kernel
theorem dX5_madeAnswer_33 : decode cX5_madeAnswer 33 = .ok (.iload_n 3, 1) := by decide +kernel
theorem dX5_madeAnswer_34 : decode cX5_madeAnswer 34 = .ok (.invokestatic 45, 3) := by decide +kernel
theorem dX5_madeAnswer_37 : decode cX5_madeAnswer 37 = .ok (.ireturn, 1) := by decide +kernel
theorem dX5_madeAnswer_38 : decode cX5_madeAnswer 38 = .ok (.iload_n 2, 1) := by decide +kernel
theorem dX5_madeAnswer_39 : decode cX5_madeAnswer 39 = .ok (.iload_n 3, 1) := by decide +kernel
theorem dX5_madeAnswer_40 : decode cX5_madeAnswer 40 = .ok (.invokestatic 50, 3) := by decide +kernel
theorem dX5_madeAnswer_43 : decode cX5_madeAnswer 43 = .ok (.ireturn, 1) := by decide +kernel
theorem dX5_madeAnswer_44 : decode cX5_madeAnswer 44 = .ok (.iload_n 2, 1) := by decide +kernel
theorem dX5_madeAnswer_45 : decode cX5_madeAnswer 45 = .ok (.iload_n 3, 1) := by decide +kernel
theorem dX5_madeAnswer_46 : decode cX5_madeAnswer 46 = .ok (.invokestatic 45, 3) := by decide +kernel
theorem dX5_madeAnswer_49 : decode cX5_madeAnswer 49 = .ok (.iload_n 2, 1) := by decide +kernel
theorem dX5_madeAnswer_50 : decode cX5_madeAnswer 50 = .ok (.iload_n 3, 1) := by decide +kernel
theorem dX5_madeAnswer_51 : decode cX5_madeAnswer 51 = .ok (.invokestatic 50, 3) := by decide +kernel
theorem dX5_madeAnswer_54 : decode cX5_madeAnswer 54 = .ok (.iload 4, 2) := by decide +kernel
theorem dX5_madeAnswer_56 : decode cX5_madeAnswer 56 = .ok (.invokestatic 45, 3) := by decide +kernel
theorem dX5_madeAnswer_59 : decode cX5_madeAnswer 59 = .ok (.invokestatic 50, 3) := by decide +kernel
theorem dX5_madeAnswer_62 : decode cX5_madeAnswer 62 = .ok (.ireturn, 1) := by decide +kernel
theorem dX5_madeAnswer_63 : decode cX5_madeAnswer 63 = .ok (.aload_n 0, 1) := by decide +kernel
theorem dX5_madeAnswer_64 : decode cX5_madeAnswer 64 = .ok (.iload_n 2, 1) := by decide +kernel
theorem dX5_madeAnswer_65 : decode cX5_madeAnswer 65 = .ok (.iload_n 3, 1) := by decide +kernel
theorem dX5_madeAnswer_66 : decode cX5_madeAnswer 66 = .ok (.isub, 1) := by decide +kernel
theorem dX5_madeAnswer_67 : decode cX5_madeAnswer 67 = .ok (.iload 4, 2) := by decide +kernel
theorem dX5_madeAnswer_69 : decode cX5_madeAnswer 69 = .ok (.iadd, 1) := by decide +kernel
theorem dX5_madeAnswer_70 : decode cX5_madeAnswer 70 = .ok (.invokevirtual 53, 3) := by decide +kernel
theorem dX5_madeAnswer_73 : decode cX5_madeAnswer 73 = .ok (.ireturn, 1) := by decide +kernel
theorem dX5_madeAnswer_74 : decode cX5_madeAnswer 74 = .ok (.aload_n 0, 1) := by decide +kernel
theorem dX5_madeAnswer_75 : decode cX5_madeAnswer 75 = .ok (.iload_n 2, 1) := by decide +kernel
theorem dX5_madeAnswer_76 : decode cX5_madeAnswer 76 = .ok (.iconst 1, 1) := by decide +kernel
theorem dX5_madeAnswer_77 : decode cX5_madeAnswer 77 = .ok (.iadd, 1) := by decide +kernel
theorem dX5_madeAnswer_78 : decode cX5_madeAnswer 78 = .ok (.invokevirtual 53, 3) := by decide +kernel
theorem dX5_madeAnswer_81 : decode cX5_madeAnswer 81 = .ok (.ireturn, 1) := by decide +kernel
theorem dX5_remainder_0 : decode cX5_remainder 0 = .ok (.iload_n 1, 1) := by decide +kernel
theorem dX5_remainder_1 : decode cX5_remainder 1 = .ok (.ifCond .ge 15, 3) := by decide +kernel
theorem dX5_remainder_4 : decode cX5_remainder 4 = .ok (.iload_n 1, 1) := by decide +kernel
theorem dX5_remainder_5 : decode cX5_remainder 5 = .ok (.aload_n 0, 1) := by decide +kernel
theorem dX5_remainder_6 : decode cX5_remainder 6 = .ok (.getfield 21, 3) := by decide +kernel
theorem dX5_remainder_9 : decode cX5_remainder 9 = .ok (.getfield 57, 3) := by decide +kernel
theorem dX5_remainder_12 : decode cX5_remainder 12 = .ok (.iadd, 1) := by decide +kernel
theorem dX5_remainder_13 : decode cX5_remainder 13 = .ok (.goto 27, 3) := by decide +kernel
theorem dX5_remainder_16 : decode cX5_remainder 16 = .ok (.iload_n 1, 1) := by decide +kernel
theorem dX5_remainder_17 : decode cX5_remainder 17 = .ok (.aload_n 0, 1) := by decide +kernel
theorem dX5_remainder_18 : decode cX5_remainder 18 = .ok (.getfield 21, 3) := by decide +kernel
theorem dX5_remainder_21 : decode cX5_remainder 21 = .ok (.getfield 57, 3) := by decide +kernel
theorem dX5_remainder_24 : decode cX5_remainder 24 = .ok (.if_icmp .lt 15, 3) := by decide +kernel
theorem dX5_remainder_27 : decode cX5_remainder 27 = .ok (.iload_n 1, 1) := by decide +kernel
theorem dX5_remainder_28 : decode cX5_remainder 28 = .ok (.aload_n 0, 1) := by decide +kernel
theorem dX5_remainder_29 : decode cX5_remainder 29 = .ok (.getfield 21, 3) := by decide +kernel
theorem dX5_remainder_32 : decode cX5_remainder 32 = .ok (.getfield 57, 3) := by decide +kernel
theorem dX5_remainder_35 : decode cX5_remainder 35 = .ok (.isub, 1) := by decide +kernel
theorem dX5_remainder_36 : decode cX5_remainder 36 = .ok (.goto 4, 3) := by decide +kernel
theorem dX5_remainder_39 : decode cX5_remainder 39 = .ok (.iload_n 1, 1) := by decide +kernel
theorem dX5_remainder_40 : decode cX5_remainder 40 = .ok (.ireturn, 1) := by decide +kernel
theorem dX5_becomeUnary_0 : decode cX5_becomeUnary 0 = .ok (.aload_n 0, 1) := by decide +kernel
theorem dX5_becomeUnary_1 : decode cX5_becomeUnary 1 = .ok (.iconst 1, 1) := by decide +kernel
theorem dX5_becomeUnary_2 : decode cX5_becomeUnary 2 = .ok (.invokevirtual 37, 3) := by decide +kernel
theorem dX5_becomeUnary_5 : decode cX5_becomeUnary 5 = .ok (.iconst 0, 1) := by decide +kernel
theorem dX5_becomeUnary_6 : decode cX5_becomeUnary 6 = .ok (.istore_n 2, 1) := by decide +kernel
theorem dX5_becomeUnary_7 : decode cX5_becomeUnary 7 = .ok (.iload_n 2, 1) := by decide +kernel
theorem dX5_becomeUnary_8 : decode cX5_becomeUnary 8 = .ok (.aload_n 0, 1) := by decide +kernel
theorem dX5_becomeUnary_9 : decode cX5_becomeUnary 9 = .ok (.invokevirtual 25, 3) := by decide +kernel
theorem dX5_becomeUnary_12 : decode cX5_becomeUnary 12 = .ok (.if_icmp .ge 23, 3) := by decide +kernel
theorem dX5_becomeUnary_15 : decode cX5_becomeUnary 15 = .ok (.aload_n 0, 1) := by decide +kernel
theorem dX5_becomeUnary_16 : decode cX5_becomeUnary 16 = .ok (.iload_n 2, 1) := by decide +kernel
theorem dX5_becomeUnary_17 : decode cX5_becomeUnary 17 = .ok (.aload_n 0, 1) := by decide +kernel
theorem dX5_becomeUnary_18 : decode cX5_becomeUnary 18 = .ok (.getfield 21, 3) := by decide +kernel
theorem dX5_becomeUnary_21 : decode cX5_becomeUnary 21 = .ok (.iload_n 1, 1) := by decide +kernel
theorem dX5_becomeUnary_22 : decode cX5_becomeUnary 22 = .ok (.iload_n 2, 1) := by decide +kernel
theorem dX5_becomeUnary_23 : decode cX5_becomeUnary 23 = .ok (.invokevirtual 29, 3) := by decide +kernel
theorem dX5_becomeUnary_26 : decode cX5_becomeUnary 26 = .ok (.invokevirtual 33, 3) := by decide +kernel
theorem dX5_becomeUnary_29 : decode cX5_becomeUnary 29 = .ok (.iinc 2 1, 3) := by decide +kernel
theorem dX5_becomeUnary_32 : decode cX5_becomeUnary 32 = .ok (.goto (-25), 3) := by decide +kernel
theorem dX5_becomeUnary_35 : decode cX5_becomeUnary 35 = .ok (.return_, 1) := by decide +kernel
theorem dX5_placeCount_0 : decode cX5_placeCount 0 = .ok (.aload_n 0, 1) := by decide +kernel
theorem dX5_placeCount_1 : decode cX5_placeCount 1 = .ok (.getfield 9, 3) := by decide +kernel
theorem dX5_placeCount_4 : decode cX5_placeCount 4 = .ok (.ireturn, 1) := by decide +kernel
theorem dX5_points_0 : decode cX5_points 0 = .ok (.aload_n 0, 1) := by decide +kernel
theorem dX5_points_1 : decode cX5_points 1 = .ok (.getfield 21, 3) := by decide +kernel
theorem dX5_points_4 : decode cX5_points 4 = .ok (.aload_n 0, 1) := by decide +kernel
theorem dX5_points_5 : decode cX5_points 5 = .ok (.getfield 9, 3) := by decide +kernel
theorem dX5_points_8 : decode cX5_points 8 = .ok (.invokevirtual 60, 3) := by decide +kernel
theorem dX5_points_11 : decode cX5_points 11 = .ok (.ireturn, 1) := by decide +kernel
theorem dX5_answerAt_0 : decode cX5_answerAt 0 = .ok (.aload_n 0, 1) := by decide +kernel
theorem dX5_answerAt_1 : decode cX5_answerAt 1 = .ok (.getfield 17, 3) := by decide +kernel
theorem dX5_answerAt_4 : decode cX5_answerAt 4 = .ok (.iload_n 1, 1) := by decide +kernel
theorem dX5_answerAt_5 : decode cX5_answerAt 5 = .ok (.invokestatic 63, 3) := by decide +kernel
theorem dX5_answerAt_8 : decode cX5_answerAt 8 = .ok (.ireturn, 1) := by decide +kernel
theorem dX5_setAnswer_0 : decode cX5_setAnswer 0 = .ok (.aload_n 0, 1) := by decide +kernel
theorem dX5_setAnswer_1 : decode cX5_setAnswer 1 = .ok (.getfield 17, 3) := by decide +kernel
theorem dX5_setAnswer_4 : decode cX5_setAnswer 4 = .ok (.iload_n 1, 1) := by decide +kernel
theorem dX5_setAnswer_5 : decode cX5_setAnswer 5 = .ok (.iload_n 2, 1) := by decide +kernel
theorem dX5_setAnswer_6 : decode cX5_setAnswer 6 = .ok (.invokestatic 67, 3) := by decide +kernel
theorem dX5_setAnswer_9 : decode cX5_setAnswer 9 = .ok (.return_, 1) := by decide +kernel
theorem dX5_answerFor_0 : decode cX5_answerFor 0 = .ok (.aload_n 0, 1) := by decide +kernel
theorem dX5_answerFor_1 : decode cX5_answerFor 1 = .ok (.aload_n 0, 1) := by decide +kernel
theorem dX5_answerFor_2 : decode cX5_answerFor 2 = .ok (.iload_n 1, 1) := by decide +kernel
theorem dX5_answerFor_3 : decode cX5_answerFor 3 = .ok (.iload_n 2, 1) := by decide +kernel
theorem dX5_answerFor_4 : decode cX5_answerFor 4 = .ok (.iload_n 3, 1) := by decide +kernel
theorem dX5_answerFor_5 : decode cX5_answerFor 5 = .ok (.invokevirtual 71, 3) := by decide +kernel
theorem dX5_answerFor_8 : decode cX5_answerFor 8 = .ok (.invokevirtual 75, 3) := by decide +kernel
theorem dX5_answerFor_11 : decode cX5_answerFor 11 = .ok (.ireturn, 1) := by decide +kernel
theorem dX5_pointOf_0 : decode cX5_pointOf 0 = .ok (.iload_n 1, 1) := by decide +kernel
theorem dX5_pointOf_1 : decode cX5_pointOf 1 = .ok (.istore 4, 2) := by decide +kernel
theorem dX5_pointOf_3 : decode cX5_pointOf 3 = .ok (.aload_n 0, 1) := by decide +kernel
theorem dX5_pointOf_4 : decode cX5_pointOf 4 = .ok (.getfield 9, 3) := by decide +kernel
theorem dX5_pointOf_7 : decode cX5_pointOf 7 = .ok (.iconst 1, 1) := by decide +kernel
theorem dX5_pointOf_8 : decode cX5_pointOf 8 = .ok (.if_icmp .le 18, 3) := by decide +kernel
theorem dX5_pointOf_11 : decode cX5_pointOf 11 = .ok (.iload 4, 2) := by decide +kernel
theorem dX5_pointOf_13 : decode cX5_pointOf 13 = .ok (.aload_n 0, 1) := by decide +kernel
theorem dX5_pointOf_14 : decode cX5_pointOf 14 = .ok (.getfield 21, 3) := by decide +kernel
theorem dX5_pointOf_17 : decode cX5_pointOf 17 = .ok (.iconst 1, 1) := by decide +kernel
theorem dX5_pointOf_18 : decode cX5_pointOf 18 = .ok (.invokevirtual 60, 3) := by decide +kernel
theorem dX5_pointOf_21 : decode cX5_pointOf 21 = .ok (.iload_n 2, 1) := by decide +kernel
theorem dX5_pointOf_22 : decode cX5_pointOf 22 = .ok (.imul, 1) := by decide +kernel
theorem dX5_pointOf_23 : decode cX5_pointOf 23 = .ok (.iadd, 1) := by decide +kernel
theorem dX5_pointOf_24 : decode cX5_pointOf 24 = .ok (.istore 4, 2) := by decide +kernel
theorem dX5_pointOf_26 : decode cX5_pointOf 26 = .ok (.aload_n 0, 1) := by decide +kernel
theorem dX5_pointOf_27 : decode cX5_pointOf 27 = .ok (.getfield 9, 3) := by decide +kernel
theorem dX5_pointOf_30 : decode cX5_pointOf 30 = .ok (.iconst 2, 1) := by decide +kernel
theorem dX5_pointOf_31 : decode cX5_pointOf 31 = .ok (.if_icmp .le 18, 3) := by decide +kernel
theorem dX5_pointOf_34 : decode cX5_pointOf 34 = .ok (.iload 4, 2) := by decide +kernel
theorem dX5_pointOf_36 : decode cX5_pointOf 36 = .ok (.aload_n 0, 1) := by decide +kernel
theorem dX5_pointOf_37 : decode cX5_pointOf 37 = .ok (.getfield 21, 3) := by decide +kernel
theorem dX5_pointOf_40 : decode cX5_pointOf 40 = .ok (.iconst 2, 1) := by decide +kernel
theorem dX5_pointOf_41 : decode cX5_pointOf 41 = .ok (.invokevirtual 60, 3) := by decide +kernel
theorem dX5_pointOf_44 : decode cX5_pointOf 44 = .ok (.iload_n 3, 1) := by decide +kernel
theorem dX5_pointOf_45 : decode cX5_pointOf 45 = .ok (.imul, 1) := by decide +kernel
theorem dX5_pointOf_46 : decode cX5_pointOf 46 = .ok (.iadd, 1) := by decide +kernel
theorem dX5_pointOf_47 : decode cX5_pointOf 47 = .ok (.istore 4, 2) := by decide +kernel
theorem dX5_pointOf_49 : decode cX5_pointOf 49 = .ok (.iload 4, 2) := by decide +kernel
theorem dX5_pointOf_51 : decode cX5_pointOf 51 = .ok (.ireturn, 1) := by decide +kernel
theorem dX5_answerTuple_0 : decode cX5_answerTuple 0 = .ok (.iconst 0, 1) := by decide +kernel
theorem dX5_answerTuple_1 : decode cX5_answerTuple 1 = .ok (.istore_n 3, 1) := by decide +kernel
theorem dX5_answerTuple_2 : decode cX5_answerTuple 2 = .ok (.iload_n 2, 1) := by decide +kernel
theorem dX5_answerTuple_3 : decode cX5_answerTuple 3 = .ok (.iconst 1, 1) := by decide +kernel
theorem dX5_answerTuple_4 : decode cX5_answerTuple 4 = .ok (.isub, 1) := by decide +kernel
theorem dX5_answerTuple_5 : decode cX5_answerTuple 5 = .ok (.istore 4, 2) := by decide +kernel
theorem dX5_answerTuple_7 : decode cX5_answerTuple 7 = .ok (.iload 4, 2) := by decide +kernel
theorem dX5_answerTuple_9 : decode cX5_answerTuple 9 = .ok (.ifCond .lt 37, 3) := by decide +kernel
theorem dX5_answerTuple_12 : decode cX5_answerTuple 12 = .ok (.iload_n 3, 1) := by decide +kernel
theorem dX5_answerTuple_13 : decode cX5_answerTuple 13 = .ok (.aload_n 0, 1) := by decide +kernel
theorem dX5_answerTuple_14 : decode cX5_answerTuple 14 = .ok (.getfield 21, 3) := by decide +kernel
theorem dX5_answerTuple_17 : decode cX5_answerTuple 17 = .ok (.getfield 57, 3) := by decide +kernel
theorem dX5_answerTuple_20 : decode cX5_answerTuple 20 = .ok (.imul, 1) := by decide +kernel
theorem dX5_answerTuple_21 : decode cX5_answerTuple 21 = .ok (.aload_n 0, 1) := by decide +kernel
theorem dX5_answerTuple_22 : decode cX5_answerTuple 22 = .ok (.getfield 17, 3) := by decide +kernel
theorem dX5_answerTuple_25 : decode cX5_answerTuple 25 = .ok (.aload_n 0, 1) := by decide +kernel
theorem dX5_answerTuple_26 : decode cX5_answerTuple 26 = .ok (.getfield 21, 3) := by decide +kernel
theorem dX5_answerTuple_29 : decode cX5_answerTuple 29 = .ok (.iload_n 1, 1) := by decide +kernel
theorem dX5_answerTuple_30 : decode cX5_answerTuple 30 = .ok (.iload 4, 2) := by decide +kernel
theorem dX5_answerTuple_32 : decode cX5_answerTuple 32 = .ok (.invokevirtual 78, 3) := by decide +kernel
theorem dX5_answerTuple_35 : decode cX5_answerTuple 35 = .ok (.invokestatic 63, 3) := by decide +kernel
theorem dX5_answerTuple_38 : decode cX5_answerTuple 38 = .ok (.iadd, 1) := by decide +kernel
theorem dX5_answerTuple_39 : decode cX5_answerTuple 39 = .ok (.istore_n 3, 1) := by decide +kernel
theorem dX5_answerTuple_40 : decode cX5_answerTuple 40 = .ok (.iinc 4 (-1), 3) := by decide +kernel
theorem dX5_answerTuple_43 : decode cX5_answerTuple 43 = .ok (.goto (-36), 3) := by decide +kernel
theorem dX5_answerTuple_46 : decode cX5_answerTuple 46 = .ok (.iload_n 3, 1) := by decide +kernel
theorem dX5_answerTuple_47 : decode cX5_answerTuple 47 = .ok (.ireturn, 1) := by decide +kernel
theorem dX5_wholeCode_0 : decode cX5_wholeCode 0 = .ok (.lconst 0, 1) := by decide +kernel
theorem dX5_wholeCode_1 : decode cX5_wholeCode 1 = .ok (.lstore_n 1, 1) := by decide +kernel
theorem dX5_wholeCode_2 : decode cX5_wholeCode 2 = .ok (.aload_n 0, 1) := by decide +kernel
theorem dX5_wholeCode_3 : decode cX5_wholeCode 3 = .ok (.invokevirtual 25, 3) := by decide +kernel
theorem dX5_wholeCode_6 : decode cX5_wholeCode 6 = .ok (.iconst 1, 1) := by decide +kernel
theorem dX5_wholeCode_7 : decode cX5_wholeCode 7 = .ok (.isub, 1) := by decide +kernel
theorem dX5_wholeCode_8 : decode cX5_wholeCode 8 = .ok (.istore_n 3, 1) := by decide +kernel
theorem dX5_wholeCode_9 : decode cX5_wholeCode 9 = .ok (.iload_n 3, 1) := by decide +kernel
theorem dX5_wholeCode_10 : decode cX5_wholeCode 10 = .ok (.ifCond .lt 27, 3) := by decide +kernel
theorem dX5_wholeCode_13 : decode cX5_wholeCode 13 = .ok (.lload_n 1, 1) := by decide +kernel
theorem dX5_wholeCode_14 : decode cX5_wholeCode 14 = .ok (.aload_n 0, 1) := by decide +kernel
theorem dX5_wholeCode_15 : decode cX5_wholeCode 15 = .ok (.getfield 21, 3) := by decide +kernel
theorem dX5_wholeCode_18 : decode cX5_wholeCode 18 = .ok (.getfield 57, 3) := by decide +kernel
theorem dX5_wholeCode_21 : decode cX5_wholeCode 21 = .ok (.i2l, 1) := by decide +kernel
theorem dX5_wholeCode_22 : decode cX5_wholeCode 22 = .ok (.lmul, 1) := by decide +kernel
theorem dX5_wholeCode_23 : decode cX5_wholeCode 23 = .ok (.aload_n 0, 1) := by decide +kernel
theorem dX5_wholeCode_24 : decode cX5_wholeCode 24 = .ok (.iload_n 3, 1) := by decide +kernel
theorem dX5_wholeCode_25 : decode cX5_wholeCode 25 = .ok (.invokevirtual 75, 3) := by decide +kernel
theorem dX5_wholeCode_28 : decode cX5_wholeCode 28 = .ok (.i2l, 1) := by decide +kernel
theorem dX5_wholeCode_29 : decode cX5_wholeCode 29 = .ok (.ladd, 1) := by decide +kernel
theorem dX5_wholeCode_30 : decode cX5_wholeCode 30 = .ok (.lstore_n 1, 1) := by decide +kernel
theorem dX5_wholeCode_31 : decode cX5_wholeCode 31 = .ok (.iinc 3 (-1), 3) := by decide +kernel
theorem dX5_wholeCode_34 : decode cX5_wholeCode 34 = .ok (.goto (-25), 3) := by decide +kernel
theorem dX5_wholeCode_37 : decode cX5_wholeCode 37 = .ok (.lload_n 1, 1) := by decide +kernel
theorem dX5_wholeCode_38 : decode cX5_wholeCode 38 = .ok (.lreturn, 1) := by decide +kernel
theorem dX5_isAssociative_0 : decode cX5_isAssociative 0 = .ok (.aload_n 0, 1) := by decide +kernel
theorem dX5_isAssociative_1 : decode cX5_isAssociative 1 = .ok (.getfield 9, 3) := by decide +kernel
theorem dX5_isAssociative_4 : decode cX5_isAssociative 4 = .ok (.iconst 2, 1) := by decide +kernel
theorem dX5_isAssociative_5 : decode cX5_isAssociative 5 = .ok (.if_icmp .eq 5, 3) := by decide +kernel
theorem dX5_isAssociative_8 : decode cX5_isAssociative 8 = .ok (.iconst 0, 1) := by decide +kernel
theorem dX5_isAssociative_9 : decode cX5_isAssociative 9 = .ok (.ireturn, 1) := by decide +kernel
theorem dX5_isAssociative_10 : decode cX5_isAssociative 10 = .ok (.iconst 0, 1) := by decide +kernel
theorem dX5_isAssociative_11 : decode cX5_isAssociative 11 = .ok (.istore_n 1, 1) := by decide +kernel
theorem dX5_isAssociative_12 : decode cX5_isAssociative 12 = .ok (.iload_n 1, 1) := by decide +kernel
theorem dX5_isAssociative_13 : decode cX5_isAssociative 13 = .ok (.aload_n 0, 1) := by decide +kernel
theorem dX5_isAssociative_14 : decode cX5_isAssociative 14 = .ok (.getfield 21, 3) := by decide +kernel
theorem dX5_isAssociative_17 : decode cX5_isAssociative 17 = .ok (.iconst 3, 1) := by decide +kernel
theorem dX5_isAssociative_18 : decode cX5_isAssociative 18 = .ok (.invokevirtual 60, 3) := by decide +kernel
theorem dX5_isAssociative_21 : decode cX5_isAssociative 21 = .ok (.if_icmp .ge 73, 3) := by decide +kernel
theorem dX5_isAssociative_24 : decode cX5_isAssociative 24 = .ok (.aload_n 0, 1) := by decide +kernel
theorem dX5_isAssociative_25 : decode cX5_isAssociative 25 = .ok (.getfield 21, 3) := by decide +kernel
theorem dX5_isAssociative_28 : decode cX5_isAssociative 28 = .ok (.iload_n 1, 1) := by decide +kernel
theorem dX5_isAssociative_29 : decode cX5_isAssociative 29 = .ok (.iconst 0, 1) := by decide +kernel
theorem dX5_isAssociative_30 : decode cX5_isAssociative 30 = .ok (.invokevirtual 29, 3) := by decide +kernel
theorem dX5_isAssociative_33 : decode cX5_isAssociative 33 = .ok (.istore_n 2, 1) := by decide +kernel
theorem dX5_isAssociative_34 : decode cX5_isAssociative 34 = .ok (.aload_n 0, 1) := by decide +kernel
theorem dX5_isAssociative_35 : decode cX5_isAssociative 35 = .ok (.getfield 21, 3) := by decide +kernel
theorem dX5_isAssociative_38 : decode cX5_isAssociative 38 = .ok (.iload_n 1, 1) := by decide +kernel
theorem dX5_isAssociative_39 : decode cX5_isAssociative 39 = .ok (.iconst 1, 1) := by decide +kernel
theorem dX5_isAssociative_40 : decode cX5_isAssociative 40 = .ok (.invokevirtual 29, 3) := by decide +kernel
theorem dX5_isAssociative_43 : decode cX5_isAssociative 43 = .ok (.istore_n 3, 1) := by decide +kernel
theorem dX5_isAssociative_44 : decode cX5_isAssociative 44 = .ok (.aload_n 0, 1) := by decide +kernel
theorem dX5_isAssociative_45 : decode cX5_isAssociative 45 = .ok (.getfield 21, 3) := by decide +kernel
theorem dX5_isAssociative_48 : decode cX5_isAssociative 48 = .ok (.iload_n 1, 1) := by decide +kernel
theorem dX5_isAssociative_49 : decode cX5_isAssociative 49 = .ok (.iconst 2, 1) := by decide +kernel
theorem dX5_isAssociative_50 : decode cX5_isAssociative 50 = .ok (.invokevirtual 29, 3) := by decide +kernel
theorem dX5_isAssociative_53 : decode cX5_isAssociative 53 = .ok (.istore 4, 2) := by decide +kernel
theorem dX5_isAssociative_55 : decode cX5_isAssociative 55 = .ok (.aload_n 0, 1) := by decide +kernel
theorem dX5_isAssociative_56 : decode cX5_isAssociative 56 = .ok (.iload_n 2, 1) := by decide +kernel
theorem dX5_isAssociative_57 : decode cX5_isAssociative 57 = .ok (.aload_n 0, 1) := by decide +kernel
theorem dX5_isAssociative_58 : decode cX5_isAssociative 58 = .ok (.iload_n 3, 1) := by decide +kernel
theorem dX5_isAssociative_59 : decode cX5_isAssociative 59 = .ok (.iload 4, 2) := by decide +kernel
theorem dX5_isAssociative_61 : decode cX5_isAssociative 61 = .ok (.iconst 0, 1) := by decide +kernel
theorem dX5_isAssociative_62 : decode cX5_isAssociative 62 = .ok (.invokevirtual 81, 3) := by decide +kernel
theorem dX5_isAssociative_65 : decode cX5_isAssociative 65 = .ok (.iconst 0, 1) := by decide +kernel
theorem dX5_isAssociative_66 : decode cX5_isAssociative 66 = .ok (.invokevirtual 81, 3) := by decide +kernel
theorem dX5_isAssociative_69 : decode cX5_isAssociative 69 = .ok (.aload_n 0, 1) := by decide +kernel
theorem dX5_isAssociative_70 : decode cX5_isAssociative 70 = .ok (.aload_n 0, 1) := by decide +kernel
theorem dX5_isAssociative_71 : decode cX5_isAssociative 71 = .ok (.iload_n 2, 1) := by decide +kernel
theorem dX5_isAssociative_72 : decode cX5_isAssociative 72 = .ok (.iload_n 3, 1) := by decide +kernel
theorem dX5_isAssociative_73 : decode cX5_isAssociative 73 = .ok (.iconst 0, 1) := by decide +kernel
theorem dX5_isAssociative_74 : decode cX5_isAssociative 74 = .ok (.invokevirtual 81, 3) := by decide +kernel
theorem dX5_isAssociative_77 : decode cX5_isAssociative 77 = .ok (.iload 4, 2) := by decide +kernel
theorem dX5_isAssociative_79 : decode cX5_isAssociative 79 = .ok (.iconst 0, 1) := by decide +kernel
theorem dX5_isAssociative_80 : decode cX5_isAssociative 80 = .ok (.invokevirtual 81, 3) := by decide +kernel
theorem dX5_isAssociative_83 : decode cX5_isAssociative 83 = .ok (.if_icmp .eq 5, 3) := by decide +kernel
theorem dX5_isAssociative_86 : decode cX5_isAssociative 86 = .ok (.iconst 0, 1) := by decide +kernel
theorem dX5_isAssociative_87 : decode cX5_isAssociative 87 = .ok (.ireturn, 1) := by decide +kernel
theorem dX5_isAssociative_88 : decode cX5_isAssociative 88 = .ok (.iinc 1 1, 3) := by decide +kernel
theorem dX5_isAssociative_91 : decode cX5_isAssociative 91 = .ok (.goto (-79), 3) := by decide +kernel
theorem dX5_isAssociative_94 : decode cX5_isAssociative 94 = .ok (.iconst 1, 1) := by decide +kernel
theorem dX5_isAssociative_95 : decode cX5_isAssociative 95 = .ok (.ireturn, 1) := by decide +kernel
theorem dX6_init_0 : decode cX6_init 0 = .ok (.aload_n 0, 1) := by decide +kernel
theorem dX6_init_1 : decode cX6_init 1 = .ok (.invokespecial 3, 3) := by decide +kernel
theorem dX6_init_4 : decode cX6_init 4 = .ok (.aload_n 0, 1) := by decide +kernel
theorem dX6_init_5 : decode cX6_init 5 = .ok (.bipush 6, 2) := by decide +kernel
theorem dX6_init_7 : decode cX6_init 7 = .ok (.anewarray 9, 3) := by decide +kernel
theorem dX6_init_10 : decode cX6_init 10 = .ok (.putfield 11, 3) := by decide +kernel
theorem dX6_init_13 : decode cX6_init 13 = .ok (.aload_n 0, 1) := by decide +kernel
theorem dX6_init_14 : decode cX6_init 14 = .ok (.sipush 512, 3) := by decide +kernel
theorem dX6_init_17 : decode cX6_init 17 = .ok (.newarray .int, 2) := by decide +kernel
theorem dX6_init_19 : decode cX6_init 19 = .ok (.putfield 17, 3) := by decide +kernel
theorem dX6_init_22 : decode cX6_init 22 = .ok (.aload_n 0, 1) := by decide +kernel
theorem dX6_init_23 : decode cX6_init 23 = .ok (.aload_n 1, 1) := by decide +kernel
theorem dX6_init_24 : decode cX6_init 24 = .ok (.putfield 21, 3) := by decide +kernel
theorem dX6_init_27 : decode cX6_init 27 = .ok (.aload_n 0, 1) := by decide +kernel
theorem dX6_init_28 : decode cX6_init 28 = .ok (.aload_n 2, 1) := by decide +kernel
theorem dX6_init_29 : decode cX6_init 29 = .ok (.putfield 25, 3) := by decide +kernel
theorem dX6_init_32 : decode cX6_init 32 = .ok (.iconst 0, 1) := by decide +kernel
theorem dX6_init_33 : decode cX6_init 33 = .ok (.istore_n 3, 1) := by decide +kernel
theorem dX6_init_34 : decode cX6_init 34 = .ok (.iload_n 3, 1) := by decide +kernel
theorem dX6_init_35 : decode cX6_init 35 = .ok (.aload_n 0, 1) := by decide +kernel
theorem dX6_init_36 : decode cX6_init 36 = .ok (.getfield 11, 3) := by decide +kernel
theorem dX6_init_39 : decode cX6_init 39 = .ok (.arraylength, 1) := by decide +kernel
theorem dX6_init_40 : decode cX6_init 40 = .ok (.if_icmp .ge 23, 3) := by decide +kernel
theorem dX6_init_43 : decode cX6_init 43 = .ok (.aload_n 0, 1) := by decide +kernel
theorem dX6_init_44 : decode cX6_init 44 = .ok (.getfield 11, 3) := by decide +kernel
theorem dX6_init_47 : decode cX6_init 47 = .ok (.iload_n 3, 1) := by decide +kernel
theorem dX6_init_48 : decode cX6_init 48 = .ok (.new 9, 3) := by decide +kernel
theorem dX6_init_51 : decode cX6_init 51 = .ok (.dup, 1) := by decide +kernel
theorem dX6_init_52 : decode cX6_init 52 = .ok (.aload_n 1, 1) := by decide +kernel
theorem dX6_init_53 : decode cX6_init 53 = .ok (.invokespecial 29, 3) := by decide +kernel
theorem dX6_init_56 : decode cX6_init 56 = .ok (.aastore, 1) := by decide +kernel
theorem dX6_init_57 : decode cX6_init 57 = .ok (.iinc 3 1, 3) := by decide +kernel
theorem dX6_init_60 : decode cX6_init 60 = .ok (.goto (-26), 3) := by decide +kernel
theorem dX6_init_63 : decode cX6_init 63 = .ok (.return_, 1) := by decide +kernel
theorem dX6_get_0 : decode cX6_get 0 = .ok (.iload_n 1, 1) := by decide +kernel
theorem dX6_get_1 : decode cX6_get 1 = .ok (.ifCond .lt 29, 3) := by decide +kernel
theorem dX6_get_4 : decode cX6_get 4 = .ok (.iload_n 1, 1) := by decide +kernel
theorem dX6_get_5 : decode cX6_get 5 = .ok (.aload_n 0, 1) := by decide +kernel
theorem dX6_get_6 : decode cX6_get 6 = .ok (.getfield 32, 3) := by decide +kernel
theorem dX6_get_9 : decode cX6_get 9 = .ok (.if_icmp .ge 21, 3) := by decide +kernel
theorem dX6_get_12 : decode cX6_get 12 = .ok (.iload_n 1, 1) := by decide +kernel
theorem dX6_get_13 : decode cX6_get 13 = .ok (.aload_n 0, 1) := by decide +kernel
theorem dX6_get_14 : decode cX6_get 14 = .ok (.getfield 11, 3) := by decide +kernel
theorem dX6_get_17 : decode cX6_get 17 = .ok (.arraylength, 1) := by decide +kernel
theorem dX6_get_18 : decode cX6_get 18 = .ok (.if_icmp .ge 12, 3) := by decide +kernel
theorem dX6_get_21 : decode cX6_get 21 = .ok (.aload_n 0, 1) := by decide +kernel
theorem dX6_get_22 : decode cX6_get 22 = .ok (.getfield 11, 3) := by decide +kernel
theorem dX6_get_25 : decode cX6_get 25 = .ok (.iload_n 1, 1) := by decide +kernel
theorem dX6_get_26 : decode cX6_get 26 = .ok (.aaload, 1) := by decide +kernel
theorem dX6_get_27 : decode cX6_get 27 = .ok (.goto 4, 3) := by decide +kernel
theorem dX6_get_30 : decode cX6_get 30 = .ok (.aconst_null, 1) := by decide +kernel
theorem dX6_get_31 : decode cX6_get 31 = .ok (.areturn, 1) := by decide +kernel
theorem dX6_add_0 : decode cX6_add 0 = .ok (.aload_n 0, 1) := by decide +kernel
theorem dX6_add_1 : decode cX6_add 1 = .ok (.getfield 32, 3) := by decide +kernel
theorem dX6_add_4 : decode cX6_add 4 = .ok (.istore_n 2, 1) := by decide +kernel
theorem dX6_add_5 : decode cX6_add 5 = .ok (.aload_n 0, 1) := by decide +kernel
theorem dX6_add_6 : decode cX6_add 6 = .ok (.dup, 1) := by decide +kernel
theorem dX6_add_7 : decode cX6_add 7 = .ok (.getfield 32, 3) := by decide +kernel
theorem dX6_add_10 : decode cX6_add 10 = .ok (.iconst 1, 1) := by decide +kernel
theorem dX6_add_11 : decode cX6_add 11 = .ok (.iadd, 1) := by decide +kernel
theorem dX6_add_12 : decode cX6_add 12 = .ok (.putfield 32, 3) := by decide +kernel
theorem dX6_add_15 : decode cX6_add 15 = .ok (.aload_n 0, 1) := by decide +kernel
theorem dX6_add_16 : decode cX6_add 16 = .ok (.iload_n 2, 1) := by decide +kernel
theorem dX6_add_17 : decode cX6_add 17 = .ok (.invokevirtual 36, 3) := by decide +kernel
theorem dX6_add_20 : decode cX6_add 20 = .ok (.astore_n 3, 1) := by decide +kernel
theorem dX6_add_21 : decode cX6_add 21 = .ok (.aload_n 3, 1) := by decide +kernel
theorem dX6_add_22 : decode cX6_add 22 = .ok (.ifnull 8, 3) := by decide +kernel
theorem dX6_add_25 : decode cX6_add 25 = .ok (.aload_n 3, 1) := by decide +kernel
theorem dX6_add_26 : decode cX6_add 26 = .ok (.iload_n 1, 1) := by decide +kernel
theorem dX6_add_27 : decode cX6_add 27 = .ok (.invokevirtual 40, 3) := by decide +kernel
theorem dX6_add_30 : decode cX6_add 30 = .ok (.iload_n 2, 1) := by decide +kernel
theorem dX6_add_31 : decode cX6_add 31 = .ok (.ireturn, 1) := by decide +kernel
theorem dX6_addMade_0 : decode cX6_addMade 0 = .ok (.aload_n 0, 1) := by decide +kernel
theorem dX6_addMade_1 : decode cX6_addMade 1 = .ok (.getfield 32, 3) := by decide +kernel
theorem dX6_addMade_4 : decode cX6_addMade 4 = .ok (.istore_n 2, 1) := by decide +kernel
theorem dX6_addMade_5 : decode cX6_addMade 5 = .ok (.aload_n 0, 1) := by decide +kernel
theorem dX6_addMade_6 : decode cX6_addMade 6 = .ok (.dup, 1) := by decide +kernel
theorem dX6_addMade_7 : decode cX6_addMade 7 = .ok (.getfield 32, 3) := by decide +kernel
theorem dX6_addMade_10 : decode cX6_addMade 10 = .ok (.iconst 1, 1) := by decide +kernel
theorem dX6_addMade_11 : decode cX6_addMade 11 = .ok (.iadd, 1) := by decide +kernel
theorem dX6_addMade_12 : decode cX6_addMade 12 = .ok (.putfield 32, 3) := by decide +kernel
theorem dX6_addMade_15 : decode cX6_addMade 15 = .ok (.aload_n 0, 1) := by decide +kernel
theorem dX6_addMade_16 : decode cX6_addMade 16 = .ok (.iload_n 2, 1) := by decide +kernel
theorem dX6_addMade_17 : decode cX6_addMade 17 = .ok (.invokevirtual 36, 3) := by decide +kernel
theorem dX6_addMade_20 : decode cX6_addMade 20 = .ok (.astore_n 3, 1) := by decide +kernel
theorem dX6_addMade_21 : decode cX6_addMade 21 = .ok (.aload_n 3, 1) := by decide +kernel
theorem dX6_addMade_22 : decode cX6_addMade 22 = .ok (.ifnull 8, 3) := by decide +kernel
theorem dX6_addMade_25 : decode cX6_addMade 25 = .ok (.aload_n 3, 1) := by decide +kernel
theorem dX6_addMade_26 : decode cX6_addMade 26 = .ok (.iload_n 1, 1) := by decide +kernel
theorem dX6_addMade_27 : decode cX6_addMade 27 = .ok (.invokevirtual 44, 3) := by decide +kernel
theorem dX6_addMade_30 : decode cX6_addMade 30 = .ok (.iload_n 2, 1) := by decide +kernel
theorem dX6_addMade_31 : decode cX6_addMade 31 = .ok (.ireturn, 1) := by decide +kernel
theorem dX6_unaryOnes_0 : decode cX6_unaryOnes 0 = .ok (.iconst 0, 1) := by decide +kernel
theorem dX6_unaryOnes_1 : decode cX6_unaryOnes 1 = .ok (.istore_n 1, 1) := by decide +kernel
theorem dX6_unaryOnes_2 : decode cX6_unaryOnes 2 = .ok (.iconst 0, 1) := by decide +kernel
theorem dX6_unaryOnes_3 : decode cX6_unaryOnes 3 = .ok (.istore_n 2, 1) := by decide +kernel
theorem dX6_unaryOnes_4 : decode cX6_unaryOnes 4 = .ok (.iload_n 2, 1) := by decide +kernel
theorem dX6_unaryOnes_5 : decode cX6_unaryOnes 5 = .ok (.aload_n 0, 1) := by decide +kernel
theorem dX6_unaryOnes_6 : decode cX6_unaryOnes 6 = .ok (.getfield 21, 3) := by decide +kernel
theorem dX6_unaryOnes_9 : decode cX6_unaryOnes 9 = .ok (.getfield 47, 3) := by decide +kernel
theorem dX6_unaryOnes_12 : decode cX6_unaryOnes 12 = .ok (.if_icmp .ge 22, 3) := by decide +kernel
theorem dX6_unaryOnes_15 : decode cX6_unaryOnes 15 = .ok (.iload_n 1, 1) := by decide +kernel
theorem dX6_unaryOnes_16 : decode cX6_unaryOnes 16 = .ok (.iload_n 2, 1) := by decide +kernel
theorem dX6_unaryOnes_17 : decode cX6_unaryOnes 17 = .ok (.aload_n 0, 1) := by decide +kernel
theorem dX6_unaryOnes_18 : decode cX6_unaryOnes 18 = .ok (.getfield 21, 3) := by decide +kernel
theorem dX6_unaryOnes_21 : decode cX6_unaryOnes 21 = .ok (.iload_n 2, 1) := by decide +kernel
theorem dX6_unaryOnes_22 : decode cX6_unaryOnes 22 = .ok (.invokevirtual 52, 3) := by decide +kernel
theorem dX6_unaryOnes_25 : decode cX6_unaryOnes 25 = .ok (.imul, 1) := by decide +kernel
theorem dX6_unaryOnes_26 : decode cX6_unaryOnes 26 = .ok (.iadd, 1) := by decide +kernel
theorem dX6_unaryOnes_27 : decode cX6_unaryOnes 27 = .ok (.istore_n 1, 1) := by decide +kernel
theorem dX6_unaryOnes_28 : decode cX6_unaryOnes 28 = .ok (.iinc 2 1, 3) := by decide +kernel
theorem dX6_unaryOnes_31 : decode cX6_unaryOnes 31 = .ok (.goto (-27), 3) := by decide +kernel
theorem dX6_unaryOnes_34 : decode cX6_unaryOnes 34 = .ok (.aload_n 0, 1) := by decide +kernel
theorem dX6_unaryOnes_35 : decode cX6_unaryOnes 35 = .ok (.aload_n 0, 1) := by decide +kernel
theorem dX6_unaryOnes_36 : decode cX6_unaryOnes 36 = .ok (.getfield 21, 3) := by decide +kernel
theorem dX6_unaryOnes_39 : decode cX6_unaryOnes 39 = .ok (.getfield 47, 3) := by decide +kernel
theorem dX6_unaryOnes_42 : decode cX6_unaryOnes 42 = .ok (.iconst 1, 1) := by decide +kernel
theorem dX6_unaryOnes_43 : decode cX6_unaryOnes 43 = .ok (.iload_n 1, 1) := by decide +kernel
theorem dX6_unaryOnes_44 : decode cX6_unaryOnes 44 = .ok (.ishl, 1) := by decide +kernel
theorem dX6_unaryOnes_45 : decode cX6_unaryOnes 45 = .ok (.iconst 1, 1) := by decide +kernel
theorem dX6_unaryOnes_46 : decode cX6_unaryOnes 46 = .ok (.invokevirtual 56, 3) := by decide +kernel
theorem dX6_unaryOnes_49 : decode cX6_unaryOnes 49 = .ok (.ireturn, 1) := by decide +kernel
theorem dX6_closure_0 : decode cX6_closure 0 = .ok (.iload_n 2, 1) := by decide +kernel
theorem dX6_closure_1 : decode cX6_closure 1 = .ok (.istore 4, 2) := by decide +kernel
theorem dX6_closure_3 : decode cX6_closure 3 = .ok (.iconst 0, 1) := by decide +kernel
theorem dX6_closure_4 : decode cX6_closure 4 = .ok (.istore 5, 2) := by decide +kernel
theorem dX6_closure_6 : decode cX6_closure 6 = .ok (.iload 5, 2) := by decide +kernel
theorem dX6_closure_8 : decode cX6_closure 8 = .ok (.bipush 27, 2) := by decide +kernel
theorem dX6_closure_10 : decode cX6_closure 10 = .ok (.if_icmp .gt 80, 3) := by decide +kernel
theorem dX6_closure_13 : decode cX6_closure 13 = .ok (.iload 4, 2) := by decide +kernel
theorem dX6_closure_15 : decode cX6_closure 15 = .ok (.istore 6, 2) := by decide +kernel
theorem dX6_closure_17 : decode cX6_closure 17 = .ok (.iconst 0, 1) := by decide +kernel
theorem dX6_closure_18 : decode cX6_closure 18 = .ok (.istore 7, 2) := by decide +kernel
theorem dX6_closure_20 : decode cX6_closure 20 = .ok (.iload 7, 2) := by decide +kernel
theorem dX6_closure_22 : decode cX6_closure 22 = .ok (.aload_n 0, 1) := by decide +kernel
theorem dX6_closure_23 : decode cX6_closure 23 = .ok (.getfield 32, 3) := by decide +kernel
theorem dX6_closure_26 : decode cX6_closure 26 = .ok (.if_icmp .ge 48, 3) := by decide +kernel
theorem dX6_closure_29 : decode cX6_closure 29 = .ok (.aload_n 0, 1) := by decide +kernel
theorem dX6_closure_30 : decode cX6_closure 30 = .ok (.iload 7, 2) := by decide +kernel
theorem dX6_closure_32 : decode cX6_closure 32 = .ok (.invokevirtual 36, 3) := by decide +kernel
theorem dX6_closure_35 : decode cX6_closure 35 = .ok (.astore 8, 2) := by decide +kernel
theorem dX6_closure_37 : decode cX6_closure 37 = .ok (.aload 8, 2) := by decide +kernel
theorem dX6_closure_39 : decode cX6_closure 39 = .ok (.ifnull 29, 3) := by decide +kernel
theorem dX6_closure_42 : decode cX6_closure 42 = .ok (.aload 8, 2) := by decide +kernel
theorem dX6_closure_44 : decode cX6_closure 44 = .ok (.invokevirtual 60, 3) := by decide +kernel
theorem dX6_closure_47 : decode cX6_closure 47 = .ok (.iload_n 3, 1) := by decide +kernel
theorem dX6_closure_48 : decode cX6_closure 48 = .ok (.if_icmp .gt 20, 3) := by decide +kernel
theorem dX6_closure_51 : decode cX6_closure 51 = .ok (.iload 4, 2) := by decide +kernel
theorem dX6_closure_53 : decode cX6_closure 53 = .ok (.aload_n 0, 1) := by decide +kernel
theorem dX6_closure_54 : decode cX6_closure 54 = .ok (.getfield 25, 3) := by decide +kernel
theorem dX6_closure_57 : decode cX6_closure 57 = .ok (.aload 8, 2) := by decide +kernel
theorem dX6_closure_59 : decode cX6_closure 59 = .ok (.iload_n 1, 1) := by decide +kernel
theorem dX6_closure_60 : decode cX6_closure 60 = .ok (.iload 4, 2) := by decide +kernel
theorem dX6_closure_62 : decode cX6_closure 62 = .ok (.invokevirtual 64, 3) := by decide +kernel
theorem dX6_closure_65 : decode cX6_closure 65 = .ok (.ior, 1) := by decide +kernel
theorem dX6_closure_66 : decode cX6_closure 66 = .ok (.istore 4, 2) := by decide +kernel
theorem dX6_closure_68 : decode cX6_closure 68 = .ok (.iinc 7 1, 3) := by decide +kernel
theorem dX6_closure_71 : decode cX6_closure 71 = .ok (.goto (-51), 3) := by decide +kernel
theorem dX6_closure_74 : decode cX6_closure 74 = .ok (.iload 4, 2) := by decide +kernel
theorem dX6_closure_76 : decode cX6_closure 76 = .ok (.iload 6, 2) := by decide +kernel
theorem dX6_closure_78 : decode cX6_closure 78 = .ok (.if_icmp .ne 6, 3) := by decide +kernel
theorem dX6_closure_81 : decode cX6_closure 81 = .ok (.goto 9, 3) := by decide +kernel
theorem dX6_closure_84 : decode cX6_closure 84 = .ok (.iinc 5 1, 3) := by decide +kernel
theorem dX6_closure_87 : decode cX6_closure 87 = .ok (.goto (-81), 3) := by decide +kernel
theorem dX6_closure_90 : decode cX6_closure 90 = .ok (.iload 4, 2) := by decide +kernel
theorem dX6_closure_92 : decode cX6_closure 92 = .ok (.ireturn, 1) := by decide +kernel
theorem dX6_countKept_0 : decode cX6_countKept 0 = .ok (.iconst 0, 1) := by decide +kernel
theorem dX6_countKept_1 : decode cX6_countKept 1 = .ok (.istore_n 2, 1) := by decide +kernel
theorem dX6_countKept_2 : decode cX6_countKept 2 = .ok (.iconst 1, 1) := by decide +kernel
theorem dX6_countKept_3 : decode cX6_countKept 3 = .ok (.aload_n 0, 1) := by decide +kernel
theorem dX6_countKept_4 : decode cX6_countKept 4 = .ok (.getfield 21, 3) := by decide +kernel
theorem dX6_countKept_7 : decode cX6_countKept 7 = .ok (.iload_n 1, 1) := by decide +kernel
theorem dX6_countKept_8 : decode cX6_countKept 8 = .ok (.invokevirtual 52, 3) := by decide +kernel
theorem dX6_countKept_11 : decode cX6_countKept 11 = .ok (.ishl, 1) := by decide +kernel
theorem dX6_countKept_12 : decode cX6_countKept 12 = .ok (.aload_n 0, 1) := by decide +kernel
theorem dX6_countKept_13 : decode cX6_countKept 13 = .ok (.getfield 17, 3) := by decide +kernel
theorem dX6_countKept_16 : decode cX6_countKept 16 = .ok (.arraylength, 1) := by decide +kernel
theorem dX6_countKept_17 : decode cX6_countKept 17 = .ok (.invokestatic 70, 3) := by decide +kernel
theorem dX6_countKept_20 : decode cX6_countKept 20 = .ok (.istore_n 3, 1) := by decide +kernel
theorem dX6_countKept_21 : decode cX6_countKept 21 = .ok (.iconst 0, 1) := by decide +kernel
theorem dX6_countKept_22 : decode cX6_countKept 22 = .ok (.istore 4, 2) := by decide +kernel
theorem dX6_countKept_24 : decode cX6_countKept 24 = .ok (.iload 4, 2) := by decide +kernel
theorem dX6_countKept_26 : decode cX6_countKept 26 = .ok (.iload_n 3, 1) := by decide +kernel
theorem dX6_countKept_27 : decode cX6_countKept 27 = .ok (.if_icmp .ge 72, 3) := by decide +kernel
theorem dX6_countKept_30 : decode cX6_countKept 30 = .ok (.iload 4, 2) := by decide +kernel
theorem dX6_countKept_32 : decode cX6_countKept 32 = .ok (.invokestatic 76, 3) := by decide +kernel
theorem dX6_countKept_35 : decode cX6_countKept 35 = .ok (.iconst 3, 1) := by decide +kernel
theorem dX6_countKept_36 : decode cX6_countKept 36 = .ok (.if_icmp .gt 7, 3) := by decide +kernel
theorem dX6_countKept_39 : decode cX6_countKept 39 = .ok (.iconst 1, 1) := by decide +kernel
theorem dX6_countKept_40 : decode cX6_countKept 40 = .ok (.goto 4, 3) := by decide +kernel
theorem dX6_countKept_43 : decode cX6_countKept 43 = .ok (.iconst 0, 1) := by decide +kernel
theorem dX6_countKept_44 : decode cX6_countKept 44 = .ok (.istore 5, 2) := by decide +kernel
theorem dX6_countKept_46 : decode cX6_countKept 46 = .ok (.iload 5, 2) := by decide +kernel
theorem dX6_countKept_48 : decode cX6_countKept 48 = .ok (.ifCond .eq 13, 3) := by decide +kernel
theorem dX6_countKept_51 : decode cX6_countKept 51 = .ok (.aload_n 0, 1) := by decide +kernel
theorem dX6_countKept_52 : decode cX6_countKept 52 = .ok (.iload_n 1, 1) := by decide +kernel
theorem dX6_countKept_53 : decode cX6_countKept 53 = .ok (.iload 4, 2) := by decide +kernel
theorem dX6_countKept_55 : decode cX6_countKept 55 = .ok (.invokevirtual 81, 3) := by decide +kernel
theorem dX6_countKept_58 : decode cX6_countKept 58 = .ok (.goto 9, 3) := by decide +kernel
theorem dX6_countKept_61 : decode cX6_countKept 61 = .ok (.aload_n 0, 1) := by decide +kernel
theorem dX6_countKept_62 : decode cX6_countKept 62 = .ok (.iload 4, 2) := by decide +kernel
theorem dX6_countKept_64 : decode cX6_countKept 64 = .ok (.invokevirtual 84, 3) := by decide +kernel
theorem dX6_countKept_67 : decode cX6_countKept 67 = .ok (.istore 6, 2) := by decide +kernel
theorem dX6_countKept_69 : decode cX6_countKept 69 = .ok (.aload_n 0, 1) := by decide +kernel
theorem dX6_countKept_70 : decode cX6_countKept 70 = .ok (.getfield 17, 3) := by decide +kernel
theorem dX6_countKept_73 : decode cX6_countKept 73 = .ok (.iload 4, 2) := by decide +kernel
theorem dX6_countKept_75 : decode cX6_countKept 75 = .ok (.iload 6, 2) := by decide +kernel
theorem dX6_countKept_77 : decode cX6_countKept 77 = .ok (.invokestatic 87, 3) := by decide +kernel
theorem dX6_countKept_80 : decode cX6_countKept 80 = .ok (.iload 6, 2) := by decide +kernel
theorem dX6_countKept_82 : decode cX6_countKept 82 = .ok (.iload 4, 2) := by decide +kernel
theorem dX6_countKept_84 : decode cX6_countKept 84 = .ok (.iconst (-1), 1) := by decide +kernel
theorem dX6_countKept_85 : decode cX6_countKept 85 = .ok (.ixor, 1) := by decide +kernel
theorem dX6_countKept_86 : decode cX6_countKept 86 = .ok (.iand, 1) := by decide +kernel
theorem dX6_countKept_87 : decode cX6_countKept 87 = .ok (.ifCond .ne 6, 3) := by decide +kernel
theorem dX6_countKept_90 : decode cX6_countKept 90 = .ok (.iinc 2 1, 3) := by decide +kernel
theorem dX6_countKept_93 : decode cX6_countKept 93 = .ok (.iinc 4 1, 3) := by decide +kernel
theorem dX6_countKept_96 : decode cX6_countKept 96 = .ok (.goto (-72), 3) := by decide +kernel
theorem dX6_countKept_99 : decode cX6_countKept 99 = .ok (.iload_n 2, 1) := by decide +kernel
theorem dX6_countKept_100 : decode cX6_countKept 100 = .ok (.ireturn, 1) := by decide +kernel
theorem dX6_imagesOfAll_0 : decode cX6_imagesOfAll 0 = .ok (.iconst 0, 1) := by decide +kernel
theorem dX6_imagesOfAll_1 : decode cX6_imagesOfAll 1 = .ok (.istore_n 3, 1) := by decide +kernel
theorem dX6_imagesOfAll_2 : decode cX6_imagesOfAll 2 = .ok (.iconst 0, 1) := by decide +kernel
theorem dX6_imagesOfAll_3 : decode cX6_imagesOfAll 3 = .ok (.istore 4, 2) := by decide +kernel
theorem dX6_imagesOfAll_5 : decode cX6_imagesOfAll 5 = .ok (.iload 4, 2) := by decide +kernel
theorem dX6_imagesOfAll_7 : decode cX6_imagesOfAll 7 = .ok (.aload_n 0, 1) := by decide +kernel
theorem dX6_imagesOfAll_8 : decode cX6_imagesOfAll 8 = .ok (.getfield 32, 3) := by decide +kernel
theorem dX6_imagesOfAll_11 : decode cX6_imagesOfAll 11 = .ok (.if_icmp .ge 36, 3) := by decide +kernel
theorem dX6_imagesOfAll_14 : decode cX6_imagesOfAll 14 = .ok (.aload_n 0, 1) := by decide +kernel
theorem dX6_imagesOfAll_15 : decode cX6_imagesOfAll 15 = .ok (.iload 4, 2) := by decide +kernel
theorem dX6_imagesOfAll_17 : decode cX6_imagesOfAll 17 = .ok (.invokevirtual 36, 3) := by decide +kernel
theorem dX6_imagesOfAll_20 : decode cX6_imagesOfAll 20 = .ok (.astore 5, 2) := by decide +kernel
theorem dX6_imagesOfAll_22 : decode cX6_imagesOfAll 22 = .ok (.aload 5, 2) := by decide +kernel
theorem dX6_imagesOfAll_24 : decode cX6_imagesOfAll 24 = .ok (.ifnull 17, 3) := by decide +kernel
theorem dX6_imagesOfAll_27 : decode cX6_imagesOfAll 27 = .ok (.iload_n 3, 1) := by decide +kernel
theorem dX6_imagesOfAll_28 : decode cX6_imagesOfAll 28 = .ok (.aload_n 0, 1) := by decide +kernel
theorem dX6_imagesOfAll_29 : decode cX6_imagesOfAll 29 = .ok (.getfield 25, 3) := by decide +kernel
theorem dX6_imagesOfAll_32 : decode cX6_imagesOfAll 32 = .ok (.aload 5, 2) := by decide +kernel
theorem dX6_imagesOfAll_34 : decode cX6_imagesOfAll 34 = .ok (.iload_n 1, 1) := by decide +kernel
theorem dX6_imagesOfAll_35 : decode cX6_imagesOfAll 35 = .ok (.iload_n 2, 1) := by decide +kernel
theorem dX6_imagesOfAll_36 : decode cX6_imagesOfAll 36 = .ok (.invokevirtual 91, 3) := by decide +kernel
theorem dX6_imagesOfAll_39 : decode cX6_imagesOfAll 39 = .ok (.ior, 1) := by decide +kernel
theorem dX6_imagesOfAll_40 : decode cX6_imagesOfAll 40 = .ok (.istore_n 3, 1) := by decide +kernel
theorem dX6_imagesOfAll_41 : decode cX6_imagesOfAll 41 = .ok (.iinc 4 1, 3) := by decide +kernel
theorem dX6_imagesOfAll_44 : decode cX6_imagesOfAll 44 = .ok (.goto (-39), 3) := by decide +kernel
theorem dX6_imagesOfAll_47 : decode cX6_imagesOfAll 47 = .ok (.iload_n 3, 1) := by decide +kernel
theorem dX6_imagesOfAll_48 : decode cX6_imagesOfAll 48 = .ok (.ireturn, 1) := by decide +kernel
theorem dX6_madeOfParts_0 : decode cX6_madeOfParts 0 = .ok (.iconst 0, 1) := by decide +kernel
theorem dX6_madeOfParts_1 : decode cX6_madeOfParts 1 = .ok (.istore_n 2, 1) := by decide +kernel
theorem dX6_madeOfParts_2 : decode cX6_madeOfParts 2 = .ok (.iconst 0, 1) := by decide +kernel
theorem dX6_madeOfParts_3 : decode cX6_madeOfParts 3 = .ok (.istore_n 3, 1) := by decide +kernel
theorem dX6_madeOfParts_4 : decode cX6_madeOfParts 4 = .ok (.iload_n 3, 1) := by decide +kernel
theorem dX6_madeOfParts_5 : decode cX6_madeOfParts 5 = .ok (.bipush 9, 2) := by decide +kernel
theorem dX6_madeOfParts_7 : decode cX6_madeOfParts 7 = .ok (.if_icmp .ge 34, 3) := by decide +kernel
theorem dX6_madeOfParts_10 : decode cX6_madeOfParts 10 = .ok (.iload_n 3, 1) := by decide +kernel
theorem dX6_madeOfParts_11 : decode cX6_madeOfParts 11 = .ok (.iload_n 1, 1) := by decide +kernel
theorem dX6_madeOfParts_12 : decode cX6_madeOfParts 12 = .ok (.invokestatic 94, 3) := by decide +kernel
theorem dX6_madeOfParts_15 : decode cX6_madeOfParts 15 = .ok (.ifCond .eq 20, 3) := by decide +kernel
theorem dX6_madeOfParts_18 : decode cX6_madeOfParts 18 = .ok (.iload_n 2, 1) := by decide +kernel
theorem dX6_madeOfParts_19 : decode cX6_madeOfParts 19 = .ok (.aload_n 0, 1) := by decide +kernel
theorem dX6_madeOfParts_20 : decode cX6_madeOfParts 20 = .ok (.getfield 17, 3) := by decide +kernel
theorem dX6_madeOfParts_23 : decode cX6_madeOfParts 23 = .ok (.iload_n 1, 1) := by decide +kernel
theorem dX6_madeOfParts_24 : decode cX6_madeOfParts 24 = .ok (.iconst 1, 1) := by decide +kernel
theorem dX6_madeOfParts_25 : decode cX6_madeOfParts 25 = .ok (.iload_n 3, 1) := by decide +kernel
theorem dX6_madeOfParts_26 : decode cX6_madeOfParts 26 = .ok (.ishl, 1) := by decide +kernel
theorem dX6_madeOfParts_27 : decode cX6_madeOfParts 27 = .ok (.iconst (-1), 1) := by decide +kernel
theorem dX6_madeOfParts_28 : decode cX6_madeOfParts 28 = .ok (.ixor, 1) := by decide +kernel
theorem dX6_madeOfParts_29 : decode cX6_madeOfParts 29 = .ok (.iand, 1) := by decide +kernel
theorem dX6_madeOfParts_30 : decode cX6_madeOfParts 30 = .ok (.invokestatic 98, 3) := by decide +kernel
theorem dX6_madeOfParts_33 : decode cX6_madeOfParts 33 = .ok (.ior, 1) := by decide +kernel
theorem dX6_madeOfParts_34 : decode cX6_madeOfParts 34 = .ok (.istore_n 2, 1) := by decide +kernel
theorem dX6_madeOfParts_35 : decode cX6_madeOfParts 35 = .ok (.iinc 3 1, 3) := by decide +kernel
theorem dX6_madeOfParts_38 : decode cX6_madeOfParts 38 = .ok (.goto (-34), 3) := by decide +kernel
theorem dX6_madeOfParts_41 : decode cX6_madeOfParts 41 = .ok (.iload_n 2, 1) := by decide +kernel
theorem dX6_madeOfParts_42 : decode cX6_madeOfParts 42 = .ok (.ireturn, 1) := by decide +kernel
theorem dX7_init_0 : decode cX7_init 0 = .ok (.aload_n 0, 1) := by decide +kernel
theorem dX7_init_1 : decode cX7_init 1 = .ok (.invokespecial 3, 3) := by decide +kernel
theorem dX7_init_4 : decode cX7_init 4 = .ok (.aload_n 0, 1) := by decide +kernel
theorem dX7_init_5 : decode cX7_init 5 = .ok (.bipush 36, 2) := by decide +kernel
theorem dX7_init_7 : decode cX7_init 7 = .ok (.newarray .int, 2) := by decide +kernel
theorem dX7_init_9 : decode cX7_init 9 = .ok (.putfield 9, 3) := by decide +kernel
theorem dX7_init_12 : decode cX7_init 12 = .ok (.aload_n 0, 1) := by decide +kernel
theorem dX7_init_13 : decode cX7_init 13 = .ok (.aload_n 1, 1) := by decide +kernel
theorem dX7_init_14 : decode cX7_init 14 = .ok (.putfield 15, 3) := by decide +kernel
theorem dX7_init_17 : decode cX7_init 17 = .ok (.aload_n 0, 1) := by decide +kernel
theorem dX7_init_18 : decode cX7_init 18 = .ok (.aload_n 2, 1) := by decide +kernel
theorem dX7_init_19 : decode cX7_init 19 = .ok (.putfield 19, 3) := by decide +kernel
theorem dX7_init_22 : decode cX7_init 22 = .ok (.return_, 1) := by decide +kernel
theorem dX7_ofVariables_0 : decode cX7_ofVariables 0 = .ok (.aload_n 0, 1) := by decide +kernel
theorem dX7_ofVariables_1 : decode cX7_ofVariables 1 = .ok (.invokevirtual 23, 3) := by decide +kernel
theorem dX7_ofVariables_4 : decode cX7_ofVariables 4 = .ok (.iconst 0, 1) := by decide +kernel
theorem dX7_ofVariables_5 : decode cX7_ofVariables 5 = .ok (.istore_n 3, 1) := by decide +kernel
theorem dX7_ofVariables_6 : decode cX7_ofVariables 6 = .ok (.iload_n 3, 1) := by decide +kernel
theorem dX7_ofVariables_7 : decode cX7_ofVariables 7 = .ok (.bipush 9, 2) := by decide +kernel
theorem dX7_ofVariables_9 : decode cX7_ofVariables 9 = .ok (.aload_n 0, 1) := by decide +kernel
theorem dX7_ofVariables_10 : decode cX7_ofVariables 10 = .ok (.getfield 9, 3) := by decide +kernel
theorem dX7_ofVariables_13 : decode cX7_ofVariables 13 = .ok (.arraylength, 1) := by decide +kernel
theorem dX7_ofVariables_14 : decode cX7_ofVariables 14 = .ok (.imul, 1) := by decide +kernel
theorem dX7_ofVariables_15 : decode cX7_ofVariables 15 = .ok (.if_icmp .gt 19, 3) := by decide +kernel
theorem dX7_ofVariables_18 : decode cX7_ofVariables 18 = .ok (.aload_n 0, 1) := by decide +kernel
theorem dX7_ofVariables_19 : decode cX7_ofVariables 19 = .ok (.invokevirtual 26, 3) := by decide +kernel
theorem dX7_ofVariables_22 : decode cX7_ofVariables 22 = .ok (.ifCond .ne 6, 3) := by decide +kernel
theorem dX7_ofVariables_25 : decode cX7_ofVariables 25 = .ok (.goto 9, 3) := by decide +kernel
theorem dX7_ofVariables_28 : decode cX7_ofVariables 28 = .ok (.iinc 3 1, 3) := by decide +kernel
theorem dX7_ofVariables_31 : decode cX7_ofVariables 31 = .ok (.goto (-25), 3) := by decide +kernel
theorem dX7_ofVariables_34 : decode cX7_ofVariables 34 = .ok (.aload_n 0, 1) := by decide +kernel
theorem dX7_ofVariables_35 : decode cX7_ofVariables 35 = .ok (.iload_n 1, 1) := by decide +kernel
theorem dX7_ofVariables_36 : decode cX7_ofVariables 36 = .ok (.iload_n 2, 1) := by decide +kernel
theorem dX7_ofVariables_37 : decode cX7_ofVariables 37 = .ok (.invokevirtual 30, 3) := by decide +kernel
theorem dX7_ofVariables_40 : decode cX7_ofVariables 40 = .ok (.ireturn, 1) := by decide +kernel
theorem dX7_leftOf_0 : decode cX7_leftOf 0 = .ok (.aload_n 0, 1) := by decide +kernel
theorem dX7_leftOf_1 : decode cX7_leftOf 1 = .ok (.getfield 9, 3) := by decide +kernel
theorem dX7_leftOf_4 : decode cX7_leftOf 4 = .ok (.bipush 6, 2) := by decide +kernel
theorem dX7_leftOf_6 : decode cX7_leftOf 6 = .ok (.iload_n 1, 1) := by decide +kernel
theorem dX7_leftOf_7 : decode cX7_leftOf 7 = .ok (.imul, 1) := by decide +kernel
theorem dX7_leftOf_8 : decode cX7_leftOf 8 = .ok (.iload_n 2, 1) := by decide +kernel
theorem dX7_leftOf_9 : decode cX7_leftOf 9 = .ok (.iadd, 1) := by decide +kernel
theorem dX7_leftOf_10 : decode cX7_leftOf 10 = .ok (.invokestatic 34, 3) := by decide +kernel
theorem dX7_leftOf_13 : decode cX7_leftOf 13 = .ok (.ireturn, 1) := by decide +kernel
theorem dX7_setLeft_0 : decode cX7_setLeft 0 = .ok (.aload_n 0, 1) := by decide +kernel
theorem dX7_setLeft_1 : decode cX7_setLeft 1 = .ok (.getfield 9, 3) := by decide +kernel
theorem dX7_setLeft_4 : decode cX7_setLeft 4 = .ok (.bipush 6, 2) := by decide +kernel
theorem dX7_setLeft_6 : decode cX7_setLeft 6 = .ok (.iload_n 1, 1) := by decide +kernel
theorem dX7_setLeft_7 : decode cX7_setLeft 7 = .ok (.imul, 1) := by decide +kernel
theorem dX7_setLeft_8 : decode cX7_setLeft 8 = .ok (.iload_n 2, 1) := by decide +kernel
theorem dX7_setLeft_9 : decode cX7_setLeft 9 = .ok (.iadd, 1) := by decide +kernel
theorem dX7_setLeft_10 : decode cX7_setLeft 10 = .ok (.iload_n 3, 1) := by decide +kernel
theorem dX7_setLeft_11 : decode cX7_setLeft 11 = .ok (.invokestatic 38, 3) := by decide +kernel
theorem dX7_setLeft_14 : decode cX7_setLeft 14 = .ok (.return_, 1) := by decide +kernel
theorem dX7_leaveAtFirst_0 : decode cX7_leaveAtFirst 0 = .ok (.iconst 0, 1) := by decide +kernel
theorem dX7_leaveAtFirst_1 : decode cX7_leaveAtFirst 1 = .ok (.istore_n 1, 1) := by decide +kernel
theorem dX7_leaveAtFirst_2 : decode cX7_leaveAtFirst 2 = .ok (.iload_n 1, 1) := by decide +kernel
theorem dX7_leaveAtFirst_3 : decode cX7_leaveAtFirst 3 = .ok (.aload_n 0, 1) := by decide +kernel
theorem dX7_leaveAtFirst_4 : decode cX7_leaveAtFirst 4 = .ok (.getfield 9, 3) := by decide +kernel
theorem dX7_leaveAtFirst_7 : decode cX7_leaveAtFirst 7 = .ok (.arraylength, 1) := by decide +kernel
theorem dX7_leaveAtFirst_8 : decode cX7_leaveAtFirst 8 = .ok (.if_icmp .ge 27, 3) := by decide +kernel
theorem dX7_leaveAtFirst_11 : decode cX7_leaveAtFirst 11 = .ok (.aload_n 0, 1) := by decide +kernel
theorem dX7_leaveAtFirst_12 : decode cX7_leaveAtFirst 12 = .ok (.getfield 9, 3) := by decide +kernel
theorem dX7_leaveAtFirst_15 : decode cX7_leaveAtFirst 15 = .ok (.iload_n 1, 1) := by decide +kernel
theorem dX7_leaveAtFirst_16 : decode cX7_leaveAtFirst 16 = .ok (.iconst 1, 1) := by decide +kernel
theorem dX7_leaveAtFirst_17 : decode cX7_leaveAtFirst 17 = .ok (.aload_n 0, 1) := by decide +kernel
theorem dX7_leaveAtFirst_18 : decode cX7_leaveAtFirst 18 = .ok (.getfield 15, 3) := by decide +kernel
theorem dX7_leaveAtFirst_21 : decode cX7_leaveAtFirst 21 = .ok (.iconst 2, 1) := by decide +kernel
theorem dX7_leaveAtFirst_22 : decode cX7_leaveAtFirst 22 = .ok (.invokevirtual 42, 3) := by decide +kernel
theorem dX7_leaveAtFirst_25 : decode cX7_leaveAtFirst 25 = .ok (.ishl, 1) := by decide +kernel
theorem dX7_leaveAtFirst_26 : decode cX7_leaveAtFirst 26 = .ok (.iconst 1, 1) := by decide +kernel
theorem dX7_leaveAtFirst_27 : decode cX7_leaveAtFirst 27 = .ok (.isub, 1) := by decide +kernel
theorem dX7_leaveAtFirst_28 : decode cX7_leaveAtFirst 28 = .ok (.iastore, 1) := by decide +kernel
theorem dX7_leaveAtFirst_29 : decode cX7_leaveAtFirst 29 = .ok (.iinc 1 1, 3) := by decide +kernel
theorem dX7_leaveAtFirst_32 : decode cX7_leaveAtFirst 32 = .ok (.goto (-30), 3) := by decide +kernel
theorem dX7_leaveAtFirst_35 : decode cX7_leaveAtFirst 35 = .ok (.iconst 0, 1) := by decide +kernel
theorem dX7_leaveAtFirst_36 : decode cX7_leaveAtFirst 36 = .ok (.istore_n 1, 1) := by decide +kernel
theorem dX7_leaveAtFirst_37 : decode cX7_leaveAtFirst 37 = .ok (.iload_n 1, 1) := by decide +kernel
theorem dX7_leaveAtFirst_38 : decode cX7_leaveAtFirst 38 = .ok (.aload_n 0, 1) := by decide +kernel
theorem dX7_leaveAtFirst_39 : decode cX7_leaveAtFirst 39 = .ok (.getfield 19, 3) := by decide +kernel
theorem dX7_leaveAtFirst_42 : decode cX7_leaveAtFirst 42 = .ok (.getfield 48, 3) := by decide +kernel
theorem dX7_leaveAtFirst_45 : decode cX7_leaveAtFirst 45 = .ok (.if_icmp .ge 70, 3) := by decide +kernel
theorem dX7_leaveAtFirst_48 : decode cX7_leaveAtFirst 48 = .ok (.aload_n 0, 1) := by decide +kernel
theorem dX7_leaveAtFirst_49 : decode cX7_leaveAtFirst 49 = .ok (.getfield 19, 3) := by decide +kernel
theorem dX7_leaveAtFirst_52 : decode cX7_leaveAtFirst 52 = .ok (.iload_n 1, 1) := by decide +kernel
theorem dX7_leaveAtFirst_53 : decode cX7_leaveAtFirst 53 = .ok (.invokevirtual 54, 3) := by decide +kernel
theorem dX7_leaveAtFirst_56 : decode cX7_leaveAtFirst 56 = .ok (.istore_n 2, 1) := by decide +kernel
theorem dX7_leaveAtFirst_57 : decode cX7_leaveAtFirst 57 = .ok (.iconst 0, 1) := by decide +kernel
theorem dX7_leaveAtFirst_58 : decode cX7_leaveAtFirst 58 = .ok (.istore_n 3, 1) := by decide +kernel
theorem dX7_leaveAtFirst_59 : decode cX7_leaveAtFirst 59 = .ok (.iload_n 3, 1) := by decide +kernel
theorem dX7_leaveAtFirst_60 : decode cX7_leaveAtFirst 60 = .ok (.aload_n 0, 1) := by decide +kernel
theorem dX7_leaveAtFirst_61 : decode cX7_leaveAtFirst 61 = .ok (.getfield 19, 3) := by decide +kernel
theorem dX7_leaveAtFirst_64 : decode cX7_leaveAtFirst 64 = .ok (.invokevirtual 57, 3) := by decide +kernel
theorem dX7_leaveAtFirst_67 : decode cX7_leaveAtFirst 67 = .ok (.if_icmp .ge 42, 3) := by decide +kernel
theorem dX7_leaveAtFirst_70 : decode cX7_leaveAtFirst 70 = .ok (.iconst 0, 1) := by decide +kernel
theorem dX7_leaveAtFirst_71 : decode cX7_leaveAtFirst 71 = .ok (.istore 4, 2) := by decide +kernel
theorem dX7_leaveAtFirst_73 : decode cX7_leaveAtFirst 73 = .ok (.iload 4, 2) := by decide +kernel
theorem dX7_leaveAtFirst_75 : decode cX7_leaveAtFirst 75 = .ok (.iload_n 3, 1) := by decide +kernel
theorem dX7_leaveAtFirst_76 : decode cX7_leaveAtFirst 76 = .ok (.if_icmp .ge 27, 3) := by decide +kernel
theorem dX7_leaveAtFirst_79 : decode cX7_leaveAtFirst 79 = .ok (.aload_n 0, 1) := by decide +kernel
theorem dX7_leaveAtFirst_80 : decode cX7_leaveAtFirst 80 = .ok (.iload_n 1, 1) := by decide +kernel
theorem dX7_leaveAtFirst_81 : decode cX7_leaveAtFirst 81 = .ok (.iload_n 2, 1) := by decide +kernel
theorem dX7_leaveAtFirst_82 : decode cX7_leaveAtFirst 82 = .ok (.iload_n 3, 1) := by decide +kernel
theorem dX7_leaveAtFirst_83 : decode cX7_leaveAtFirst 83 = .ok (.iload 4, 2) := by decide +kernel
theorem dX7_leaveAtFirst_85 : decode cX7_leaveAtFirst 85 = .ok (.invokevirtual 61, 3) := by decide +kernel
theorem dX7_leaveAtFirst_88 : decode cX7_leaveAtFirst 88 = .ok (.aload_n 0, 1) := by decide +kernel
theorem dX7_leaveAtFirst_89 : decode cX7_leaveAtFirst 89 = .ok (.iload_n 1, 1) := by decide +kernel
theorem dX7_leaveAtFirst_90 : decode cX7_leaveAtFirst 90 = .ok (.iload_n 2, 1) := by decide +kernel
theorem dX7_leaveAtFirst_91 : decode cX7_leaveAtFirst 91 = .ok (.iload 4, 2) := by decide +kernel
theorem dX7_leaveAtFirst_93 : decode cX7_leaveAtFirst 93 = .ok (.iload_n 3, 1) := by decide +kernel
theorem dX7_leaveAtFirst_94 : decode cX7_leaveAtFirst 94 = .ok (.invokevirtual 61, 3) := by decide +kernel
theorem dX7_leaveAtFirst_97 : decode cX7_leaveAtFirst 97 = .ok (.iinc 4 1, 3) := by decide +kernel
theorem dX7_leaveAtFirst_100 : decode cX7_leaveAtFirst 100 = .ok (.goto (-27), 3) := by decide +kernel
theorem dX7_leaveAtFirst_103 : decode cX7_leaveAtFirst 103 = .ok (.iinc 3 1, 3) := by decide +kernel
theorem dX7_leaveAtFirst_106 : decode cX7_leaveAtFirst 106 = .ok (.goto (-47), 3) := by decide +kernel
theorem dX7_leaveAtFirst_109 : decode cX7_leaveAtFirst 109 = .ok (.iinc 1 1, 3) := by decide +kernel
theorem dX7_leaveAtFirst_112 : decode cX7_leaveAtFirst 112 = .ok (.goto (-75), 3) := by decide +kernel
theorem dX7_leaveAtFirst_115 : decode cX7_leaveAtFirst 115 = .ok (.return_, 1) := by decide +kernel
theorem dX7_leaveStanding_0 : decode cX7_leaveStanding 0 = .ok (.iconst 0, 1) := by decide +kernel
theorem dX7_leaveStanding_1 : decode cX7_leaveStanding 1 = .ok (.istore 5, 2) := by decide +kernel
theorem dX7_leaveStanding_3 : decode cX7_leaveStanding 3 = .ok (.iconst 0, 1) := by decide +kernel
theorem dX7_leaveStanding_4 : decode cX7_leaveStanding 4 = .ok (.istore 6, 2) := by decide +kernel
theorem dX7_leaveStanding_6 : decode cX7_leaveStanding 6 = .ok (.iload 6, 2) := by decide +kernel
theorem dX7_leaveStanding_8 : decode cX7_leaveStanding 8 = .ok (.aload_n 0, 1) := by decide +kernel
theorem dX7_leaveStanding_9 : decode cX7_leaveStanding 9 = .ok (.getfield 15, 3) := by decide +kernel
theorem dX7_leaveStanding_12 : decode cX7_leaveStanding 12 = .ok (.aload_n 0, 1) := by decide +kernel
theorem dX7_leaveStanding_13 : decode cX7_leaveStanding 13 = .ok (.getfield 19, 3) := by decide +kernel
theorem dX7_leaveStanding_16 : decode cX7_leaveStanding 16 = .ok (.iload_n 1, 1) := by decide +kernel
theorem dX7_leaveStanding_17 : decode cX7_leaveStanding 17 = .ok (.invokevirtual 65, 3) := by decide +kernel
theorem dX7_leaveStanding_20 : decode cX7_leaveStanding 20 = .ok (.invokevirtual 42, 3) := by decide +kernel
theorem dX7_leaveStanding_23 : decode cX7_leaveStanding 23 = .ok (.if_icmp .ge 92, 3) := by decide +kernel
theorem dX7_leaveStanding_26 : decode cX7_leaveStanding 26 = .ok (.iload 6, 2) := by decide +kernel
theorem dX7_leaveStanding_28 : decode cX7_leaveStanding 28 = .ok (.iload_n 2, 1) := by decide +kernel
theorem dX7_leaveStanding_29 : decode cX7_leaveStanding 29 = .ok (.invokestatic 68, 3) := by decide +kernel
theorem dX7_leaveStanding_32 : decode cX7_leaveStanding 32 = .ok (.ifCond .eq 77, 3) := by decide +kernel
theorem dX7_leaveStanding_35 : decode cX7_leaveStanding 35 = .ok (.aload_n 0, 1) := by decide +kernel
theorem dX7_leaveStanding_36 : decode cX7_leaveStanding 36 = .ok (.iload_n 1, 1) := by decide +kernel
theorem dX7_leaveStanding_37 : decode cX7_leaveStanding 37 = .ok (.iload 6, 2) := by decide +kernel
theorem dX7_leaveStanding_39 : decode cX7_leaveStanding 39 = .ok (.iload_n 3, 1) := by decide +kernel
theorem dX7_leaveStanding_40 : decode cX7_leaveStanding 40 = .ok (.invokevirtual 72, 3) := by decide +kernel
theorem dX7_leaveStanding_43 : decode cX7_leaveStanding 43 = .ok (.istore 7, 2) := by decide +kernel
theorem dX7_leaveStanding_45 : decode cX7_leaveStanding 45 = .ok (.aload_n 0, 1) := by decide +kernel
theorem dX7_leaveStanding_46 : decode cX7_leaveStanding 46 = .ok (.iload_n 1, 1) := by decide +kernel
theorem dX7_leaveStanding_47 : decode cX7_leaveStanding 47 = .ok (.iload 6, 2) := by decide +kernel
theorem dX7_leaveStanding_49 : decode cX7_leaveStanding 49 = .ok (.iload 4, 2) := by decide +kernel
theorem dX7_leaveStanding_51 : decode cX7_leaveStanding 51 = .ok (.invokevirtual 72, 3) := by decide +kernel
theorem dX7_leaveStanding_54 : decode cX7_leaveStanding 54 = .ok (.istore 8, 2) := by decide +kernel
theorem dX7_leaveStanding_56 : decode cX7_leaveStanding 56 = .ok (.iconst 0, 1) := by decide +kernel
theorem dX7_leaveStanding_57 : decode cX7_leaveStanding 57 = .ok (.istore 9, 2) := by decide +kernel
theorem dX7_leaveStanding_59 : decode cX7_leaveStanding 59 = .ok (.iload 9, 2) := by decide +kernel
theorem dX7_leaveStanding_61 : decode cX7_leaveStanding 61 = .ok (.aload_n 0, 1) := by decide +kernel
theorem dX7_leaveStanding_62 : decode cX7_leaveStanding 62 = .ok (.getfield 15, 3) := by decide +kernel
theorem dX7_leaveStanding_65 : decode cX7_leaveStanding 65 = .ok (.getfield 76, 3) := by decide +kernel
theorem dX7_leaveStanding_68 : decode cX7_leaveStanding 68 = .ok (.if_icmp .ge 41, 3) := by decide +kernel
theorem dX7_leaveStanding_71 : decode cX7_leaveStanding 71 = .ok (.iload 5, 2) := by decide +kernel
theorem dX7_leaveStanding_73 : decode cX7_leaveStanding 73 = .ok (.iload 9, 2) := by decide +kernel
theorem dX7_leaveStanding_75 : decode cX7_leaveStanding 75 = .ok (.iload 8, 2) := by decide +kernel
theorem dX7_leaveStanding_77 : decode cX7_leaveStanding 77 = .ok (.invokestatic 68, 3) := by decide +kernel
theorem dX7_leaveStanding_80 : decode cX7_leaveStanding 80 = .ok (.ifCond .eq 19, 3) := by decide +kernel
theorem dX7_leaveStanding_83 : decode cX7_leaveStanding 83 = .ok (.iload 7, 2) := by decide +kernel
theorem dX7_leaveStanding_85 : decode cX7_leaveStanding 85 = .ok (.aload_n 0, 1) := by decide +kernel
theorem dX7_leaveStanding_86 : decode cX7_leaveStanding 86 = .ok (.getfield 15, 3) := by decide +kernel
theorem dX7_leaveStanding_89 : decode cX7_leaveStanding 89 = .ok (.getfield 76, 3) := by decide +kernel
theorem dX7_leaveStanding_92 : decode cX7_leaveStanding 92 = .ok (.iload 9, 2) := by decide +kernel
theorem dX7_leaveStanding_94 : decode cX7_leaveStanding 94 = .ok (.imul, 1) := by decide +kernel
theorem dX7_leaveStanding_95 : decode cX7_leaveStanding 95 = .ok (.ishl, 1) := by decide +kernel
theorem dX7_leaveStanding_96 : decode cX7_leaveStanding 96 = .ok (.goto 4, 3) := by decide +kernel
theorem dX7_leaveStanding_99 : decode cX7_leaveStanding 99 = .ok (.iconst 0, 1) := by decide +kernel
theorem dX7_leaveStanding_100 : decode cX7_leaveStanding 100 = .ok (.ior, 1) := by decide +kernel
theorem dX7_leaveStanding_101 : decode cX7_leaveStanding 101 = .ok (.istore 5, 2) := by decide +kernel
theorem dX7_leaveStanding_103 : decode cX7_leaveStanding 103 = .ok (.iinc 9 1, 3) := by decide +kernel
theorem dX7_leaveStanding_106 : decode cX7_leaveStanding 106 = .ok (.goto (-47), 3) := by decide +kernel
theorem dX7_leaveStanding_109 : decode cX7_leaveStanding 109 = .ok (.iinc 6 1, 3) := by decide +kernel
theorem dX7_leaveStanding_112 : decode cX7_leaveStanding 112 = .ok (.goto (-106), 3) := by decide +kernel
theorem dX7_leaveStanding_115 : decode cX7_leaveStanding 115 = .ok (.aload_n 0, 1) := by decide +kernel
theorem dX7_leaveStanding_116 : decode cX7_leaveStanding 116 = .ok (.iload_n 3, 1) := by decide +kernel
theorem dX7_leaveStanding_117 : decode cX7_leaveStanding 117 = .ok (.iload 4, 2) := by decide +kernel
theorem dX7_leaveStanding_119 : decode cX7_leaveStanding 119 = .ok (.iload 5, 2) := by decide +kernel
theorem dX7_leaveStanding_121 : decode cX7_leaveStanding 121 = .ok (.aload_n 0, 1) := by decide +kernel
theorem dX7_leaveStanding_122 : decode cX7_leaveStanding 122 = .ok (.iload_n 3, 1) := by decide +kernel
theorem dX7_leaveStanding_123 : decode cX7_leaveStanding 123 = .ok (.iload 4, 2) := by decide +kernel
theorem dX7_leaveStanding_125 : decode cX7_leaveStanding 125 = .ok (.invokevirtual 30, 3) := by decide +kernel
theorem dX7_leaveStanding_128 : decode cX7_leaveStanding 128 = .ok (.iand, 1) := by decide +kernel
theorem dX7_leaveStanding_129 : decode cX7_leaveStanding 129 = .ok (.invokevirtual 79, 3) := by decide +kernel
theorem dX7_leaveStanding_132 : decode cX7_leaveStanding 132 = .ok (.return_, 1) := by decide +kernel
theorem dX7_valuesWith_0 : decode cX7_valuesWith 0 = .ok (.iconst 0, 1) := by decide +kernel
theorem dX7_valuesWith_1 : decode cX7_valuesWith 1 = .ok (.istore 4, 2) := by decide +kernel
theorem dX7_valuesWith_3 : decode cX7_valuesWith 3 = .ok (.iload 4, 2) := by decide +kernel
theorem dX7_valuesWith_5 : decode cX7_valuesWith 5 = .ok (.aload_n 0, 1) := by decide +kernel
theorem dX7_valuesWith_6 : decode cX7_valuesWith 6 = .ok (.getfield 19, 3) := by decide +kernel
theorem dX7_valuesWith_9 : decode cX7_valuesWith 9 = .ok (.iload_n 1, 1) := by decide +kernel
theorem dX7_valuesWith_10 : decode cX7_valuesWith 10 = .ok (.invokevirtual 65, 3) := by decide +kernel
theorem dX7_valuesWith_13 : decode cX7_valuesWith 13 = .ok (.if_icmp .ge 36, 3) := by decide +kernel
theorem dX7_valuesWith_16 : decode cX7_valuesWith 16 = .ok (.aload_n 0, 1) := by decide +kernel
theorem dX7_valuesWith_17 : decode cX7_valuesWith 17 = .ok (.getfield 19, 3) := by decide +kernel
theorem dX7_valuesWith_20 : decode cX7_valuesWith 20 = .ok (.iload_n 1, 1) := by decide +kernel
theorem dX7_valuesWith_21 : decode cX7_valuesWith 21 = .ok (.iload 4, 2) := by decide +kernel
theorem dX7_valuesWith_23 : decode cX7_valuesWith 23 = .ok (.invokevirtual 83, 3) := by decide +kernel
theorem dX7_valuesWith_26 : decode cX7_valuesWith 26 = .ok (.iload_n 3, 1) := by decide +kernel
theorem dX7_valuesWith_27 : decode cX7_valuesWith 27 = .ok (.if_icmp .ne 16, 3) := by decide +kernel
theorem dX7_valuesWith_30 : decode cX7_valuesWith 30 = .ok (.iconst 1, 1) := by decide +kernel
theorem dX7_valuesWith_31 : decode cX7_valuesWith 31 = .ok (.aload_n 0, 1) := by decide +kernel
theorem dX7_valuesWith_32 : decode cX7_valuesWith 32 = .ok (.getfield 15, 3) := by decide +kernel
theorem dX7_valuesWith_35 : decode cX7_valuesWith 35 = .ok (.iload_n 2, 1) := by decide +kernel
theorem dX7_valuesWith_36 : decode cX7_valuesWith 36 = .ok (.iload 4, 2) := by decide +kernel
theorem dX7_valuesWith_38 : decode cX7_valuesWith 38 = .ok (.invokevirtual 86, 3) := by decide +kernel
theorem dX7_valuesWith_41 : decode cX7_valuesWith 41 = .ok (.ishl, 1) := by decide +kernel
theorem dX7_valuesWith_42 : decode cX7_valuesWith 42 = .ok (.ireturn, 1) := by decide +kernel
theorem dX7_valuesWith_43 : decode cX7_valuesWith 43 = .ok (.iinc 4 1, 3) := by decide +kernel
theorem dX7_valuesWith_46 : decode cX7_valuesWith 46 = .ok (.goto (-43), 3) := by decide +kernel
theorem dX7_valuesWith_49 : decode cX7_valuesWith 49 = .ok (.aload_n 0, 1) := by decide +kernel
theorem dX7_valuesWith_50 : decode cX7_valuesWith 50 = .ok (.getfield 15, 3) := by decide +kernel
theorem dX7_valuesWith_53 : decode cX7_valuesWith 53 = .ok (.invokevirtual 89, 3) := by decide +kernel
theorem dX7_valuesWith_56 : decode cX7_valuesWith 56 = .ok (.ireturn, 1) := by decide +kernel
theorem dX7_isSomethingTakenAway_0 : decode cX7_isSomethingTakenAway 0 = .ok (.iconst 0, 1) := by decide +kernel
theorem dX7_isSomethingTakenAway_1 : decode cX7_isSomethingTakenAway 1 = .ok (.istore_n 1, 1) := by decide +kernel
theorem dX7_isSomethingTakenAway_2 : decode cX7_isSomethingTakenAway 2 = .ok (.iconst 0, 1) := by decide +kernel
theorem dX7_isSomethingTakenAway_3 : decode cX7_isSomethingTakenAway 3 = .ok (.istore_n 2, 1) := by decide +kernel
theorem dX7_isSomethingTakenAway_4 : decode cX7_isSomethingTakenAway 4 = .ok (.iload_n 2, 1) := by decide +kernel
theorem dX7_isSomethingTakenAway_5 : decode cX7_isSomethingTakenAway 5 = .ok (.aload_n 0, 1) := by decide +kernel
theorem dX7_isSomethingTakenAway_6 : decode cX7_isSomethingTakenAway 6 = .ok (.getfield 19, 3) := by decide +kernel
theorem dX7_isSomethingTakenAway_9 : decode cX7_isSomethingTakenAway 9 = .ok (.invokevirtual 57, 3) := by decide +kernel
theorem dX7_isSomethingTakenAway_12 : decode cX7_isSomethingTakenAway 12 = .ok (.if_icmp .ge 91, 3) := by decide +kernel
theorem dX7_isSomethingTakenAway_15 : decode cX7_isSomethingTakenAway 15 = .ok (.iconst 0, 1) := by decide +kernel
theorem dX7_isSomethingTakenAway_16 : decode cX7_isSomethingTakenAway 16 = .ok (.istore_n 3, 1) := by decide +kernel
theorem dX7_isSomethingTakenAway_17 : decode cX7_isSomethingTakenAway 17 = .ok (.iload_n 3, 1) := by decide +kernel
theorem dX7_isSomethingTakenAway_18 : decode cX7_isSomethingTakenAway 18 = .ok (.aload_n 0, 1) := by decide +kernel
theorem dX7_isSomethingTakenAway_19 : decode cX7_isSomethingTakenAway 19 = .ok (.getfield 19, 3) := by decide +kernel
theorem dX7_isSomethingTakenAway_22 : decode cX7_isSomethingTakenAway 22 = .ok (.invokevirtual 57, 3) := by decide +kernel
theorem dX7_isSomethingTakenAway_25 : decode cX7_isSomethingTakenAway 25 = .ok (.if_icmp .ge 72, 3) := by decide +kernel
theorem dX7_isSomethingTakenAway_28 : decode cX7_isSomethingTakenAway 28 = .ok (.iconst 0, 1) := by decide +kernel
theorem dX7_isSomethingTakenAway_29 : decode cX7_isSomethingTakenAway 29 = .ok (.istore 4, 2) := by decide +kernel
theorem dX7_isSomethingTakenAway_31 : decode cX7_isSomethingTakenAway 31 = .ok (.iload 4, 2) := by decide +kernel
theorem dX7_isSomethingTakenAway_33 : decode cX7_isSomethingTakenAway 33 = .ok (.aload_n 0, 1) := by decide +kernel
theorem dX7_isSomethingTakenAway_34 : decode cX7_isSomethingTakenAway 34 = .ok (.getfield 19, 3) := by decide +kernel
theorem dX7_isSomethingTakenAway_37 : decode cX7_isSomethingTakenAway 37 = .ok (.invokevirtual 57, 3) := by decide +kernel
theorem dX7_isSomethingTakenAway_40 : decode cX7_isSomethingTakenAway 40 = .ok (.if_icmp .ge 51, 3) := by decide +kernel
theorem dX7_isSomethingTakenAway_43 : decode cX7_isSomethingTakenAway 43 = .ok (.iload_n 2, 1) := by decide +kernel
theorem dX7_isSomethingTakenAway_44 : decode cX7_isSomethingTakenAway 44 = .ok (.iload_n 3, 1) := by decide +kernel
theorem dX7_isSomethingTakenAway_45 : decode cX7_isSomethingTakenAway 45 = .ok (.if_icmp .eq 19, 3) := by decide +kernel
theorem dX7_isSomethingTakenAway_48 : decode cX7_isSomethingTakenAway 48 = .ok (.iload_n 2, 1) := by decide +kernel
theorem dX7_isSomethingTakenAway_49 : decode cX7_isSomethingTakenAway 49 = .ok (.iload 4, 2) := by decide +kernel
theorem dX7_isSomethingTakenAway_51 : decode cX7_isSomethingTakenAway 51 = .ok (.if_icmp .eq 13, 3) := by decide +kernel
theorem dX7_isSomethingTakenAway_54 : decode cX7_isSomethingTakenAway 54 = .ok (.iload_n 3, 1) := by decide +kernel
theorem dX7_isSomethingTakenAway_55 : decode cX7_isSomethingTakenAway 55 = .ok (.iload 4, 2) := by decide +kernel
theorem dX7_isSomethingTakenAway_57 : decode cX7_isSomethingTakenAway 57 = .ok (.if_icmp .eq 7, 3) := by decide +kernel
theorem dX7_isSomethingTakenAway_60 : decode cX7_isSomethingTakenAway 60 = .ok (.iconst 1, 1) := by decide +kernel
theorem dX7_isSomethingTakenAway_61 : decode cX7_isSomethingTakenAway 61 = .ok (.goto 4, 3) := by decide +kernel
theorem dX7_isSomethingTakenAway_64 : decode cX7_isSomethingTakenAway 64 = .ok (.iconst 0, 1) := by decide +kernel
theorem dX7_isSomethingTakenAway_65 : decode cX7_isSomethingTakenAway 65 = .ok (.istore 5, 2) := by decide +kernel
theorem dX7_isSomethingTakenAway_67 : decode cX7_isSomethingTakenAway 67 = .ok (.iload 5, 2) := by decide +kernel
theorem dX7_isSomethingTakenAway_69 : decode cX7_isSomethingTakenAway 69 = .ok (.ifCond .eq 16, 3) := by decide +kernel
theorem dX7_isSomethingTakenAway_72 : decode cX7_isSomethingTakenAway 72 = .ok (.aload_n 0, 1) := by decide +kernel
theorem dX7_isSomethingTakenAway_73 : decode cX7_isSomethingTakenAway 73 = .ok (.iload_n 2, 1) := by decide +kernel
theorem dX7_isSomethingTakenAway_74 : decode cX7_isSomethingTakenAway 74 = .ok (.iload_n 3, 1) := by decide +kernel
theorem dX7_isSomethingTakenAway_75 : decode cX7_isSomethingTakenAway 75 = .ok (.iload 4, 2) := by decide +kernel
theorem dX7_isSomethingTakenAway_77 : decode cX7_isSomethingTakenAway 77 = .ok (.invokevirtual 92, 3) := by decide +kernel
theorem dX7_isSomethingTakenAway_80 : decode cX7_isSomethingTakenAway 80 = .ok (.ifCond .eq 5, 3) := by decide +kernel
theorem dX7_isSomethingTakenAway_83 : decode cX7_isSomethingTakenAway 83 = .ok (.iconst 1, 1) := by decide +kernel
theorem dX7_isSomethingTakenAway_84 : decode cX7_isSomethingTakenAway 84 = .ok (.istore_n 1, 1) := by decide +kernel
theorem dX7_isSomethingTakenAway_85 : decode cX7_isSomethingTakenAway 85 = .ok (.iinc 4 1, 3) := by decide +kernel
theorem dX7_isSomethingTakenAway_88 : decode cX7_isSomethingTakenAway 88 = .ok (.goto (-57), 3) := by decide +kernel
theorem dX7_isSomethingTakenAway_91 : decode cX7_isSomethingTakenAway 91 = .ok (.iinc 3 1, 3) := by decide +kernel
theorem dX7_isSomethingTakenAway_94 : decode cX7_isSomethingTakenAway 94 = .ok (.goto (-77), 3) := by decide +kernel
theorem dX7_isSomethingTakenAway_97 : decode cX7_isSomethingTakenAway 97 = .ok (.iinc 2 1, 3) := by decide +kernel
theorem dX7_isSomethingTakenAway_100 : decode cX7_isSomethingTakenAway 100 = .ok (.goto (-96), 3) := by decide +kernel
theorem dX7_isSomethingTakenAway_103 : decode cX7_isSomethingTakenAway 103 = .ok (.iload_n 1, 1) := by decide +kernel
theorem dX7_isSomethingTakenAway_104 : decode cX7_isSomethingTakenAway 104 = .ok (.ireturn, 1) := by decide +kernel
theorem dX7_takesAway_0 : decode cX7_takesAway 0 = .ok (.aload_n 0, 1) := by decide +kernel
theorem dX7_takesAway_1 : decode cX7_takesAway 1 = .ok (.iload_n 1, 1) := by decide +kernel
theorem dX7_takesAway_2 : decode cX7_takesAway 2 = .ok (.iload_n 2, 1) := by decide +kernel
theorem dX7_takesAway_3 : decode cX7_takesAway 3 = .ok (.invokevirtual 30, 3) := by decide +kernel
theorem dX7_takesAway_6 : decode cX7_takesAway 6 = .ok (.istore 4, 2) := by decide +kernel
theorem dX7_takesAway_8 : decode cX7_takesAway 8 = .ok (.iload 4, 2) := by decide +kernel
theorem dX7_takesAway_10 : decode cX7_takesAway 10 = .ok (.aload_n 0, 1) := by decide +kernel
theorem dX7_takesAway_11 : decode cX7_takesAway 11 = .ok (.aload_n 0, 1) := by decide +kernel
theorem dX7_takesAway_12 : decode cX7_takesAway 12 = .ok (.iload_n 1, 1) := by decide +kernel
theorem dX7_takesAway_13 : decode cX7_takesAway 13 = .ok (.iload_n 3, 1) := by decide +kernel
theorem dX7_takesAway_14 : decode cX7_takesAway 14 = .ok (.invokevirtual 30, 3) := by decide +kernel
theorem dX7_takesAway_17 : decode cX7_takesAway 17 = .ok (.aload_n 0, 1) := by decide +kernel
theorem dX7_takesAway_18 : decode cX7_takesAway 18 = .ok (.iload_n 3, 1) := by decide +kernel
theorem dX7_takesAway_19 : decode cX7_takesAway 19 = .ok (.iload_n 2, 1) := by decide +kernel
theorem dX7_takesAway_20 : decode cX7_takesAway 20 = .ok (.invokevirtual 30, 3) := by decide +kernel
theorem dX7_takesAway_23 : decode cX7_takesAway 23 = .ok (.invokevirtual 96, 3) := by decide +kernel
theorem dX7_takesAway_26 : decode cX7_takesAway 26 = .ok (.iand, 1) := by decide +kernel
theorem dX7_takesAway_27 : decode cX7_takesAway 27 = .ok (.istore 5, 2) := by decide +kernel
theorem dX7_takesAway_29 : decode cX7_takesAway 29 = .ok (.aload_n 0, 1) := by decide +kernel
theorem dX7_takesAway_30 : decode cX7_takesAway 30 = .ok (.iload_n 1, 1) := by decide +kernel
theorem dX7_takesAway_31 : decode cX7_takesAway 31 = .ok (.iload_n 2, 1) := by decide +kernel
theorem dX7_takesAway_32 : decode cX7_takesAway 32 = .ok (.iload 5, 2) := by decide +kernel
theorem dX7_takesAway_34 : decode cX7_takesAway 34 = .ok (.invokevirtual 79, 3) := by decide +kernel
theorem dX7_takesAway_37 : decode cX7_takesAway 37 = .ok (.iload 5, 2) := by decide +kernel
theorem dX7_takesAway_39 : decode cX7_takesAway 39 = .ok (.iload 4, 2) := by decide +kernel
theorem dX7_takesAway_41 : decode cX7_takesAway 41 = .ok (.if_icmp .eq 7, 3) := by decide +kernel
theorem dX7_takesAway_44 : decode cX7_takesAway 44 = .ok (.iconst 1, 1) := by decide +kernel
theorem dX7_takesAway_45 : decode cX7_takesAway 45 = .ok (.goto 4, 3) := by decide +kernel
theorem dX7_takesAway_48 : decode cX7_takesAway 48 = .ok (.iconst 0, 1) := by decide +kernel
theorem dX7_takesAway_49 : decode cX7_takesAway 49 = .ok (.ireturn, 1) := by decide +kernel
theorem dX7_joined_0 : decode cX7_joined 0 = .ok (.iconst 0, 1) := by decide +kernel
theorem dX7_joined_1 : decode cX7_joined 1 = .ok (.istore_n 3, 1) := by decide +kernel
theorem dX7_joined_2 : decode cX7_joined 2 = .ok (.iconst 0, 1) := by decide +kernel
theorem dX7_joined_3 : decode cX7_joined 3 = .ok (.istore 4, 2) := by decide +kernel
theorem dX7_joined_5 : decode cX7_joined 5 = .ok (.iload 4, 2) := by decide +kernel
theorem dX7_joined_7 : decode cX7_joined 7 = .ok (.aload_n 0, 1) := by decide +kernel
theorem dX7_joined_8 : decode cX7_joined 8 = .ok (.getfield 15, 3) := by decide +kernel
theorem dX7_joined_11 : decode cX7_joined 11 = .ok (.iconst 2, 1) := by decide +kernel
theorem dX7_joined_12 : decode cX7_joined 12 = .ok (.invokevirtual 42, 3) := by decide +kernel
theorem dX7_joined_15 : decode cX7_joined 15 = .ok (.if_icmp .ge 105, 3) := by decide +kernel
theorem dX7_joined_18 : decode cX7_joined 18 = .ok (.iload 4, 2) := by decide +kernel
theorem dX7_joined_20 : decode cX7_joined 20 = .ok (.iload_n 1, 1) := by decide +kernel
theorem dX7_joined_21 : decode cX7_joined 21 = .ok (.invokestatic 68, 3) := by decide +kernel
theorem dX7_joined_24 : decode cX7_joined 24 = .ok (.ifCond .eq 90, 3) := by decide +kernel
theorem dX7_joined_27 : decode cX7_joined 27 = .ok (.aload_n 0, 1) := by decide +kernel
theorem dX7_joined_28 : decode cX7_joined 28 = .ok (.getfield 15, 3) := by decide +kernel
theorem dX7_joined_31 : decode cX7_joined 31 = .ok (.iload 4, 2) := by decide +kernel
theorem dX7_joined_33 : decode cX7_joined 33 = .ok (.iconst 1, 1) := by decide +kernel
theorem dX7_joined_34 : decode cX7_joined 34 = .ok (.invokevirtual 86, 3) := by decide +kernel
theorem dX7_joined_37 : decode cX7_joined 37 = .ok (.istore 5, 2) := by decide +kernel
theorem dX7_joined_39 : decode cX7_joined 39 = .ok (.iconst 0, 1) := by decide +kernel
theorem dX7_joined_40 : decode cX7_joined 40 = .ok (.istore 6, 2) := by decide +kernel
theorem dX7_joined_42 : decode cX7_joined 42 = .ok (.iload 6, 2) := by decide +kernel
theorem dX7_joined_44 : decode cX7_joined 44 = .ok (.aload_n 0, 1) := by decide +kernel
theorem dX7_joined_45 : decode cX7_joined 45 = .ok (.getfield 15, 3) := by decide +kernel
theorem dX7_joined_48 : decode cX7_joined 48 = .ok (.getfield 76, 3) := by decide +kernel
theorem dX7_joined_51 : decode cX7_joined 51 = .ok (.if_icmp .ge 63, 3) := by decide +kernel
theorem dX7_joined_54 : decode cX7_joined 54 = .ok (.iload 5, 2) := by decide +kernel
theorem dX7_joined_56 : decode cX7_joined 56 = .ok (.aload_n 0, 1) := by decide +kernel
theorem dX7_joined_57 : decode cX7_joined 57 = .ok (.getfield 15, 3) := by decide +kernel
theorem dX7_joined_60 : decode cX7_joined 60 = .ok (.getfield 76, 3) := by decide +kernel
theorem dX7_joined_63 : decode cX7_joined 63 = .ok (.iload 6, 2) := by decide +kernel
theorem dX7_joined_65 : decode cX7_joined 65 = .ok (.imul, 1) := by decide +kernel
theorem dX7_joined_66 : decode cX7_joined 66 = .ok (.iadd, 1) := by decide +kernel
theorem dX7_joined_67 : decode cX7_joined 67 = .ok (.iload_n 2, 1) := by decide +kernel
theorem dX7_joined_68 : decode cX7_joined 68 = .ok (.invokestatic 68, 3) := by decide +kernel
theorem dX7_joined_71 : decode cX7_joined 71 = .ok (.istore 7, 2) := by decide +kernel
theorem dX7_joined_73 : decode cX7_joined 73 = .ok (.iload_n 3, 1) := by decide +kernel
theorem dX7_joined_74 : decode cX7_joined 74 = .ok (.iload 7, 2) := by decide +kernel
theorem dX7_joined_76 : decode cX7_joined 76 = .ok (.ifCond .eq 29, 3) := by decide +kernel
theorem dX7_joined_79 : decode cX7_joined 79 = .ok (.iconst 1, 1) := by decide +kernel
theorem dX7_joined_80 : decode cX7_joined 80 = .ok (.aload_n 0, 1) := by decide +kernel
theorem dX7_joined_81 : decode cX7_joined 81 = .ok (.getfield 15, 3) := by decide +kernel
theorem dX7_joined_84 : decode cX7_joined 84 = .ok (.iload 4, 2) := by decide +kernel
theorem dX7_joined_86 : decode cX7_joined 86 = .ok (.iconst 0, 1) := by decide +kernel
theorem dX7_joined_87 : decode cX7_joined 87 = .ok (.invokevirtual 86, 3) := by decide +kernel
theorem dX7_joined_90 : decode cX7_joined 90 = .ok (.aload_n 0, 1) := by decide +kernel
theorem dX7_joined_91 : decode cX7_joined 91 = .ok (.getfield 15, 3) := by decide +kernel
theorem dX7_joined_94 : decode cX7_joined 94 = .ok (.getfield 76, 3) := by decide +kernel
theorem dX7_joined_97 : decode cX7_joined 97 = .ok (.iload 6, 2) := by decide +kernel
theorem dX7_joined_99 : decode cX7_joined 99 = .ok (.imul, 1) := by decide +kernel
theorem dX7_joined_100 : decode cX7_joined 100 = .ok (.iadd, 1) := by decide +kernel
theorem dX7_joined_101 : decode cX7_joined 101 = .ok (.ishl, 1) := by decide +kernel
theorem dX7_joined_102 : decode cX7_joined 102 = .ok (.goto 4, 3) := by decide +kernel
theorem dX7_joined_105 : decode cX7_joined 105 = .ok (.iconst 0, 1) := by decide +kernel
theorem dX7_joined_106 : decode cX7_joined 106 = .ok (.ior, 1) := by decide +kernel
theorem dX7_joined_107 : decode cX7_joined 107 = .ok (.istore_n 3, 1) := by decide +kernel
theorem dX7_joined_108 : decode cX7_joined 108 = .ok (.iinc 6 1, 3) := by decide +kernel
theorem dX7_joined_111 : decode cX7_joined 111 = .ok (.goto (-69), 3) := by decide +kernel
theorem dX7_joined_114 : decode cX7_joined 114 = .ok (.iinc 4 1, 3) := by decide +kernel
theorem dX7_joined_117 : decode cX7_joined 117 = .ok (.goto (-112), 3) := by decide +kernel
theorem dX7_joined_120 : decode cX7_joined 120 = .ok (.iload_n 3, 1) := by decide +kernel
theorem dX7_joined_121 : decode cX7_joined 121 = .ok (.ireturn, 1) := by decide +kernel
theorem dX8_init_0 : decode cX8_init 0 = .ok (.aload_n 0, 1) := by decide +kernel
theorem dX8_init_1 : decode cX8_init 1 = .ok (.invokespecial 3, 3) := by decide +kernel
theorem dX8_init_4 : decode cX8_init 4 = .ok (.aload_n 0, 1) := by decide +kernel
theorem dX8_init_5 : decode cX8_init 5 = .ok (.sipush 729, 3) := by decide +kernel
theorem dX8_init_8 : decode cX8_init 8 = .ok (.newarray .int, 2) := by decide +kernel
theorem dX8_init_10 : decode cX8_init 10 = .ok (.putfield 9, 3) := by decide +kernel
theorem dX8_init_13 : decode cX8_init 13 = .ok (.aload_n 0, 1) := by decide +kernel
theorem dX8_init_14 : decode cX8_init 14 = .ok (.bipush 27, 2) := by decide +kernel
theorem dX8_init_16 : decode cX8_init 16 = .ok (.newarray .int, 2) := by decide +kernel
theorem dX8_init_18 : decode cX8_init 18 = .ok (.putfield 15, 3) := by decide +kernel
theorem dX8_init_21 : decode cX8_init 21 = .ok (.aload_n 0, 1) := by decide +kernel
theorem dX8_init_22 : decode cX8_init 22 = .ok (.bipush 27, 2) := by decide +kernel
theorem dX8_init_24 : decode cX8_init 24 = .ok (.newarray .int, 2) := by decide +kernel
theorem dX8_init_26 : decode cX8_init 26 = .ok (.putfield 18, 3) := by decide +kernel
theorem dX8_init_29 : decode cX8_init 29 = .ok (.aload_n 0, 1) := by decide +kernel
theorem dX8_init_30 : decode cX8_init 30 = .ok (.bipush 27, 2) := by decide +kernel
theorem dX8_init_32 : decode cX8_init 32 = .ok (.newarray .int, 2) := by decide +kernel
theorem dX8_init_34 : decode cX8_init 34 = .ok (.putfield 21, 3) := by decide +kernel
theorem dX8_init_37 : decode cX8_init 37 = .ok (.aload_n 0, 1) := by decide +kernel
theorem dX8_init_38 : decode cX8_init 38 = .ok (.aload_n 1, 1) := by decide +kernel
theorem dX8_init_39 : decode cX8_init 39 = .ok (.putfield 24, 3) := by decide +kernel
theorem dX8_init_42 : decode cX8_init 42 = .ok (.aload_n 0, 1) := by decide +kernel
theorem dX8_init_43 : decode cX8_init 43 = .ok (.aload_n 2, 1) := by decide +kernel
theorem dX8_init_44 : decode cX8_init 44 = .ok (.putfield 28, 3) := by decide +kernel
theorem dX8_init_47 : decode cX8_init 47 = .ok (.aload_n 0, 1) := by decide +kernel
theorem dX8_init_48 : decode cX8_init 48 = .ok (.aload_n 3, 1) := by decide +kernel
theorem dX8_init_49 : decode cX8_init 49 = .ok (.putfield 32, 3) := by decide +kernel
theorem dX8_init_52 : decode cX8_init 52 = .ok (.return_, 1) := by decide +kernel
theorem dX8_begin_0 : decode cX8_begin 0 = .ok (.aload_n 0, 1) := by decide +kernel
theorem dX8_begin_1 : decode cX8_begin 1 = .ok (.aload_n 0, 1) := by decide +kernel
theorem dX8_begin_2 : decode cX8_begin 2 = .ok (.getfield 24, 3) := by decide +kernel
theorem dX8_begin_5 : decode cX8_begin 5 = .ok (.iload_n 1, 1) := by decide +kernel
theorem dX8_begin_6 : decode cX8_begin 6 = .ok (.invokevirtual 36, 3) := by decide +kernel
theorem dX8_begin_9 : decode cX8_begin 9 = .ok (.putfield 42, 3) := by decide +kernel
theorem dX8_begin_12 : decode cX8_begin 12 = .ok (.iconst 0, 1) := by decide +kernel
theorem dX8_begin_13 : decode cX8_begin 13 = .ok (.istore_n 3, 1) := by decide +kernel
theorem dX8_begin_14 : decode cX8_begin 14 = .ok (.iload_n 3, 1) := by decide +kernel
theorem dX8_begin_15 : decode cX8_begin 15 = .ok (.aload_n 0, 1) := by decide +kernel
theorem dX8_begin_16 : decode cX8_begin 16 = .ok (.getfield 9, 3) := by decide +kernel
theorem dX8_begin_19 : decode cX8_begin 19 = .ok (.arraylength, 1) := by decide +kernel
theorem dX8_begin_20 : decode cX8_begin 20 = .ok (.if_icmp .ge 16, 3) := by decide +kernel
theorem dX8_begin_23 : decode cX8_begin 23 = .ok (.aload_n 0, 1) := by decide +kernel
theorem dX8_begin_24 : decode cX8_begin 24 = .ok (.getfield 9, 3) := by decide +kernel
theorem dX8_begin_27 : decode cX8_begin 27 = .ok (.iload_n 3, 1) := by decide +kernel
theorem dX8_begin_28 : decode cX8_begin 28 = .ok (.iconst (-1), 1) := by decide +kernel
theorem dX8_begin_29 : decode cX8_begin 29 = .ok (.iastore, 1) := by decide +kernel
theorem dX8_begin_30 : decode cX8_begin 30 = .ok (.iinc 3 1, 3) := by decide +kernel
theorem dX8_begin_33 : decode cX8_begin 33 = .ok (.goto (-19), 3) := by decide +kernel
theorem dX8_begin_36 : decode cX8_begin 36 = .ok (.iconst 0, 1) := by decide +kernel
theorem dX8_begin_37 : decode cX8_begin 37 = .ok (.istore_n 3, 1) := by decide +kernel
theorem dX8_begin_38 : decode cX8_begin 38 = .ok (.iload_n 3, 1) := by decide +kernel
theorem dX8_begin_39 : decode cX8_begin 39 = .ok (.aload_n 0, 1) := by decide +kernel
theorem dX8_begin_40 : decode cX8_begin 40 = .ok (.getfield 28, 3) := by decide +kernel
theorem dX8_begin_43 : decode cX8_begin 43 = .ok (.getfield 46, 3) := by decide +kernel
theorem dX8_begin_46 : decode cX8_begin 46 = .ok (.if_icmp .ge 35, 3) := by decide +kernel
theorem dX8_begin_49 : decode cX8_begin 49 = .ok (.iload_n 3, 1) := by decide +kernel
theorem dX8_begin_50 : decode cX8_begin 50 = .ok (.iload_n 2, 1) := by decide +kernel
theorem dX8_begin_51 : decode cX8_begin 51 = .ok (.if_icmp .eq 24, 3) := by decide +kernel
theorem dX8_begin_54 : decode cX8_begin 54 = .ok (.aload_n 0, 1) := by decide +kernel
theorem dX8_begin_55 : decode cX8_begin 55 = .ok (.iload_n 1, 1) := by decide +kernel
theorem dX8_begin_56 : decode cX8_begin 56 = .ok (.aload_n 0, 1) := by decide +kernel
theorem dX8_begin_57 : decode cX8_begin 57 = .ok (.getfield 28, 3) := by decide +kernel
theorem dX8_begin_60 : decode cX8_begin 60 = .ok (.iload_n 3, 1) := by decide +kernel
theorem dX8_begin_61 : decode cX8_begin 61 = .ok (.invokevirtual 51, 3) := by decide +kernel
theorem dX8_begin_64 : decode cX8_begin 64 = .ok (.aload_n 0, 1) := by decide +kernel
theorem dX8_begin_65 : decode cX8_begin 65 = .ok (.getfield 28, 3) := by decide +kernel
theorem dX8_begin_68 : decode cX8_begin 68 = .ok (.iload_n 3, 1) := by decide +kernel
theorem dX8_begin_69 : decode cX8_begin 69 = .ok (.invokevirtual 54, 3) := by decide +kernel
theorem dX8_begin_72 : decode cX8_begin 72 = .ok (.invokevirtual 57, 3) := by decide +kernel
theorem dX8_begin_75 : decode cX8_begin 75 = .ok (.iinc 3 1, 3) := by decide +kernel
theorem dX8_begin_78 : decode cX8_begin 78 = .ok (.goto (-40), 3) := by decide +kernel
theorem dX8_begin_81 : decode cX8_begin 81 = .ok (.aload_n 0, 1) := by decide +kernel
theorem dX8_begin_82 : decode cX8_begin 82 = .ok (.invokevirtual 61, 3) := by decide +kernel
theorem dX8_begin_85 : decode cX8_begin 85 = .ok (.return_, 1) := by decide +kernel
theorem dX8_allowAll_0 : decode cX8_allowAll 0 = .ok (.iconst 0, 1) := by decide +kernel
theorem dX8_allowAll_1 : decode cX8_allowAll 1 = .ok (.istore_n 1, 1) := by decide +kernel
theorem dX8_allowAll_2 : decode cX8_allowAll 2 = .ok (.iload_n 1, 1) := by decide +kernel
theorem dX8_allowAll_3 : decode cX8_allowAll 3 = .ok (.aload_n 0, 1) := by decide +kernel
theorem dX8_allowAll_4 : decode cX8_allowAll 4 = .ok (.getfield 15, 3) := by decide +kernel
theorem dX8_allowAll_7 : decode cX8_allowAll 7 = .ok (.arraylength, 1) := by decide +kernel
theorem dX8_allowAll_8 : decode cX8_allowAll 8 = .ok (.if_icmp .ge 22, 3) := by decide +kernel
theorem dX8_allowAll_11 : decode cX8_allowAll 11 = .ok (.aload_n 0, 1) := by decide +kernel
theorem dX8_allowAll_12 : decode cX8_allowAll 12 = .ok (.getfield 15, 3) := by decide +kernel
theorem dX8_allowAll_15 : decode cX8_allowAll 15 = .ok (.iload_n 1, 1) := by decide +kernel
theorem dX8_allowAll_16 : decode cX8_allowAll 16 = .ok (.aload_n 0, 1) := by decide +kernel
theorem dX8_allowAll_17 : decode cX8_allowAll 17 = .ok (.getfield 24, 3) := by decide +kernel
theorem dX8_allowAll_20 : decode cX8_allowAll 20 = .ok (.invokevirtual 64, 3) := by decide +kernel
theorem dX8_allowAll_23 : decode cX8_allowAll 23 = .ok (.iastore, 1) := by decide +kernel
theorem dX8_allowAll_24 : decode cX8_allowAll 24 = .ok (.iinc 1 1, 3) := by decide +kernel
theorem dX8_allowAll_27 : decode cX8_allowAll 27 = .ok (.goto (-25), 3) := by decide +kernel
theorem dX8_allowAll_30 : decode cX8_allowAll 30 = .ok (.return_, 1) := by decide +kernel
theorem dX8_allowOnly_0 : decode cX8_allowOnly 0 = .ok (.aload_n 0, 1) := by decide +kernel
theorem dX8_allowOnly_1 : decode cX8_allowOnly 1 = .ok (.getfield 15, 3) := by decide +kernel
theorem dX8_allowOnly_4 : decode cX8_allowOnly 4 = .ok (.iload_n 1, 1) := by decide +kernel
theorem dX8_allowOnly_5 : decode cX8_allowOnly 5 = .ok (.aload_n 0, 1) := by decide +kernel
theorem dX8_allowOnly_6 : decode cX8_allowOnly 6 = .ok (.getfield 15, 3) := by decide +kernel
theorem dX8_allowOnly_9 : decode cX8_allowOnly 9 = .ok (.iload_n 1, 1) := by decide +kernel
theorem dX8_allowOnly_10 : decode cX8_allowOnly 10 = .ok (.invokestatic 68, 3) := by decide +kernel
theorem dX8_allowOnly_13 : decode cX8_allowOnly 13 = .ok (.iconst 1, 1) := by decide +kernel
theorem dX8_allowOnly_14 : decode cX8_allowOnly 14 = .ok (.iload_n 2, 1) := by decide +kernel
theorem dX8_allowOnly_15 : decode cX8_allowOnly 15 = .ok (.ishl, 1) := by decide +kernel
theorem dX8_allowOnly_16 : decode cX8_allowOnly 16 = .ok (.iand, 1) := by decide +kernel
theorem dX8_allowOnly_17 : decode cX8_allowOnly 17 = .ok (.invokestatic 72, 3) := by decide +kernel
theorem dX8_allowOnly_20 : decode cX8_allowOnly 20 = .ok (.return_, 1) := by decide +kernel
theorem dX8_ask_0 : decode cX8_ask 0 = .ok (.iconst 0, 1) := by decide +kernel
theorem dX8_ask_1 : decode cX8_ask 1 = .ok (.istore 4, 2) := by decide +kernel
theorem dX8_ask_3 : decode cX8_ask 3 = .ok (.iconst 0, 1) := by decide +kernel
theorem dX8_ask_4 : decode cX8_ask 4 = .ok (.istore 5, 2) := by decide +kernel
theorem dX8_ask_6 : decode cX8_ask 6 = .ok (.iload 5, 2) := by decide +kernel
theorem dX8_ask_8 : decode cX8_ask 8 = .ok (.aload_n 0, 1) := by decide +kernel
theorem dX8_ask_9 : decode cX8_ask 9 = .ok (.getfield 24, 3) := by decide +kernel
theorem dX8_ask_12 : decode cX8_ask 12 = .ok (.aload_n 0, 1) := by decide +kernel
theorem dX8_ask_13 : decode cX8_ask 13 = .ok (.getfield 24, 3) := by decide +kernel
theorem dX8_ask_16 : decode cX8_ask 16 = .ok (.invokevirtual 76, 3) := by decide +kernel
theorem dX8_ask_19 : decode cX8_ask 19 = .ok (.invokevirtual 36, 3) := by decide +kernel
theorem dX8_ask_22 : decode cX8_ask 22 = .ok (.if_icmp .ge 32, 3) := by decide +kernel
theorem dX8_ask_25 : decode cX8_ask 25 = .ok (.iload 4, 2) := by decide +kernel
theorem dX8_ask_27 : decode cX8_ask 27 = .ok (.iload_n 3, 1) := by decide +kernel
theorem dX8_ask_28 : decode cX8_ask 28 = .ok (.iload 5, 2) := by decide +kernel
theorem dX8_ask_30 : decode cX8_ask 30 = .ok (.ishl, 1) := by decide +kernel
theorem dX8_ask_31 : decode cX8_ask 31 = .ok (.ior, 1) := by decide +kernel
theorem dX8_ask_32 : decode cX8_ask 32 = .ok (.istore 4, 2) := by decide +kernel
theorem dX8_ask_34 : decode cX8_ask 34 = .ok (.iload 5, 2) := by decide +kernel
theorem dX8_ask_36 : decode cX8_ask 36 = .ok (.iconst 1, 1) := by decide +kernel
theorem dX8_ask_37 : decode cX8_ask 37 = .ok (.aload_n 0, 1) := by decide +kernel
theorem dX8_ask_38 : decode cX8_ask 38 = .ok (.getfield 24, 3) := by decide +kernel
theorem dX8_ask_41 : decode cX8_ask 41 = .ok (.iload_n 2, 1) := by decide +kernel
theorem dX8_ask_42 : decode cX8_ask 42 = .ok (.invokevirtual 36, 3) := by decide +kernel
theorem dX8_ask_45 : decode cX8_ask 45 = .ok (.invokestatic 79, 3) := by decide +kernel
theorem dX8_ask_48 : decode cX8_ask 48 = .ok (.iadd, 1) := by decide +kernel
theorem dX8_ask_49 : decode cX8_ask 49 = .ok (.istore 5, 2) := by decide +kernel
theorem dX8_ask_51 : decode cX8_ask 51 = .ok (.goto (-45), 3) := by decide +kernel
theorem dX8_ask_54 : decode cX8_ask 54 = .ok (.aload_n 0, 1) := by decide +kernel
theorem dX8_ask_55 : decode cX8_ask 55 = .ok (.getfield 32, 3) := by decide +kernel
theorem dX8_ask_58 : decode cX8_ask 58 = .ok (.iload_n 1, 1) := by decide +kernel
theorem dX8_ask_59 : decode cX8_ask 59 = .ok (.iload_n 3, 1) := by decide +kernel
theorem dX8_ask_60 : decode cX8_ask 60 = .ok (.invokevirtual 85, 3) := by decide +kernel
theorem dX8_ask_63 : decode cX8_ask 63 = .ok (.istore 5, 2) := by decide +kernel
theorem dX8_ask_65 : decode cX8_ask 65 = .ok (.iload 5, 2) := by decide +kernel
theorem dX8_ask_67 : decode cX8_ask 67 = .ok (.ifCond .le 99, 3) := by decide +kernel
theorem dX8_ask_70 : decode cX8_ask 70 = .ok (.aload_n 0, 1) := by decide +kernel
theorem dX8_ask_71 : decode cX8_ask 71 = .ok (.getfield 32, 3) := by decide +kernel
theorem dX8_ask_74 : decode cX8_ask 74 = .ok (.invokevirtual 90, 3) := by decide +kernel
theorem dX8_ask_77 : decode cX8_ask 77 = .ok (.istore 6, 2) := by decide +kernel
theorem dX8_ask_79 : decode cX8_ask 79 = .ok (.aload_n 0, 1) := by decide +kernel
theorem dX8_ask_80 : decode cX8_ask 80 = .ok (.getfield 24, 3) := by decide +kernel
theorem dX8_ask_83 : decode cX8_ask 83 = .ok (.iload 6, 2) := by decide +kernel
theorem dX8_ask_85 : decode cX8_ask 85 = .ok (.iconst 0, 1) := by decide +kernel
theorem dX8_ask_86 : decode cX8_ask 86 = .ok (.invokevirtual 93, 3) := by decide +kernel
theorem dX8_ask_89 : decode cX8_ask 89 = .ok (.istore 7, 2) := by decide +kernel
theorem dX8_ask_91 : decode cX8_ask 91 = .ok (.aload_n 0, 1) := by decide +kernel
theorem dX8_ask_92 : decode cX8_ask 92 = .ok (.getfield 24, 3) := by decide +kernel
theorem dX8_ask_95 : decode cX8_ask 95 = .ok (.iload 6, 2) := by decide +kernel
theorem dX8_ask_97 : decode cX8_ask 97 = .ok (.iconst 1, 1) := by decide +kernel
theorem dX8_ask_98 : decode cX8_ask 98 = .ok (.iload_n 2, 1) := by decide +kernel
theorem dX8_ask_99 : decode cX8_ask 99 = .ok (.iconst 1, 1) := by decide +kernel
theorem dX8_ask_100 : decode cX8_ask 100 = .ok (.isub, 1) := by decide +kernel
theorem dX8_ask_101 : decode cX8_ask 101 = .ok (.invokestatic 96, 3) := by decide +kernel
theorem dX8_ask_104 : decode cX8_ask 104 = .ok (.invokevirtual 93, 3) := by decide +kernel
theorem dX8_ask_107 : decode cX8_ask 107 = .ok (.istore 8, 2) := by decide +kernel
theorem dX8_ask_109 : decode cX8_ask 109 = .ok (.aload_n 0, 1) := by decide +kernel
theorem dX8_ask_110 : decode cX8_ask 110 = .ok (.getfield 24, 3) := by decide +kernel
theorem dX8_ask_113 : decode cX8_ask 113 = .ok (.iload 6, 2) := by decide +kernel
theorem dX8_ask_115 : decode cX8_ask 115 = .ok (.iconst 2, 1) := by decide +kernel
theorem dX8_ask_116 : decode cX8_ask 116 = .ok (.iload_n 2, 1) := by decide +kernel
theorem dX8_ask_117 : decode cX8_ask 117 = .ok (.iconst 1, 1) := by decide +kernel
theorem dX8_ask_118 : decode cX8_ask 118 = .ok (.isub, 1) := by decide +kernel
theorem dX8_ask_119 : decode cX8_ask 119 = .ok (.invokestatic 96, 3) := by decide +kernel
theorem dX8_ask_122 : decode cX8_ask 122 = .ok (.invokevirtual 93, 3) := by decide +kernel
theorem dX8_ask_125 : decode cX8_ask 125 = .ok (.istore 9, 2) := by decide +kernel
theorem dX8_ask_127 : decode cX8_ask 127 = .ok (.aload_n 0, 1) := by decide +kernel
theorem dX8_ask_128 : decode cX8_ask 128 = .ok (.iload 7, 2) := by decide +kernel
theorem dX8_ask_130 : decode cX8_ask 130 = .ok (.iload 8, 2) := by decide +kernel
theorem dX8_ask_132 : decode cX8_ask 132 = .ok (.iload 9, 2) := by decide +kernel
theorem dX8_ask_134 : decode cX8_ask 134 = .ok (.invokevirtual 99, 3) := by decide +kernel
theorem dX8_ask_137 : decode cX8_ask 137 = .ok (.istore 10, 2) := by decide +kernel
theorem dX8_ask_139 : decode cX8_ask 139 = .ok (.aload_n 0, 1) := by decide +kernel
theorem dX8_ask_140 : decode cX8_ask 140 = .ok (.getfield 9, 3) := by decide +kernel
theorem dX8_ask_143 : decode cX8_ask 143 = .ok (.iload 10, 2) := by decide +kernel
theorem dX8_ask_145 : decode cX8_ask 145 = .ok (.aload_n 0, 1) := by decide +kernel
theorem dX8_ask_146 : decode cX8_ask 146 = .ok (.getfield 9, 3) := by decide +kernel
theorem dX8_ask_149 : decode cX8_ask 149 = .ok (.iload 10, 2) := by decide +kernel
theorem dX8_ask_151 : decode cX8_ask 151 = .ok (.invokestatic 68, 3) := by decide +kernel
theorem dX8_ask_154 : decode cX8_ask 154 = .ok (.iload 4, 2) := by decide +kernel
theorem dX8_ask_156 : decode cX8_ask 156 = .ok (.iand, 1) := by decide +kernel
theorem dX8_ask_157 : decode cX8_ask 157 = .ok (.invokestatic 72, 3) := by decide +kernel
theorem dX8_ask_160 : decode cX8_ask 160 = .ok (.iinc 5 (-1), 3) := by decide +kernel
theorem dX8_ask_163 : decode cX8_ask 163 = .ok (.goto (-98), 3) := by decide +kernel
theorem dX8_ask_166 : decode cX8_ask 166 = .ok (.return_, 1) := by decide +kernel
theorem dX8_keyOf_0 : decode cX8_keyOf 0 = .ok (.iload_n 1, 1) := by decide +kernel
theorem dX8_keyOf_1 : decode cX8_keyOf 1 = .ok (.aload_n 0, 1) := by decide +kernel
theorem dX8_keyOf_2 : decode cX8_keyOf 2 = .ok (.getfield 42, 3) := by decide +kernel
theorem dX8_keyOf_5 : decode cX8_keyOf 5 = .ok (.iload_n 2, 1) := by decide +kernel
theorem dX8_keyOf_6 : decode cX8_keyOf 6 = .ok (.imul, 1) := by decide +kernel
theorem dX8_keyOf_7 : decode cX8_keyOf 7 = .ok (.iadd, 1) := by decide +kernel
theorem dX8_keyOf_8 : decode cX8_keyOf 8 = .ok (.aload_n 0, 1) := by decide +kernel
theorem dX8_keyOf_9 : decode cX8_keyOf 9 = .ok (.getfield 24, 3) := by decide +kernel
theorem dX8_keyOf_12 : decode cX8_keyOf 12 = .ok (.invokevirtual 76, 3) := by decide +kernel
theorem dX8_keyOf_15 : decode cX8_keyOf 15 = .ok (.iconst 2, 1) := by decide +kernel
theorem dX8_keyOf_16 : decode cX8_keyOf 16 = .ok (.if_icmp .le 17, 3) := by decide +kernel
theorem dX8_keyOf_19 : decode cX8_keyOf 19 = .ok (.aload_n 0, 1) := by decide +kernel
theorem dX8_keyOf_20 : decode cX8_keyOf 20 = .ok (.getfield 42, 3) := by decide +kernel
theorem dX8_keyOf_23 : decode cX8_keyOf 23 = .ok (.aload_n 0, 1) := by decide +kernel
theorem dX8_keyOf_24 : decode cX8_keyOf 24 = .ok (.getfield 42, 3) := by decide +kernel
theorem dX8_keyOf_27 : decode cX8_keyOf 27 = .ok (.imul, 1) := by decide +kernel
theorem dX8_keyOf_28 : decode cX8_keyOf 28 = .ok (.iload_n 3, 1) := by decide +kernel
theorem dX8_keyOf_29 : decode cX8_keyOf 29 = .ok (.imul, 1) := by decide +kernel
theorem dX8_keyOf_30 : decode cX8_keyOf 30 = .ok (.goto 4, 3) := by decide +kernel
theorem dX8_keyOf_33 : decode cX8_keyOf 33 = .ok (.iconst 0, 1) := by decide +kernel
theorem dX8_keyOf_34 : decode cX8_keyOf 34 = .ok (.iadd, 1) := by decide +kernel
theorem dX8_keyOf_35 : decode cX8_keyOf 35 = .ok (.ireturn, 1) := by decide +kernel
theorem dX8_find_0 : decode cX8_find 0 = .ok (.aload_n 0, 1) := by decide +kernel
theorem dX8_find_1 : decode cX8_find 1 = .ok (.iconst 0, 1) := by decide +kernel
theorem dX8_find_2 : decode cX8_find 2 = .ok (.iconst 1, 1) := by decide +kernel
theorem dX8_find_3 : decode cX8_find 3 = .ok (.invokevirtual 103, 3) := by decide +kernel
theorem dX8_find_6 : decode cX8_find 6 = .ok (.istore_n 1, 1) := by decide +kernel
theorem dX8_find_7 : decode cX8_find 7 = .ok (.aload_n 0, 1) := by decide +kernel
theorem dX8_find_8 : decode cX8_find 8 = .ok (.iload_n 1, 1) := by decide +kernel
theorem dX8_find_9 : decode cX8_find 9 = .ok (.iconst 0, 1) := by decide +kernel
theorem dX8_find_10 : decode cX8_find 10 = .ok (.invokevirtual 103, 3) := by decide +kernel
theorem dX8_find_13 : decode cX8_find 13 = .ok (.pop, 1) := by decide +kernel
theorem dX8_find_14 : decode cX8_find 14 = .ok (.aload_n 0, 1) := by decide +kernel
theorem dX8_find_15 : decode cX8_find 15 = .ok (.iconst 0, 1) := by decide +kernel
theorem dX8_find_16 : decode cX8_find 16 = .ok (.invokestatic 107, 3) := by decide +kernel
theorem dX8_find_19 : decode cX8_find 19 = .ok (.ireturn, 1) := by decide +kernel
theorem dX8_orderPoints_0 : decode cX8_orderPoints 0 = .ok (.iload_n 1, 1) := by decide +kernel
theorem dX8_orderPoints_1 : decode cX8_orderPoints 1 = .ok (.istore_n 3, 1) := by decide +kernel
theorem dX8_orderPoints_2 : decode cX8_orderPoints 2 = .ok (.aload_n 0, 1) := by decide +kernel
theorem dX8_orderPoints_3 : decode cX8_orderPoints 3 = .ok (.getfield 42, 3) := by decide +kernel
theorem dX8_orderPoints_6 : decode cX8_orderPoints 6 = .ok (.iconst 1, 1) := by decide +kernel
theorem dX8_orderPoints_7 : decode cX8_orderPoints 7 = .ok (.isub, 1) := by decide +kernel
theorem dX8_orderPoints_8 : decode cX8_orderPoints 8 = .ok (.istore 4, 2) := by decide +kernel
theorem dX8_orderPoints_10 : decode cX8_orderPoints 10 = .ok (.iload 4, 2) := by decide +kernel
theorem dX8_orderPoints_12 : decode cX8_orderPoints 12 = .ok (.ifCond .lt 51, 3) := by decide +kernel
theorem dX8_orderPoints_15 : decode cX8_orderPoints 15 = .ok (.aload_n 0, 1) := by decide +kernel
theorem dX8_orderPoints_16 : decode cX8_orderPoints 16 = .ok (.getfield 15, 3) := by decide +kernel
theorem dX8_orderPoints_19 : decode cX8_orderPoints 19 = .ok (.iload 4, 2) := by decide +kernel
theorem dX8_orderPoints_21 : decode cX8_orderPoints 21 = .ok (.invokestatic 68, 3) := by decide +kernel
theorem dX8_orderPoints_24 : decode cX8_orderPoints 24 = .ok (.invokestatic 111, 3) := by decide +kernel
theorem dX8_orderPoints_27 : decode cX8_orderPoints 27 = .ok (.iconst 1, 1) := by decide +kernel
theorem dX8_orderPoints_28 : decode cX8_orderPoints 28 = .ok (.if_icmp .gt 7, 3) := by decide +kernel
theorem dX8_orderPoints_31 : decode cX8_orderPoints 31 = .ok (.iconst 1, 1) := by decide +kernel
theorem dX8_orderPoints_32 : decode cX8_orderPoints 32 = .ok (.goto 4, 3) := by decide +kernel
theorem dX8_orderPoints_35 : decode cX8_orderPoints 35 = .ok (.iconst 0, 1) := by decide +kernel
theorem dX8_orderPoints_36 : decode cX8_orderPoints 36 = .ok (.istore 5, 2) := by decide +kernel
theorem dX8_orderPoints_38 : decode cX8_orderPoints 38 = .ok (.iload 5, 2) := by decide +kernel
theorem dX8_orderPoints_40 : decode cX8_orderPoints 40 = .ok (.iload_n 2, 1) := by decide +kernel
theorem dX8_orderPoints_41 : decode cX8_orderPoints 41 = .ok (.if_icmp .ne 16, 3) := by decide +kernel
theorem dX8_orderPoints_44 : decode cX8_orderPoints 44 = .ok (.aload_n 0, 1) := by decide +kernel
theorem dX8_orderPoints_45 : decode cX8_orderPoints 45 = .ok (.getfield 18, 3) := by decide +kernel
theorem dX8_orderPoints_48 : decode cX8_orderPoints 48 = .ok (.iload_n 3, 1) := by decide +kernel
theorem dX8_orderPoints_49 : decode cX8_orderPoints 49 = .ok (.iload 4, 2) := by decide +kernel
theorem dX8_orderPoints_51 : decode cX8_orderPoints 51 = .ok (.invokestatic 72, 3) := by decide +kernel
theorem dX8_orderPoints_54 : decode cX8_orderPoints 54 = .ok (.iinc 3 1, 3) := by decide +kernel
theorem dX8_orderPoints_57 : decode cX8_orderPoints 57 = .ok (.iinc 4 (-1), 3) := by decide +kernel
theorem dX8_orderPoints_60 : decode cX8_orderPoints 60 = .ok (.goto (-50), 3) := by decide +kernel
theorem dX8_orderPoints_63 : decode cX8_orderPoints 63 = .ok (.iload_n 3, 1) := by decide +kernel
theorem dX8_orderPoints_64 : decode cX8_orderPoints 64 = .ok (.ireturn, 1) := by decide +kernel
theorem dX8_isCompleted_0 : decode cX8_isCompleted 0 = .ok (.iload_n 1, 1) := by decide +kernel
theorem dX8_isCompleted_1 : decode cX8_isCompleted 1 = .ok (.aload_n 0, 1) := by decide +kernel
theorem dX8_isCompleted_2 : decode cX8_isCompleted 2 = .ok (.getfield 42, 3) := by decide +kernel
theorem dX8_isCompleted_5 : decode cX8_isCompleted 5 = .ok (.if_icmp .lt 5, 3) := by decide +kernel
theorem dX8_isCompleted_8 : decode cX8_isCompleted 8 = .ok (.iconst 1, 1) := by decide +kernel
theorem dX8_isCompleted_9 : decode cX8_isCompleted 9 = .ok (.ireturn, 1) := by decide +kernel
theorem dX8_isCompleted_10 : decode cX8_isCompleted 10 = .ok (.aload_n 0, 1) := by decide +kernel
theorem dX8_isCompleted_11 : decode cX8_isCompleted 11 = .ok (.getfield 18, 3) := by decide +kernel
theorem dX8_isCompleted_14 : decode cX8_isCompleted 14 = .ok (.iload_n 1, 1) := by decide +kernel
theorem dX8_isCompleted_15 : decode cX8_isCompleted 15 = .ok (.invokestatic 68, 3) := by decide +kernel
theorem dX8_isCompleted_18 : decode cX8_isCompleted 18 = .ok (.istore_n 2, 1) := by decide +kernel
theorem dX8_isCompleted_19 : decode cX8_isCompleted 19 = .ok (.iconst 0, 1) := by decide +kernel
theorem dX8_isCompleted_20 : decode cX8_isCompleted 20 = .ok (.istore_n 3, 1) := by decide +kernel
theorem dX8_isCompleted_21 : decode cX8_isCompleted 21 = .ok (.iload_n 3, 1) := by decide +kernel
theorem dX8_isCompleted_22 : decode cX8_isCompleted 22 = .ok (.aload_n 0, 1) := by decide +kernel
theorem dX8_isCompleted_23 : decode cX8_isCompleted 23 = .ok (.getfield 24, 3) := by decide +kernel
theorem dX8_isCompleted_26 : decode cX8_isCompleted 26 = .ok (.getfield 116, 3) := by decide +kernel
theorem dX8_isCompleted_29 : decode cX8_isCompleted 29 = .ok (.if_icmp .ge 53, 3) := by decide +kernel
theorem dX8_isCompleted_32 : decode cX8_isCompleted 32 = .ok (.iload_n 3, 1) := by decide +kernel
theorem dX8_isCompleted_33 : decode cX8_isCompleted 33 = .ok (.aload_n 0, 1) := by decide +kernel
theorem dX8_isCompleted_34 : decode cX8_isCompleted 34 = .ok (.getfield 15, 3) := by decide +kernel
theorem dX8_isCompleted_37 : decode cX8_isCompleted 37 = .ok (.iload_n 2, 1) := by decide +kernel
theorem dX8_isCompleted_38 : decode cX8_isCompleted 38 = .ok (.invokestatic 68, 3) := by decide +kernel
theorem dX8_isCompleted_41 : decode cX8_isCompleted 41 = .ok (.invokestatic 119, 3) := by decide +kernel
theorem dX8_isCompleted_44 : decode cX8_isCompleted 44 = .ok (.ifCond .eq 32, 3) := by decide +kernel
theorem dX8_isCompleted_47 : decode cX8_isCompleted 47 = .ok (.aload_n 0, 1) := by decide +kernel
theorem dX8_isCompleted_48 : decode cX8_isCompleted 48 = .ok (.getfield 21, 3) := by decide +kernel
theorem dX8_isCompleted_51 : decode cX8_isCompleted 51 = .ok (.iload_n 2, 1) := by decide +kernel
theorem dX8_isCompleted_52 : decode cX8_isCompleted 52 = .ok (.iload_n 3, 1) := by decide +kernel
theorem dX8_isCompleted_53 : decode cX8_isCompleted 53 = .ok (.invokestatic 72, 3) := by decide +kernel
theorem dX8_isCompleted_56 : decode cX8_isCompleted 56 = .ok (.aload_n 0, 1) := by decide +kernel
theorem dX8_isCompleted_57 : decode cX8_isCompleted 57 = .ok (.iload_n 1, 1) := by decide +kernel
theorem dX8_isCompleted_58 : decode cX8_isCompleted 58 = .ok (.invokevirtual 123, 3) := by decide +kernel
theorem dX8_isCompleted_61 : decode cX8_isCompleted 61 = .ok (.ifCond .eq 15, 3) := by decide +kernel
theorem dX8_isCompleted_64 : decode cX8_isCompleted 64 = .ok (.aload_n 0, 1) := by decide +kernel
theorem dX8_isCompleted_65 : decode cX8_isCompleted 65 = .ok (.iload_n 1, 1) := by decide +kernel
theorem dX8_isCompleted_66 : decode cX8_isCompleted 66 = .ok (.iconst 1, 1) := by decide +kernel
theorem dX8_isCompleted_67 : decode cX8_isCompleted 67 = .ok (.iadd, 1) := by decide +kernel
theorem dX8_isCompleted_68 : decode cX8_isCompleted 68 = .ok (.invokestatic 107, 3) := by decide +kernel
theorem dX8_isCompleted_71 : decode cX8_isCompleted 71 = .ok (.ifCond .eq 5, 3) := by decide +kernel
theorem dX8_isCompleted_74 : decode cX8_isCompleted 74 = .ok (.iconst 1, 1) := by decide +kernel
theorem dX8_isCompleted_75 : decode cX8_isCompleted 75 = .ok (.ireturn, 1) := by decide +kernel
theorem dX8_isCompleted_76 : decode cX8_isCompleted 76 = .ok (.iinc 3 1, 3) := by decide +kernel
theorem dX8_isCompleted_79 : decode cX8_isCompleted 79 = .ok (.goto (-58), 3) := by decide +kernel
theorem dX8_isCompleted_82 : decode cX8_isCompleted 82 = .ok (.iconst 0, 1) := by decide +kernel
theorem dX8_isCompleted_83 : decode cX8_isCompleted 83 = .ok (.ireturn, 1) := by decide +kernel
theorem dX8_isFitting_0 : decode cX8_isFitting 0 = .ok (.aload_n 0, 1) := by decide +kernel
theorem dX8_isFitting_1 : decode cX8_isFitting 1 = .ok (.getfield 18, 3) := by decide +kernel
theorem dX8_isFitting_4 : decode cX8_isFitting 4 = .ok (.iload_n 1, 1) := by decide +kernel
theorem dX8_isFitting_5 : decode cX8_isFitting 5 = .ok (.invokestatic 68, 3) := by decide +kernel
theorem dX8_isFitting_8 : decode cX8_isFitting 8 = .ok (.istore_n 2, 1) := by decide +kernel
theorem dX8_isFitting_9 : decode cX8_isFitting 9 = .ok (.aload_n 0, 1) := by decide +kernel
theorem dX8_isFitting_10 : decode cX8_isFitting 10 = .ok (.getfield 24, 3) := by decide +kernel
theorem dX8_isFitting_13 : decode cX8_isFitting 13 = .ok (.invokevirtual 76, 3) := by decide +kernel
theorem dX8_isFitting_16 : decode cX8_isFitting 16 = .ok (.iconst 2, 1) := by decide +kernel
theorem dX8_isFitting_17 : decode cX8_isFitting 17 = .ok (.if_icmp .le 7, 3) := by decide +kernel
theorem dX8_isFitting_20 : decode cX8_isFitting 20 = .ok (.iload_n 1, 1) := by decide +kernel
theorem dX8_isFitting_21 : decode cX8_isFitting 21 = .ok (.goto 4, 3) := by decide +kernel
theorem dX8_isFitting_24 : decode cX8_isFitting 24 = .ok (.iconst 0, 1) := by decide +kernel
theorem dX8_isFitting_25 : decode cX8_isFitting 25 = .ok (.istore_n 3, 1) := by decide +kernel
theorem dX8_isFitting_26 : decode cX8_isFitting 26 = .ok (.iconst 0, 1) := by decide +kernel
theorem dX8_isFitting_27 : decode cX8_isFitting 27 = .ok (.istore 4, 2) := by decide +kernel
theorem dX8_isFitting_29 : decode cX8_isFitting 29 = .ok (.iload 4, 2) := by decide +kernel
theorem dX8_isFitting_31 : decode cX8_isFitting 31 = .ok (.iload_n 1, 1) := by decide +kernel
theorem dX8_isFitting_32 : decode cX8_isFitting 32 = .ok (.if_icmp .gt 84, 3) := by decide +kernel
theorem dX8_isFitting_35 : decode cX8_isFitting 35 = .ok (.aload_n 0, 1) := by decide +kernel
theorem dX8_isFitting_36 : decode cX8_isFitting 36 = .ok (.getfield 18, 3) := by decide +kernel
theorem dX8_isFitting_39 : decode cX8_isFitting 39 = .ok (.iload 4, 2) := by decide +kernel
theorem dX8_isFitting_41 : decode cX8_isFitting 41 = .ok (.invokestatic 68, 3) := by decide +kernel
theorem dX8_isFitting_44 : decode cX8_isFitting 44 = .ok (.istore 5, 2) := by decide +kernel
theorem dX8_isFitting_46 : decode cX8_isFitting 46 = .ok (.iconst 0, 1) := by decide +kernel
theorem dX8_isFitting_47 : decode cX8_isFitting 47 = .ok (.istore 6, 2) := by decide +kernel
theorem dX8_isFitting_49 : decode cX8_isFitting 49 = .ok (.iload 6, 2) := by decide +kernel
theorem dX8_isFitting_51 : decode cX8_isFitting 51 = .ok (.iload_n 3, 1) := by decide +kernel
theorem dX8_isFitting_52 : decode cX8_isFitting 52 = .ok (.if_icmp .gt 58, 3) := by decide +kernel
theorem dX8_isFitting_55 : decode cX8_isFitting 55 = .ok (.aload_n 0, 1) := by decide +kernel
theorem dX8_isFitting_56 : decode cX8_isFitting 56 = .ok (.getfield 18, 3) := by decide +kernel
theorem dX8_isFitting_59 : decode cX8_isFitting 59 = .ok (.iload 6, 2) := by decide +kernel
theorem dX8_isFitting_61 : decode cX8_isFitting 61 = .ok (.invokestatic 68, 3) := by decide +kernel
theorem dX8_isFitting_64 : decode cX8_isFitting 64 = .ok (.istore 7, 2) := by decide +kernel
theorem dX8_isFitting_66 : decode cX8_isFitting 66 = .ok (.aload_n 0, 1) := by decide +kernel
theorem dX8_isFitting_67 : decode cX8_isFitting 67 = .ok (.iload_n 2, 1) := by decide +kernel
theorem dX8_isFitting_68 : decode cX8_isFitting 68 = .ok (.iload 5, 2) := by decide +kernel
theorem dX8_isFitting_70 : decode cX8_isFitting 70 = .ok (.iload 7, 2) := by decide +kernel
theorem dX8_isFitting_72 : decode cX8_isFitting 72 = .ok (.invokevirtual 127, 3) := by decide +kernel
theorem dX8_isFitting_75 : decode cX8_isFitting 75 = .ok (.ifCond .eq 27, 3) := by decide +kernel
theorem dX8_isFitting_78 : decode cX8_isFitting 78 = .ok (.aload_n 0, 1) := by decide +kernel
theorem dX8_isFitting_79 : decode cX8_isFitting 79 = .ok (.iload 5, 2) := by decide +kernel
theorem dX8_isFitting_81 : decode cX8_isFitting 81 = .ok (.iload_n 2, 1) := by decide +kernel
theorem dX8_isFitting_82 : decode cX8_isFitting 82 = .ok (.iload 7, 2) := by decide +kernel
theorem dX8_isFitting_84 : decode cX8_isFitting 84 = .ok (.invokevirtual 127, 3) := by decide +kernel
theorem dX8_isFitting_87 : decode cX8_isFitting 87 = .ok (.ifCond .eq 15, 3) := by decide +kernel
theorem dX8_isFitting_90 : decode cX8_isFitting 90 = .ok (.aload_n 0, 1) := by decide +kernel
theorem dX8_isFitting_91 : decode cX8_isFitting 91 = .ok (.iload 5, 2) := by decide +kernel
theorem dX8_isFitting_93 : decode cX8_isFitting 93 = .ok (.iload 7, 2) := by decide +kernel
theorem dX8_isFitting_95 : decode cX8_isFitting 95 = .ok (.iload_n 2, 1) := by decide +kernel
theorem dX8_isFitting_96 : decode cX8_isFitting 96 = .ok (.invokevirtual 127, 3) := by decide +kernel
theorem dX8_isFitting_99 : decode cX8_isFitting 99 = .ok (.ifCond .ne 5, 3) := by decide +kernel
theorem dX8_isFitting_102 : decode cX8_isFitting 102 = .ok (.iconst 0, 1) := by decide +kernel
theorem dX8_isFitting_103 : decode cX8_isFitting 103 = .ok (.ireturn, 1) := by decide +kernel
theorem dX8_isFitting_104 : decode cX8_isFitting 104 = .ok (.iinc 6 1, 3) := by decide +kernel
theorem dX8_isFitting_107 : decode cX8_isFitting 107 = .ok (.goto (-58), 3) := by decide +kernel
theorem dX8_isFitting_110 : decode cX8_isFitting 110 = .ok (.iinc 4 1, 3) := by decide +kernel
theorem dX8_isFitting_113 : decode cX8_isFitting 113 = .ok (.goto (-84), 3) := by decide +kernel
theorem dX8_isFitting_116 : decode cX8_isFitting 116 = .ok (.iconst 1, 1) := by decide +kernel
theorem dX8_isFitting_117 : decode cX8_isFitting 117 = .ok (.ireturn, 1) := by decide +kernel
theorem dX8_isAllowed_0 : decode cX8_isAllowed 0 = .ok (.aload_n 0, 1) := by decide +kernel
theorem dX8_isAllowed_1 : decode cX8_isAllowed 1 = .ok (.getfield 21, 3) := by decide +kernel
theorem dX8_isAllowed_4 : decode cX8_isAllowed 4 = .ok (.iload_n 1, 1) := by decide +kernel
theorem dX8_isAllowed_5 : decode cX8_isAllowed 5 = .ok (.invokestatic 68, 3) := by decide +kernel
theorem dX8_isAllowed_8 : decode cX8_isAllowed 8 = .ok (.aload_n 0, 1) := by decide +kernel
theorem dX8_isAllowed_9 : decode cX8_isAllowed 9 = .ok (.getfield 24, 3) := by decide +kernel
theorem dX8_isAllowed_12 : decode cX8_isAllowed 12 = .ok (.iconst 1, 1) := by decide +kernel
theorem dX8_isAllowed_13 : decode cX8_isAllowed 13 = .ok (.invokevirtual 36, 3) := by decide +kernel
theorem dX8_isAllowed_16 : decode cX8_isAllowed 16 = .ok (.aload_n 0, 1) := by decide +kernel
theorem dX8_isAllowed_17 : decode cX8_isAllowed 17 = .ok (.getfield 21, 3) := by decide +kernel
theorem dX8_isAllowed_20 : decode cX8_isAllowed 20 = .ok (.iload_n 2, 1) := by decide +kernel
theorem dX8_isAllowed_21 : decode cX8_isAllowed 21 = .ok (.invokestatic 68, 3) := by decide +kernel
theorem dX8_isAllowed_24 : decode cX8_isAllowed 24 = .ok (.imul, 1) := by decide +kernel
theorem dX8_isAllowed_25 : decode cX8_isAllowed 25 = .ok (.iadd, 1) := by decide +kernel
theorem dX8_isAllowed_26 : decode cX8_isAllowed 26 = .ok (.istore 4, 2) := by decide +kernel
theorem dX8_isAllowed_28 : decode cX8_isAllowed 28 = .ok (.aload_n 0, 1) := by decide +kernel
theorem dX8_isAllowed_29 : decode cX8_isAllowed 29 = .ok (.getfield 24, 3) := by decide +kernel
theorem dX8_isAllowed_32 : decode cX8_isAllowed 32 = .ok (.invokevirtual 76, 3) := by decide +kernel
theorem dX8_isAllowed_35 : decode cX8_isAllowed 35 = .ok (.iconst 2, 1) := by decide +kernel
theorem dX8_isAllowed_36 : decode cX8_isAllowed 36 = .ok (.if_icmp .le 25, 3) := by decide +kernel
theorem dX8_isAllowed_39 : decode cX8_isAllowed 39 = .ok (.iload 4, 2) := by decide +kernel
theorem dX8_isAllowed_41 : decode cX8_isAllowed 41 = .ok (.aload_n 0, 1) := by decide +kernel
theorem dX8_isAllowed_42 : decode cX8_isAllowed 42 = .ok (.getfield 24, 3) := by decide +kernel
theorem dX8_isAllowed_45 : decode cX8_isAllowed 45 = .ok (.iconst 2, 1) := by decide +kernel
theorem dX8_isAllowed_46 : decode cX8_isAllowed 46 = .ok (.invokevirtual 36, 3) := by decide +kernel
theorem dX8_isAllowed_49 : decode cX8_isAllowed 49 = .ok (.aload_n 0, 1) := by decide +kernel
theorem dX8_isAllowed_50 : decode cX8_isAllowed 50 = .ok (.getfield 21, 3) := by decide +kernel
theorem dX8_isAllowed_53 : decode cX8_isAllowed 53 = .ok (.iload_n 3, 1) := by decide +kernel
theorem dX8_isAllowed_54 : decode cX8_isAllowed 54 = .ok (.invokestatic 68, 3) := by decide +kernel
theorem dX8_isAllowed_57 : decode cX8_isAllowed 57 = .ok (.imul, 1) := by decide +kernel
theorem dX8_isAllowed_58 : decode cX8_isAllowed 58 = .ok (.iadd, 1) := by decide +kernel
theorem dX8_isAllowed_59 : decode cX8_isAllowed 59 = .ok (.istore 4, 2) := by decide +kernel
theorem dX8_isAllowed_61 : decode cX8_isAllowed 61 = .ok (.iload 4, 2) := by decide +kernel
theorem dX8_isAllowed_63 : decode cX8_isAllowed 63 = .ok (.aload_n 0, 1) := by decide +kernel
theorem dX8_isAllowed_64 : decode cX8_isAllowed 64 = .ok (.getfield 9, 3) := by decide +kernel
theorem dX8_isAllowed_67 : decode cX8_isAllowed 67 = .ok (.aload_n 0, 1) := by decide +kernel
theorem dX8_isAllowed_68 : decode cX8_isAllowed 68 = .ok (.iload_n 1, 1) := by decide +kernel
theorem dX8_isAllowed_69 : decode cX8_isAllowed 69 = .ok (.iload_n 2, 1) := by decide +kernel
theorem dX8_isAllowed_70 : decode cX8_isAllowed 70 = .ok (.iload_n 3, 1) := by decide +kernel
theorem dX8_isAllowed_71 : decode cX8_isAllowed 71 = .ok (.invokevirtual 99, 3) := by decide +kernel
theorem dX8_isAllowed_74 : decode cX8_isAllowed 74 = .ok (.invokestatic 68, 3) := by decide +kernel
theorem dX8_isAllowed_77 : decode cX8_isAllowed 77 = .ok (.invokestatic 119, 3) := by decide +kernel
theorem dX8_isAllowed_80 : decode cX8_isAllowed 80 = .ok (.ireturn, 1) := by decide +kernel
theorem dX8_foundCode_0 : decode cX8_foundCode 0 = .ok (.lconst 0, 1) := by decide +kernel
theorem dX8_foundCode_1 : decode cX8_foundCode 1 = .ok (.lstore_n 1, 1) := by decide +kernel
theorem dX8_foundCode_2 : decode cX8_foundCode 2 = .ok (.aload_n 0, 1) := by decide +kernel
theorem dX8_foundCode_3 : decode cX8_foundCode 3 = .ok (.getfield 42, 3) := by decide +kernel
theorem dX8_foundCode_6 : decode cX8_foundCode 6 = .ok (.iconst 1, 1) := by decide +kernel
theorem dX8_foundCode_7 : decode cX8_foundCode 7 = .ok (.isub, 1) := by decide +kernel
theorem dX8_foundCode_8 : decode cX8_foundCode 8 = .ok (.istore_n 3, 1) := by decide +kernel
theorem dX8_foundCode_9 : decode cX8_foundCode 9 = .ok (.iload_n 3, 1) := by decide +kernel
theorem dX8_foundCode_10 : decode cX8_foundCode 10 = .ok (.ifCond .lt 30, 3) := by decide +kernel
theorem dX8_foundCode_13 : decode cX8_foundCode 13 = .ok (.lload_n 1, 1) := by decide +kernel
theorem dX8_foundCode_14 : decode cX8_foundCode 14 = .ok (.aload_n 0, 1) := by decide +kernel
theorem dX8_foundCode_15 : decode cX8_foundCode 15 = .ok (.getfield 24, 3) := by decide +kernel
theorem dX8_foundCode_18 : decode cX8_foundCode 18 = .ok (.getfield 116, 3) := by decide +kernel
theorem dX8_foundCode_21 : decode cX8_foundCode 21 = .ok (.i2l, 1) := by decide +kernel
theorem dX8_foundCode_22 : decode cX8_foundCode 22 = .ok (.lmul, 1) := by decide +kernel
theorem dX8_foundCode_23 : decode cX8_foundCode 23 = .ok (.aload_n 0, 1) := by decide +kernel
theorem dX8_foundCode_24 : decode cX8_foundCode 24 = .ok (.getfield 21, 3) := by decide +kernel
theorem dX8_foundCode_27 : decode cX8_foundCode 27 = .ok (.iload_n 3, 1) := by decide +kernel
theorem dX8_foundCode_28 : decode cX8_foundCode 28 = .ok (.invokestatic 68, 3) := by decide +kernel
theorem dX8_foundCode_31 : decode cX8_foundCode 31 = .ok (.i2l, 1) := by decide +kernel
theorem dX8_foundCode_32 : decode cX8_foundCode 32 = .ok (.ladd, 1) := by decide +kernel
theorem dX8_foundCode_33 : decode cX8_foundCode 33 = .ok (.lstore_n 1, 1) := by decide +kernel
theorem dX8_foundCode_34 : decode cX8_foundCode 34 = .ok (.iinc 3 (-1), 3) := by decide +kernel
theorem dX8_foundCode_37 : decode cX8_foundCode 37 = .ok (.goto (-28), 3) := by decide +kernel
theorem dX8_foundCode_40 : decode cX8_foundCode 40 = .ok (.lload_n 1, 1) := by decide +kernel
theorem dX8_foundCode_41 : decode cX8_foundCode 41 = .ok (.lreturn, 1) := by decide +kernel
theorem dX9_init_0 : decode cX9_init 0 = .ok (.aload_n 0, 1) := by decide +kernel
theorem dX9_init_1 : decode cX9_init 1 = .ok (.invokespecial 3, 3) := by decide +kernel
theorem dX9_init_4 : decode cX9_init 4 = .ok (.aload_n 0, 1) := by decide +kernel
theorem dX9_init_5 : decode cX9_init 5 = .ok (.bipush 60, 2) := by decide +kernel
theorem dX9_init_7 : decode cX9_init 7 = .ok (.newarray .char, 2) := by decide +kernel
theorem dX9_init_9 : decode cX9_init 9 = .ok (.putfield 9, 3) := by decide +kernel
theorem dX9_init_12 : decode cX9_init 12 = .ok (.return_, 1) := by decide +kernel
theorem dX9_canHold_0 : decode cX9_canHold 0 = .ok (.iload_n 0, 1) := by decide +kernel
theorem dX9_canHold_1 : decode cX9_canHold 1 = .ok (.invokestatic 15, 3) := by decide +kernel
theorem dX9_canHold_4 : decode cX9_canHold 4 = .ok (.ifCond .ne 51, 3) := by decide +kernel
theorem dX9_canHold_7 : decode cX9_canHold 7 = .ok (.iload_n 0, 1) := by decide +kernel
theorem dX9_canHold_8 : decode cX9_canHold 8 = .ok (.bipush 48, 2) := by decide +kernel
theorem dX9_canHold_10 : decode cX9_canHold 10 = .ok (.if_icmp .lt 9, 3) := by decide +kernel
theorem dX9_canHold_13 : decode cX9_canHold 13 = .ok (.iload_n 0, 1) := by decide +kernel
theorem dX9_canHold_14 : decode cX9_canHold 14 = .ok (.bipush 55, 2) := by decide +kernel
theorem dX9_canHold_16 : decode cX9_canHold 16 = .ok (.if_icmp .le 39, 3) := by decide +kernel
theorem dX9_canHold_19 : decode cX9_canHold 19 = .ok (.iload_n 0, 1) := by decide +kernel
theorem dX9_canHold_20 : decode cX9_canHold 20 = .ok (.bipush 40, 2) := by decide +kernel
theorem dX9_canHold_22 : decode cX9_canHold 22 = .ok (.if_icmp .eq 33, 3) := by decide +kernel
theorem dX9_canHold_25 : decode cX9_canHold 25 = .ok (.iload_n 0, 1) := by decide +kernel
theorem dX9_canHold_26 : decode cX9_canHold 26 = .ok (.bipush 41, 2) := by decide +kernel
theorem dX9_canHold_28 : decode cX9_canHold 28 = .ok (.if_icmp .eq 27, 3) := by decide +kernel
theorem dX9_canHold_31 : decode cX9_canHold 31 = .ok (.iload_n 0, 1) := by decide +kernel
theorem dX9_canHold_32 : decode cX9_canHold 32 = .ok (.bipush 44, 2) := by decide +kernel
theorem dX9_canHold_34 : decode cX9_canHold 34 = .ok (.if_icmp .eq 21, 3) := by decide +kernel
theorem dX9_canHold_37 : decode cX9_canHold 37 = .ok (.iload_n 0, 1) := by decide +kernel
theorem dX9_canHold_38 : decode cX9_canHold 38 = .ok (.bipush 61, 2) := by decide +kernel
theorem dX9_canHold_40 : decode cX9_canHold 40 = .ok (.if_icmp .eq 15, 3) := by decide +kernel
theorem dX9_canHold_43 : decode cX9_canHold 43 = .ok (.iload_n 0, 1) := by decide +kernel
theorem dX9_canHold_44 : decode cX9_canHold 44 = .ok (.bipush 38, 2) := by decide +kernel
theorem dX9_canHold_46 : decode cX9_canHold 46 = .ok (.if_icmp .eq 9, 3) := by decide +kernel
theorem dX9_canHold_49 : decode cX9_canHold 49 = .ok (.iload_n 0, 1) := by decide +kernel
theorem dX9_canHold_50 : decode cX9_canHold 50 = .ok (.bipush 58, 2) := by decide +kernel
theorem dX9_canHold_52 : decode cX9_canHold 52 = .ok (.if_icmp .ne 7, 3) := by decide +kernel
theorem dX9_canHold_55 : decode cX9_canHold 55 = .ok (.iconst 1, 1) := by decide +kernel
theorem dX9_canHold_56 : decode cX9_canHold 56 = .ok (.goto 4, 3) := by decide +kernel
theorem dX9_canHold_59 : decode cX9_canHold 59 = .ok (.iconst 0, 1) := by decide +kernel
theorem dX9_canHold_60 : decode cX9_canHold 60 = .ok (.ireturn, 1) := by decide +kernel
theorem dX9_isVariable_0 : decode cX9_isVariable 0 = .ok (.iload_n 0, 1) := by decide +kernel
theorem dX9_isVariable_1 : decode cX9_isVariable 1 = .ok (.bipush 97, 2) := by decide +kernel
theorem dX9_isVariable_3 : decode cX9_isVariable 3 = .ok (.if_icmp .lt 13, 3) := by decide +kernel
theorem dX9_isVariable_6 : decode cX9_isVariable 6 = .ok (.iload_n 0, 1) := by decide +kernel
theorem dX9_isVariable_7 : decode cX9_isVariable 7 = .ok (.bipush 102, 2) := by decide +kernel
theorem dX9_isVariable_9 : decode cX9_isVariable 9 = .ok (.if_icmp .gt 7, 3) := by decide +kernel
theorem dX9_isVariable_12 : decode cX9_isVariable 12 = .ok (.iconst 1, 1) := by decide +kernel
theorem dX9_isVariable_13 : decode cX9_isVariable 13 = .ok (.goto 4, 3) := by decide +kernel
theorem dX9_isVariable_16 : decode cX9_isVariable 16 = .ok (.iconst 0, 1) := by decide +kernel
theorem dX9_isVariable_17 : decode cX9_isVariable 17 = .ok (.ireturn, 1) := by decide +kernel
theorem dX9_add_0 : decode cX9_add 0 = .ok (.aload_n 0, 1) := by decide +kernel
theorem dX9_add_1 : decode cX9_add 1 = .ok (.getfield 19, 3) := by decide +kernel
theorem dX9_add_4 : decode cX9_add 4 = .ok (.ifCond .lt 35, 3) := by decide +kernel
theorem dX9_add_7 : decode cX9_add 7 = .ok (.aload_n 0, 1) := by decide +kernel
theorem dX9_add_8 : decode cX9_add 8 = .ok (.getfield 19, 3) := by decide +kernel
theorem dX9_add_11 : decode cX9_add 11 = .ok (.aload_n 0, 1) := by decide +kernel
theorem dX9_add_12 : decode cX9_add 12 = .ok (.getfield 9, 3) := by decide +kernel
theorem dX9_add_15 : decode cX9_add 15 = .ok (.arraylength, 1) := by decide +kernel
theorem dX9_add_16 : decode cX9_add 16 = .ok (.if_icmp .ge 23, 3) := by decide +kernel
theorem dX9_add_19 : decode cX9_add 19 = .ok (.aload_n 0, 1) := by decide +kernel
theorem dX9_add_20 : decode cX9_add 20 = .ok (.getfield 9, 3) := by decide +kernel
theorem dX9_add_23 : decode cX9_add 23 = .ok (.aload_n 0, 1) := by decide +kernel
theorem dX9_add_24 : decode cX9_add 24 = .ok (.getfield 19, 3) := by decide +kernel
theorem dX9_add_27 : decode cX9_add 27 = .ok (.iload_n 1, 1) := by decide +kernel
theorem dX9_add_28 : decode cX9_add 28 = .ok (.castore, 1) := by decide +kernel
theorem dX9_add_29 : decode cX9_add 29 = .ok (.aload_n 0, 1) := by decide +kernel
theorem dX9_add_30 : decode cX9_add 30 = .ok (.dup, 1) := by decide +kernel
theorem dX9_add_31 : decode cX9_add 31 = .ok (.getfield 19, 3) := by decide +kernel
theorem dX9_add_34 : decode cX9_add 34 = .ok (.iconst 1, 1) := by decide +kernel
theorem dX9_add_35 : decode cX9_add 35 = .ok (.iadd, 1) := by decide +kernel
theorem dX9_add_36 : decode cX9_add 36 = .ok (.putfield 19, 3) := by decide +kernel
theorem dX9_add_39 : decode cX9_add 39 = .ok (.return_, 1) := by decide +kernel
theorem dX9_signAt_0 : decode cX9_signAt 0 = .ok (.iload_n 1, 1) := by decide +kernel
theorem dX9_signAt_1 : decode cX9_signAt 1 = .ok (.ifCond .lt 21, 3) := by decide +kernel
theorem dX9_signAt_4 : decode cX9_signAt 4 = .ok (.iload_n 1, 1) := by decide +kernel
theorem dX9_signAt_5 : decode cX9_signAt 5 = .ok (.aload_n 0, 1) := by decide +kernel
theorem dX9_signAt_6 : decode cX9_signAt 6 = .ok (.getfield 9, 3) := by decide +kernel
theorem dX9_signAt_9 : decode cX9_signAt 9 = .ok (.arraylength, 1) := by decide +kernel
theorem dX9_signAt_10 : decode cX9_signAt 10 = .ok (.if_icmp .ge 12, 3) := by decide +kernel
theorem dX9_signAt_13 : decode cX9_signAt 13 = .ok (.aload_n 0, 1) := by decide +kernel
theorem dX9_signAt_14 : decode cX9_signAt 14 = .ok (.getfield 9, 3) := by decide +kernel
theorem dX9_signAt_17 : decode cX9_signAt 17 = .ok (.iload_n 1, 1) := by decide +kernel
theorem dX9_signAt_18 : decode cX9_signAt 18 = .ok (.caload, 1) := by decide +kernel
theorem dX9_signAt_19 : decode cX9_signAt 19 = .ok (.goto 4, 3) := by decide +kernel
theorem dX9_signAt_22 : decode cX9_signAt 22 = .ok (.iconst 0, 1) := by decide +kernel
theorem dX9_signAt_23 : decode cX9_signAt 23 = .ok (.ireturn, 1) := by decide +kernel
theorem dX10_init_0 : decode cX10_init 0 = .ok (.aload_n 0, 1) := by decide +kernel
theorem dX10_init_1 : decode cX10_init 1 = .ok (.invokespecial 3, 3) := by decide +kernel
theorem dX10_init_4 : decode cX10_init 4 = .ok (.aload_n 0, 1) := by decide +kernel
theorem dX10_init_5 : decode cX10_init 5 = .ok (.bipush 9, 2) := by decide +kernel
theorem dX10_init_7 : decode cX10_init 7 = .ok (.newarray .int, 2) := by decide +kernel
theorem dX10_init_9 : decode cX10_init 9 = .ok (.putfield 9, 3) := by decide +kernel
theorem dX10_init_12 : decode cX10_init 12 = .ok (.aload_n 0, 1) := by decide +kernel
theorem dX10_init_13 : decode cX10_init 13 = .ok (.bipush 9, 2) := by decide +kernel
theorem dX10_init_15 : decode cX10_init 15 = .ok (.newarray .int, 2) := by decide +kernel
theorem dX10_init_17 : decode cX10_init 17 = .ok (.putfield 15, 3) := by decide +kernel
theorem dX10_init_20 : decode cX10_init 20 = .ok (.aload_n 0, 1) := by decide +kernel
theorem dX10_init_21 : decode cX10_init 21 = .ok (.aload_n 1, 1) := by decide +kernel
theorem dX10_init_22 : decode cX10_init 22 = .ok (.putfield 18, 3) := by decide +kernel
theorem dX10_init_25 : decode cX10_init 25 = .ok (.return_, 1) := by decide +kernel
theorem dX10_begin_0 : decode cX10_begin 0 = .ok (.aload_n 0, 1) := by decide +kernel
theorem dX10_begin_1 : decode cX10_begin 1 = .ok (.iconst 0, 1) := by decide +kernel
theorem dX10_begin_2 : decode cX10_begin 2 = .ok (.putfield 22, 3) := by decide +kernel
theorem dX10_begin_5 : decode cX10_begin 5 = .ok (.aload_n 0, 1) := by decide +kernel
theorem dX10_begin_6 : decode cX10_begin 6 = .ok (.getfield 9, 3) := by decide +kernel
theorem dX10_begin_9 : decode cX10_begin 9 = .ok (.bipush 8, 2) := by decide +kernel
theorem dX10_begin_11 : decode cX10_begin 11 = .ok (.iconst 2, 1) := by decide +kernel
theorem dX10_begin_12 : decode cX10_begin 12 = .ok (.invokestatic 26, 3) := by decide +kernel
theorem dX10_begin_15 : decode cX10_begin 15 = .ok (.iconst 0, 1) := by decide +kernel
theorem dX10_begin_16 : decode cX10_begin 16 = .ok (.istore_n 1, 1) := by decide +kernel
theorem dX10_begin_17 : decode cX10_begin 17 = .ok (.iconst 0, 1) := by decide +kernel
theorem dX10_begin_18 : decode cX10_begin 18 = .ok (.istore_n 2, 1) := by decide +kernel
theorem dX10_begin_19 : decode cX10_begin 19 = .ok (.iload_n 2, 1) := by decide +kernel
theorem dX10_begin_20 : decode cX10_begin 20 = .ok (.aload_n 0, 1) := by decide +kernel
theorem dX10_begin_21 : decode cX10_begin 21 = .ok (.getfield 18, 3) := by decide +kernel
theorem dX10_begin_24 : decode cX10_begin 24 = .ok (.getfield 30, 3) := by decide +kernel
theorem dX10_begin_27 : decode cX10_begin 27 = .ok (.if_icmp .ge 25, 3) := by decide +kernel
theorem dX10_begin_30 : decode cX10_begin 30 = .ok (.iload_n 1, 1) := by decide +kernel
theorem dX10_begin_31 : decode cX10_begin 31 = .ok (.iconst 1, 1) := by decide +kernel
theorem dX10_begin_32 : decode cX10_begin 32 = .ok (.iload_n 2, 1) := by decide +kernel
theorem dX10_begin_33 : decode cX10_begin 33 = .ok (.aload_n 0, 1) := by decide +kernel
theorem dX10_begin_34 : decode cX10_begin 34 = .ok (.getfield 18, 3) := by decide +kernel
theorem dX10_begin_37 : decode cX10_begin 37 = .ok (.getfield 30, 3) := by decide +kernel
theorem dX10_begin_40 : decode cX10_begin 40 = .ok (.iload_n 2, 1) := by decide +kernel
theorem dX10_begin_41 : decode cX10_begin 41 = .ok (.imul, 1) := by decide +kernel
theorem dX10_begin_42 : decode cX10_begin 42 = .ok (.iadd, 1) := by decide +kernel
theorem dX10_begin_43 : decode cX10_begin 43 = .ok (.ishl, 1) := by decide +kernel
theorem dX10_begin_44 : decode cX10_begin 44 = .ok (.ior, 1) := by decide +kernel
theorem dX10_begin_45 : decode cX10_begin 45 = .ok (.istore_n 1, 1) := by decide +kernel
theorem dX10_begin_46 : decode cX10_begin 46 = .ok (.iinc 2 1, 3) := by decide +kernel
theorem dX10_begin_49 : decode cX10_begin 49 = .ok (.goto (-30), 3) := by decide +kernel
theorem dX10_begin_52 : decode cX10_begin 52 = .ok (.aload_n 0, 1) := by decide +kernel
theorem dX10_begin_53 : decode cX10_begin 53 = .ok (.getfield 15, 3) := by decide +kernel
theorem dX10_begin_56 : decode cX10_begin 56 = .ok (.bipush 8, 2) := by decide +kernel
theorem dX10_begin_58 : decode cX10_begin 58 = .ok (.iload_n 1, 1) := by decide +kernel
theorem dX10_begin_59 : decode cX10_begin 59 = .ok (.invokestatic 26, 3) := by decide +kernel
theorem dX10_begin_62 : decode cX10_begin 62 = .ok (.return_, 1) := by decide +kernel
theorem dX10_isThere_0 : decode cX10_isThere 0 = .ok (.iload_n 1, 1) := by decide +kernel
theorem dX10_isThere_1 : decode cX10_isThere 1 = .ok (.ifCond .lt 15, 3) := by decide +kernel
theorem dX10_isThere_4 : decode cX10_isThere 4 = .ok (.iload_n 1, 1) := by decide +kernel
theorem dX10_isThere_5 : decode cX10_isThere 5 = .ok (.aload_n 0, 1) := by decide +kernel
theorem dX10_isThere_6 : decode cX10_isThere 6 = .ok (.getfield 22, 3) := by decide +kernel
theorem dX10_isThere_9 : decode cX10_isThere 9 = .ok (.if_icmp .ge 7, 3) := by decide +kernel
theorem dX10_isThere_12 : decode cX10_isThere 12 = .ok (.iconst 1, 1) := by decide +kernel
theorem dX10_isThere_13 : decode cX10_isThere 13 = .ok (.goto 4, 3) := by decide +kernel
theorem dX10_isThere_16 : decode cX10_isThere 16 = .ok (.iconst 0, 1) := by decide +kernel
theorem dX10_isThere_17 : decode cX10_isThere 17 = .ok (.ireturn, 1) := by decide +kernel
theorem dX10_placesOf_0 : decode cX10_placesOf 0 = .ok (.aload_n 0, 1) := by decide +kernel
theorem dX10_placesOf_1 : decode cX10_placesOf 1 = .ok (.getfield 9, 3) := by decide +kernel
theorem dX10_placesOf_4 : decode cX10_placesOf 4 = .ok (.iload_n 1, 1) := by decide +kernel
theorem dX10_placesOf_5 : decode cX10_placesOf 5 = .ok (.invokestatic 35, 3) := by decide +kernel
theorem dX10_placesOf_8 : decode cX10_placesOf 8 = .ok (.ireturn, 1) := by decide +kernel
theorem dX10_tuplesOf_0 : decode cX10_tuplesOf 0 = .ok (.aload_n 0, 1) := by decide +kernel
theorem dX10_tuplesOf_1 : decode cX10_tuplesOf 1 = .ok (.getfield 15, 3) := by decide +kernel
theorem dX10_tuplesOf_4 : decode cX10_tuplesOf 4 = .ok (.iload_n 1, 1) := by decide +kernel
theorem dX10_tuplesOf_5 : decode cX10_tuplesOf 5 = .ok (.invokestatic 35, 3) := by decide +kernel
theorem dX10_tuplesOf_8 : decode cX10_tuplesOf 8 = .ok (.ireturn, 1) := by decide +kernel
theorem dX10_setTuples_0 : decode cX10_setTuples 0 = .ok (.aload_n 0, 1) := by decide +kernel
theorem dX10_setTuples_1 : decode cX10_setTuples 1 = .ok (.getfield 15, 3) := by decide +kernel
theorem dX10_setTuples_4 : decode cX10_setTuples 4 = .ok (.iload_n 1, 1) := by decide +kernel
theorem dX10_setTuples_5 : decode cX10_setTuples 5 = .ok (.iload_n 2, 1) := by decide +kernel
theorem dX10_setTuples_6 : decode cX10_setTuples 6 = .ok (.invokestatic 26, 3) := by decide +kernel
theorem dX10_setTuples_9 : decode cX10_setTuples 9 = .ok (.return_, 1) := by decide +kernel
theorem dX10_add_0 : decode cX10_add 0 = .ok (.aload_n 0, 1) := by decide +kernel
theorem dX10_add_1 : decode cX10_add 1 = .ok (.getfield 22, 3) := by decide +kernel
theorem dX10_add_4 : decode cX10_add 4 = .ok (.istore_n 3, 1) := by decide +kernel
theorem dX10_add_5 : decode cX10_add 5 = .ok (.aload_n 0, 1) := by decide +kernel
theorem dX10_add_6 : decode cX10_add 6 = .ok (.getfield 9, 3) := by decide +kernel
theorem dX10_add_9 : decode cX10_add 9 = .ok (.iload_n 3, 1) := by decide +kernel
theorem dX10_add_10 : decode cX10_add 10 = .ok (.iload_n 1, 1) := by decide +kernel
theorem dX10_add_11 : decode cX10_add 11 = .ok (.invokestatic 26, 3) := by decide +kernel
theorem dX10_add_14 : decode cX10_add 14 = .ok (.aload_n 0, 1) := by decide +kernel
theorem dX10_add_15 : decode cX10_add 15 = .ok (.getfield 15, 3) := by decide +kernel
theorem dX10_add_18 : decode cX10_add 18 = .ok (.iload_n 3, 1) := by decide +kernel
theorem dX10_add_19 : decode cX10_add 19 = .ok (.iload_n 2, 1) := by decide +kernel
theorem dX10_add_20 : decode cX10_add 20 = .ok (.invokestatic 26, 3) := by decide +kernel
theorem dX10_add_23 : decode cX10_add 23 = .ok (.aload_n 0, 1) := by decide +kernel
theorem dX10_add_24 : decode cX10_add 24 = .ok (.dup, 1) := by decide +kernel
theorem dX10_add_25 : decode cX10_add 25 = .ok (.getfield 22, 3) := by decide +kernel
theorem dX10_add_28 : decode cX10_add 28 = .ok (.iconst 1, 1) := by decide +kernel
theorem dX10_add_29 : decode cX10_add 29 = .ok (.iadd, 1) := by decide +kernel
theorem dX10_add_30 : decode cX10_add 30 = .ok (.putfield 22, 3) := by decide +kernel
theorem dX10_add_33 : decode cX10_add 33 = .ok (.iload_n 3, 1) := by decide +kernel
theorem dX10_add_34 : decode cX10_add 34 = .ok (.ireturn, 1) := by decide +kernel
theorem dX11_init_0 : decode cX11_init 0 = .ok (.aload_n 0, 1) := by decide +kernel
theorem dX11_init_1 : decode cX11_init 1 = .ok (.invokespecial 3, 3) := by decide +kernel
theorem dX11_init_4 : decode cX11_init 4 = .ok (.aload_n 0, 1) := by decide +kernel
theorem dX11_init_5 : decode cX11_init 5 = .ok (.new 9, 3) := by decide +kernel
theorem dX11_init_8 : decode cX11_init 8 = .ok (.dup, 1) := by decide +kernel
theorem dX11_init_9 : decode cX11_init 9 = .ok (.invokespecial 11, 3) := by decide +kernel
theorem dX11_init_12 : decode cX11_init 12 = .ok (.putfield 12, 3) := by decide +kernel
theorem dX11_init_15 : decode cX11_init 15 = .ok (.aload_n 0, 1) := by decide +kernel
theorem dX11_init_16 : decode cX11_init 16 = .ok (.new 16, 3) := by decide +kernel
theorem dX11_init_19 : decode cX11_init 19 = .ok (.dup, 1) := by decide +kernel
theorem dX11_init_20 : decode cX11_init 20 = .ok (.aload_n 0, 1) := by decide +kernel
theorem dX11_init_21 : decode cX11_init 21 = .ok (.getfield 12, 3) := by decide +kernel
theorem dX11_init_24 : decode cX11_init 24 = .ok (.invokespecial 18, 3) := by decide +kernel
theorem dX11_init_27 : decode cX11_init 27 = .ok (.putfield 21, 3) := by decide +kernel
theorem dX11_init_30 : decode cX11_init 30 = .ok (.aload_n 0, 1) := by decide +kernel
theorem dX11_init_31 : decode cX11_init 31 = .ok (.new 25, 3) := by decide +kernel
theorem dX11_init_34 : decode cX11_init 34 = .ok (.dup, 1) := by decide +kernel
theorem dX11_init_35 : decode cX11_init 35 = .ok (.aload_n 0, 1) := by decide +kernel
theorem dX11_init_36 : decode cX11_init 36 = .ok (.getfield 12, 3) := by decide +kernel
theorem dX11_init_39 : decode cX11_init 39 = .ok (.invokespecial 27, 3) := by decide +kernel
theorem dX11_init_42 : decode cX11_init 42 = .ok (.putfield 28, 3) := by decide +kernel
theorem dX11_init_45 : decode cX11_init 45 = .ok (.aload_n 0, 1) := by decide +kernel
theorem dX11_init_46 : decode cX11_init 46 = .ok (.new 32, 3) := by decide +kernel
theorem dX11_init_49 : decode cX11_init 49 = .ok (.dup, 1) := by decide +kernel
theorem dX11_init_50 : decode cX11_init 50 = .ok (.aload_n 0, 1) := by decide +kernel
theorem dX11_init_51 : decode cX11_init 51 = .ok (.getfield 12, 3) := by decide +kernel
theorem dX11_init_54 : decode cX11_init 54 = .ok (.aload_n 0, 1) := by decide +kernel
theorem dX11_init_55 : decode cX11_init 55 = .ok (.getfield 28, 3) := by decide +kernel
theorem dX11_init_58 : decode cX11_init 58 = .ok (.invokespecial 34, 3) := by decide +kernel
theorem dX11_init_61 : decode cX11_init 61 = .ok (.putfield 37, 3) := by decide +kernel
theorem dX11_init_64 : decode cX11_init 64 = .ok (.aload_n 0, 1) := by decide +kernel
theorem dX11_init_65 : decode cX11_init 65 = .ok (.new 41, 3) := by decide +kernel
theorem dX11_init_68 : decode cX11_init 68 = .ok (.dup, 1) := by decide +kernel
theorem dX11_init_69 : decode cX11_init 69 = .ok (.aload_n 0, 1) := by decide +kernel
theorem dX11_init_70 : decode cX11_init 70 = .ok (.getfield 12, 3) := by decide +kernel
theorem dX11_init_73 : decode cX11_init 73 = .ok (.aload_n 0, 1) := by decide +kernel
theorem dX11_init_74 : decode cX11_init 74 = .ok (.getfield 21, 3) := by decide +kernel
theorem dX11_init_77 : decode cX11_init 77 = .ok (.aload_n 0, 1) := by decide +kernel
theorem dX11_init_78 : decode cX11_init 78 = .ok (.getfield 28, 3) := by decide +kernel
theorem dX11_init_81 : decode cX11_init 81 = .ok (.invokespecial 43, 3) := by decide +kernel
theorem dX11_init_84 : decode cX11_init 84 = .ok (.putfield 46, 3) := by decide +kernel
theorem dX11_init_87 : decode cX11_init 87 = .ok (.aload_n 0, 1) := by decide +kernel
theorem dX11_init_88 : decode cX11_init 88 = .ok (.new 50, 3) := by decide +kernel
theorem dX11_init_91 : decode cX11_init 91 = .ok (.dup, 1) := by decide +kernel
theorem dX11_init_92 : decode cX11_init 92 = .ok (.invokespecial 52, 3) := by decide +kernel
theorem dX11_init_95 : decode cX11_init 95 = .ok (.putfield 53, 3) := by decide +kernel
theorem dX11_init_98 : decode cX11_init 98 = .ok (.aload_n 0, 1) := by decide +kernel
theorem dX11_init_99 : decode cX11_init 99 = .ok (.new 57, 3) := by decide +kernel
theorem dX11_init_102 : decode cX11_init 102 = .ok (.dup, 1) := by decide +kernel
theorem dX11_init_103 : decode cX11_init 103 = .ok (.aload_n 0, 1) := by decide +kernel
theorem dX11_init_104 : decode cX11_init 104 = .ok (.getfield 12, 3) := by decide +kernel
theorem dX11_init_107 : decode cX11_init 107 = .ok (.aload_n 0, 1) := by decide +kernel
theorem dX11_init_108 : decode cX11_init 108 = .ok (.getfield 21, 3) := by decide +kernel
theorem dX11_init_111 : decode cX11_init 111 = .ok (.invokespecial 59, 3) := by decide +kernel
theorem dX11_init_114 : decode cX11_init 114 = .ok (.putfield 62, 3) := by decide +kernel
theorem dX11_init_117 : decode cX11_init 117 = .ok (.aload_n 0, 1) := by decide +kernel
theorem dX11_init_118 : decode cX11_init 118 = .ok (.new 66, 3) := by decide +kernel
theorem dX11_init_121 : decode cX11_init 121 = .ok (.dup, 1) := by decide +kernel
theorem dX11_init_122 : decode cX11_init 122 = .ok (.aload_n 0, 1) := by decide +kernel
theorem dX11_init_123 : decode cX11_init 123 = .ok (.getfield 12, 3) := by decide +kernel
theorem dX11_init_126 : decode cX11_init 126 = .ok (.aload_n 0, 1) := by decide +kernel
theorem dX11_init_127 : decode cX11_init 127 = .ok (.getfield 21, 3) := by decide +kernel
theorem dX11_init_130 : decode cX11_init 130 = .ok (.invokespecial 68, 3) := by decide +kernel
theorem dX11_init_133 : decode cX11_init 133 = .ok (.putfield 69, 3) := by decide +kernel
theorem dX11_init_136 : decode cX11_init 136 = .ok (.aload_n 0, 1) := by decide +kernel
theorem dX11_init_137 : decode cX11_init 137 = .ok (.new 73, 3) := by decide +kernel
theorem dX11_init_140 : decode cX11_init 140 = .ok (.dup, 1) := by decide +kernel
theorem dX11_init_141 : decode cX11_init 141 = .ok (.aload_n 0, 1) := by decide +kernel
theorem dX11_init_142 : decode cX11_init 142 = .ok (.getfield 12, 3) := by decide +kernel
theorem dX11_init_145 : decode cX11_init 145 = .ok (.aload_n 0, 1) := by decide +kernel
theorem dX11_init_146 : decode cX11_init 146 = .ok (.getfield 69, 3) := by decide +kernel
theorem dX11_init_149 : decode cX11_init 149 = .ok (.invokespecial 75, 3) := by decide +kernel
theorem dX11_init_152 : decode cX11_init 152 = .ok (.putfield 78, 3) := by decide +kernel
theorem dX11_init_155 : decode cX11_init 155 = .ok (.aload_n 0, 1) := by decide +kernel
theorem dX11_init_156 : decode cX11_init 156 = .ok (.iconst 2, 1) := by decide +kernel
theorem dX11_init_157 : decode cX11_init 157 = .ok (.invokevirtual 82, 3) := by decide +kernel
theorem dX11_init_160 : decode cX11_init 160 = .ok (.return_, 1) := by decide +kernel
theorem dX11_values_0 : decode cX11_values 0 = .ok (.iload_n 1, 1) := by decide +kernel
theorem dX11_values_1 : decode cX11_values 1 = .ok (.iconst 2, 1) := by decide +kernel
theorem dX11_values_2 : decode cX11_values 2 = .ok (.if_icmp .eq 18, 3) := by decide +kernel
theorem dX11_values_5 : decode cX11_values 5 = .ok (.iload_n 1, 1) := by decide +kernel
theorem dX11_values_6 : decode cX11_values 6 = .ok (.iconst 3, 1) := by decide +kernel
theorem dX11_values_7 : decode cX11_values 7 = .ok (.if_icmp .eq 13, 3) := by decide +kernel
theorem dX11_values_10 : decode cX11_values 10 = .ok (.new 86, 3) := by decide +kernel
theorem dX11_values_13 : decode cX11_values 13 = .ok (.dup, 1) := by decide +kernel
theorem dX11_values_14 : decode cX11_values 14 = .ok (.ldc 88, 2) := by decide +kernel
theorem dX11_values_16 : decode cX11_values 16 = .ok (.invokespecial 90, 3) := by decide +kernel
theorem dX11_values_19 : decode cX11_values 19 = .ok (.athrow, 1) := by decide +kernel
theorem dX11_values_20 : decode cX11_values 20 = .ok (.aload_n 0, 1) := by decide +kernel
theorem dX11_values_21 : decode cX11_values 21 = .ok (.getfield 12, 3) := by decide +kernel
theorem dX11_values_24 : decode cX11_values 24 = .ok (.getfield 93, 3) := by decide +kernel
theorem dX11_values_27 : decode cX11_values 27 = .ok (.istore_n 2, 1) := by decide +kernel
theorem dX11_values_28 : decode cX11_values 28 = .ok (.aload_n 0, 1) := by decide +kernel
theorem dX11_values_29 : decode cX11_values 29 = .ok (.iload_n 1, 1) := by decide +kernel
theorem dX11_values_30 : decode cX11_values 30 = .ok (.invokevirtual 82, 3) := by decide +kernel
theorem dX11_values_33 : decode cX11_values 33 = .ok (.iload_n 2, 1) := by decide +kernel
theorem dX11_values_34 : decode cX11_values 34 = .ok (.ireturn, 1) := by decide +kernel
theorem dX11_relation_0 : decode cX11_relation 0 = .ok (.iload_n 1, 1) := by decide +kernel
theorem dX11_relation_1 : decode cX11_relation 1 = .ok (.iconst 1, 1) := by decide +kernel
theorem dX11_relation_2 : decode cX11_relation 2 = .ok (.if_icmp .lt 14, 3) := by decide +kernel
theorem dX11_relation_5 : decode cX11_relation 5 = .ok (.iload_n 1, 1) := by decide +kernel
theorem dX11_relation_6 : decode cX11_relation 6 = .ok (.aload_n 0, 1) := by decide +kernel
theorem dX11_relation_7 : decode cX11_relation 7 = .ok (.getfield 12, 3) := by decide +kernel
theorem dX11_relation_10 : decode cX11_relation 10 = .ok (.invokevirtual 97, 3) := by decide +kernel
theorem dX11_relation_13 : decode cX11_relation 13 = .ok (.if_icmp .le 13, 3) := by decide +kernel
theorem dX11_relation_16 : decode cX11_relation 16 = .ok (.new 86, 3) := by decide +kernel
theorem dX11_relation_19 : decode cX11_relation 19 = .ok (.dup, 1) := by decide +kernel
theorem dX11_relation_20 : decode cX11_relation 20 = .ok (.ldc 101, 2) := by decide +kernel
theorem dX11_relation_22 : decode cX11_relation 22 = .ok (.invokespecial 90, 3) := by decide +kernel
theorem dX11_relation_25 : decode cX11_relation 25 = .ok (.athrow, 1) := by decide +kernel
theorem dX11_relation_26 : decode cX11_relation 26 = .ok (.aload_n 0, 1) := by decide +kernel
theorem dX11_relation_27 : decode cX11_relation 27 = .ok (.getfield 21, 3) := by decide +kernel
theorem dX11_relation_30 : decode cX11_relation 30 = .ok (.getfield 103, 3) := by decide +kernel
theorem dX11_relation_33 : decode cX11_relation 33 = .ok (.bipush 8, 2) := by decide +kernel
theorem dX11_relation_35 : decode cX11_relation 35 = .ok (.if_icmp .lt 13, 3) := by decide +kernel
theorem dX11_relation_38 : decode cX11_relation 38 = .ok (.new 106, 3) := by decide +kernel
theorem dX11_relation_41 : decode cX11_relation 41 = .ok (.dup, 1) := by decide +kernel
theorem dX11_relation_42 : decode cX11_relation 42 = .ok (.ldc 108, 2) := by decide +kernel
theorem dX11_relation_44 : decode cX11_relation 44 = .ok (.invokespecial 110, 3) := by decide +kernel
theorem dX11_relation_47 : decode cX11_relation 47 = .ok (.athrow, 1) := by decide +kernel
theorem dX11_relation_48 : decode cX11_relation 48 = .ok (.aload_n 0, 1) := by decide +kernel
theorem dX11_relation_49 : decode cX11_relation 49 = .ok (.getfield 21, 3) := by decide +kernel
theorem dX11_relation_52 : decode cX11_relation 52 = .ok (.iload_n 1, 1) := by decide +kernel
theorem dX11_relation_53 : decode cX11_relation 53 = .ok (.iconst 0, 1) := by decide +kernel
theorem dX11_relation_54 : decode cX11_relation 54 = .ok (.invokevirtual 111, 3) := by decide +kernel
theorem dX11_relation_57 : decode cX11_relation 57 = .ok (.ireturn, 1) := by decide +kernel
theorem dX11_tuple_0 : decode cX11_tuple 0 = .ok (.aload_n 0, 1) := by decide +kernel
theorem dX11_tuple_1 : decode cX11_tuple 1 = .ok (.getfield 21, 3) := by decide +kernel
theorem dX11_tuple_4 : decode cX11_tuple 4 = .ok (.iload_n 1, 1) := by decide +kernel
theorem dX11_tuple_5 : decode cX11_tuple 5 = .ok (.invokevirtual 115, 3) := by decide +kernel
theorem dX11_tuple_8 : decode cX11_tuple 8 = .ok (.ifCond .ne 13, 3) := by decide +kernel
theorem dX11_tuple_11 : decode cX11_tuple 11 = .ok (.new 119, 3) := by decide +kernel
theorem dX11_tuple_14 : decode cX11_tuple 14 = .ok (.dup, 1) := by decide +kernel
theorem dX11_tuple_15 : decode cX11_tuple 15 = .ok (.ldc 121, 2) := by decide +kernel
theorem dX11_tuple_17 : decode cX11_tuple 17 = .ok (.invokespecial 123, 3) := by decide +kernel
theorem dX11_tuple_20 : decode cX11_tuple 20 = .ok (.athrow, 1) := by decide +kernel
theorem dX11_tuple_21 : decode cX11_tuple 21 = .ok (.iload_n 2, 1) := by decide +kernel
theorem dX11_tuple_22 : decode cX11_tuple 22 = .ok (.ifCond .lt 22, 3) := by decide +kernel
theorem dX11_tuple_25 : decode cX11_tuple 25 = .ok (.iload_n 2, 1) := by decide +kernel
theorem dX11_tuple_26 : decode cX11_tuple 26 = .ok (.aload_n 0, 1) := by decide +kernel
theorem dX11_tuple_27 : decode cX11_tuple 27 = .ok (.getfield 12, 3) := by decide +kernel
theorem dX11_tuple_30 : decode cX11_tuple 30 = .ok (.aload_n 0, 1) := by decide +kernel
theorem dX11_tuple_31 : decode cX11_tuple 31 = .ok (.getfield 21, 3) := by decide +kernel
theorem dX11_tuple_34 : decode cX11_tuple 34 = .ok (.iload_n 1, 1) := by decide +kernel
theorem dX11_tuple_35 : decode cX11_tuple 35 = .ok (.invokevirtual 124, 3) := by decide +kernel
theorem dX11_tuple_38 : decode cX11_tuple 38 = .ok (.invokevirtual 128, 3) := by decide +kernel
theorem dX11_tuple_41 : decode cX11_tuple 41 = .ok (.if_icmp .lt 13, 3) := by decide +kernel
theorem dX11_tuple_44 : decode cX11_tuple 44 = .ok (.new 119, 3) := by decide +kernel
theorem dX11_tuple_47 : decode cX11_tuple 47 = .ok (.dup, 1) := by decide +kernel
theorem dX11_tuple_48 : decode cX11_tuple 48 = .ok (.ldc 131, 2) := by decide +kernel
theorem dX11_tuple_50 : decode cX11_tuple 50 = .ok (.invokespecial 123, 3) := by decide +kernel
theorem dX11_tuple_53 : decode cX11_tuple 53 = .ok (.athrow, 1) := by decide +kernel
theorem dX11_tuple_54 : decode cX11_tuple 54 = .ok (.aload_n 0, 1) := by decide +kernel
theorem dX11_tuple_55 : decode cX11_tuple 55 = .ok (.getfield 21, 3) := by decide +kernel
theorem dX11_tuple_58 : decode cX11_tuple 58 = .ok (.iload_n 1, 1) := by decide +kernel
theorem dX11_tuple_59 : decode cX11_tuple 59 = .ok (.invokevirtual 133, 3) := by decide +kernel
theorem dX11_tuple_62 : decode cX11_tuple 62 = .ok (.istore 4, 2) := by decide +kernel
theorem dX11_tuple_64 : decode cX11_tuple 64 = .ok (.aload_n 0, 1) := by decide +kernel
theorem dX11_tuple_65 : decode cX11_tuple 65 = .ok (.getfield 21, 3) := by decide +kernel
theorem dX11_tuple_68 : decode cX11_tuple 68 = .ok (.iload_n 1, 1) := by decide +kernel
theorem dX11_tuple_69 : decode cX11_tuple 69 = .ok (.iload_n 3, 1) := by decide +kernel
theorem dX11_tuple_70 : decode cX11_tuple 70 = .ok (.ifCond .eq 12, 3) := by decide +kernel
theorem dX11_tuple_73 : decode cX11_tuple 73 = .ok (.iload 4, 2) := by decide +kernel
theorem dX11_tuple_75 : decode cX11_tuple 75 = .ok (.iconst 1, 1) := by decide +kernel
theorem dX11_tuple_76 : decode cX11_tuple 76 = .ok (.iload_n 2, 1) := by decide +kernel
theorem dX11_tuple_77 : decode cX11_tuple 77 = .ok (.ishl, 1) := by decide +kernel
theorem dX11_tuple_78 : decode cX11_tuple 78 = .ok (.ior, 1) := by decide +kernel
theorem dX11_tuple_79 : decode cX11_tuple 79 = .ok (.goto 11, 3) := by decide +kernel
theorem dX11_tuple_82 : decode cX11_tuple 82 = .ok (.iload 4, 2) := by decide +kernel
theorem dX11_tuple_84 : decode cX11_tuple 84 = .ok (.iconst 1, 1) := by decide +kernel
theorem dX11_tuple_85 : decode cX11_tuple 85 = .ok (.iload_n 2, 1) := by decide +kernel
theorem dX11_tuple_86 : decode cX11_tuple 86 = .ok (.ishl, 1) := by decide +kernel
theorem dX11_tuple_87 : decode cX11_tuple 87 = .ok (.iconst (-1), 1) := by decide +kernel
theorem dX11_tuple_88 : decode cX11_tuple 88 = .ok (.ixor, 1) := by decide +kernel
theorem dX11_tuple_89 : decode cX11_tuple 89 = .ok (.iand, 1) := by decide +kernel
theorem dX11_tuple_90 : decode cX11_tuple 90 = .ok (.invokevirtual 136, 3) := by decide +kernel
theorem dX11_tuple_93 : decode cX11_tuple 93 = .ok (.iload_n 2, 1) := by decide +kernel
theorem dX11_tuple_94 : decode cX11_tuple 94 = .ok (.iload 4, 2) := by decide +kernel
theorem dX11_tuple_96 : decode cX11_tuple 96 = .ok (.invokestatic 140, 3) := by decide +kernel
theorem dX11_tuple_99 : decode cX11_tuple 99 = .ok (.ireturn, 1) := by decide +kernel
theorem dX11_ofRelation_0 : decode cX11_ofRelation 0 = .ok (.aload_n 0, 1) := by decide +kernel
theorem dX11_ofRelation_1 : decode cX11_ofRelation 1 = .ok (.getfield 21, 3) := by decide +kernel
theorem dX11_ofRelation_4 : decode cX11_ofRelation 4 = .ok (.iload_n 1, 1) := by decide +kernel
theorem dX11_ofRelation_5 : decode cX11_ofRelation 5 = .ok (.invokevirtual 115, 3) := by decide +kernel
theorem dX11_ofRelation_8 : decode cX11_ofRelation 8 = .ok (.ifCond .ne 13, 3) := by decide +kernel
theorem dX11_ofRelation_11 : decode cX11_ofRelation 11 = .ok (.new 119, 3) := by decide +kernel
theorem dX11_ofRelation_14 : decode cX11_ofRelation 14 = .ok (.dup, 1) := by decide +kernel
theorem dX11_ofRelation_15 : decode cX11_ofRelation 15 = .ok (.ldc 121, 2) := by decide +kernel
theorem dX11_ofRelation_17 : decode cX11_ofRelation 17 = .ok (.invokespecial 123, 3) := by decide +kernel
theorem dX11_ofRelation_20 : decode cX11_ofRelation 20 = .ok (.athrow, 1) := by decide +kernel
theorem dX11_ofRelation_21 : decode cX11_ofRelation 21 = .ok (.iload_n 2, 1) := by decide +kernel
theorem dX11_ofRelation_22 : decode cX11_ofRelation 22 = .ok (.tableswitch 56 0 2 #[26, 35, 44], 26) := by decide +kernel
theorem dX11_ofRelation_48 : decode cX11_ofRelation 48 = .ok (.aload_n 0, 1) := by decide +kernel
theorem dX11_ofRelation_49 : decode cX11_ofRelation 49 = .ok (.getfield 21, 3) := by decide +kernel
theorem dX11_ofRelation_52 : decode cX11_ofRelation 52 = .ok (.iload_n 1, 1) := by decide +kernel
theorem dX11_ofRelation_53 : decode cX11_ofRelation 53 = .ok (.invokevirtual 124, 3) := by decide +kernel
theorem dX11_ofRelation_56 : decode cX11_ofRelation 56 = .ok (.ireturn, 1) := by decide +kernel
theorem dX11_ofRelation_57 : decode cX11_ofRelation 57 = .ok (.aload_n 0, 1) := by decide +kernel
theorem dX11_ofRelation_58 : decode cX11_ofRelation 58 = .ok (.getfield 21, 3) := by decide +kernel
theorem dX11_ofRelation_61 : decode cX11_ofRelation 61 = .ok (.iload_n 1, 1) := by decide +kernel
theorem dX11_ofRelation_62 : decode cX11_ofRelation 62 = .ok (.invokevirtual 133, 3) := by decide +kernel
theorem dX11_ofRelation_65 : decode cX11_ofRelation 65 = .ok (.ireturn, 1) := by decide +kernel
theorem dX11_ofRelation_66 : decode cX11_ofRelation 66 = .ok (.aload_n 0, 1) := by decide +kernel
theorem dX11_ofRelation_67 : decode cX11_ofRelation 67 = .ok (.getfield 21, 3) := by decide +kernel
theorem dX11_ofRelation_70 : decode cX11_ofRelation 70 = .ok (.iload_n 1, 1) := by decide +kernel
theorem dX11_ofRelation_71 : decode cX11_ofRelation 71 = .ok (.invokevirtual 133, 3) := by decide +kernel
theorem dX11_ofRelation_74 : decode cX11_ofRelation 74 = .ok (.invokestatic 144, 3) := by decide +kernel
theorem dX11_ofRelation_77 : decode cX11_ofRelation 77 = .ok (.ireturn, 1) := by decide +kernel
theorem dX11_ofRelation_78 : decode cX11_ofRelation 78 = .ok (.new 86, 3) := by decide +kernel
theorem dX11_ofRelation_81 : decode cX11_ofRelation 81 = .ok (.dup, 1) := by decide +kernel
theorem dX11_ofRelation_82 : decode cX11_ofRelation 82 = .ok (.ldc 149, 2) := by decide +kernel
theorem dX11_ofRelation_84 : decode cX11_ofRelation 84 = .ok (.invokespecial 90, 3) := by decide +kernel
theorem dX11_ofRelation_87 : decode cX11_ofRelation 87 = .ok (.athrow, 1) := by decide +kernel
theorem dX11_operation_0 : decode cX11_operation 0 = .ok (.iload_n 1, 1) := by decide +kernel
theorem dX11_operation_1 : decode cX11_operation 1 = .ok (.iconst 1, 1) := by decide +kernel
theorem dX11_operation_2 : decode cX11_operation 2 = .ok (.if_icmp .lt 8, 3) := by decide +kernel
theorem dX11_operation_5 : decode cX11_operation 5 = .ok (.iload_n 1, 1) := by decide +kernel
theorem dX11_operation_6 : decode cX11_operation 6 = .ok (.iconst 3, 1) := by decide +kernel
theorem dX11_operation_7 : decode cX11_operation 7 = .ok (.if_icmp .le 13, 3) := by decide +kernel
theorem dX11_operation_10 : decode cX11_operation 10 = .ok (.new 86, 3) := by decide +kernel
theorem dX11_operation_13 : decode cX11_operation 13 = .ok (.dup, 1) := by decide +kernel
theorem dX11_operation_14 : decode cX11_operation 14 = .ok (.ldc 151, 2) := by decide +kernel
theorem dX11_operation_16 : decode cX11_operation 16 = .ok (.invokespecial 90, 3) := by decide +kernel
theorem dX11_operation_19 : decode cX11_operation 19 = .ok (.athrow, 1) := by decide +kernel
theorem dX11_operation_20 : decode cX11_operation 20 = .ok (.aload_n 0, 1) := by decide +kernel
theorem dX11_operation_21 : decode cX11_operation 21 = .ok (.getfield 37, 3) := by decide +kernel
theorem dX11_operation_24 : decode cX11_operation 24 = .ok (.getfield 153, 3) := by decide +kernel
theorem dX11_operation_27 : decode cX11_operation 27 = .ok (.bipush 6, 2) := by decide +kernel
theorem dX11_operation_29 : decode cX11_operation 29 = .ok (.if_icmp .lt 13, 3) := by decide +kernel
theorem dX11_operation_32 : decode cX11_operation 32 = .ok (.new 106, 3) := by decide +kernel
theorem dX11_operation_35 : decode cX11_operation 35 = .ok (.dup, 1) := by decide +kernel
theorem dX11_operation_36 : decode cX11_operation 36 = .ok (.ldc 154, 2) := by decide +kernel
theorem dX11_operation_38 : decode cX11_operation 38 = .ok (.invokespecial 110, 3) := by decide +kernel
theorem dX11_operation_41 : decode cX11_operation 41 = .ok (.athrow, 1) := by decide +kernel
theorem dX11_operation_42 : decode cX11_operation 42 = .ok (.aload_n 0, 1) := by decide +kernel
theorem dX11_operation_43 : decode cX11_operation 43 = .ok (.getfield 37, 3) := by decide +kernel
theorem dX11_operation_46 : decode cX11_operation 46 = .ok (.iload_n 1, 1) := by decide +kernel
theorem dX11_operation_47 : decode cX11_operation 47 = .ok (.invokevirtual 156, 3) := by decide +kernel
theorem dX11_operation_50 : decode cX11_operation 50 = .ok (.ireturn, 1) := by decide +kernel
theorem dX11_make_0 : decode cX11_make 0 = .ok (.iload_n 1, 1) := by decide +kernel
theorem dX11_make_1 : decode cX11_make 1 = .ok (.ifCond .lt 8, 3) := by decide +kernel
theorem dX11_make_4 : decode cX11_make 4 = .ok (.iload_n 1, 1) := by decide +kernel
theorem dX11_make_5 : decode cX11_make 5 = .ok (.iconst 4, 1) := by decide +kernel
theorem dX11_make_6 : decode cX11_make 6 = .ok (.if_icmp .le 13, 3) := by decide +kernel
theorem dX11_make_9 : decode cX11_make 9 = .ok (.new 86, 3) := by decide +kernel
theorem dX11_make_12 : decode cX11_make 12 = .ok (.dup, 1) := by decide +kernel
theorem dX11_make_13 : decode cX11_make 13 = .ok (.ldc 158, 2) := by decide +kernel
theorem dX11_make_15 : decode cX11_make 15 = .ok (.invokespecial 90, 3) := by decide +kernel
theorem dX11_make_18 : decode cX11_make 18 = .ok (.athrow, 1) := by decide +kernel
theorem dX11_make_19 : decode cX11_make 19 = .ok (.aload_n 0, 1) := by decide +kernel
theorem dX11_make_20 : decode cX11_make 20 = .ok (.getfield 37, 3) := by decide +kernel
theorem dX11_make_23 : decode cX11_make 23 = .ok (.getfield 153, 3) := by decide +kernel
theorem dX11_make_26 : decode cX11_make 26 = .ok (.bipush 6, 2) := by decide +kernel
theorem dX11_make_28 : decode cX11_make 28 = .ok (.if_icmp .lt 13, 3) := by decide +kernel
theorem dX11_make_31 : decode cX11_make 31 = .ok (.new 106, 3) := by decide +kernel
theorem dX11_make_34 : decode cX11_make 34 = .ok (.dup, 1) := by decide +kernel
theorem dX11_make_35 : decode cX11_make 35 = .ok (.ldc 154, 2) := by decide +kernel
theorem dX11_make_37 : decode cX11_make 37 = .ok (.invokespecial 110, 3) := by decide +kernel
theorem dX11_make_40 : decode cX11_make 40 = .ok (.athrow, 1) := by decide +kernel
theorem dX11_make_41 : decode cX11_make 41 = .ok (.aload_n 0, 1) := by decide +kernel
theorem dX11_make_42 : decode cX11_make 42 = .ok (.getfield 37, 3) := by decide +kernel
theorem dX11_make_45 : decode cX11_make 45 = .ok (.iload_n 1, 1) := by decide +kernel
theorem dX11_make_46 : decode cX11_make 46 = .ok (.invokevirtual 160, 3) := by decide +kernel
theorem dX11_make_49 : decode cX11_make 49 = .ok (.ireturn, 1) := by decide +kernel
theorem dX11_answers_0 : decode cX11_answers 0 = .ok (.aload_n 0, 1) := by decide +kernel
theorem dX11_answers_1 : decode cX11_answers 1 = .ok (.getfield 37, 3) := by decide +kernel
theorem dX11_answers_4 : decode cX11_answers 4 = .ok (.iload_n 1, 1) := by decide +kernel
theorem dX11_answers_5 : decode cX11_answers 5 = .ok (.invokevirtual 163, 3) := by decide +kernel
theorem dX11_answers_8 : decode cX11_answers 8 = .ok (.astore 4, 2) := by decide +kernel
theorem dX11_answers_10 : decode cX11_answers 10 = .ok (.aload 4, 2) := by decide +kernel
theorem dX11_answers_12 : decode cX11_answers 12 = .ok (.ifnonnull 13, 3) := by decide +kernel
theorem dX11_answers_15 : decode cX11_answers 15 = .ok (.new 119, 3) := by decide +kernel
theorem dX11_answers_18 : decode cX11_answers 18 = .ok (.dup, 1) := by decide +kernel
theorem dX11_answers_19 : decode cX11_answers 19 = .ok (.ldc 167, 2) := by decide +kernel
theorem dX11_answers_21 : decode cX11_answers 21 = .ok (.invokespecial 123, 3) := by decide +kernel
theorem dX11_answers_24 : decode cX11_answers 24 = .ok (.athrow, 1) := by decide +kernel
theorem dX11_answers_25 : decode cX11_answers 25 = .ok (.iload_n 2, 1) := by decide +kernel
theorem dX11_answers_26 : decode cX11_answers 26 = .ok (.ifCond .lt 12, 3) := by decide +kernel
theorem dX11_answers_29 : decode cX11_answers 29 = .ok (.iload_n 2, 1) := by decide +kernel
theorem dX11_answers_30 : decode cX11_answers 30 = .ok (.aload 4, 2) := by decide +kernel
theorem dX11_answers_32 : decode cX11_answers 32 = .ok (.invokevirtual 169, 3) := by decide +kernel
theorem dX11_answers_35 : decode cX11_answers 35 = .ok (.if_icmp .lt 13, 3) := by decide +kernel
theorem dX11_answers_38 : decode cX11_answers 38 = .ok (.new 119, 3) := by decide +kernel
theorem dX11_answers_41 : decode cX11_answers 41 = .ok (.dup, 1) := by decide +kernel
theorem dX11_answers_42 : decode cX11_answers 42 = .ok (.ldc 174, 2) := by decide +kernel
theorem dX11_answers_44 : decode cX11_answers 44 = .ok (.invokespecial 123, 3) := by decide +kernel
theorem dX11_answers_47 : decode cX11_answers 47 = .ok (.athrow, 1) := by decide +kernel
theorem dX11_answers_48 : decode cX11_answers 48 = .ok (.iload_n 3, 1) := by decide +kernel
theorem dX11_answers_49 : decode cX11_answers 49 = .ok (.ifCond .lt 14, 3) := by decide +kernel
theorem dX11_answers_52 : decode cX11_answers 52 = .ok (.iload_n 3, 1) := by decide +kernel
theorem dX11_answers_53 : decode cX11_answers 53 = .ok (.aload_n 0, 1) := by decide +kernel
theorem dX11_answers_54 : decode cX11_answers 54 = .ok (.getfield 12, 3) := by decide +kernel
theorem dX11_answers_57 : decode cX11_answers 57 = .ok (.getfield 93, 3) := by decide +kernel
theorem dX11_answers_60 : decode cX11_answers 60 = .ok (.if_icmp .lt 13, 3) := by decide +kernel
theorem dX11_answers_63 : decode cX11_answers 63 = .ok (.new 86, 3) := by decide +kernel
theorem dX11_answers_66 : decode cX11_answers 66 = .ok (.dup, 1) := by decide +kernel
theorem dX11_answers_67 : decode cX11_answers 67 = .ok (.ldc 176, 2) := by decide +kernel
theorem dX11_answers_69 : decode cX11_answers 69 = .ok (.invokespecial 90, 3) := by decide +kernel
theorem dX11_answers_72 : decode cX11_answers 72 = .ok (.athrow, 1) := by decide +kernel
theorem dX11_answers_73 : decode cX11_answers 73 = .ok (.aload 4, 2) := by decide +kernel
theorem dX11_answers_75 : decode cX11_answers 75 = .ok (.iload_n 2, 1) := by decide +kernel
theorem dX11_answers_76 : decode cX11_answers 76 = .ok (.invokevirtual 178, 3) := by decide +kernel
theorem dX11_answers_79 : decode cX11_answers 79 = .ok (.istore 5, 2) := by decide +kernel
theorem dX11_answers_81 : decode cX11_answers 81 = .ok (.aload 4, 2) := by decide +kernel
theorem dX11_answers_83 : decode cX11_answers 83 = .ok (.iload_n 2, 1) := by decide +kernel
theorem dX11_answers_84 : decode cX11_answers 84 = .ok (.iload_n 3, 1) := by decide +kernel
theorem dX11_answers_85 : decode cX11_answers 85 = .ok (.invokevirtual 181, 3) := by decide +kernel
theorem dX11_answers_88 : decode cX11_answers 88 = .ok (.iload 5, 2) := by decide +kernel
theorem dX11_answers_90 : decode cX11_answers 90 = .ok (.ireturn, 1) := by decide +kernel
theorem dX11_keeps_0 : decode cX11_keeps 0 = .ok (.aload_n 0, 1) := by decide +kernel
theorem dX11_keeps_1 : decode cX11_keeps 1 = .ok (.getfield 37, 3) := by decide +kernel
theorem dX11_keeps_4 : decode cX11_keeps 4 = .ok (.iload_n 1, 1) := by decide +kernel
theorem dX11_keeps_5 : decode cX11_keeps 5 = .ok (.invokevirtual 163, 3) := by decide +kernel
theorem dX11_keeps_8 : decode cX11_keeps 8 = .ok (.astore_n 3, 1) := by decide +kernel
theorem dX11_keeps_9 : decode cX11_keeps 9 = .ok (.aload_n 3, 1) := by decide +kernel
theorem dX11_keeps_10 : decode cX11_keeps 10 = .ok (.ifnull 14, 3) := by decide +kernel
theorem dX11_keeps_13 : decode cX11_keeps 13 = .ok (.aload_n 0, 1) := by decide +kernel
theorem dX11_keeps_14 : decode cX11_keeps 14 = .ok (.getfield 21, 3) := by decide +kernel
theorem dX11_keeps_17 : decode cX11_keeps 17 = .ok (.iload_n 2, 1) := by decide +kernel
theorem dX11_keeps_18 : decode cX11_keeps 18 = .ok (.invokevirtual 115, 3) := by decide +kernel
theorem dX11_keeps_21 : decode cX11_keeps 21 = .ok (.ifCond .ne 13, 3) := by decide +kernel
theorem dX11_keeps_24 : decode cX11_keeps 24 = .ok (.new 119, 3) := by decide +kernel
theorem dX11_keeps_27 : decode cX11_keeps 27 = .ok (.dup, 1) := by decide +kernel
theorem dX11_keeps_28 : decode cX11_keeps 28 = .ok (.ldc 188, 2) := by decide +kernel
theorem dX11_keeps_30 : decode cX11_keeps 30 = .ok (.invokespecial 123, 3) := by decide +kernel
theorem dX11_keeps_33 : decode cX11_keeps 33 = .ok (.athrow, 1) := by decide +kernel
theorem dX11_keeps_34 : decode cX11_keeps 34 = .ok (.aload_n 0, 1) := by decide +kernel
theorem dX11_keeps_35 : decode cX11_keeps 35 = .ok (.getfield 28, 3) := by decide +kernel
theorem dX11_keeps_38 : decode cX11_keeps 38 = .ok (.aload_n 3, 1) := by decide +kernel
theorem dX11_keeps_39 : decode cX11_keeps 39 = .ok (.aload_n 0, 1) := by decide +kernel
theorem dX11_keeps_40 : decode cX11_keeps 40 = .ok (.getfield 21, 3) := by decide +kernel
theorem dX11_keeps_43 : decode cX11_keeps 43 = .ok (.iload_n 2, 1) := by decide +kernel
theorem dX11_keeps_44 : decode cX11_keeps 44 = .ok (.invokevirtual 124, 3) := by decide +kernel
theorem dX11_keeps_47 : decode cX11_keeps 47 = .ok (.aload_n 0, 1) := by decide +kernel
theorem dX11_keeps_48 : decode cX11_keeps 48 = .ok (.getfield 21, 3) := by decide +kernel
theorem dX11_keeps_51 : decode cX11_keeps 51 = .ok (.iload_n 2, 1) := by decide +kernel
theorem dX11_keeps_52 : decode cX11_keeps 52 = .ok (.invokevirtual 133, 3) := by decide +kernel
theorem dX11_keeps_55 : decode cX11_keeps 55 = .ok (.invokevirtual 190, 3) := by decide +kernel
theorem dX11_keeps_58 : decode cX11_keeps 58 = .ok (.ifCond .ne 7, 3) := by decide +kernel
theorem dX11_keeps_61 : decode cX11_keeps 61 = .ok (.iconst 1, 1) := by decide +kernel
theorem dX11_keeps_62 : decode cX11_keeps 62 = .ok (.goto 4, 3) := by decide +kernel
theorem dX11_keeps_65 : decode cX11_keeps 65 = .ok (.iconst 0, 1) := by decide +kernel
theorem dX11_keeps_66 : decode cX11_keeps 66 = .ok (.ireturn, 1) := by decide +kernel
theorem dX11_breaks_0 : decode cX11_breaks 0 = .ok (.aload_n 0, 1) := by decide +kernel
theorem dX11_breaks_1 : decode cX11_breaks 1 = .ok (.getfield 37, 3) := by decide +kernel
theorem dX11_breaks_4 : decode cX11_breaks 4 = .ok (.iload_n 1, 1) := by decide +kernel
theorem dX11_breaks_5 : decode cX11_breaks 5 = .ok (.invokevirtual 163, 3) := by decide +kernel
theorem dX11_breaks_8 : decode cX11_breaks 8 = .ok (.astore_n 3, 1) := by decide +kernel
theorem dX11_breaks_9 : decode cX11_breaks 9 = .ok (.aload_n 3, 1) := by decide +kernel
theorem dX11_breaks_10 : decode cX11_breaks 10 = .ok (.ifnull 14, 3) := by decide +kernel
theorem dX11_breaks_13 : decode cX11_breaks 13 = .ok (.aload_n 0, 1) := by decide +kernel
theorem dX11_breaks_14 : decode cX11_breaks 14 = .ok (.getfield 21, 3) := by decide +kernel
theorem dX11_breaks_17 : decode cX11_breaks 17 = .ok (.iload_n 2, 1) := by decide +kernel
theorem dX11_breaks_18 : decode cX11_breaks 18 = .ok (.invokevirtual 115, 3) := by decide +kernel
theorem dX11_breaks_21 : decode cX11_breaks 21 = .ok (.ifCond .ne 13, 3) := by decide +kernel
theorem dX11_breaks_24 : decode cX11_breaks 24 = .ok (.new 119, 3) := by decide +kernel
theorem dX11_breaks_27 : decode cX11_breaks 27 = .ok (.dup, 1) := by decide +kernel
theorem dX11_breaks_28 : decode cX11_breaks 28 = .ok (.ldc 188, 2) := by decide +kernel
theorem dX11_breaks_30 : decode cX11_breaks 30 = .ok (.invokespecial 123, 3) := by decide +kernel
theorem dX11_breaks_33 : decode cX11_breaks 33 = .ok (.athrow, 1) := by decide +kernel
theorem dX11_breaks_34 : decode cX11_breaks 34 = .ok (.aload_n 0, 1) := by decide +kernel
theorem dX11_breaks_35 : decode cX11_breaks 35 = .ok (.getfield 28, 3) := by decide +kernel
theorem dX11_breaks_38 : decode cX11_breaks 38 = .ok (.aload_n 3, 1) := by decide +kernel
theorem dX11_breaks_39 : decode cX11_breaks 39 = .ok (.aload_n 0, 1) := by decide +kernel
theorem dX11_breaks_40 : decode cX11_breaks 40 = .ok (.getfield 21, 3) := by decide +kernel
theorem dX11_breaks_43 : decode cX11_breaks 43 = .ok (.iload_n 2, 1) := by decide +kernel
theorem dX11_breaks_44 : decode cX11_breaks 44 = .ok (.invokevirtual 124, 3) := by decide +kernel
theorem dX11_breaks_47 : decode cX11_breaks 47 = .ok (.aload_n 0, 1) := by decide +kernel
theorem dX11_breaks_48 : decode cX11_breaks 48 = .ok (.getfield 21, 3) := by decide +kernel
theorem dX11_breaks_51 : decode cX11_breaks 51 = .ok (.iload_n 2, 1) := by decide +kernel
theorem dX11_breaks_52 : decode cX11_breaks 52 = .ok (.invokevirtual 133, 3) := by decide +kernel
theorem dX11_breaks_55 : decode cX11_breaks 55 = .ok (.invokevirtual 190, 3) := by decide +kernel
theorem dX11_breaks_58 : decode cX11_breaks 58 = .ok (.invokestatic 194, 3) := by decide +kernel
theorem dX11_breaks_61 : decode cX11_breaks 61 = .ok (.ireturn, 1) := by decide +kernel
theorem dX11_closed_0 : decode cX11_closed 0 = .ok (.aload_n 0, 1) := by decide +kernel
theorem dX11_closed_1 : decode cX11_closed 1 = .ok (.getfield 37, 3) := by decide +kernel
theorem dX11_closed_4 : decode cX11_closed 4 = .ok (.iload_n 1, 1) := by decide +kernel
theorem dX11_closed_5 : decode cX11_closed 5 = .ok (.invokevirtual 163, 3) := by decide +kernel
theorem dX11_closed_8 : decode cX11_closed 8 = .ok (.astore_n 3, 1) := by decide +kernel
theorem dX11_closed_9 : decode cX11_closed 9 = .ok (.aload_n 3, 1) := by decide +kernel
theorem dX11_closed_10 : decode cX11_closed 10 = .ok (.ifnull 14, 3) := by decide +kernel
theorem dX11_closed_13 : decode cX11_closed 13 = .ok (.aload_n 0, 1) := by decide +kernel
theorem dX11_closed_14 : decode cX11_closed 14 = .ok (.getfield 21, 3) := by decide +kernel
theorem dX11_closed_17 : decode cX11_closed 17 = .ok (.iload_n 2, 1) := by decide +kernel
theorem dX11_closed_18 : decode cX11_closed 18 = .ok (.invokevirtual 115, 3) := by decide +kernel
theorem dX11_closed_21 : decode cX11_closed 21 = .ok (.ifCond .ne 13, 3) := by decide +kernel
theorem dX11_closed_24 : decode cX11_closed 24 = .ok (.new 119, 3) := by decide +kernel
theorem dX11_closed_27 : decode cX11_closed 27 = .ok (.dup, 1) := by decide +kernel
theorem dX11_closed_28 : decode cX11_closed 28 = .ok (.ldc 188, 2) := by decide +kernel
theorem dX11_closed_30 : decode cX11_closed 30 = .ok (.invokespecial 123, 3) := by decide +kernel
theorem dX11_closed_33 : decode cX11_closed 33 = .ok (.athrow, 1) := by decide +kernel
theorem dX11_closed_34 : decode cX11_closed 34 = .ok (.aload_n 0, 1) := by decide +kernel
theorem dX11_closed_35 : decode cX11_closed 35 = .ok (.getfield 28, 3) := by decide +kernel
theorem dX11_closed_38 : decode cX11_closed 38 = .ok (.aload_n 3, 1) := by decide +kernel
theorem dX11_closed_39 : decode cX11_closed 39 = .ok (.aload_n 0, 1) := by decide +kernel
theorem dX11_closed_40 : decode cX11_closed 40 = .ok (.getfield 21, 3) := by decide +kernel
theorem dX11_closed_43 : decode cX11_closed 43 = .ok (.iload_n 2, 1) := by decide +kernel
theorem dX11_closed_44 : decode cX11_closed 44 = .ok (.invokevirtual 124, 3) := by decide +kernel
theorem dX11_closed_47 : decode cX11_closed 47 = .ok (.aload_n 0, 1) := by decide +kernel
theorem dX11_closed_48 : decode cX11_closed 48 = .ok (.getfield 21, 3) := by decide +kernel
theorem dX11_closed_51 : decode cX11_closed 51 = .ok (.iload_n 2, 1) := by decide +kernel
theorem dX11_closed_52 : decode cX11_closed 52 = .ok (.invokevirtual 133, 3) := by decide +kernel
theorem dX11_closed_55 : decode cX11_closed 55 = .ok (.invokevirtual 215, 3) := by decide +kernel
theorem dX11_closed_58 : decode cX11_closed 58 = .ok (.ireturn, 1) := by decide +kernel
theorem dX11_monoid_0 : decode cX11_monoid 0 = .ok (.aload_n 0, 1) := by decide +kernel
theorem dX11_monoid_1 : decode cX11_monoid 1 = .ok (.getfield 37, 3) := by decide +kernel
theorem dX11_monoid_4 : decode cX11_monoid 4 = .ok (.invokevirtual 218, 3) := by decide +kernel
theorem dX11_monoid_7 : decode cX11_monoid 7 = .ok (.invokestatic 144, 3) := by decide +kernel
theorem dX11_monoid_10 : decode cX11_monoid 10 = .ok (.ireturn, 1) := by decide +kernel
theorem dX11_kept_0 : decode cX11_kept 0 = .ok (.iload_n 1, 1) := by decide +kernel
theorem dX11_kept_1 : decode cX11_kept 1 = .ok (.iconst 1, 1) := by decide +kernel
theorem dX11_kept_2 : decode cX11_kept 2 = .ok (.if_icmp .eq 18, 3) := by decide +kernel
theorem dX11_kept_5 : decode cX11_kept 5 = .ok (.iload_n 1, 1) := by decide +kernel
theorem dX11_kept_6 : decode cX11_kept 6 = .ok (.iconst 2, 1) := by decide +kernel
theorem dX11_kept_7 : decode cX11_kept 7 = .ok (.if_icmp .eq 13, 3) := by decide +kernel
theorem dX11_kept_10 : decode cX11_kept 10 = .ok (.new 86, 3) := by decide +kernel
theorem dX11_kept_13 : decode cX11_kept 13 = .ok (.dup, 1) := by decide +kernel
theorem dX11_kept_14 : decode cX11_kept 14 = .ok (.ldc 226, 2) := by decide +kernel
theorem dX11_kept_16 : decode cX11_kept 16 = .ok (.invokespecial 90, 3) := by decide +kernel
theorem dX11_kept_19 : decode cX11_kept 19 = .ok (.athrow, 1) := by decide +kernel
theorem dX11_kept_20 : decode cX11_kept 20 = .ok (.aload_n 0, 1) := by decide +kernel
theorem dX11_kept_21 : decode cX11_kept 21 = .ok (.getfield 37, 3) := by decide +kernel
theorem dX11_kept_24 : decode cX11_kept 24 = .ok (.iload_n 1, 1) := by decide +kernel
theorem dX11_kept_25 : decode cX11_kept 25 = .ok (.invokevirtual 228, 3) := by decide +kernel
theorem dX11_kept_28 : decode cX11_kept 28 = .ok (.ireturn, 1) := by decide +kernel
theorem dX11_first_0 : decode cX11_first 0 = .ok (.iload_n 1, 1) := by decide +kernel
theorem dX11_first_1 : decode cX11_first 1 = .ok (.tableswitch 63 0 3 #[31, 39, 47, 55], 31) := by decide +kernel
theorem dX11_first_32 : decode cX11_first 32 = .ok (.aload_n 0, 1) := by decide +kernel
theorem dX11_first_33 : decode cX11_first 33 = .ok (.getfield 46, 3) := by decide +kernel
theorem dX11_first_36 : decode cX11_first 36 = .ok (.invokevirtual 231, 3) := by decide +kernel
theorem dX11_first_39 : decode cX11_first 39 = .ok (.lreturn, 1) := by decide +kernel
theorem dX11_first_40 : decode cX11_first 40 = .ok (.aload_n 0, 1) := by decide +kernel
theorem dX11_first_41 : decode cX11_first 41 = .ok (.getfield 46, 3) := by decide +kernel
theorem dX11_first_44 : decode cX11_first 44 = .ok (.invokevirtual 234, 3) := by decide +kernel
theorem dX11_first_47 : decode cX11_first 47 = .ok (.lreturn, 1) := by decide +kernel
theorem dX11_first_48 : decode cX11_first 48 = .ok (.aload_n 0, 1) := by decide +kernel
theorem dX11_first_49 : decode cX11_first 49 = .ok (.getfield 46, 3) := by decide +kernel
theorem dX11_first_52 : decode cX11_first 52 = .ok (.invokevirtual 237, 3) := by decide +kernel
theorem dX11_first_55 : decode cX11_first 55 = .ok (.lreturn, 1) := by decide +kernel
theorem dX11_first_56 : decode cX11_first 56 = .ok (.aload_n 0, 1) := by decide +kernel
theorem dX11_first_57 : decode cX11_first 57 = .ok (.getfield 46, 3) := by decide +kernel
theorem dX11_first_60 : decode cX11_first 60 = .ok (.invokevirtual 240, 3) := by decide +kernel
theorem dX11_first_63 : decode cX11_first 63 = .ok (.lreturn, 1) := by decide +kernel
theorem dX11_first_64 : decode cX11_first 64 = .ok (.new 86, 3) := by decide +kernel
theorem dX11_first_67 : decode cX11_first 67 = .ok (.dup, 1) := by decide +kernel
theorem dX11_first_68 : decode cX11_first 68 = .ok (.ldc 243, 2) := by decide +kernel
theorem dX11_first_70 : decode cX11_first 70 = .ok (.invokespecial 90, 3) := by decide +kernel
theorem dX11_first_73 : decode cX11_first 73 = .ok (.athrow, 1) := by decide +kernel
theorem dX11_ends_0 : decode cX11_ends 0 = .ok (.aload_n 0, 1) := by decide +kernel
theorem dX11_ends_1 : decode cX11_ends 1 = .ok (.getfield 46, 3) := by decide +kernel
theorem dX11_ends_4 : decode cX11_ends 4 = .ok (.invokevirtual 245, 3) := by decide +kernel
theorem dX11_ends_7 : decode cX11_ends 7 = .ok (.ireturn, 1) := by decide +kernel
theorem dX11_core_0 : decode cX11_core 0 = .ok (.aload_n 0, 1) := by decide +kernel
theorem dX11_core_1 : decode cX11_core 1 = .ok (.getfield 46, 3) := by decide +kernel
theorem dX11_core_4 : decode cX11_core 4 = .ok (.invokevirtual 248, 3) := by decide +kernel
theorem dX11_core_7 : decode cX11_core 7 = .ok (.ireturn, 1) := by decide +kernel
theorem dX11_around_0 : decode cX11_around 0 = .ok (.aload_n 0, 1) := by decide +kernel
theorem dX11_around_1 : decode cX11_around 1 = .ok (.getfield 21, 3) := by decide +kernel
theorem dX11_around_4 : decode cX11_around 4 = .ok (.iload_n 1, 1) := by decide +kernel
theorem dX11_around_5 : decode cX11_around 5 = .ok (.invokevirtual 115, 3) := by decide +kernel
theorem dX11_around_8 : decode cX11_around 8 = .ok (.ifCond .ne 13, 3) := by decide +kernel
theorem dX11_around_11 : decode cX11_around 11 = .ok (.new 119, 3) := by decide +kernel
theorem dX11_around_14 : decode cX11_around 14 = .ok (.dup, 1) := by decide +kernel
theorem dX11_around_15 : decode cX11_around 15 = .ok (.ldc 121, 2) := by decide +kernel
theorem dX11_around_17 : decode cX11_around 17 = .ok (.invokespecial 123, 3) := by decide +kernel
theorem dX11_around_20 : decode cX11_around 20 = .ok (.athrow, 1) := by decide +kernel
theorem dX11_around_21 : decode cX11_around 21 = .ok (.aload_n 0, 1) := by decide +kernel
theorem dX11_around_22 : decode cX11_around 22 = .ok (.getfield 21, 3) := by decide +kernel
theorem dX11_around_25 : decode cX11_around 25 = .ok (.iload_n 1, 1) := by decide +kernel
theorem dX11_around_26 : decode cX11_around 26 = .ok (.invokevirtual 133, 3) := by decide +kernel
theorem dX11_around_29 : decode cX11_around 29 = .ok (.invokestatic 144, 3) := by decide +kernel
theorem dX11_around_32 : decode cX11_around 32 = .ok (.aload_n 0, 1) := by decide +kernel
theorem dX11_around_33 : decode cX11_around 33 = .ok (.getfield 12, 3) := by decide +kernel
theorem dX11_around_36 : decode cX11_around 36 = .ok (.getfield 93, 3) := by decide +kernel
theorem dX11_around_39 : decode cX11_around 39 = .ok (.iconst 2, 1) := by decide +kernel
theorem dX11_around_40 : decode cX11_around 40 = .ok (.if_icmp .ne 7, 3) := by decide +kernel
theorem dX11_around_43 : decode cX11_around 43 = .ok (.iconst 3, 1) := by decide +kernel
theorem dX11_around_44 : decode cX11_around 44 = .ok (.goto 4, 3) := by decide +kernel
theorem dX11_around_47 : decode cX11_around 47 = .ok (.iconst 2, 1) := by decide +kernel
theorem dX11_around_48 : decode cX11_around 48 = .ok (.if_icmp .le 13, 3) := by decide +kernel
theorem dX11_around_51 : decode cX11_around 51 = .ok (.new 106, 3) := by decide +kernel
theorem dX11_around_54 : decode cX11_around 54 = .ok (.dup, 1) := by decide +kernel
theorem dX11_around_55 : decode cX11_around 55 = .ok (.ldc 251, 2) := by decide +kernel
theorem dX11_around_57 : decode cX11_around 57 = .ok (.invokespecial 110, 3) := by decide +kernel
theorem dX11_around_60 : decode cX11_around 60 = .ok (.athrow, 1) := by decide +kernel
theorem dX11_around_61 : decode cX11_around 61 = .ok (.aload_n 0, 1) := by decide +kernel
theorem dX11_around_62 : decode cX11_around 62 = .ok (.getfield 46, 3) := by decide +kernel
theorem dX11_around_65 : decode cX11_around 65 = .ok (.iload_n 1, 1) := by decide +kernel
theorem dX11_around_66 : decode cX11_around 66 = .ok (.invokevirtual 253, 3) := by decide +kernel
theorem dX11_around_69 : decode cX11_around 69 = .ok (.ireturn, 1) := by decide +kernel
theorem dX11_type_0 : decode cX11_type 0 = .ok (.iload_n 3, 1) := by decide +kernel
theorem dX11_type_1 : decode cX11_type 1 = .ok (.iconst 1, 1) := by decide +kernel
theorem dX11_type_2 : decode cX11_type 2 = .ok (.if_icmp .lt 9, 3) := by decide +kernel
theorem dX11_type_5 : decode cX11_type 5 = .ok (.iload_n 3, 1) := by decide +kernel
theorem dX11_type_6 : decode cX11_type 6 = .ok (.bipush 8, 2) := by decide +kernel
theorem dX11_type_8 : decode cX11_type 8 = .ok (.if_icmp .le 14, 3) := by decide +kernel
theorem dX11_type_11 : decode cX11_type 11 = .ok (.new 86, 3) := by decide +kernel
theorem dX11_type_14 : decode cX11_type 14 = .ok (.dup, 1) := by decide +kernel
theorem dX11_type_15 : decode cX11_type 15 = .ok (.ldc_w 256, 3) := by decide +kernel
theorem dX11_type_18 : decode cX11_type 18 = .ok (.invokespecial 90, 3) := by decide +kernel
theorem dX11_type_21 : decode cX11_type 21 = .ok (.athrow, 1) := by decide +kernel
theorem dX11_type_22 : decode cX11_type 22 = .ok (.iconst 0, 1) := by decide +kernel
theorem dX11_type_23 : decode cX11_type 23 = .ok (.istore 4, 2) := by decide +kernel
theorem dX11_type_25 : decode cX11_type 25 = .ok (.iload 4, 2) := by decide +kernel
theorem dX11_type_27 : decode cX11_type 27 = .ok (.iload_n 3, 1) := by decide +kernel
theorem dX11_type_28 : decode cX11_type 28 = .ok (.if_icmp .ge 32, 3) := by decide +kernel
theorem dX11_type_31 : decode cX11_type 31 = .ok (.lload_n 1, 1) := by decide +kernel
theorem dX11_type_32 : decode cX11_type 32 = .ok (.iload 4, 2) := by decide +kernel
theorem dX11_type_34 : decode cX11_type 34 = .ok (.invokestatic 258, 3) := by decide +kernel
theorem dX11_type_37 : decode cX11_type 37 = .ok (.invokestatic 262, 3) := by decide +kernel
theorem dX11_type_40 : decode cX11_type 40 = .ok (.ifCond .ne 14, 3) := by decide +kernel
theorem dX11_type_43 : decode cX11_type 43 = .ok (.new 86, 3) := by decide +kernel
theorem dX11_type_46 : decode cX11_type 46 = .ok (.dup, 1) := by decide +kernel
theorem dX11_type_47 : decode cX11_type 47 = .ok (.ldc_w 266, 3) := by decide +kernel
theorem dX11_type_50 : decode cX11_type 50 = .ok (.invokespecial 90, 3) := by decide +kernel
theorem dX11_type_53 : decode cX11_type 53 = .ok (.athrow, 1) := by decide +kernel
theorem dX11_type_54 : decode cX11_type 54 = .ok (.iinc 4 1, 3) := by decide +kernel
theorem dX11_type_57 : decode cX11_type 57 = .ok (.goto (-32), 3) := by decide +kernel
theorem dX11_type_60 : decode cX11_type 60 = .ok (.aload_n 0, 1) := by decide +kernel
theorem dX11_type_61 : decode cX11_type 61 = .ok (.getfield 53, 3) := by decide +kernel
theorem dX11_type_64 : decode cX11_type 64 = .ok (.getfield 268, 3) := by decide +kernel
theorem dX11_type_67 : decode cX11_type 67 = .ok (.iload_n 3, 1) := by decide +kernel
theorem dX11_type_68 : decode cX11_type 68 = .ok (.iadd, 1) := by decide +kernel
theorem dX11_type_69 : decode cX11_type 69 = .ok (.bipush 60, 2) := by decide +kernel
theorem dX11_type_71 : decode cX11_type 71 = .ok (.if_icmp .le 14, 3) := by decide +kernel
theorem dX11_type_74 : decode cX11_type 74 = .ok (.new 106, 3) := by decide +kernel
theorem dX11_type_77 : decode cX11_type 77 = .ok (.dup, 1) := by decide +kernel
theorem dX11_type_78 : decode cX11_type 78 = .ok (.ldc_w 271, 3) := by decide +kernel
theorem dX11_type_81 : decode cX11_type 81 = .ok (.invokespecial 110, 3) := by decide +kernel
theorem dX11_type_84 : decode cX11_type 84 = .ok (.athrow, 1) := by decide +kernel
theorem dX11_type_85 : decode cX11_type 85 = .ok (.iconst 0, 1) := by decide +kernel
theorem dX11_type_86 : decode cX11_type 86 = .ok (.istore 4, 2) := by decide +kernel
theorem dX11_type_88 : decode cX11_type 88 = .ok (.iload 4, 2) := by decide +kernel
theorem dX11_type_90 : decode cX11_type 90 = .ok (.iload_n 3, 1) := by decide +kernel
theorem dX11_type_91 : decode cX11_type 91 = .ok (.if_icmp .ge 22, 3) := by decide +kernel
theorem dX11_type_94 : decode cX11_type 94 = .ok (.aload_n 0, 1) := by decide +kernel
theorem dX11_type_95 : decode cX11_type 95 = .ok (.getfield 53, 3) := by decide +kernel
theorem dX11_type_98 : decode cX11_type 98 = .ok (.lload_n 1, 1) := by decide +kernel
theorem dX11_type_99 : decode cX11_type 99 = .ok (.iload 4, 2) := by decide +kernel
theorem dX11_type_101 : decode cX11_type 101 = .ok (.invokestatic 258, 3) := by decide +kernel
theorem dX11_type_104 : decode cX11_type 104 = .ok (.invokevirtual 273, 3) := by decide +kernel
theorem dX11_type_107 : decode cX11_type 107 = .ok (.iinc 4 1, 3) := by decide +kernel
theorem dX11_type_110 : decode cX11_type 110 = .ok (.goto (-22), 3) := by decide +kernel
theorem dX11_type_113 : decode cX11_type 113 = .ok (.aload_n 0, 1) := by decide +kernel
theorem dX11_type_114 : decode cX11_type 114 = .ok (.getfield 53, 3) := by decide +kernel
theorem dX11_type_117 : decode cX11_type 117 = .ok (.getfield 268, 3) := by decide +kernel
theorem dX11_type_120 : decode cX11_type 120 = .ok (.ireturn, 1) := by decide +kernel
theorem dX11_wipe_0 : decode cX11_wipe 0 = .ok (.aload_n 0, 1) := by decide +kernel
theorem dX11_wipe_1 : decode cX11_wipe 1 = .ok (.getfield 53, 3) := by decide +kernel
theorem dX11_wipe_4 : decode cX11_wipe 4 = .ok (.getfield 268, 3) := by decide +kernel
theorem dX11_wipe_7 : decode cX11_wipe 7 = .ok (.istore_n 1, 1) := by decide +kernel
theorem dX11_wipe_8 : decode cX11_wipe 8 = .ok (.aload_n 0, 1) := by decide +kernel
theorem dX11_wipe_9 : decode cX11_wipe 9 = .ok (.getfield 53, 3) := by decide +kernel
theorem dX11_wipe_12 : decode cX11_wipe 12 = .ok (.iconst 0, 1) := by decide +kernel
theorem dX11_wipe_13 : decode cX11_wipe 13 = .ok (.putfield 268, 3) := by decide +kernel
theorem dX11_wipe_16 : decode cX11_wipe 16 = .ok (.iload_n 1, 1) := by decide +kernel
theorem dX11_wipe_17 : decode cX11_wipe 17 = .ok (.ireturn, 1) := by decide +kernel
theorem dX11_fault_0 : decode cX11_fault 0 = .ok (.aload_n 0, 1) := by decide +kernel
theorem dX11_fault_1 : decode cX11_fault 1 = .ok (.getfield 62, 3) := by decide +kernel
theorem dX11_fault_4 : decode cX11_fault 4 = .ok (.aload_n 0, 1) := by decide +kernel
theorem dX11_fault_5 : decode cX11_fault 5 = .ok (.getfield 53, 3) := by decide +kernel
theorem dX11_fault_8 : decode cX11_fault 8 = .ok (.invokevirtual 276, 3) := by decide +kernel
theorem dX11_fault_11 : decode cX11_fault 11 = .ok (.ireturn, 1) := by decide +kernel
theorem dX11_define_0 : decode cX11_define 0 = .ok (.aload_n 0, 1) := by decide +kernel
theorem dX11_define_1 : decode cX11_define 1 = .ok (.getfield 62, 3) := by decide +kernel
theorem dX11_define_4 : decode cX11_define 4 = .ok (.aload_n 0, 1) := by decide +kernel
theorem dX11_define_5 : decode cX11_define 5 = .ok (.getfield 53, 3) := by decide +kernel
theorem dX11_define_8 : decode cX11_define 8 = .ok (.invokevirtual 276, 3) := by decide +kernel
theorem dX11_define_11 : decode cX11_define 11 = .ok (.iconst (-1), 1) := by decide +kernel
theorem dX11_define_12 : decode cX11_define 12 = .ok (.if_icmp .eq 14, 3) := by decide +kernel
theorem dX11_define_15 : decode cX11_define 15 = .ok (.new 86, 3) := by decide +kernel
theorem dX11_define_18 : decode cX11_define 18 = .ok (.dup, 1) := by decide +kernel
theorem dX11_define_19 : decode cX11_define 19 = .ok (.ldc_w 280, 3) := by decide +kernel
theorem dX11_define_22 : decode cX11_define 22 = .ok (.invokespecial 90, 3) := by decide +kernel
theorem dX11_define_25 : decode cX11_define 25 = .ok (.athrow, 1) := by decide +kernel
theorem dX11_define_26 : decode cX11_define 26 = .ok (.aload_n 0, 1) := by decide +kernel
theorem dX11_define_27 : decode cX11_define 27 = .ok (.getfield 21, 3) := by decide +kernel
theorem dX11_define_30 : decode cX11_define 30 = .ok (.getfield 103, 3) := by decide +kernel
theorem dX11_define_33 : decode cX11_define 33 = .ok (.bipush 8, 2) := by decide +kernel
theorem dX11_define_35 : decode cX11_define 35 = .ok (.if_icmp .lt 13, 3) := by decide +kernel
theorem dX11_define_38 : decode cX11_define 38 = .ok (.new 106, 3) := by decide +kernel
theorem dX11_define_41 : decode cX11_define 41 = .ok (.dup, 1) := by decide +kernel
theorem dX11_define_42 : decode cX11_define 42 = .ok (.ldc 108, 2) := by decide +kernel
theorem dX11_define_44 : decode cX11_define 44 = .ok (.invokespecial 110, 3) := by decide +kernel
theorem dX11_define_47 : decode cX11_define 47 = .ok (.athrow, 1) := by decide +kernel
theorem dX11_define_48 : decode cX11_define 48 = .ok (.aload_n 0, 1) := by decide +kernel
theorem dX11_define_49 : decode cX11_define 49 = .ok (.getfield 21, 3) := by decide +kernel
theorem dX11_define_52 : decode cX11_define 52 = .ok (.aload_n 0, 1) := by decide +kernel
theorem dX11_define_53 : decode cX11_define 53 = .ok (.getfield 62, 3) := by decide +kernel
theorem dX11_define_56 : decode cX11_define 56 = .ok (.getfield 282, 3) := by decide +kernel
theorem dX11_define_59 : decode cX11_define 59 = .ok (.aload_n 0, 1) := by decide +kernel
theorem dX11_define_60 : decode cX11_define 60 = .ok (.getfield 62, 3) := by decide +kernel
theorem dX11_define_63 : decode cX11_define 63 = .ok (.invokevirtual 285, 3) := by decide +kernel
theorem dX11_define_66 : decode cX11_define 66 = .ok (.invokevirtual 111, 3) := by decide +kernel
theorem dX11_define_69 : decode cX11_define 69 = .ok (.istore_n 1, 1) := by decide +kernel
theorem dX11_define_70 : decode cX11_define 70 = .ok (.aload_n 0, 1) := by decide +kernel
theorem dX11_define_71 : decode cX11_define 71 = .ok (.getfield 53, 3) := by decide +kernel
theorem dX11_define_74 : decode cX11_define 74 = .ok (.iconst 0, 1) := by decide +kernel
theorem dX11_define_75 : decode cX11_define 75 = .ok (.putfield 268, 3) := by decide +kernel
theorem dX11_define_78 : decode cX11_define 78 = .ok (.iload_n 1, 1) := by decide +kernel
theorem dX11_define_79 : decode cX11_define 79 = .ok (.ireturn, 1) := by decide +kernel
theorem dX11_instance_0 : decode cX11_instance 0 = .ok (.iload_n 1, 1) := by decide +kernel
theorem dX11_instance_1 : decode cX11_instance 1 = .ok (.iconst 1, 1) := by decide +kernel
theorem dX11_instance_2 : decode cX11_instance 2 = .ok (.if_icmp .lt 9, 3) := by decide +kernel
theorem dX11_instance_5 : decode cX11_instance 5 = .ok (.iload_n 1, 1) := by decide +kernel
theorem dX11_instance_6 : decode cX11_instance 6 = .ok (.bipush 6, 2) := by decide +kernel
theorem dX11_instance_8 : decode cX11_instance 8 = .ok (.if_icmp .le 14, 3) := by decide +kernel
theorem dX11_instance_11 : decode cX11_instance 11 = .ok (.new 86, 3) := by decide +kernel
theorem dX11_instance_14 : decode cX11_instance 14 = .ok (.dup, 1) := by decide +kernel
theorem dX11_instance_15 : decode cX11_instance 15 = .ok (.ldc_w 288, 3) := by decide +kernel
theorem dX11_instance_18 : decode cX11_instance 18 = .ok (.invokespecial 90, 3) := by decide +kernel
theorem dX11_instance_21 : decode cX11_instance 21 = .ok (.athrow, 1) := by decide +kernel
theorem dX11_instance_22 : decode cX11_instance 22 = .ok (.aload_n 0, 1) := by decide +kernel
theorem dX11_instance_23 : decode cX11_instance 23 = .ok (.getfield 69, 3) := by decide +kernel
theorem dX11_instance_26 : decode cX11_instance 26 = .ok (.getfield 290, 3) := by decide +kernel
theorem dX11_instance_29 : decode cX11_instance 29 = .ok (.istore_n 2, 1) := by decide +kernel
theorem dX11_instance_30 : decode cX11_instance 30 = .ok (.aload_n 0, 1) := by decide +kernel
theorem dX11_instance_31 : decode cX11_instance 31 = .ok (.getfield 69, 3) := by decide +kernel
theorem dX11_instance_34 : decode cX11_instance 34 = .ok (.iload_n 1, 1) := by decide +kernel
theorem dX11_instance_35 : decode cX11_instance 35 = .ok (.invokevirtual 293, 3) := by decide +kernel
theorem dX11_instance_38 : decode cX11_instance 38 = .ok (.iload_n 2, 1) := by decide +kernel
theorem dX11_instance_39 : decode cX11_instance 39 = .ok (.ireturn, 1) := by decide +kernel
theorem dX11_constrain_0 : decode cX11_constrain 0 = .ok (.aload_n 0, 1) := by decide +kernel
theorem dX11_constrain_1 : decode cX11_constrain 1 = .ok (.getfield 21, 3) := by decide +kernel
theorem dX11_constrain_4 : decode cX11_constrain 4 = .ok (.iload_n 1, 1) := by decide +kernel
theorem dX11_constrain_5 : decode cX11_constrain 5 = .ok (.invokevirtual 115, 3) := by decide +kernel
theorem dX11_constrain_8 : decode cX11_constrain 8 = .ok (.ifCond .ne 13, 3) := by decide +kernel
theorem dX11_constrain_11 : decode cX11_constrain 11 = .ok (.new 119, 3) := by decide +kernel
theorem dX11_constrain_14 : decode cX11_constrain 14 = .ok (.dup, 1) := by decide +kernel
theorem dX11_constrain_15 : decode cX11_constrain 15 = .ok (.ldc 121, 2) := by decide +kernel
theorem dX11_constrain_17 : decode cX11_constrain 17 = .ok (.invokespecial 123, 3) := by decide +kernel
theorem dX11_constrain_20 : decode cX11_constrain 20 = .ok (.athrow, 1) := by decide +kernel
theorem dX11_constrain_21 : decode cX11_constrain 21 = .ok (.aload_n 0, 1) := by decide +kernel
theorem dX11_constrain_22 : decode cX11_constrain 22 = .ok (.iload_n 2, 1) := by decide +kernel
theorem dX11_constrain_23 : decode cX11_constrain 23 = .ok (.invokevirtual 296, 3) := by decide +kernel
theorem dX11_constrain_26 : decode cX11_constrain 26 = .ok (.ifCond .eq 20, 3) := by decide +kernel
theorem dX11_constrain_29 : decode cX11_constrain 29 = .ok (.aload_n 0, 1) := by decide +kernel
theorem dX11_constrain_30 : decode cX11_constrain 30 = .ok (.iload_n 3, 1) := by decide +kernel
theorem dX11_constrain_31 : decode cX11_constrain 31 = .ok (.invokevirtual 296, 3) := by decide +kernel
theorem dX11_constrain_34 : decode cX11_constrain 34 = .ok (.ifCond .eq 12, 3) := by decide +kernel
theorem dX11_constrain_37 : decode cX11_constrain 37 = .ok (.aload_n 0, 1) := by decide +kernel
theorem dX11_constrain_38 : decode cX11_constrain 38 = .ok (.iload 4, 2) := by decide +kernel
theorem dX11_constrain_40 : decode cX11_constrain 40 = .ok (.invokevirtual 296, 3) := by decide +kernel
theorem dX11_constrain_43 : decode cX11_constrain 43 = .ok (.ifCond .ne 14, 3) := by decide +kernel
theorem dX11_constrain_46 : decode cX11_constrain 46 = .ok (.new 119, 3) := by decide +kernel
theorem dX11_constrain_49 : decode cX11_constrain 49 = .ok (.dup, 1) := by decide +kernel
theorem dX11_constrain_50 : decode cX11_constrain 50 = .ok (.ldc_w 299, 3) := by decide +kernel
theorem dX11_constrain_53 : decode cX11_constrain 53 = .ok (.invokespecial 123, 3) := by decide +kernel
theorem dX11_constrain_56 : decode cX11_constrain 56 = .ok (.athrow, 1) := by decide +kernel
theorem dX11_constrain_57 : decode cX11_constrain 57 = .ok (.aload_n 0, 1) := by decide +kernel
theorem dX11_constrain_58 : decode cX11_constrain 58 = .ok (.getfield 21, 3) := by decide +kernel
theorem dX11_constrain_61 : decode cX11_constrain 61 = .ok (.iload_n 1, 1) := by decide +kernel
theorem dX11_constrain_62 : decode cX11_constrain 62 = .ok (.invokevirtual 124, 3) := by decide +kernel
theorem dX11_constrain_65 : decode cX11_constrain 65 = .ok (.istore 5, 2) := by decide +kernel
theorem dX11_constrain_67 : decode cX11_constrain 67 = .ok (.iload_n 2, 1) := by decide +kernel
theorem dX11_constrain_68 : decode cX11_constrain 68 = .ok (.iconst (-1), 1) := by decide +kernel
theorem dX11_constrain_69 : decode cX11_constrain 69 = .ok (.if_icmp .eq 52, 3) := by decide +kernel
theorem dX11_constrain_72 : decode cX11_constrain 72 = .ok (.iload_n 3, 1) := by decide +kernel
theorem dX11_constrain_73 : decode cX11_constrain 73 = .ok (.iconst (-1), 1) := by decide +kernel
theorem dX11_constrain_74 : decode cX11_constrain 74 = .ok (.if_icmp .ne 7, 3) := by decide +kernel
theorem dX11_constrain_77 : decode cX11_constrain 77 = .ok (.iconst 1, 1) := by decide +kernel
theorem dX11_constrain_78 : decode cX11_constrain 78 = .ok (.goto 4, 3) := by decide +kernel
theorem dX11_constrain_81 : decode cX11_constrain 81 = .ok (.iconst 0, 1) := by decide +kernel
theorem dX11_constrain_82 : decode cX11_constrain 82 = .ok (.iload 5, 2) := by decide +kernel
theorem dX11_constrain_84 : decode cX11_constrain 84 = .ok (.iconst 2, 1) := by decide +kernel
theorem dX11_constrain_85 : decode cX11_constrain 85 = .ok (.if_icmp .lt 7, 3) := by decide +kernel
theorem dX11_constrain_88 : decode cX11_constrain 88 = .ok (.iconst 1, 1) := by decide +kernel
theorem dX11_constrain_89 : decode cX11_constrain 89 = .ok (.goto 4, 3) := by decide +kernel
theorem dX11_constrain_92 : decode cX11_constrain 92 = .ok (.iconst 0, 1) := by decide +kernel
theorem dX11_constrain_93 : decode cX11_constrain 93 = .ok (.if_icmp .eq 28, 3) := by decide +kernel
theorem dX11_constrain_96 : decode cX11_constrain 96 = .ok (.iload 4, 2) := by decide +kernel
theorem dX11_constrain_98 : decode cX11_constrain 98 = .ok (.iconst (-1), 1) := by decide +kernel
theorem dX11_constrain_99 : decode cX11_constrain 99 = .ok (.if_icmp .ne 7, 3) := by decide +kernel
theorem dX11_constrain_102 : decode cX11_constrain 102 = .ok (.iconst 1, 1) := by decide +kernel
theorem dX11_constrain_103 : decode cX11_constrain 103 = .ok (.goto 4, 3) := by decide +kernel
theorem dX11_constrain_106 : decode cX11_constrain 106 = .ok (.iconst 0, 1) := by decide +kernel
theorem dX11_constrain_107 : decode cX11_constrain 107 = .ok (.iload 5, 2) := by decide +kernel
theorem dX11_constrain_109 : decode cX11_constrain 109 = .ok (.iconst 3, 1) := by decide +kernel
theorem dX11_constrain_110 : decode cX11_constrain 110 = .ok (.if_icmp .lt 7, 3) := by decide +kernel
theorem dX11_constrain_113 : decode cX11_constrain 113 = .ok (.iconst 1, 1) := by decide +kernel
theorem dX11_constrain_114 : decode cX11_constrain 114 = .ok (.goto 4, 3) := by decide +kernel
theorem dX11_constrain_117 : decode cX11_constrain 117 = .ok (.iconst 0, 1) := by decide +kernel
theorem dX11_constrain_118 : decode cX11_constrain 118 = .ok (.if_icmp .ne 14, 3) := by decide +kernel
theorem dX11_constrain_121 : decode cX11_constrain 121 = .ok (.new 86, 3) := by decide +kernel
theorem dX11_constrain_124 : decode cX11_constrain 124 = .ok (.dup, 1) := by decide +kernel
theorem dX11_constrain_125 : decode cX11_constrain 125 = .ok (.ldc_w 301, 3) := by decide +kernel
theorem dX11_constrain_128 : decode cX11_constrain 128 = .ok (.invokespecial 90, 3) := by decide +kernel
theorem dX11_constrain_131 : decode cX11_constrain 131 = .ok (.athrow, 1) := by decide +kernel
theorem dX11_constrain_132 : decode cX11_constrain 132 = .ok (.aload_n 0, 1) := by decide +kernel
theorem dX11_constrain_133 : decode cX11_constrain 133 = .ok (.getfield 69, 3) := by decide +kernel
theorem dX11_constrain_136 : decode cX11_constrain 136 = .ok (.getfield 290, 3) := by decide +kernel
theorem dX11_constrain_139 : decode cX11_constrain 139 = .ok (.bipush 16, 2) := by decide +kernel
theorem dX11_constrain_141 : decode cX11_constrain 141 = .ok (.if_icmp .lt 14, 3) := by decide +kernel
theorem dX11_constrain_144 : decode cX11_constrain 144 = .ok (.new 106, 3) := by decide +kernel
theorem dX11_constrain_147 : decode cX11_constrain 147 = .ok (.dup, 1) := by decide +kernel
theorem dX11_constrain_148 : decode cX11_constrain 148 = .ok (.ldc_w 303, 3) := by decide +kernel
theorem dX11_constrain_151 : decode cX11_constrain 151 = .ok (.invokespecial 110, 3) := by decide +kernel
theorem dX11_constrain_154 : decode cX11_constrain 154 = .ok (.athrow, 1) := by decide +kernel
theorem dX11_constrain_155 : decode cX11_constrain 155 = .ok (.aload_n 0, 1) := by decide +kernel
theorem dX11_constrain_156 : decode cX11_constrain 156 = .ok (.getfield 69, 3) := by decide +kernel
theorem dX11_constrain_159 : decode cX11_constrain 159 = .ok (.iload_n 1, 1) := by decide +kernel
theorem dX11_constrain_160 : decode cX11_constrain 160 = .ok (.iload_n 2, 1) := by decide +kernel
theorem dX11_constrain_161 : decode cX11_constrain 161 = .ok (.iload_n 3, 1) := by decide +kernel
theorem dX11_constrain_162 : decode cX11_constrain 162 = .ok (.iload 4, 2) := by decide +kernel
theorem dX11_constrain_164 : decode cX11_constrain 164 = .ok (.invokevirtual 305, 3) := by decide +kernel
theorem dX11_constrain_167 : decode cX11_constrain 167 = .ok (.aload_n 0, 1) := by decide +kernel
theorem dX11_constrain_168 : decode cX11_constrain 168 = .ok (.getfield 69, 3) := by decide +kernel
theorem dX11_constrain_171 : decode cX11_constrain 171 = .ok (.getfield 290, 3) := by decide +kernel
theorem dX11_constrain_174 : decode cX11_constrain 174 = .ok (.ireturn, 1) := by decide +kernel
theorem dX11_solutions_0 : decode cX11_solutions 0 = .ok (.aload_n 0, 1) := by decide +kernel
theorem dX11_solutions_1 : decode cX11_solutions 1 = .ok (.getfield 69, 3) := by decide +kernel
theorem dX11_solutions_4 : decode cX11_solutions 4 = .ok (.invokevirtual 308, 3) := by decide +kernel
theorem dX11_solutions_7 : decode cX11_solutions 7 = .ok (.ireturn, 1) := by decide +kernel
theorem dX11_solutionsAnew_0 : decode cX11_solutionsAnew 0 = .ok (.aload_n 0, 1) := by decide +kernel
theorem dX11_solutionsAnew_1 : decode cX11_solutionsAnew 1 = .ok (.getfield 69, 3) := by decide +kernel
theorem dX11_solutionsAnew_4 : decode cX11_solutionsAnew 4 = .ok (.invokevirtual 311, 3) := by decide +kernel
theorem dX11_solutionsAnew_7 : decode cX11_solutionsAnew 7 = .ok (.ireturn, 1) := by decide +kernel
theorem dX11_solve_0 : decode cX11_solve 0 = .ok (.aload_n 0, 1) := by decide +kernel
theorem dX11_solve_1 : decode cX11_solve 1 = .ok (.getfield 69, 3) := by decide +kernel
theorem dX11_solve_4 : decode cX11_solve 4 = .ok (.invokevirtual 314, 3) := by decide +kernel
theorem dX11_solve_7 : decode cX11_solve 7 = .ok (.ireturn, 1) := by decide +kernel
theorem dX11_left_0 : decode cX11_left 0 = .ok (.aload_n 0, 1) := by decide +kernel
theorem dX11_left_1 : decode cX11_left 1 = .ok (.getfield 69, 3) := by decide +kernel
theorem dX11_left_4 : decode cX11_left 4 = .ok (.iload_n 1, 1) := by decide +kernel
theorem dX11_left_5 : decode cX11_left 5 = .ok (.invokevirtual 317, 3) := by decide +kernel
theorem dX11_left_8 : decode cX11_left 8 = .ok (.ifCond .ne 14, 3) := by decide +kernel
theorem dX11_left_11 : decode cX11_left 11 = .ok (.new 119, 3) := by decide +kernel
theorem dX11_left_14 : decode cX11_left 14 = .ok (.dup, 1) := by decide +kernel
theorem dX11_left_15 : decode cX11_left 15 = .ok (.ldc_w 299, 3) := by decide +kernel
theorem dX11_left_18 : decode cX11_left 18 = .ok (.invokespecial 123, 3) := by decide +kernel
theorem dX11_left_21 : decode cX11_left 21 = .ok (.athrow, 1) := by decide +kernel
theorem dX11_left_22 : decode cX11_left 22 = .ok (.aload_n 0, 1) := by decide +kernel
theorem dX11_left_23 : decode cX11_left 23 = .ok (.getfield 69, 3) := by decide +kernel
theorem dX11_left_26 : decode cX11_left 26 = .ok (.iload_n 1, 1) := by decide +kernel
theorem dX11_left_27 : decode cX11_left 27 = .ok (.invokevirtual 318, 3) := by decide +kernel
theorem dX11_left_30 : decode cX11_left 30 = .ok (.ireturn, 1) := by decide +kernel
theorem dX11_pairs_0 : decode cX11_pairs 0 = .ok (.aload_n 0, 1) := by decide +kernel
theorem dX11_pairs_1 : decode cX11_pairs 1 = .ok (.getfield 69, 3) := by decide +kernel
theorem dX11_pairs_4 : decode cX11_pairs 4 = .ok (.iload_n 1, 1) := by decide +kernel
theorem dX11_pairs_5 : decode cX11_pairs 5 = .ok (.invokevirtual 317, 3) := by decide +kernel
theorem dX11_pairs_8 : decode cX11_pairs 8 = .ok (.ifCond .eq 14, 3) := by decide +kernel
theorem dX11_pairs_11 : decode cX11_pairs 11 = .ok (.aload_n 0, 1) := by decide +kernel
theorem dX11_pairs_12 : decode cX11_pairs 12 = .ok (.getfield 69, 3) := by decide +kernel
theorem dX11_pairs_15 : decode cX11_pairs 15 = .ok (.iload_n 2, 1) := by decide +kernel
theorem dX11_pairs_16 : decode cX11_pairs 16 = .ok (.invokevirtual 317, 3) := by decide +kernel
theorem dX11_pairs_19 : decode cX11_pairs 19 = .ok (.ifCond .ne 14, 3) := by decide +kernel
theorem dX11_pairs_22 : decode cX11_pairs 22 = .ok (.new 119, 3) := by decide +kernel
theorem dX11_pairs_25 : decode cX11_pairs 25 = .ok (.dup, 1) := by decide +kernel
theorem dX11_pairs_26 : decode cX11_pairs 26 = .ok (.ldc_w 299, 3) := by decide +kernel
theorem dX11_pairs_29 : decode cX11_pairs 29 = .ok (.invokespecial 123, 3) := by decide +kernel
theorem dX11_pairs_32 : decode cX11_pairs 32 = .ok (.athrow, 1) := by decide +kernel
theorem dX11_pairs_33 : decode cX11_pairs 33 = .ok (.iload_n 1, 1) := by decide +kernel
theorem dX11_pairs_34 : decode cX11_pairs 34 = .ok (.iload_n 2, 1) := by decide +kernel
theorem dX11_pairs_35 : decode cX11_pairs 35 = .ok (.if_icmp .ne 14, 3) := by decide +kernel
theorem dX11_pairs_38 : decode cX11_pairs 38 = .ok (.new 86, 3) := by decide +kernel
theorem dX11_pairs_41 : decode cX11_pairs 41 = .ok (.dup, 1) := by decide +kernel
theorem dX11_pairs_42 : decode cX11_pairs 42 = .ok (.ldc_w 321, 3) := by decide +kernel
theorem dX11_pairs_45 : decode cX11_pairs 45 = .ok (.invokespecial 90, 3) := by decide +kernel
theorem dX11_pairs_48 : decode cX11_pairs 48 = .ok (.athrow, 1) := by decide +kernel
theorem dX11_pairs_49 : decode cX11_pairs 49 = .ok (.aload_n 0, 1) := by decide +kernel
theorem dX11_pairs_50 : decode cX11_pairs 50 = .ok (.getfield 78, 3) := by decide +kernel
theorem dX11_pairs_53 : decode cX11_pairs 53 = .ok (.iload_n 1, 1) := by decide +kernel
theorem dX11_pairs_54 : decode cX11_pairs 54 = .ok (.iload_n 2, 1) := by decide +kernel
theorem dX11_pairs_55 : decode cX11_pairs 55 = .ok (.invokevirtual 323, 3) := by decide +kernel
theorem dX11_pairs_58 : decode cX11_pairs 58 = .ok (.ireturn, 1) := by decide +kernel
theorem dX11_beginAnew_0 : decode cX11_beginAnew 0 = .ok (.aload_n 0, 1) := by decide +kernel
theorem dX11_beginAnew_1 : decode cX11_beginAnew 1 = .ok (.getfield 12, 3) := by decide +kernel
theorem dX11_beginAnew_4 : decode cX11_beginAnew 4 = .ok (.iload_n 1, 1) := by decide +kernel
theorem dX11_beginAnew_5 : decode cX11_beginAnew 5 = .ok (.invokevirtual 326, 3) := by decide +kernel
theorem dX11_beginAnew_8 : decode cX11_beginAnew 8 = .ok (.aload_n 0, 1) := by decide +kernel
theorem dX11_beginAnew_9 : decode cX11_beginAnew 9 = .ok (.getfield 21, 3) := by decide +kernel
theorem dX11_beginAnew_12 : decode cX11_beginAnew 12 = .ok (.invokevirtual 327, 3) := by decide +kernel
theorem dX11_beginAnew_15 : decode cX11_beginAnew 15 = .ok (.aload_n 0, 1) := by decide +kernel
theorem dX11_beginAnew_16 : decode cX11_beginAnew 16 = .ok (.getfield 37, 3) := by decide +kernel
theorem dX11_beginAnew_19 : decode cX11_beginAnew 19 = .ok (.iconst 0, 1) := by decide +kernel
theorem dX11_beginAnew_20 : decode cX11_beginAnew 20 = .ok (.putfield 153, 3) := by decide +kernel
theorem dX11_beginAnew_23 : decode cX11_beginAnew 23 = .ok (.aload_n 0, 1) := by decide +kernel
theorem dX11_beginAnew_24 : decode cX11_beginAnew 24 = .ok (.getfield 69, 3) := by decide +kernel
theorem dX11_beginAnew_27 : decode cX11_beginAnew 27 = .ok (.iconst 1, 1) := by decide +kernel
theorem dX11_beginAnew_28 : decode cX11_beginAnew 28 = .ok (.invokevirtual 293, 3) := by decide +kernel
theorem dX11_beginAnew_31 : decode cX11_beginAnew 31 = .ok (.return_, 1) := by decide +kernel
theorem dX11_isVariableOrNone_0 : decode cX11_isVariableOrNone 0 = .ok (.iload_n 1, 1) := by decide +kernel
theorem dX11_isVariableOrNone_1 : decode cX11_isVariableOrNone 1 = .ok (.iconst (-1), 1) := by decide +kernel
theorem dX11_isVariableOrNone_2 : decode cX11_isVariableOrNone 2 = .ok (.if_icmp .eq 14, 3) := by decide +kernel
theorem dX11_isVariableOrNone_5 : decode cX11_isVariableOrNone 5 = .ok (.aload_n 0, 1) := by decide +kernel
theorem dX11_isVariableOrNone_6 : decode cX11_isVariableOrNone 6 = .ok (.getfield 69, 3) := by decide +kernel
theorem dX11_isVariableOrNone_9 : decode cX11_isVariableOrNone 9 = .ok (.iload_n 1, 1) := by decide +kernel
theorem dX11_isVariableOrNone_10 : decode cX11_isVariableOrNone 10 = .ok (.invokevirtual 317, 3) := by decide +kernel
theorem dX11_isVariableOrNone_13 : decode cX11_isVariableOrNone 13 = .ok (.ifCond .eq 7, 3) := by decide +kernel
theorem dX11_isVariableOrNone_16 : decode cX11_isVariableOrNone 16 = .ok (.iconst 1, 1) := by decide +kernel
theorem dX11_isVariableOrNone_17 : decode cX11_isVariableOrNone 17 = .ok (.goto 4, 3) := by decide +kernel
theorem dX11_isVariableOrNone_20 : decode cX11_isVariableOrNone 20 = .ok (.iconst 0, 1) := by decide +kernel
theorem dX11_isVariableOrNone_21 : decode cX11_isVariableOrNone 21 = .ok (.ireturn, 1) := by decide +kernel
theorem dX11_signOf_0 : decode cX11_signOf 0 = .ok (.lload_n 0, 1) := by decide +kernel
theorem dX11_signOf_1 : decode cX11_signOf 1 = .ok (.bipush 8, 2) := by decide +kernel
theorem dX11_signOf_3 : decode cX11_signOf 3 = .ok (.iload_n 2, 1) := by decide +kernel
theorem dX11_signOf_4 : decode cX11_signOf 4 = .ok (.imul, 1) := by decide +kernel
theorem dX11_signOf_5 : decode cX11_signOf 5 = .ok (.lushr, 1) := by decide +kernel
theorem dX11_signOf_6 : decode cX11_signOf 6 = .ok (.ldc2_w 329, 3) := by decide +kernel
theorem dX11_signOf_9 : decode cX11_signOf 9 = .ok (.land, 1) := by decide +kernel
theorem dX11_signOf_10 : decode cX11_signOf 10 = .ok (.l2i, 1) := by decide +kernel
theorem dX11_signOf_11 : decode cX11_signOf 11 = .ok (.i2c, 1) := by decide +kernel
theorem dX11_signOf_12 : decode cX11_signOf 12 = .ok (.ireturn, 1) := by decide +kernel
theorem dX11_isIn_0 : decode cX11_isIn 0 = .ok (.iload_n 1, 1) := by decide +kernel
theorem dX11_isIn_1 : decode cX11_isIn 1 = .ok (.iload_n 0, 1) := by decide +kernel
theorem dX11_isIn_2 : decode cX11_isIn 2 = .ok (.ishr, 1) := by decide +kernel
theorem dX11_isIn_3 : decode cX11_isIn 3 = .ok (.iconst 1, 1) := by decide +kernel
theorem dX11_isIn_4 : decode cX11_isIn 4 = .ok (.iand, 1) := by decide +kernel
theorem dX11_isIn_5 : decode cX11_isIn 5 = .ok (.ifCond .eq 7, 3) := by decide +kernel
theorem dX11_isIn_8 : decode cX11_isIn 8 = .ok (.iconst 1, 1) := by decide +kernel
theorem dX11_isIn_9 : decode cX11_isIn 9 = .ok (.goto 4, 3) := by decide +kernel
theorem dX11_isIn_12 : decode cX11_isIn 12 = .ok (.iconst 0, 1) := by decide +kernel
theorem dX11_isIn_13 : decode cX11_isIn 13 = .ok (.ireturn, 1) := by decide +kernel
theorem dX11_lowestOf_0 : decode cX11_lowestOf 0 = .ok (.iconst 0, 1) := by decide +kernel
theorem dX11_lowestOf_1 : decode cX11_lowestOf 1 = .ok (.istore_n 1, 1) := by decide +kernel
theorem dX11_lowestOf_2 : decode cX11_lowestOf 2 = .ok (.iload_n 1, 1) := by decide +kernel
theorem dX11_lowestOf_3 : decode cX11_lowestOf 3 = .ok (.bipush 32, 2) := by decide +kernel
theorem dX11_lowestOf_5 : decode cX11_lowestOf 5 = .ok (.if_icmp .ge 19, 3) := by decide +kernel
theorem dX11_lowestOf_8 : decode cX11_lowestOf 8 = .ok (.iload_n 1, 1) := by decide +kernel
theorem dX11_lowestOf_9 : decode cX11_lowestOf 9 = .ok (.iload_n 0, 1) := by decide +kernel
theorem dX11_lowestOf_10 : decode cX11_lowestOf 10 = .ok (.invokestatic 140, 3) := by decide +kernel
theorem dX11_lowestOf_13 : decode cX11_lowestOf 13 = .ok (.ifCond .eq 5, 3) := by decide +kernel
theorem dX11_lowestOf_16 : decode cX11_lowestOf 16 = .ok (.iload_n 1, 1) := by decide +kernel
theorem dX11_lowestOf_17 : decode cX11_lowestOf 17 = .ok (.ireturn, 1) := by decide +kernel
theorem dX11_lowestOf_18 : decode cX11_lowestOf 18 = .ok (.iinc 1 1, 3) := by decide +kernel
theorem dX11_lowestOf_21 : decode cX11_lowestOf 21 = .ok (.goto (-19), 3) := by decide +kernel
theorem dX11_lowestOf_24 : decode cX11_lowestOf 24 = .ok (.iconst (-1), 1) := by decide +kernel
theorem dX11_lowestOf_25 : decode cX11_lowestOf 25 = .ok (.ireturn, 1) := by decide +kernel
theorem dX11_at_0 : decode cX11_at 0 = .ok (.iload_n 1, 1) := by decide +kernel
theorem dX11_at_1 : decode cX11_at 1 = .ok (.ifCond .lt 15, 3) := by decide +kernel
theorem dX11_at_4 : decode cX11_at 4 = .ok (.iload_n 1, 1) := by decide +kernel
theorem dX11_at_5 : decode cX11_at 5 = .ok (.aload_n 0, 1) := by decide +kernel
theorem dX11_at_6 : decode cX11_at 6 = .ok (.arraylength, 1) := by decide +kernel
theorem dX11_at_7 : decode cX11_at 7 = .ok (.if_icmp .ge 9, 3) := by decide +kernel
theorem dX11_at_10 : decode cX11_at 10 = .ok (.aload_n 0, 1) := by decide +kernel
theorem dX11_at_11 : decode cX11_at 11 = .ok (.iload_n 1, 1) := by decide +kernel
theorem dX11_at_12 : decode cX11_at 12 = .ok (.iaload, 1) := by decide +kernel
theorem dX11_at_13 : decode cX11_at 13 = .ok (.goto 4, 3) := by decide +kernel
theorem dX11_at_16 : decode cX11_at 16 = .ok (.iconst 0, 1) := by decide +kernel
theorem dX11_at_17 : decode cX11_at 17 = .ok (.ireturn, 1) := by decide +kernel
theorem dX11_put_0 : decode cX11_put 0 = .ok (.iload_n 1, 1) := by decide +kernel
theorem dX11_put_1 : decode cX11_put 1 = .ok (.ifCond .lt 13, 3) := by decide +kernel
theorem dX11_put_4 : decode cX11_put 4 = .ok (.iload_n 1, 1) := by decide +kernel
theorem dX11_put_5 : decode cX11_put 5 = .ok (.aload_n 0, 1) := by decide +kernel
theorem dX11_put_6 : decode cX11_put 6 = .ok (.arraylength, 1) := by decide +kernel
theorem dX11_put_7 : decode cX11_put 7 = .ok (.if_icmp .ge 7, 3) := by decide +kernel
theorem dX11_put_10 : decode cX11_put 10 = .ok (.aload_n 0, 1) := by decide +kernel
theorem dX11_put_11 : decode cX11_put 11 = .ok (.iload_n 1, 1) := by decide +kernel
theorem dX11_put_12 : decode cX11_put 12 = .ok (.iload_n 2, 1) := by decide +kernel
theorem dX11_put_13 : decode cX11_put 13 = .ok (.iastore, 1) := by decide +kernel
theorem dX11_put_14 : decode cX11_put 14 = .ok (.return_, 1) := by decide +kernel
theorem dJ6_bitCount_0f7a4_0 : decode cJ6_bitCount_0f7a4 0 = .ok (.iload_n 0, 1) := by decide +kernel
theorem dJ6_bitCount_0f7a4_1 : decode cJ6_bitCount_0f7a4 1 = .ok (.iload_n 0, 1) := by decide +kernel
theorem dJ6_bitCount_0f7a4_2 : decode cJ6_bitCount_0f7a4 2 = .ok (.iconst 1, 1) := by decide +kernel
theorem dJ6_bitCount_0f7a4_3 : decode cJ6_bitCount_0f7a4 3 = .ok (.iushr, 1) := by decide +kernel
theorem dJ6_bitCount_0f7a4_4 : decode cJ6_bitCount_0f7a4 4 = .ok (.ldc_w 265, 3) := by decide +kernel
theorem dJ6_bitCount_0f7a4_7 : decode cJ6_bitCount_0f7a4 7 = .ok (.iand, 1) := by decide +kernel
theorem dJ6_bitCount_0f7a4_8 : decode cJ6_bitCount_0f7a4 8 = .ok (.isub, 1) := by decide +kernel
theorem dJ6_bitCount_0f7a4_9 : decode cJ6_bitCount_0f7a4 9 = .ok (.istore_n 0, 1) := by decide +kernel
theorem dJ6_bitCount_0f7a4_10 : decode cJ6_bitCount_0f7a4 10 = .ok (.iload_n 0, 1) := by decide +kernel
theorem dJ6_bitCount_0f7a4_11 : decode cJ6_bitCount_0f7a4 11 = .ok (.ldc_w 266, 3) := by decide +kernel
theorem dJ6_bitCount_0f7a4_14 : decode cJ6_bitCount_0f7a4 14 = .ok (.iand, 1) := by decide +kernel
theorem dJ6_bitCount_0f7a4_15 : decode cJ6_bitCount_0f7a4 15 = .ok (.iload_n 0, 1) := by decide +kernel
theorem dJ6_bitCount_0f7a4_16 : decode cJ6_bitCount_0f7a4 16 = .ok (.iconst 2, 1) := by decide +kernel
theorem dJ6_bitCount_0f7a4_17 : decode cJ6_bitCount_0f7a4 17 = .ok (.iushr, 1) := by decide +kernel
theorem dJ6_bitCount_0f7a4_18 : decode cJ6_bitCount_0f7a4 18 = .ok (.ldc_w 266, 3) := by decide +kernel
theorem dJ6_bitCount_0f7a4_21 : decode cJ6_bitCount_0f7a4 21 = .ok (.iand, 1) := by decide +kernel
theorem dJ6_bitCount_0f7a4_22 : decode cJ6_bitCount_0f7a4 22 = .ok (.iadd, 1) := by decide +kernel
theorem dJ6_bitCount_0f7a4_23 : decode cJ6_bitCount_0f7a4 23 = .ok (.istore_n 0, 1) := by decide +kernel
theorem dJ6_bitCount_0f7a4_24 : decode cJ6_bitCount_0f7a4 24 = .ok (.iload_n 0, 1) := by decide +kernel
theorem dJ6_bitCount_0f7a4_25 : decode cJ6_bitCount_0f7a4 25 = .ok (.iload_n 0, 1) := by decide +kernel
theorem dJ6_bitCount_0f7a4_26 : decode cJ6_bitCount_0f7a4 26 = .ok (.iconst 4, 1) := by decide +kernel
theorem dJ6_bitCount_0f7a4_27 : decode cJ6_bitCount_0f7a4 27 = .ok (.iushr, 1) := by decide +kernel
theorem dJ6_bitCount_0f7a4_28 : decode cJ6_bitCount_0f7a4 28 = .ok (.iadd, 1) := by decide +kernel
theorem dJ6_bitCount_0f7a4_29 : decode cJ6_bitCount_0f7a4 29 = .ok (.ldc_w 267, 3) := by decide +kernel
theorem dJ6_bitCount_0f7a4_32 : decode cJ6_bitCount_0f7a4 32 = .ok (.iand, 1) := by decide +kernel
theorem dJ6_bitCount_0f7a4_33 : decode cJ6_bitCount_0f7a4 33 = .ok (.istore_n 0, 1) := by decide +kernel
theorem dJ6_bitCount_0f7a4_34 : decode cJ6_bitCount_0f7a4 34 = .ok (.iload_n 0, 1) := by decide +kernel
theorem dJ6_bitCount_0f7a4_35 : decode cJ6_bitCount_0f7a4 35 = .ok (.iload_n 0, 1) := by decide +kernel
theorem dJ6_bitCount_0f7a4_36 : decode cJ6_bitCount_0f7a4 36 = .ok (.bipush 8, 2) := by decide +kernel
theorem dJ6_bitCount_0f7a4_38 : decode cJ6_bitCount_0f7a4 38 = .ok (.iushr, 1) := by decide +kernel
theorem dJ6_bitCount_0f7a4_39 : decode cJ6_bitCount_0f7a4 39 = .ok (.iadd, 1) := by decide +kernel
theorem dJ6_bitCount_0f7a4_40 : decode cJ6_bitCount_0f7a4 40 = .ok (.istore_n 0, 1) := by decide +kernel
theorem dJ6_bitCount_0f7a4_41 : decode cJ6_bitCount_0f7a4 41 = .ok (.iload_n 0, 1) := by decide +kernel
theorem dJ6_bitCount_0f7a4_42 : decode cJ6_bitCount_0f7a4 42 = .ok (.iload_n 0, 1) := by decide +kernel
theorem dJ6_bitCount_0f7a4_43 : decode cJ6_bitCount_0f7a4 43 = .ok (.bipush 16, 2) := by decide +kernel
theorem dJ6_bitCount_0f7a4_45 : decode cJ6_bitCount_0f7a4 45 = .ok (.iushr, 1) := by decide +kernel
theorem dJ6_bitCount_0f7a4_46 : decode cJ6_bitCount_0f7a4 46 = .ok (.iadd, 1) := by decide +kernel
theorem dJ6_bitCount_0f7a4_47 : decode cJ6_bitCount_0f7a4 47 = .ok (.istore_n 0, 1) := by decide +kernel
theorem dJ6_bitCount_0f7a4_48 : decode cJ6_bitCount_0f7a4 48 = .ok (.iload_n 0, 1) := by decide +kernel
theorem dJ6_bitCount_0f7a4_49 : decode cJ6_bitCount_0f7a4 49 = .ok (.bipush 63, 2) := by decide +kernel
theorem dJ6_bitCount_0f7a4_51 : decode cJ6_bitCount_0f7a4 51 = .ok (.iand, 1) := by decide +kernel
theorem dJ6_bitCount_0f7a4_52 : decode cJ6_bitCount_0f7a4 52 = .ok (.ireturn, 1) := by decide +kernel
theorem dJ9_max_7cf53_0 : decode cJ9_max_7cf53 0 = .ok (.iload_n 0, 1) := by decide +kernel
theorem dJ9_max_7cf53_1 : decode cJ9_max_7cf53 1 = .ok (.iload_n 1, 1) := by decide +kernel
theorem dJ9_max_7cf53_2 : decode cJ9_max_7cf53 2 = .ok (.if_icmp .lt 7, 3) := by decide +kernel
theorem dJ9_max_7cf53_5 : decode cJ9_max_7cf53 5 = .ok (.iload_n 0, 1) := by decide +kernel
theorem dJ9_max_7cf53_6 : decode cJ9_max_7cf53 6 = .ok (.goto 4, 3) := by decide +kernel
theorem dJ9_max_7cf53_9 : decode cJ9_max_7cf53 9 = .ok (.iload_n 1, 1) := by decide +kernel
theorem dJ9_max_7cf53_10 : decode cJ9_max_7cf53 10 = .ok (.ireturn, 1) := by decide +kernel
theorem dJ9_min_7cf53_0 : decode cJ9_min_7cf53 0 = .ok (.iload_n 0, 1) := by decide +kernel
theorem dJ9_min_7cf53_1 : decode cJ9_min_7cf53 1 = .ok (.iload_n 1, 1) := by decide +kernel
theorem dJ9_min_7cf53_2 : decode cJ9_min_7cf53 2 = .ok (.if_icmp .gt 7, 3) := by decide +kernel
theorem dJ9_min_7cf53_5 : decode cJ9_min_7cf53 5 = .ok (.iload_n 0, 1) := by decide +kernel
theorem dJ9_min_7cf53_6 : decode cJ9_min_7cf53 6 = .ok (.goto 4, 3) := by decide +kernel
theorem dJ9_min_7cf53_9 : decode cJ9_min_7cf53 9 = .ok (.iload_n 1, 1) := by decide +kernel
theorem dJ9_min_7cf53_10 : decode cJ9_min_7cf53 10 = .ok (.ireturn, 1) := by decide +kernel

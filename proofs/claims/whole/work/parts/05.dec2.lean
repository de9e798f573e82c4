theorem dX6_init_0 : decode cX6_init 0 = .ok (.aload_n 0, 1) := by decide +kernel
theorem dX6_init_1 : decode cX6_init 1 = .ok (.invokespecial 1, 3) := by decide +kernel
theorem dX6_init_4 : decode cX6_init 4 = .ok (.aload_n 0, 1) := by decide +kernel
theorem dX6_init_5 : decode cX6_init 5 = .ok (.new 7, 3) := by decide +kernel
theorem dX6_init_8 : decode cX6_init 8 = .ok (.dup, 1) := by decide +kernel
theorem dX6_init_9 : decode cX6_init 9 = .ok (.invokespecial 9, 3) := by decide +kernel
theorem dX6_init_12 : decode cX6_init 12 = .ok (.putfield 10, 3) := by decide +kernel
theorem dX6_init_15 : decode cX6_init 15 = .ok (.aload_n 0, 1) := by decide +kernel
theorem dX6_init_16 : decode cX6_init 16 = .ok (.new 7, 3) := by decide +kernel
theorem dX6_init_19 : decode cX6_init 19 = .ok (.dup, 1) := by decide +kernel
theorem dX6_init_20 : decode cX6_init 20 = .ok (.invokespecial 9, 3) := by decide +kernel
theorem dX6_init_23 : decode cX6_init 23 = .ok (.putfield 16, 3) := by decide +kernel
theorem dX6_init_26 : decode cX6_init 26 = .ok (.aload_n 0, 1) := by decide +kernel
theorem dX6_init_27 : decode cX6_init 27 = .ok (.new 19, 3) := by decide +kernel
theorem dX6_init_30 : decode cX6_init 30 = .ok (.dup, 1) := by decide +kernel
theorem dX6_init_31 : decode cX6_init 31 = .ok (.invokespecial 21, 3) := by decide +kernel
theorem dX6_init_34 : decode cX6_init 34 = .ok (.putfield 22, 3) := by decide +kernel
theorem dX6_init_37 : decode cX6_init 37 = .ok (.aload_n 0, 1) := by decide +kernel
theorem dX6_init_38 : decode cX6_init 38 = .ok (.new 26, 3) := by decide +kernel
theorem dX6_init_41 : decode cX6_init 41 = .ok (.dup, 1) := by decide +kernel
theorem dX6_init_42 : decode cX6_init 42 = .ok (.invokespecial 28, 3) := by decide +kernel
theorem dX6_init_45 : decode cX6_init 45 = .ok (.putfield 29, 3) := by decide +kernel
theorem dX6_init_48 : decode cX6_init 48 = .ok (.aload_n 0, 1) := by decide +kernel
theorem dX6_init_49 : decode cX6_init 49 = .ok (.new 33, 3) := by decide +kernel
theorem dX6_init_52 : decode cX6_init 52 = .ok (.dup, 1) := by decide +kernel
theorem dX6_init_53 : decode cX6_init 53 = .ok (.invokespecial 35, 3) := by decide +kernel
theorem dX6_init_56 : decode cX6_init 56 = .ok (.putfield 36, 3) := by decide +kernel
theorem dX6_init_59 : decode cX6_init 59 = .ok (.aload_n 0, 1) := by decide +kernel
theorem dX6_init_60 : decode cX6_init 60 = .ok (.new 40, 3) := by decide +kernel
theorem dX6_init_63 : decode cX6_init 63 = .ok (.dup, 1) := by decide +kernel
theorem dX6_init_64 : decode cX6_init 64 = .ok (.invokespecial 42, 3) := by decide +kernel
theorem dX6_init_67 : decode cX6_init 67 = .ok (.putfield 43, 3) := by decide +kernel
theorem dX6_init_70 : decode cX6_init 70 = .ok (.aload_n 0, 1) := by decide +kernel
theorem dX6_init_71 : decode cX6_init 71 = .ok (.sipush 1000, 3) := by decide +kernel
theorem dX6_init_74 : decode cX6_init 74 = .ok (.newarray .int, 2) := by decide +kernel
theorem dX6_init_76 : decode cX6_init 76 = .ok (.putfield 47, 3) := by decide +kernel
theorem dX6_init_79 : decode cX6_init 79 = .ok (.aload_n 0, 1) := by decide +kernel
theorem dX6_init_80 : decode cX6_init 80 = .ok (.iconst 0, 1) := by decide +kernel
theorem dX6_init_81 : decode cX6_init 81 = .ok (.putfield 51, 3) := by decide +kernel
theorem dX6_init_84 : decode cX6_init 84 = .ok (.aload_n 0, 1) := by decide +kernel
theorem dX6_init_85 : decode cX6_init 85 = .ok (.sipush 2000, 3) := by decide +kernel
theorem dX6_init_88 : decode cX6_init 88 = .ok (.newarray .int, 2) := by decide +kernel
theorem dX6_init_90 : decode cX6_init 90 = .ok (.putfield 55, 3) := by decide +kernel
theorem dX6_init_93 : decode cX6_init 93 = .ok (.aload_n 0, 1) := by decide +kernel
theorem dX6_init_94 : decode cX6_init 94 = .ok (.iconst 0, 1) := by decide +kernel
theorem dX6_init_95 : decode cX6_init 95 = .ok (.putfield 58, 3) := by decide +kernel
theorem dX6_init_98 : decode cX6_init 98 = .ok (.aload_n 0, 1) := by decide +kernel
theorem dX6_init_99 : decode cX6_init 99 = .ok (.iconst 0, 1) := by decide +kernel
theorem dX6_init_100 : decode cX6_init 100 = .ok (.putfield 61, 3) := by decide +kernel
theorem dX6_init_103 : decode cX6_init 103 = .ok (.return_, 1) := by decide +kernel
theorem dX6_mark_0 : decode cX6_mark 0 = .ok (.iload_n 1, 1) := by decide +kernel
theorem dX6_mark_1 : decode cX6_mark 1 = .ok (.iload_n 2, 1) := by decide +kernel
theorem dX6_mark_2 : decode cX6_mark 2 = .ok (.invokestatic 65, 3) := by decide +kernel
theorem dX6_mark_5 : decode cX6_mark 5 = .ok (.ifCond .eq 14, 3) := by decide +kernel
theorem dX6_mark_8 : decode cX6_mark 8 = .ok (.iload_n 3, 1) := by decide +kernel
theorem dX6_mark_9 : decode cX6_mark 9 = .ok (.ifCond .lt 10, 3) := by decide +kernel
theorem dX6_mark_12 : decode cX6_mark 12 = .ok (.iload_n 3, 1) := by decide +kernel
theorem dX6_mark_13 : decode cX6_mark 13 = .ok (.sipush 254, 3) := by decide +kernel
theorem dX6_mark_16 : decode cX6_mark 16 = .ok (.if_icmp .le 13, 3) := by decide +kernel
theorem dX6_mark_19 : decode cX6_mark 19 = .ok (.new 69, 3) := by decide +kernel
theorem dX6_mark_22 : decode cX6_mark 22 = .ok (.dup, 1) := by decide +kernel
theorem dX6_mark_23 : decode cX6_mark 23 = .ok (.ldc 71, 2) := by decide +kernel
theorem dX6_mark_25 : decode cX6_mark 25 = .ok (.invokespecial 73, 3) := by decide +kernel
theorem dX6_mark_28 : decode cX6_mark 28 = .ok (.athrow, 1) := by decide +kernel
theorem dX6_mark_29 : decode cX6_mark 29 = .ok (.aload_n 0, 1) := by decide +kernel
theorem dX6_mark_30 : decode cX6_mark 30 = .ok (.getfield 10, 3) := by decide +kernel
theorem dX6_mark_33 : decode cX6_mark 33 = .ok (.invokevirtual 76, 3) := by decide +kernel
theorem dX6_mark_36 : decode cX6_mark 36 = .ok (.ifCond .eq 13, 3) := by decide +kernel
theorem dX6_mark_39 : decode cX6_mark 39 = .ok (.new 80, 3) := by decide +kernel
theorem dX6_mark_42 : decode cX6_mark 42 = .ok (.dup, 1) := by decide +kernel
theorem dX6_mark_43 : decode cX6_mark 43 = .ok (.ldc 82, 2) := by decide +kernel
theorem dX6_mark_45 : decode cX6_mark 45 = .ok (.invokespecial 84, 3) := by decide +kernel
theorem dX6_mark_48 : decode cX6_mark 48 = .ok (.athrow, 1) := by decide +kernel
theorem dX6_mark_49 : decode cX6_mark 49 = .ok (.aload_n 0, 1) := by decide +kernel
theorem dX6_mark_50 : decode cX6_mark 50 = .ok (.getfield 10, 3) := by decide +kernel
theorem dX6_mark_53 : decode cX6_mark 53 = .ok (.iload_n 1, 1) := by decide +kernel
theorem dX6_mark_54 : decode cX6_mark 54 = .ok (.iload_n 2, 1) := by decide +kernel
theorem dX6_mark_55 : decode cX6_mark 55 = .ok (.iload_n 3, 1) := by decide +kernel
theorem dX6_mark_56 : decode cX6_mark 56 = .ok (.invokevirtual 85, 3) := by decide +kernel
theorem dX6_mark_59 : decode cX6_mark 59 = .ok (.return_, 1) := by decide +kernel
theorem dX6_property_0 : decode cX6_property 0 = .ok (.iload_n 1, 1) := by decide +kernel
theorem dX6_property_1 : decode cX6_property 1 = .ok (.iload_n 2, 1) := by decide +kernel
theorem dX6_property_2 : decode cX6_property 2 = .ok (.invokestatic 65, 3) := by decide +kernel
theorem dX6_property_5 : decode cX6_property 5 = .ok (.ifCond .eq 13, 3) := by decide +kernel
theorem dX6_property_8 : decode cX6_property 8 = .ok (.iload_n 3, 1) := by decide +kernel
theorem dX6_property_9 : decode cX6_property 9 = .ok (.ifCond .lt 9, 3) := by decide +kernel
theorem dX6_property_12 : decode cX6_property 12 = .ok (.iload_n 3, 1) := by decide +kernel
theorem dX6_property_13 : decode cX6_property 13 = .ok (.bipush 14, 2) := by decide +kernel
theorem dX6_property_15 : decode cX6_property 15 = .ok (.if_icmp .le 13, 3) := by decide +kernel
theorem dX6_property_18 : decode cX6_property 18 = .ok (.new 69, 3) := by decide +kernel
theorem dX6_property_21 : decode cX6_property 21 = .ok (.dup, 1) := by decide +kernel
theorem dX6_property_22 : decode cX6_property 22 = .ok (.ldc 89, 2) := by decide +kernel
theorem dX6_property_24 : decode cX6_property 24 = .ok (.invokespecial 73, 3) := by decide +kernel
theorem dX6_property_27 : decode cX6_property 27 = .ok (.athrow, 1) := by decide +kernel
theorem dX6_property_28 : decode cX6_property 28 = .ok (.aload_n 0, 1) := by decide +kernel
theorem dX6_property_29 : decode cX6_property 29 = .ok (.getfield 16, 3) := by decide +kernel
theorem dX6_property_32 : decode cX6_property 32 = .ok (.invokevirtual 76, 3) := by decide +kernel
theorem dX6_property_35 : decode cX6_property 35 = .ok (.ifCond .eq 13, 3) := by decide +kernel
theorem dX6_property_38 : decode cX6_property 38 = .ok (.new 80, 3) := by decide +kernel
theorem dX6_property_41 : decode cX6_property 41 = .ok (.dup, 1) := by decide +kernel
theorem dX6_property_42 : decode cX6_property 42 = .ok (.ldc 91, 2) := by decide +kernel
theorem dX6_property_44 : decode cX6_property 44 = .ok (.invokespecial 84, 3) := by decide +kernel
theorem dX6_property_47 : decode cX6_property 47 = .ok (.athrow, 1) := by decide +kernel
theorem dX6_property_48 : decode cX6_property 48 = .ok (.aload_n 0, 1) := by decide +kernel
theorem dX6_property_49 : decode cX6_property 49 = .ok (.getfield 16, 3) := by decide +kernel
theorem dX6_property_52 : decode cX6_property 52 = .ok (.iload_n 1, 1) := by decide +kernel
theorem dX6_property_53 : decode cX6_property 53 = .ok (.iload_n 2, 1) := by decide +kernel
theorem dX6_property_54 : decode cX6_property 54 = .ok (.iload_n 3, 1) := by decide +kernel
theorem dX6_property_55 : decode cX6_property 55 = .ok (.invokevirtual 85, 3) := by decide +kernel
theorem dX6_property_58 : decode cX6_property 58 = .ok (.return_, 1) := by decide +kernel
theorem dX6_part_0 : decode cX6_part 0 = .ok (.aload_n 0, 1) := by decide +kernel
theorem dX6_part_1 : decode cX6_part 1 = .ok (.iload_n 1, 1) := by decide +kernel
theorem dX6_part_2 : decode cX6_part 2 = .ok (.invokevirtual 93, 3) := by decide +kernel
theorem dX6_part_5 : decode cX6_part 5 = .ok (.ifCond .eq 17, 3) := by decide +kernel
theorem dX6_part_8 : decode cX6_part 8 = .ok (.iload_n 2, 1) := by decide +kernel
theorem dX6_part_9 : decode cX6_part 9 = .ok (.invokestatic 97, 3) := by decide +kernel
theorem dX6_part_12 : decode cX6_part 12 = .ok (.ifCond .eq 10, 3) := by decide +kernel
theorem dX6_part_15 : decode cX6_part 15 = .ok (.iload_n 3, 1) := by decide +kernel
theorem dX6_part_16 : decode cX6_part 16 = .ok (.invokestatic 100, 3) := by decide +kernel
theorem dX6_part_19 : decode cX6_part 19 = .ok (.ifCond .ne 13, 3) := by decide +kernel
theorem dX6_part_22 : decode cX6_part 22 = .ok (.new 69, 3) := by decide +kernel
theorem dX6_part_25 : decode cX6_part 25 = .ok (.dup, 1) := by decide +kernel
theorem dX6_part_26 : decode cX6_part 26 = .ok (.ldc 103, 2) := by decide +kernel
theorem dX6_part_28 : decode cX6_part 28 = .ok (.invokespecial 73, 3) := by decide +kernel
theorem dX6_part_31 : decode cX6_part 31 = .ok (.athrow, 1) := by decide +kernel
theorem dX6_part_32 : decode cX6_part 32 = .ok (.iload_n 3, 1) := by decide +kernel
theorem dX6_part_33 : decode cX6_part 33 = .ok (.iconst (-1), 1) := by decide +kernel
theorem dX6_part_34 : decode cX6_part 34 = .ok (.if_icmp .eq 26, 3) := by decide +kernel
theorem dX6_part_37 : decode cX6_part 37 = .ok (.aload_n 0, 1) := by decide +kernel
theorem dX6_part_38 : decode cX6_part 38 = .ok (.getfield 22, 3) := by decide +kernel
theorem dX6_part_41 : decode cX6_part 41 = .ok (.iload_n 2, 1) := by decide +kernel
theorem dX6_part_42 : decode cX6_part 42 = .ok (.iload_n 3, 1) := by decide +kernel
theorem dX6_part_43 : decode cX6_part 43 = .ok (.invokevirtual 105, 3) := by decide +kernel
theorem dX6_part_46 : decode cX6_part 46 = .ok (.iconst (-1), 1) := by decide +kernel
theorem dX6_part_47 : decode cX6_part 47 = .ok (.if_icmp .eq 13, 3) := by decide +kernel
theorem dX6_part_50 : decode cX6_part 50 = .ok (.new 69, 3) := by decide +kernel
theorem dX6_part_53 : decode cX6_part 53 = .ok (.dup, 1) := by decide +kernel
theorem dX6_part_54 : decode cX6_part 54 = .ok (.ldc 109, 2) := by decide +kernel
theorem dX6_part_56 : decode cX6_part 56 = .ok (.invokespecial 73, 3) := by decide +kernel
theorem dX6_part_59 : decode cX6_part 59 = .ok (.athrow, 1) := by decide +kernel
theorem dX6_part_60 : decode cX6_part 60 = .ok (.aload_n 0, 1) := by decide +kernel
theorem dX6_part_61 : decode cX6_part 61 = .ok (.getfield 22, 3) := by decide +kernel
theorem dX6_part_64 : decode cX6_part 64 = .ok (.iload_n 1, 1) := by decide +kernel
theorem dX6_part_65 : decode cX6_part 65 = .ok (.iload_n 2, 1) := by decide +kernel
theorem dX6_part_66 : decode cX6_part 66 = .ok (.iload_n 3, 1) := by decide +kernel
theorem dX6_part_67 : decode cX6_part 67 = .ok (.iconst (-1), 1) := by decide +kernel
theorem dX6_part_68 : decode cX6_part 68 = .ok (.invokevirtual 111, 3) := by decide +kernel
theorem dX6_part_71 : decode cX6_part 71 = .ok (.ifCond .eq 13, 3) := by decide +kernel
theorem dX6_part_74 : decode cX6_part 74 = .ok (.new 69, 3) := by decide +kernel
theorem dX6_part_77 : decode cX6_part 77 = .ok (.dup, 1) := by decide +kernel
theorem dX6_part_78 : decode cX6_part 78 = .ok (.ldc 115, 2) := by decide +kernel
theorem dX6_part_80 : decode cX6_part 80 = .ok (.invokespecial 73, 3) := by decide +kernel
theorem dX6_part_83 : decode cX6_part 83 = .ok (.athrow, 1) := by decide +kernel
theorem dX6_part_84 : decode cX6_part 84 = .ok (.aload_n 0, 1) := by decide +kernel
theorem dX6_part_85 : decode cX6_part 85 = .ok (.getfield 22, 3) := by decide +kernel
theorem dX6_part_88 : decode cX6_part 88 = .ok (.invokevirtual 117, 3) := by decide +kernel
theorem dX6_part_91 : decode cX6_part 91 = .ok (.ifCond .eq 13, 3) := by decide +kernel
theorem dX6_part_94 : decode cX6_part 94 = .ok (.new 80, 3) := by decide +kernel
theorem dX6_part_97 : decode cX6_part 97 = .ok (.dup, 1) := by decide +kernel
theorem dX6_part_98 : decode cX6_part 98 = .ok (.ldc 118, 2) := by decide +kernel
theorem dX6_part_100 : decode cX6_part 100 = .ok (.invokespecial 84, 3) := by decide +kernel
theorem dX6_part_103 : decode cX6_part 103 = .ok (.athrow, 1) := by decide +kernel
theorem dX6_part_104 : decode cX6_part 104 = .ok (.aload_n 0, 1) := by decide +kernel
theorem dX6_part_105 : decode cX6_part 105 = .ok (.getfield 22, 3) := by decide +kernel
theorem dX6_part_108 : decode cX6_part 108 = .ok (.iload_n 1, 1) := by decide +kernel
theorem dX6_part_109 : decode cX6_part 109 = .ok (.iload_n 2, 1) := by decide +kernel
theorem dX6_part_110 : decode cX6_part 110 = .ok (.iload_n 3, 1) := by decide +kernel
theorem dX6_part_111 : decode cX6_part 111 = .ok (.iconst (-1), 1) := by decide +kernel
theorem dX6_part_112 : decode cX6_part 112 = .ok (.iconst 0, 1) := by decide +kernel
theorem dX6_part_113 : decode cX6_part 113 = .ok (.invokevirtual 120, 3) := by decide +kernel
theorem dX6_part_116 : decode cX6_part 116 = .ok (.return_, 1) := by decide +kernel
theorem dX6_loose_0 : decode cX6_loose 0 = .ok (.aload_n 0, 1) := by decide +kernel
theorem dX6_loose_1 : decode cX6_loose 1 = .ok (.iload_n 1, 1) := by decide +kernel
theorem dX6_loose_2 : decode cX6_loose 2 = .ok (.invokevirtual 93, 3) := by decide +kernel
theorem dX6_loose_5 : decode cX6_loose 5 = .ok (.ifCond .eq 25, 3) := by decide +kernel
theorem dX6_loose_8 : decode cX6_loose 8 = .ok (.iload_n 2, 1) := by decide +kernel
theorem dX6_loose_9 : decode cX6_loose 9 = .ok (.invokestatic 97, 3) := by decide +kernel
theorem dX6_loose_12 : decode cX6_loose 12 = .ok (.ifCond .eq 18, 3) := by decide +kernel
theorem dX6_loose_15 : decode cX6_loose 15 = .ok (.iload_n 3, 1) := by decide +kernel
theorem dX6_loose_16 : decode cX6_loose 16 = .ok (.invokestatic 100, 3) := by decide +kernel
theorem dX6_loose_19 : decode cX6_loose 19 = .ok (.ifCond .eq 11, 3) := by decide +kernel
theorem dX6_loose_22 : decode cX6_loose 22 = .ok (.iload 4, 2) := by decide +kernel
theorem dX6_loose_24 : decode cX6_loose 24 = .ok (.invokestatic 100, 3) := by decide +kernel
theorem dX6_loose_27 : decode cX6_loose 27 = .ok (.ifCond .ne 13, 3) := by decide +kernel
theorem dX6_loose_30 : decode cX6_loose 30 = .ok (.new 69, 3) := by decide +kernel
theorem dX6_loose_33 : decode cX6_loose 33 = .ok (.dup, 1) := by decide +kernel
theorem dX6_loose_34 : decode cX6_loose 34 = .ok (.ldc 103, 2) := by decide +kernel
theorem dX6_loose_36 : decode cX6_loose 36 = .ok (.invokespecial 73, 3) := by decide +kernel
theorem dX6_loose_39 : decode cX6_loose 39 = .ok (.athrow, 1) := by decide +kernel
theorem dX6_loose_40 : decode cX6_loose 40 = .ok (.iload_n 3, 1) := by decide +kernel
theorem dX6_loose_41 : decode cX6_loose 41 = .ok (.iconst (-1), 1) := by decide +kernel
theorem dX6_loose_42 : decode cX6_loose 42 = .ok (.if_icmp .ne 19, 3) := by decide +kernel
theorem dX6_loose_45 : decode cX6_loose 45 = .ok (.iload 4, 2) := by decide +kernel
theorem dX6_loose_47 : decode cX6_loose 47 = .ok (.iconst (-1), 1) := by decide +kernel
theorem dX6_loose_48 : decode cX6_loose 48 = .ok (.if_icmp .eq 13, 3) := by decide +kernel
theorem dX6_loose_51 : decode cX6_loose 51 = .ok (.new 69, 3) := by decide +kernel
theorem dX6_loose_54 : decode cX6_loose 54 = .ok (.dup, 1) := by decide +kernel
theorem dX6_loose_55 : decode cX6_loose 55 = .ok (.ldc 123, 2) := by decide +kernel
theorem dX6_loose_57 : decode cX6_loose 57 = .ok (.invokespecial 73, 3) := by decide +kernel
theorem dX6_loose_60 : decode cX6_loose 60 = .ok (.athrow, 1) := by decide +kernel
theorem dX6_loose_61 : decode cX6_loose 61 = .ok (.aload_n 0, 1) := by decide +kernel
theorem dX6_loose_62 : decode cX6_loose 62 = .ok (.getfield 22, 3) := by decide +kernel
theorem dX6_loose_65 : decode cX6_loose 65 = .ok (.iload_n 1, 1) := by decide +kernel
theorem dX6_loose_66 : decode cX6_loose 66 = .ok (.iload_n 2, 1) := by decide +kernel
theorem dX6_loose_67 : decode cX6_loose 67 = .ok (.iload_n 3, 1) := by decide +kernel
theorem dX6_loose_68 : decode cX6_loose 68 = .ok (.iload 4, 2) := by decide +kernel
theorem dX6_loose_70 : decode cX6_loose 70 = .ok (.invokevirtual 111, 3) := by decide +kernel
theorem dX6_loose_73 : decode cX6_loose 73 = .ok (.ifCond .eq 13, 3) := by decide +kernel
theorem dX6_loose_76 : decode cX6_loose 76 = .ok (.new 69, 3) := by decide +kernel
theorem dX6_loose_79 : decode cX6_loose 79 = .ok (.dup, 1) := by decide +kernel
theorem dX6_loose_80 : decode cX6_loose 80 = .ok (.ldc 115, 2) := by decide +kernel
theorem dX6_loose_82 : decode cX6_loose 82 = .ok (.invokespecial 73, 3) := by decide +kernel
theorem dX6_loose_85 : decode cX6_loose 85 = .ok (.athrow, 1) := by decide +kernel
theorem dX6_loose_86 : decode cX6_loose 86 = .ok (.aload_n 0, 1) := by decide +kernel
theorem dX6_loose_87 : decode cX6_loose 87 = .ok (.getfield 22, 3) := by decide +kernel
theorem dX6_loose_90 : decode cX6_loose 90 = .ok (.invokevirtual 117, 3) := by decide +kernel
theorem dX6_loose_93 : decode cX6_loose 93 = .ok (.ifCond .eq 13, 3) := by decide +kernel
theorem dX6_loose_96 : decode cX6_loose 96 = .ok (.new 80, 3) := by decide +kernel
theorem dX6_loose_99 : decode cX6_loose 99 = .ok (.dup, 1) := by decide +kernel
theorem dX6_loose_100 : decode cX6_loose 100 = .ok (.ldc 118, 2) := by decide +kernel
theorem dX6_loose_102 : decode cX6_loose 102 = .ok (.invokespecial 84, 3) := by decide +kernel
theorem dX6_loose_105 : decode cX6_loose 105 = .ok (.athrow, 1) := by decide +kernel
theorem dX6_loose_106 : decode cX6_loose 106 = .ok (.aload_n 0, 1) := by decide +kernel
theorem dX6_loose_107 : decode cX6_loose 107 = .ok (.getfield 22, 3) := by decide +kernel
theorem dX6_loose_110 : decode cX6_loose 110 = .ok (.iload_n 1, 1) := by decide +kernel
theorem dX6_loose_111 : decode cX6_loose 111 = .ok (.iload_n 2, 1) := by decide +kernel
theorem dX6_loose_112 : decode cX6_loose 112 = .ok (.iload_n 3, 1) := by decide +kernel
theorem dX6_loose_113 : decode cX6_loose 113 = .ok (.iload 4, 2) := by decide +kernel
theorem dX6_loose_115 : decode cX6_loose 115 = .ok (.iconst 1, 1) := by decide +kernel
theorem dX6_loose_116 : decode cX6_loose 116 = .ok (.invokevirtual 120, 3) := by decide +kernel
theorem dX6_loose_119 : decode cX6_loose 119 = .ok (.return_, 1) := by decide +kernel
theorem dX6_exclude_0 : decode cX6_exclude 0 = .ok (.iload_n 1, 1) := by decide +kernel
theorem dX6_exclude_1 : decode cX6_exclude 1 = .ok (.invokestatic 97, 3) := by decide +kernel
theorem dX6_exclude_4 : decode cX6_exclude 4 = .ok (.ifCond .ne 13, 3) := by decide +kernel
theorem dX6_exclude_7 : decode cX6_exclude 7 = .ok (.new 69, 3) := by decide +kernel
theorem dX6_exclude_10 : decode cX6_exclude 10 = .ok (.dup, 1) := by decide +kernel
theorem dX6_exclude_11 : decode cX6_exclude 11 = .ok (.ldc 125, 2) := by decide +kernel
theorem dX6_exclude_13 : decode cX6_exclude 13 = .ok (.invokespecial 73, 3) := by decide +kernel
theorem dX6_exclude_16 : decode cX6_exclude 16 = .ok (.athrow, 1) := by decide +kernel
theorem dX6_exclude_17 : decode cX6_exclude 17 = .ok (.iload_n 2, 1) := by decide +kernel
theorem dX6_exclude_18 : decode cX6_exclude 18 = .ok (.ifCond .ne 12, 3) := by decide +kernel
theorem dX6_exclude_21 : decode cX6_exclude 21 = .ok (.aload_n 0, 1) := by decide +kernel
theorem dX6_exclude_22 : decode cX6_exclude 22 = .ok (.getfield 29, 3) := by decide +kernel
theorem dX6_exclude_25 : decode cX6_exclude 25 = .ok (.iload_n 1, 1) := by decide +kernel
theorem dX6_exclude_26 : decode cX6_exclude 26 = .ok (.invokevirtual 127, 3) := by decide +kernel
theorem dX6_exclude_29 : decode cX6_exclude 29 = .ok (.return_, 1) := by decide +kernel
theorem dX6_exclude_30 : decode cX6_exclude 30 = .ok (.aload_n 0, 1) := by decide +kernel
theorem dX6_exclude_31 : decode cX6_exclude 31 = .ok (.getfield 29, 3) := by decide +kernel
theorem dX6_exclude_34 : decode cX6_exclude 34 = .ok (.iload_n 1, 1) := by decide +kernel
theorem dX6_exclude_35 : decode cX6_exclude 35 = .ok (.invokevirtual 131, 3) := by decide +kernel
theorem dX6_exclude_38 : decode cX6_exclude 38 = .ok (.ifCond .eq 4, 3) := by decide +kernel
theorem dX6_exclude_41 : decode cX6_exclude 41 = .ok (.return_, 1) := by decide +kernel
theorem dX6_exclude_42 : decode cX6_exclude 42 = .ok (.aload_n 0, 1) := by decide +kernel
theorem dX6_exclude_43 : decode cX6_exclude 43 = .ok (.getfield 29, 3) := by decide +kernel
theorem dX6_exclude_46 : decode cX6_exclude 46 = .ok (.invokevirtual 134, 3) := by decide +kernel
theorem dX6_exclude_49 : decode cX6_exclude 49 = .ok (.ifCond .eq 13, 3) := by decide +kernel
theorem dX6_exclude_52 : decode cX6_exclude 52 = .ok (.new 80, 3) := by decide +kernel
theorem dX6_exclude_55 : decode cX6_exclude 55 = .ok (.dup, 1) := by decide +kernel
theorem dX6_exclude_56 : decode cX6_exclude 56 = .ok (.ldc 135, 2) := by decide +kernel
theorem dX6_exclude_58 : decode cX6_exclude 58 = .ok (.invokespecial 84, 3) := by decide +kernel
theorem dX6_exclude_61 : decode cX6_exclude 61 = .ok (.athrow, 1) := by decide +kernel
theorem dX6_exclude_62 : decode cX6_exclude 62 = .ok (.aload_n 0, 1) := by decide +kernel
theorem dX6_exclude_63 : decode cX6_exclude 63 = .ok (.getfield 29, 3) := by decide +kernel
theorem dX6_exclude_66 : decode cX6_exclude 66 = .ok (.iload_n 1, 1) := by decide +kernel
theorem dX6_exclude_67 : decode cX6_exclude 67 = .ok (.invokevirtual 137, 3) := by decide +kernel
theorem dX6_exclude_70 : decode cX6_exclude 70 = .ok (.return_, 1) := by decide +kernel
theorem dX6_add_0 : decode cX6_add 0 = .ok (.iload_n 1, 1) := by decide +kernel
theorem dX6_add_1 : decode cX6_add 1 = .ok (.iload_n 2, 1) := by decide +kernel
theorem dX6_add_2 : decode cX6_add 2 = .ok (.iload_n 3, 1) := by decide +kernel
theorem dX6_add_3 : decode cX6_add 3 = .ok (.iload 4, 2) := by decide +kernel
theorem dX6_add_5 : decode cX6_add 5 = .ok (.iload 5, 2) := by decide +kernel
theorem dX6_add_7 : decode cX6_add 7 = .ok (.invokestatic 140, 3) := by decide +kernel
theorem dX6_add_10 : decode cX6_add 10 = .ok (.istore 6, 2) := by decide +kernel
theorem dX6_add_12 : decode cX6_add 12 = .ok (.iload 6, 2) := by decide +kernel
theorem dX6_add_14 : decode cX6_add 14 = .ok (.iload_n 1, 1) := by decide +kernel
theorem dX6_add_15 : decode cX6_add 15 = .ok (.iload_n 2, 1) := by decide +kernel
theorem dX6_add_16 : decode cX6_add 16 = .ok (.iload_n 3, 1) := by decide +kernel
theorem dX6_add_17 : decode cX6_add 17 = .ok (.iload 4, 2) := by decide +kernel
theorem dX6_add_19 : decode cX6_add 19 = .ok (.iload 5, 2) := by decide +kernel
theorem dX6_add_21 : decode cX6_add 21 = .ok (.invokestatic 144, 3) := by decide +kernel
theorem dX6_add_24 : decode cX6_add 24 = .ok (.ifCond .ne 13, 3) := by decide +kernel
theorem dX6_add_27 : decode cX6_add 27 = .ok (.new 69, 3) := by decide +kernel
theorem dX6_add_30 : decode cX6_add 30 = .ok (.dup, 1) := by decide +kernel
theorem dX6_add_31 : decode cX6_add 31 = .ok (.ldc 125, 2) := by decide +kernel
theorem dX6_add_33 : decode cX6_add 33 = .ok (.invokespecial 73, 3) := by decide +kernel
theorem dX6_add_36 : decode cX6_add 36 = .ok (.athrow, 1) := by decide +kernel
theorem dX6_add_37 : decode cX6_add 37 = .ok (.iload 6, 2) := by decide +kernel
theorem dX6_add_39 : decode cX6_add 39 = .ok (.sipush 1000, 3) := by decide +kernel
theorem dX6_add_42 : decode cX6_add 42 = .ok (.aload_n 0, 1) := by decide +kernel
theorem dX6_add_43 : decode cX6_add 43 = .ok (.getfield 51, 3) := by decide +kernel
theorem dX6_add_46 : decode cX6_add 46 = .ok (.isub, 1) := by decide +kernel
theorem dX6_add_47 : decode cX6_add 47 = .ok (.if_icmp .le 13, 3) := by decide +kernel
theorem dX6_add_50 : decode cX6_add 50 = .ok (.new 80, 3) := by decide +kernel
theorem dX6_add_53 : decode cX6_add 53 = .ok (.dup, 1) := by decide +kernel
theorem dX6_add_54 : decode cX6_add 54 = .ok (.ldc 148, 2) := by decide +kernel
theorem dX6_add_56 : decode cX6_add 56 = .ok (.invokespecial 84, 3) := by decide +kernel
theorem dX6_add_59 : decode cX6_add 59 = .ok (.athrow, 1) := by decide +kernel
theorem dX6_add_60 : decode cX6_add 60 = .ok (.iconst 0, 1) := by decide +kernel
theorem dX6_add_61 : decode cX6_add 61 = .ok (.istore 7, 2) := by decide +kernel
theorem dX6_add_63 : decode cX6_add 63 = .ok (.iload 7, 2) := by decide +kernel
theorem dX6_add_65 : decode cX6_add 65 = .ok (.iload 6, 2) := by decide +kernel
theorem dX6_add_67 : decode cX6_add 67 = .ok (.if_icmp .ge 40, 3) := by decide +kernel
theorem dX6_add_70 : decode cX6_add 70 = .ok (.aload_n 0, 1) := by decide +kernel
theorem dX6_add_71 : decode cX6_add 71 = .ok (.getfield 47, 3) := by decide +kernel
theorem dX6_add_74 : decode cX6_add 74 = .ok (.aload_n 0, 1) := by decide +kernel
theorem dX6_add_75 : decode cX6_add 75 = .ok (.getfield 51, 3) := by decide +kernel
theorem dX6_add_78 : decode cX6_add 78 = .ok (.iload 7, 2) := by decide +kernel
theorem dX6_add_80 : decode cX6_add 80 = .ok (.iload_n 1, 1) := by decide +kernel
theorem dX6_add_81 : decode cX6_add 81 = .ok (.iload_n 2, 1) := by decide +kernel
theorem dX6_add_82 : decode cX6_add 82 = .ok (.iload_n 3, 1) := by decide +kernel
theorem dX6_add_83 : decode cX6_add 83 = .ok (.iload 4, 2) := by decide +kernel
theorem dX6_add_85 : decode cX6_add 85 = .ok (.iload 5, 2) := by decide +kernel
theorem dX6_add_87 : decode cX6_add 87 = .ok (.invokestatic 150, 3) := by decide +kernel
theorem dX6_add_90 : decode cX6_add 90 = .ok (.iastore, 1) := by decide +kernel
theorem dX6_add_91 : decode cX6_add 91 = .ok (.aload_n 0, 1) := by decide +kernel
theorem dX6_add_92 : decode cX6_add 92 = .ok (.dup, 1) := by decide +kernel
theorem dX6_add_93 : decode cX6_add 93 = .ok (.getfield 51, 3) := by decide +kernel
theorem dX6_add_96 : decode cX6_add 96 = .ok (.iconst 1, 1) := by decide +kernel
theorem dX6_add_97 : decode cX6_add 97 = .ok (.iadd, 1) := by decide +kernel
theorem dX6_add_98 : decode cX6_add 98 = .ok (.putfield 51, 3) := by decide +kernel
theorem dX6_add_101 : decode cX6_add 101 = .ok (.iinc 7 1, 3) := by decide +kernel
theorem dX6_add_104 : decode cX6_add 104 = .ok (.goto (-41), 3) := by decide +kernel
theorem dX6_add_107 : decode cX6_add 107 = .ok (.aload_n 0, 1) := by decide +kernel
theorem dX6_add_108 : decode cX6_add 108 = .ok (.getfield 51, 3) := by decide +kernel
theorem dX6_add_111 : decode cX6_add 111 = .ok (.ireturn, 1) := by decide +kernel
theorem dX6_clear_0 : decode cX6_clear 0 = .ok (.aload_n 0, 1) := by decide +kernel
theorem dX6_clear_1 : decode cX6_clear 1 = .ok (.getfield 51, 3) := by decide +kernel
theorem dX6_clear_4 : decode cX6_clear 4 = .ok (.istore_n 1, 1) := by decide +kernel
theorem dX6_clear_5 : decode cX6_clear 5 = .ok (.aload_n 0, 1) := by decide +kernel
theorem dX6_clear_6 : decode cX6_clear 6 = .ok (.iconst 0, 1) := by decide +kernel
theorem dX6_clear_7 : decode cX6_clear 7 = .ok (.putfield 51, 3) := by decide +kernel
theorem dX6_clear_10 : decode cX6_clear 10 = .ok (.iload_n 1, 1) := by decide +kernel
theorem dX6_clear_11 : decode cX6_clear 11 = .ok (.ireturn, 1) := by decide +kernel
theorem dX6_form_0 : decode cX6_form 0 = .ok (.iload_n 1, 1) := by decide +kernel
theorem dX6_form_1 : decode cX6_form 1 = .ok (.invokestatic 154, 3) := by decide +kernel
theorem dX6_form_4 : decode cX6_form 4 = .ok (.ifCond .ne 13, 3) := by decide +kernel
theorem dX6_form_7 : decode cX6_form 7 = .ok (.new 69, 3) := by decide +kernel
theorem dX6_form_10 : decode cX6_form 10 = .ok (.dup, 1) := by decide +kernel
theorem dX6_form_11 : decode cX6_form 11 = .ok (.ldc 157, 2) := by decide +kernel
theorem dX6_form_13 : decode cX6_form 13 = .ok (.invokespecial 73, 3) := by decide +kernel
theorem dX6_form_16 : decode cX6_form 16 = .ok (.athrow, 1) := by decide +kernel
theorem dX6_form_17 : decode cX6_form 17 = .ok (.aload_n 0, 1) := by decide +kernel
theorem dX6_form_18 : decode cX6_form 18 = .ok (.iload_n 1, 1) := by decide +kernel
theorem dX6_form_19 : decode cX6_form 19 = .ok (.invokevirtual 159, 3) := by decide +kernel
theorem dX6_form_22 : decode cX6_form 22 = .ok (.ifCond .ne 13, 3) := by decide +kernel
theorem dX6_form_25 : decode cX6_form 25 = .ok (.new 80, 3) := by decide +kernel
theorem dX6_form_28 : decode cX6_form 28 = .ok (.dup, 1) := by decide +kernel
theorem dX6_form_29 : decode cX6_form 29 = .ok (.ldc 162, 2) := by decide +kernel
theorem dX6_form_31 : decode cX6_form 31 = .ok (.invokespecial 84, 3) := by decide +kernel
theorem dX6_form_34 : decode cX6_form 34 = .ok (.athrow, 1) := by decide +kernel
theorem dX6_form_35 : decode cX6_form 35 = .ok (.aload_n 0, 1) := by decide +kernel
theorem dX6_form_36 : decode cX6_form 36 = .ok (.getfield 36, 3) := by decide +kernel
theorem dX6_form_39 : decode cX6_form 39 = .ok (.getfield 164, 3) := by decide +kernel
theorem dX6_form_42 : decode cX6_form 42 = .ok (.iconst 0, 1) := by decide +kernel
theorem dX6_form_43 : decode cX6_form 43 = .ok (.aload_n 0, 1) := by decide +kernel
theorem dX6_form_44 : decode cX6_form 44 = .ok (.getfield 55, 3) := by decide +kernel
theorem dX6_form_47 : decode cX6_form 47 = .ok (.iconst 0, 1) := by decide +kernel
theorem dX6_form_48 : decode cX6_form 48 = .ok (.aload_n 0, 1) := by decide +kernel
theorem dX6_form_49 : decode cX6_form 49 = .ok (.getfield 36, 3) := by decide +kernel
theorem dX6_form_52 : decode cX6_form 52 = .ok (.getfield 167, 3) := by decide +kernel
theorem dX6_form_55 : decode cX6_form 55 = .ok (.invokestatic 170, 3) := by decide +kernel
theorem dX6_form_58 : decode cX6_form 58 = .ok (.aload_n 0, 1) := by decide +kernel
theorem dX6_form_59 : decode cX6_form 59 = .ok (.aload_n 0, 1) := by decide +kernel
theorem dX6_form_60 : decode cX6_form 60 = .ok (.getfield 36, 3) := by decide +kernel
theorem dX6_form_63 : decode cX6_form 63 = .ok (.getfield 167, 3) := by decide +kernel
theorem dX6_form_66 : decode cX6_form 66 = .ok (.putfield 58, 3) := by decide +kernel
theorem dX6_form_69 : decode cX6_form 69 = .ok (.aload_n 0, 1) := by decide +kernel
theorem dX6_form_70 : decode cX6_form 70 = .ok (.iconst 1, 1) := by decide +kernel
theorem dX6_form_71 : decode cX6_form 71 = .ok (.putfield 61, 3) := by decide +kernel
theorem dX6_form_74 : decode cX6_form 74 = .ok (.aload_n 0, 1) := by decide +kernel
theorem dX6_form_75 : decode cX6_form 75 = .ok (.getfield 58, 3) := by decide +kernel
theorem dX6_form_78 : decode cX6_form 78 = .ok (.ireturn, 1) := by decide +kernel
theorem dX6_at_0 : decode cX6_at 0 = .ok (.iload_n 1, 1) := by decide +kernel
theorem dX6_at_1 : decode cX6_at 1 = .ok (.ifCond .lt 11, 3) := by decide +kernel
theorem dX6_at_4 : decode cX6_at 4 = .ok (.iload_n 1, 1) := by decide +kernel
theorem dX6_at_5 : decode cX6_at 5 = .ok (.aload_n 0, 1) := by decide +kernel
theorem dX6_at_6 : decode cX6_at 6 = .ok (.getfield 58, 3) := by decide +kernel
theorem dX6_at_9 : decode cX6_at 9 = .ok (.if_icmp .lt 5, 3) := by decide +kernel
theorem dX6_at_12 : decode cX6_at 12 = .ok (.iconst (-1), 1) := by decide +kernel
theorem dX6_at_13 : decode cX6_at 13 = .ok (.ireturn, 1) := by decide +kernel
theorem dX6_at_14 : decode cX6_at 14 = .ok (.aload_n 0, 1) := by decide +kernel
theorem dX6_at_15 : decode cX6_at 15 = .ok (.getfield 55, 3) := by decide +kernel
theorem dX6_at_18 : decode cX6_at 18 = .ok (.iload_n 1, 1) := by decide +kernel
theorem dX6_at_19 : decode cX6_at 19 = .ok (.iaload, 1) := by decide +kernel
theorem dX6_at_20 : decode cX6_at 20 = .ok (.ireturn, 1) := by decide +kernel
theorem dX6_keep_0 : decode cX6_keep 0 = .ok (.aload_n 0, 1) := by decide +kernel
theorem dX6_keep_1 : decode cX6_keep 1 = .ok (.getfield 61, 3) := by decide +kernel
theorem dX6_keep_4 : decode cX6_keep 4 = .ok (.ifCond .ne 8, 3) := by decide +kernel
theorem dX6_keep_7 : decode cX6_keep 7 = .ok (.aload_n 0, 1) := by decide +kernel
theorem dX6_keep_8 : decode cX6_keep 8 = .ok (.getfield 51, 3) := by decide +kernel
theorem dX6_keep_11 : decode cX6_keep 11 = .ok (.ireturn, 1) := by decide +kernel
theorem dX6_keep_12 : decode cX6_keep 12 = .ok (.aload_n 0, 1) := by decide +kernel
theorem dX6_keep_13 : decode cX6_keep 13 = .ok (.getfield 58, 3) := by decide +kernel
theorem dX6_keep_16 : decode cX6_keep 16 = .ok (.sipush 1000, 3) := by decide +kernel
theorem dX6_keep_19 : decode cX6_keep 19 = .ok (.if_icmp .le 13, 3) := by decide +kernel
theorem dX6_keep_22 : decode cX6_keep 22 = .ok (.new 80, 3) := by decide +kernel
theorem dX6_keep_25 : decode cX6_keep 25 = .ok (.dup, 1) := by decide +kernel
theorem dX6_keep_26 : decode cX6_keep 26 = .ok (.ldc 148, 2) := by decide +kernel
theorem dX6_keep_28 : decode cX6_keep 28 = .ok (.invokespecial 84, 3) := by decide +kernel
theorem dX6_keep_31 : decode cX6_keep 31 = .ok (.athrow, 1) := by decide +kernel
theorem dX6_keep_32 : decode cX6_keep 32 = .ok (.aload_n 0, 1) := by decide +kernel
theorem dX6_keep_33 : decode cX6_keep 33 = .ok (.getfield 55, 3) := by decide +kernel
theorem dX6_keep_36 : decode cX6_keep 36 = .ok (.iconst 0, 1) := by decide +kernel
theorem dX6_keep_37 : decode cX6_keep 37 = .ok (.aload_n 0, 1) := by decide +kernel
theorem dX6_keep_38 : decode cX6_keep 38 = .ok (.getfield 47, 3) := by decide +kernel
theorem dX6_keep_41 : decode cX6_keep 41 = .ok (.iconst 0, 1) := by decide +kernel
theorem dX6_keep_42 : decode cX6_keep 42 = .ok (.aload_n 0, 1) := by decide +kernel
theorem dX6_keep_43 : decode cX6_keep 43 = .ok (.getfield 58, 3) := by decide +kernel
theorem dX6_keep_46 : decode cX6_keep 46 = .ok (.invokestatic 170, 3) := by decide +kernel
theorem dX6_keep_49 : decode cX6_keep 49 = .ok (.aload_n 0, 1) := by decide +kernel
theorem dX6_keep_50 : decode cX6_keep 50 = .ok (.aload_n 0, 1) := by decide +kernel
theorem dX6_keep_51 : decode cX6_keep 51 = .ok (.getfield 58, 3) := by decide +kernel
theorem dX6_keep_54 : decode cX6_keep 54 = .ok (.putfield 51, 3) := by decide +kernel
theorem dX6_keep_57 : decode cX6_keep 57 = .ok (.aload_n 0, 1) := by decide +kernel
theorem dX6_keep_58 : decode cX6_keep 58 = .ok (.getfield 51, 3) := by decide +kernel
theorem dX6_keep_61 : decode cX6_keep 61 = .ok (.ireturn, 1) := by decide +kernel
theorem dX6_isIn_0 : decode cX6_isIn 0 = .ok (.iload_n 1, 1) := by decide +kernel
theorem dX6_isIn_1 : decode cX6_isIn 1 = .ok (.invokestatic 154, 3) := by decide +kernel
theorem dX6_isIn_4 : decode cX6_isIn 4 = .ok (.ifCond .ne 13, 3) := by decide +kernel
theorem dX6_isIn_7 : decode cX6_isIn 7 = .ok (.new 69, 3) := by decide +kernel
theorem dX6_isIn_10 : decode cX6_isIn 10 = .ok (.dup, 1) := by decide +kernel
theorem dX6_isIn_11 : decode cX6_isIn 11 = .ok (.ldc 157, 2) := by decide +kernel
theorem dX6_isIn_13 : decode cX6_isIn 13 = .ok (.invokespecial 73, 3) := by decide +kernel
theorem dX6_isIn_16 : decode cX6_isIn 16 = .ok (.athrow, 1) := by decide +kernel
theorem dX6_isIn_17 : decode cX6_isIn 17 = .ok (.aload_n 0, 1) := by decide +kernel
theorem dX6_isIn_18 : decode cX6_isIn 18 = .ok (.iload_n 1, 1) := by decide +kernel
theorem dX6_isIn_19 : decode cX6_isIn 19 = .ok (.invokevirtual 159, 3) := by decide +kernel
theorem dX6_isIn_22 : decode cX6_isIn 22 = .ok (.ifCond .ne 13, 3) := by decide +kernel
theorem dX6_isIn_25 : decode cX6_isIn 25 = .ok (.new 80, 3) := by decide +kernel
theorem dX6_isIn_28 : decode cX6_isIn 28 = .ok (.dup, 1) := by decide +kernel
theorem dX6_isIn_29 : decode cX6_isIn 29 = .ok (.ldc 162, 2) := by decide +kernel
theorem dX6_isIn_31 : decode cX6_isIn 31 = .ok (.invokespecial 84, 3) := by decide +kernel
theorem dX6_isIn_34 : decode cX6_isIn 34 = .ok (.athrow, 1) := by decide +kernel
theorem dX6_isIn_35 : decode cX6_isIn 35 = .ok (.aload_n 0, 1) := by decide +kernel
theorem dX6_isIn_36 : decode cX6_isIn 36 = .ok (.getfield 36, 3) := by decide +kernel
theorem dX6_isIn_39 : decode cX6_isIn 39 = .ok (.aload_n 0, 1) := by decide +kernel
theorem dX6_isIn_40 : decode cX6_isIn 40 = .ok (.getfield 47, 3) := by decide +kernel
theorem dX6_isIn_43 : decode cX6_isIn 43 = .ok (.aload_n 0, 1) := by decide +kernel
theorem dX6_isIn_44 : decode cX6_isIn 44 = .ok (.getfield 51, 3) := by decide +kernel
theorem dX6_isIn_47 : decode cX6_isIn 47 = .ok (.invokevirtual 176, 3) := by decide +kernel
theorem dX6_isIn_50 : decode cX6_isIn 50 = .ok (.ireturn, 1) := by decide +kernel
theorem dX6_ends_0 : decode cX6_ends 0 = .ok (.aload_n 0, 1) := by decide +kernel
theorem dX6_ends_1 : decode cX6_ends 1 = .ok (.iload_n 1, 1) := by decide +kernel
theorem dX6_ends_2 : decode cX6_ends 2 = .ok (.invokevirtual 180, 3) := by decide +kernel
theorem dX6_ends_5 : decode cX6_ends 5 = .ok (.ifCond .ne 13, 3) := by decide +kernel
theorem dX6_ends_8 : decode cX6_ends 8 = .ok (.new 183, 3) := by decide +kernel
theorem dX6_ends_11 : decode cX6_ends 11 = .ok (.dup, 1) := by decide +kernel
theorem dX6_ends_12 : decode cX6_ends 12 = .ok (.ldc 185, 2) := by decide +kernel
theorem dX6_ends_14 : decode cX6_ends 14 = .ok (.invokespecial 187, 3) := by decide +kernel
theorem dX6_ends_17 : decode cX6_ends 17 = .ok (.athrow, 1) := by decide +kernel
theorem dX6_ends_18 : decode cX6_ends 18 = .ok (.aload_n 0, 1) := by decide +kernel
theorem dX6_ends_19 : decode cX6_ends 19 = .ok (.getfield 51, 3) := by decide +kernel
theorem dX6_ends_22 : decode cX6_ends 22 = .ok (.ifCond .le 18, 3) := by decide +kernel
theorem dX6_ends_25 : decode cX6_ends 25 = .ok (.aload_n 0, 1) := by decide +kernel
theorem dX6_ends_26 : decode cX6_ends 26 = .ok (.iload_n 1, 1) := by decide +kernel
theorem dX6_ends_27 : decode cX6_ends 27 = .ok (.invokevirtual 188, 3) := by decide +kernel
theorem dX6_ends_30 : decode cX6_ends 30 = .ok (.invokestatic 192, 3) := by decide +kernel
theorem dX6_ends_33 : decode cX6_ends 33 = .ok (.ifCond .eq 7, 3) := by decide +kernel
theorem dX6_ends_36 : decode cX6_ends 36 = .ok (.iconst 1, 1) := by decide +kernel
theorem dX6_ends_37 : decode cX6_ends 37 = .ok (.goto 4, 3) := by decide +kernel
theorem dX6_ends_40 : decode cX6_ends 40 = .ok (.iconst 0, 1) := by decide +kernel
theorem dX6_ends_41 : decode cX6_ends 41 = .ok (.ireturn, 1) := by decide +kernel
theorem dX6_rule_0 : decode cX6_rule 0 = .ok (.aload_n 0, 1) := by decide +kernel
theorem dX6_rule_1 : decode cX6_rule 1 = .ok (.iload_n 1, 1) := by decide +kernel
theorem dX6_rule_2 : decode cX6_rule 2 = .ok (.invokevirtual 180, 3) := by decide +kernel
theorem dX6_rule_5 : decode cX6_rule 5 = .ok (.ifCond .ne 13, 3) := by decide +kernel
theorem dX6_rule_8 : decode cX6_rule 8 = .ok (.new 183, 3) := by decide +kernel
theorem dX6_rule_11 : decode cX6_rule 11 = .ok (.dup, 1) := by decide +kernel
theorem dX6_rule_12 : decode cX6_rule 12 = .ok (.ldc 185, 2) := by decide +kernel
theorem dX6_rule_14 : decode cX6_rule 14 = .ok (.invokespecial 187, 3) := by decide +kernel
theorem dX6_rule_17 : decode cX6_rule 17 = .ok (.athrow, 1) := by decide +kernel
theorem dX6_rule_18 : decode cX6_rule 18 = .ok (.aload_n 0, 1) := by decide +kernel
theorem dX6_rule_19 : decode cX6_rule 19 = .ok (.iload_n 1, 1) := by decide +kernel
theorem dX6_rule_20 : decode cX6_rule 20 = .ok (.invokevirtual 188, 3) := by decide +kernel
theorem dX6_rule_23 : decode cX6_rule 23 = .ok (.ireturn, 1) := by decide +kernel
theorem dX6_readers_0 : decode cX6_readers 0 = .ok (.iconst 0, 1) := by decide +kernel
theorem dX6_readers_1 : decode cX6_readers 1 = .ok (.istore_n 1, 1) := by decide +kernel
theorem dX6_readers_2 : decode cX6_readers 2 = .ok (.aload_n 0, 1) := by decide +kernel
theorem dX6_readers_3 : decode cX6_readers 3 = .ok (.getfield 43, 3) := by decide +kernel
theorem dX6_readers_6 : decode cX6_readers 6 = .ok (.invokevirtual 195, 3) := by decide +kernel
theorem dX6_readers_9 : decode cX6_readers 9 = .ok (.iconst 0, 1) := by decide +kernel
theorem dX6_readers_10 : decode cX6_readers 10 = .ok (.istore_n 2, 1) := by decide +kernel
theorem dX6_readers_11 : decode cX6_readers 11 = .ok (.iload_n 2, 1) := by decide +kernel
theorem dX6_readers_12 : decode cX6_readers 12 = .ok (.aload_n 0, 1) := by decide +kernel
theorem dX6_readers_13 : decode cX6_readers 13 = .ok (.getfield 51, 3) := by decide +kernel
theorem dX6_readers_16 : decode cX6_readers 16 = .ok (.if_icmp .ge 52, 3) := by decide +kernel
theorem dX6_readers_19 : decode cX6_readers 19 = .ok (.aload_n 0, 1) := by decide +kernel
theorem dX6_readers_20 : decode cX6_readers 20 = .ok (.getfield 16, 3) := by decide +kernel
theorem dX6_readers_23 : decode cX6_readers 23 = .ok (.aload_n 0, 1) := by decide +kernel
theorem dX6_readers_24 : decode cX6_readers 24 = .ok (.getfield 47, 3) := by decide +kernel
theorem dX6_readers_27 : decode cX6_readers 27 = .ok (.iload_n 2, 1) := by decide +kernel
theorem dX6_readers_28 : decode cX6_readers 28 = .ok (.iaload, 1) := by decide +kernel
theorem dX6_readers_29 : decode cX6_readers 29 = .ok (.invokevirtual 198, 3) := by decide +kernel
theorem dX6_readers_32 : decode cX6_readers 32 = .ok (.istore_n 3, 1) := by decide +kernel
theorem dX6_readers_33 : decode cX6_readers 33 = .ok (.iload_n 2, 1) := by decide +kernel
theorem dX6_readers_34 : decode cX6_readers 34 = .ok (.ifCond .eq 17, 3) := by decide +kernel
theorem dX6_readers_37 : decode cX6_readers 37 = .ok (.aload_n 0, 1) := by decide +kernel
theorem dX6_readers_38 : decode cX6_readers 38 = .ok (.getfield 43, 3) := by decide +kernel
theorem dX6_readers_41 : decode cX6_readers 41 = .ok (.iload_n 3, 1) := by decide +kernel
theorem dX6_readers_42 : decode cX6_readers 42 = .ok (.invokevirtual 201, 3) := by decide +kernel
theorem dX6_readers_45 : decode cX6_readers 45 = .ok (.invokestatic 192, 3) := by decide +kernel
theorem dX6_readers_48 : decode cX6_readers 48 = .ok (.ifCond .eq 6, 3) := by decide +kernel
theorem dX6_readers_51 : decode cX6_readers 51 = .ok (.iinc 1 1, 3) := by decide +kernel
theorem dX6_readers_54 : decode cX6_readers 54 = .ok (.aload_n 0, 1) := by decide +kernel
theorem dX6_readers_55 : decode cX6_readers 55 = .ok (.getfield 43, 3) := by decide +kernel
theorem dX6_readers_58 : decode cX6_readers 58 = .ok (.iload_n 3, 1) := by decide +kernel
theorem dX6_readers_59 : decode cX6_readers 59 = .ok (.invokevirtual 204, 3) := by decide +kernel
theorem dX6_readers_62 : decode cX6_readers 62 = .ok (.iinc 2 1, 3) := by decide +kernel
theorem dX6_readers_65 : decode cX6_readers 65 = .ok (.goto (-54), 3) := by decide +kernel
theorem dX6_readers_68 : decode cX6_readers 68 = .ok (.iload_n 1, 1) := by decide +kernel
theorem dX6_readers_69 : decode cX6_readers 69 = .ok (.ireturn, 1) := by decide +kernel
theorem dX6_ruleAt_0 : decode cX6_ruleAt 0 = .ok (.iload_n 1, 1) := by decide +kernel
theorem dX6_ruleAt_1 : decode cX6_ruleAt 1 = .ok (.ifCond .ne 5, 3) := by decide +kernel
theorem dX6_ruleAt_4 : decode cX6_ruleAt 4 = .ok (.iconst 1, 1) := by decide +kernel
theorem dX6_ruleAt_5 : decode cX6_ruleAt 5 = .ok (.ireturn, 1) := by decide +kernel
theorem dX6_ruleAt_6 : decode cX6_ruleAt 6 = .ok (.iload_n 1, 1) := by decide +kernel
theorem dX6_ruleAt_7 : decode cX6_ruleAt 7 = .ok (.aload_n 0, 1) := by decide +kernel
theorem dX6_ruleAt_8 : decode cX6_ruleAt 8 = .ok (.getfield 51, 3) := by decide +kernel
theorem dX6_ruleAt_11 : decode cX6_ruleAt 11 = .ok (.if_icmp .lt 5, 3) := by decide +kernel
theorem dX6_ruleAt_14 : decode cX6_ruleAt 14 = .ok (.iconst 2, 1) := by decide +kernel
theorem dX6_ruleAt_15 : decode cX6_ruleAt 15 = .ok (.ireturn, 1) := by decide +kernel
theorem dX6_ruleAt_16 : decode cX6_ruleAt 16 = .ok (.aload_n 0, 1) := by decide +kernel
theorem dX6_ruleAt_17 : decode cX6_ruleAt 17 = .ok (.getfield 43, 3) := by decide +kernel
theorem dX6_ruleAt_20 : decode cX6_ruleAt 20 = .ok (.invokevirtual 195, 3) := by decide +kernel
theorem dX6_ruleAt_23 : decode cX6_ruleAt 23 = .ok (.iconst 0, 1) := by decide +kernel
theorem dX6_ruleAt_24 : decode cX6_ruleAt 24 = .ok (.istore_n 2, 1) := by decide +kernel
theorem dX6_ruleAt_25 : decode cX6_ruleAt 25 = .ok (.iload_n 2, 1) := by decide +kernel
theorem dX6_ruleAt_26 : decode cX6_ruleAt 26 = .ok (.iload_n 1, 1) := by decide +kernel
theorem dX6_ruleAt_27 : decode cX6_ruleAt 27 = .ok (.if_icmp .ge 29, 3) := by decide +kernel
theorem dX6_ruleAt_30 : decode cX6_ruleAt 30 = .ok (.aload_n 0, 1) := by decide +kernel
theorem dX6_ruleAt_31 : decode cX6_ruleAt 31 = .ok (.getfield 43, 3) := by decide +kernel
theorem dX6_ruleAt_34 : decode cX6_ruleAt 34 = .ok (.aload_n 0, 1) := by decide +kernel
theorem dX6_ruleAt_35 : decode cX6_ruleAt 35 = .ok (.getfield 16, 3) := by decide +kernel
theorem dX6_ruleAt_38 : decode cX6_ruleAt 38 = .ok (.aload_n 0, 1) := by decide +kernel
theorem dX6_ruleAt_39 : decode cX6_ruleAt 39 = .ok (.getfield 47, 3) := by decide +kernel
theorem dX6_ruleAt_42 : decode cX6_ruleAt 42 = .ok (.iload_n 2, 1) := by decide +kernel
theorem dX6_ruleAt_43 : decode cX6_ruleAt 43 = .ok (.iaload, 1) := by decide +kernel
theorem dX6_ruleAt_44 : decode cX6_ruleAt 44 = .ok (.invokevirtual 198, 3) := by decide +kernel
theorem dX6_ruleAt_47 : decode cX6_ruleAt 47 = .ok (.invokevirtual 204, 3) := by decide +kernel
theorem dX6_ruleAt_50 : decode cX6_ruleAt 50 = .ok (.iinc 2 1, 3) := by decide +kernel
theorem dX6_ruleAt_53 : decode cX6_ruleAt 53 = .ok (.goto (-28), 3) := by decide +kernel
theorem dX6_ruleAt_56 : decode cX6_ruleAt 56 = .ok (.aload_n 0, 1) := by decide +kernel
theorem dX6_ruleAt_57 : decode cX6_ruleAt 57 = .ok (.getfield 43, 3) := by decide +kernel
theorem dX6_ruleAt_60 : decode cX6_ruleAt 60 = .ok (.aload_n 0, 1) := by decide +kernel
theorem dX6_ruleAt_61 : decode cX6_ruleAt 61 = .ok (.getfield 16, 3) := by decide +kernel
theorem dX6_ruleAt_64 : decode cX6_ruleAt 64 = .ok (.aload_n 0, 1) := by decide +kernel
theorem dX6_ruleAt_65 : decode cX6_ruleAt 65 = .ok (.getfield 47, 3) := by decide +kernel
theorem dX6_ruleAt_68 : decode cX6_ruleAt 68 = .ok (.iload_n 1, 1) := by decide +kernel
theorem dX6_ruleAt_69 : decode cX6_ruleAt 69 = .ok (.iaload, 1) := by decide +kernel
theorem dX6_ruleAt_70 : decode cX6_ruleAt 70 = .ok (.invokevirtual 198, 3) := by decide +kernel
theorem dX6_ruleAt_73 : decode cX6_ruleAt 73 = .ok (.invokevirtual 201, 3) := by decide +kernel
theorem dX6_ruleAt_76 : decode cX6_ruleAt 76 = .ok (.ireturn, 1) := by decide +kernel
theorem dX6_makeDraft_0 : decode cX6_makeDraft 0 = .ok (.aload_n 0, 1) := by decide +kernel
theorem dX6_makeDraft_1 : decode cX6_makeDraft 1 = .ok (.getfield 36, 3) := by decide +kernel
theorem dX6_makeDraft_4 : decode cX6_makeDraft 4 = .ok (.aload_n 0, 1) := by decide +kernel
theorem dX6_makeDraft_5 : decode cX6_makeDraft 5 = .ok (.getfield 47, 3) := by decide +kernel
theorem dX6_makeDraft_8 : decode cX6_makeDraft 8 = .ok (.aload_n 0, 1) := by decide +kernel
theorem dX6_makeDraft_9 : decode cX6_makeDraft 9 = .ok (.getfield 51, 3) := by decide +kernel
theorem dX6_makeDraft_12 : decode cX6_makeDraft 12 = .ok (.aload_n 0, 1) := by decide +kernel
theorem dX6_makeDraft_13 : decode cX6_makeDraft 13 = .ok (.getfield 22, 3) := by decide +kernel
theorem dX6_makeDraft_16 : decode cX6_makeDraft 16 = .ok (.iload_n 1, 1) := by decide +kernel
theorem dX6_makeDraft_17 : decode cX6_makeDraft 17 = .ok (.iconst 2, 1) := by decide +kernel
theorem dX6_makeDraft_18 : decode cX6_makeDraft 18 = .ok (.if_icmp .lt 7, 3) := by decide +kernel
theorem dX6_makeDraft_21 : decode cX6_makeDraft 21 = .ok (.iconst 1, 1) := by decide +kernel
theorem dX6_makeDraft_22 : decode cX6_makeDraft 22 = .ok (.goto 4, 3) := by decide +kernel
theorem dX6_makeDraft_25 : decode cX6_makeDraft 25 = .ok (.iconst 0, 1) := by decide +kernel
theorem dX6_makeDraft_26 : decode cX6_makeDraft 26 = .ok (.invokevirtual 207, 3) := by decide +kernel
theorem dX6_makeDraft_29 : decode cX6_makeDraft 29 = .ok (.ifCond .ne 5, 3) := by decide +kernel
theorem dX6_makeDraft_32 : decode cX6_makeDraft 32 = .ok (.iconst 0, 1) := by decide +kernel
theorem dX6_makeDraft_33 : decode cX6_makeDraft 33 = .ok (.ireturn, 1) := by decide +kernel
theorem dX6_makeDraft_34 : decode cX6_makeDraft 34 = .ok (.aload_n 0, 1) := by decide +kernel
theorem dX6_makeDraft_35 : decode cX6_makeDraft 35 = .ok (.getfield 36, 3) := by decide +kernel
theorem dX6_makeDraft_38 : decode cX6_makeDraft 38 = .ok (.aload_n 0, 1) := by decide +kernel
theorem dX6_makeDraft_39 : decode cX6_makeDraft 39 = .ok (.getfield 10, 3) := by decide +kernel
theorem dX6_makeDraft_42 : decode cX6_makeDraft 42 = .ok (.invokevirtual 211, 3) := by decide +kernel
theorem dX6_makeDraft_45 : decode cX6_makeDraft 45 = .ok (.aload_n 0, 1) := by decide +kernel
theorem dX6_makeDraft_46 : decode cX6_makeDraft 46 = .ok (.getfield 36, 3) := by decide +kernel
theorem dX6_makeDraft_49 : decode cX6_makeDraft 49 = .ok (.invokevirtual 215, 3) := by decide +kernel
theorem dX6_makeDraft_52 : decode cX6_makeDraft 52 = .ok (.iload_n 1, 1) := by decide +kernel
theorem dX6_makeDraft_53 : decode cX6_makeDraft 53 = .ok (.iconst 2, 1) := by decide +kernel
theorem dX6_makeDraft_54 : decode cX6_makeDraft 54 = .ok (.irem, 1) := by decide +kernel
theorem dX6_makeDraft_55 : decode cX6_makeDraft 55 = .ok (.iconst 1, 1) := by decide +kernel
theorem dX6_makeDraft_56 : decode cX6_makeDraft 56 = .ok (.if_icmp .ne 22, 3) := by decide +kernel
theorem dX6_makeDraft_59 : decode cX6_makeDraft 59 = .ok (.aload_n 0, 1) := by decide +kernel
theorem dX6_makeDraft_60 : decode cX6_makeDraft 60 = .ok (.getfield 36, 3) := by decide +kernel
theorem dX6_makeDraft_63 : decode cX6_makeDraft 63 = .ok (.aload_n 0, 1) := by decide +kernel
theorem dX6_makeDraft_64 : decode cX6_makeDraft 64 = .ok (.getfield 22, 3) := by decide +kernel
theorem dX6_makeDraft_67 : decode cX6_makeDraft 67 = .ok (.aload_n 0, 1) := by decide +kernel
theorem dX6_makeDraft_68 : decode cX6_makeDraft 68 = .ok (.getfield 10, 3) := by decide +kernel
theorem dX6_makeDraft_71 : decode cX6_makeDraft 71 = .ok (.aload_n 0, 1) := by decide +kernel
theorem dX6_makeDraft_72 : decode cX6_makeDraft 72 = .ok (.getfield 29, 3) := by decide +kernel
theorem dX6_makeDraft_75 : decode cX6_makeDraft 75 = .ok (.invokevirtual 218, 3) := by decide +kernel
theorem dX6_makeDraft_78 : decode cX6_makeDraft 78 = .ok (.iconst 1, 1) := by decide +kernel
theorem dX6_makeDraft_79 : decode cX6_makeDraft 79 = .ok (.ireturn, 1) := by decide +kernel
theorem dX6_mayHaveRow_0 : decode cX6_mayHaveRow 0 = .ok (.iload_n 1, 1) := by decide +kernel
theorem dX6_mayHaveRow_1 : decode cX6_mayHaveRow 1 = .ok (.invokestatic 97, 3) := by decide +kernel
theorem dX6_mayHaveRow_4 : decode cX6_mayHaveRow 4 = .ok (.ifCond .eq 25, 3) := by decide +kernel
theorem dX6_mayHaveRow_7 : decode cX6_mayHaveRow 7 = .ok (.iload_n 1, 1) := by decide +kernel
theorem dX6_mayHaveRow_8 : decode cX6_mayHaveRow 8 = .ok (.invokestatic 222, 3) := by decide +kernel
theorem dX6_mayHaveRow_11 : decode cX6_mayHaveRow 11 = .ok (.ifCond .ne 18, 3) := by decide +kernel
theorem dX6_mayHaveRow_14 : decode cX6_mayHaveRow 14 = .ok (.aload_n 0, 1) := by decide +kernel
theorem dX6_mayHaveRow_15 : decode cX6_mayHaveRow 15 = .ok (.getfield 22, 3) := by decide +kernel
theorem dX6_mayHaveRow_18 : decode cX6_mayHaveRow 18 = .ok (.iload_n 1, 1) := by decide +kernel
theorem dX6_mayHaveRow_19 : decode cX6_mayHaveRow 19 = .ok (.invokevirtual 225, 3) := by decide +kernel
theorem dX6_mayHaveRow_22 : decode cX6_mayHaveRow 22 = .ok (.ifCond .ne 7, 3) := by decide +kernel
theorem dX6_mayHaveRow_25 : decode cX6_mayHaveRow 25 = .ok (.iconst 1, 1) := by decide +kernel
theorem dX6_mayHaveRow_26 : decode cX6_mayHaveRow 26 = .ok (.goto 4, 3) := by decide +kernel
theorem dX6_mayHaveRow_29 : decode cX6_mayHaveRow 29 = .ok (.iconst 0, 1) := by decide +kernel
theorem dX6_mayHaveRow_30 : decode cX6_mayHaveRow 30 = .ok (.ireturn, 1) := by decide +kernel
theorem dX6_isPlace_0 : decode cX6_isPlace 0 = .ok (.iload_n 1, 1) := by decide +kernel
theorem dX6_isPlace_1 : decode cX6_isPlace 1 = .ok (.ifCond .lt 15, 3) := by decide +kernel
theorem dX6_isPlace_4 : decode cX6_isPlace 4 = .ok (.iload_n 1, 1) := by decide +kernel
theorem dX6_isPlace_5 : decode cX6_isPlace 5 = .ok (.aload_n 0, 1) := by decide +kernel
theorem dX6_isPlace_6 : decode cX6_isPlace 6 = .ok (.getfield 51, 3) := by decide +kernel
theorem dX6_isPlace_9 : decode cX6_isPlace 9 = .ok (.if_icmp .gt 7, 3) := by decide +kernel
theorem dX6_isPlace_12 : decode cX6_isPlace 12 = .ok (.iconst 1, 1) := by decide +kernel
theorem dX6_isPlace_13 : decode cX6_isPlace 13 = .ok (.goto 4, 3) := by decide +kernel
theorem dX6_isPlace_16 : decode cX6_isPlace 16 = .ok (.iconst 0, 1) := by decide +kernel
theorem dX6_isPlace_17 : decode cX6_isPlace 17 = .ok (.ireturn, 1) := by decide +kernel
theorem dX6_isForm_0 : decode cX6_isForm 0 = .ok (.iload_n 0, 1) := by decide +kernel
theorem dX6_isForm_1 : decode cX6_isForm 1 = .ok (.ifCond .lt 12, 3) := by decide +kernel
theorem dX6_isForm_4 : decode cX6_isForm 4 = .ok (.iload_n 0, 1) := by decide +kernel
theorem dX6_isForm_5 : decode cX6_isForm 5 = .ok (.iconst 3, 1) := by decide +kernel
theorem dX6_isForm_6 : decode cX6_isForm 6 = .ok (.if_icmp .gt 7, 3) := by decide +kernel
theorem dX6_isForm_9 : decode cX6_isForm 9 = .ok (.iconst 1, 1) := by decide +kernel
theorem dX6_isForm_10 : decode cX6_isForm 10 = .ok (.goto 4, 3) := by decide +kernel
theorem dX6_isForm_13 : decode cX6_isForm 13 = .ok (.iconst 0, 1) := by decide +kernel
theorem dX6_isForm_14 : decode cX6_isForm 14 = .ok (.ireturn, 1) := by decide +kernel
theorem dX6_isCharacter_0 : decode cX6_isCharacter 0 = .ok (.iload_n 0, 1) := by decide +kernel
theorem dX6_isCharacter_1 : decode cX6_isCharacter 1 = .ok (.ifCond .lt 13, 3) := by decide +kernel
theorem dX6_isCharacter_4 : decode cX6_isCharacter 4 = .ok (.iload_n 0, 1) := by decide +kernel
theorem dX6_isCharacter_5 : decode cX6_isCharacter 5 = .ok (.ldc 226, 2) := by decide +kernel
theorem dX6_isCharacter_7 : decode cX6_isCharacter 7 = .ok (.if_icmp .gt 7, 3) := by decide +kernel
theorem dX6_isCharacter_10 : decode cX6_isCharacter 10 = .ok (.iconst 1, 1) := by decide +kernel
theorem dX6_isCharacter_11 : decode cX6_isCharacter 11 = .ok (.goto 4, 3) := by decide +kernel
theorem dX6_isCharacter_14 : decode cX6_isCharacter 14 = .ok (.iconst 0, 1) := by decide +kernel
theorem dX6_isCharacter_15 : decode cX6_isCharacter 15 = .ok (.ireturn, 1) := by decide +kernel
theorem dX6_isCharacterOrNone_0 : decode cX6_isCharacterOrNone 0 = .ok (.iload_n 0, 1) := by decide +kernel
theorem dX6_isCharacterOrNone_1 : decode cX6_isCharacterOrNone 1 = .ok (.iconst (-1), 1) := by decide +kernel
theorem dX6_isCharacterOrNone_2 : decode cX6_isCharacterOrNone 2 = .ok (.if_icmp .eq 10, 3) := by decide +kernel
theorem dX6_isCharacterOrNone_5 : decode cX6_isCharacterOrNone 5 = .ok (.iload_n 0, 1) := by decide +kernel
theorem dX6_isCharacterOrNone_6 : decode cX6_isCharacterOrNone 6 = .ok (.invokestatic 97, 3) := by decide +kernel
theorem dX6_isCharacterOrNone_9 : decode cX6_isCharacterOrNone 9 = .ok (.ifCond .eq 7, 3) := by decide +kernel
theorem dX6_isCharacterOrNone_12 : decode cX6_isCharacterOrNone 12 = .ok (.iconst 1, 1) := by decide +kernel
theorem dX6_isCharacterOrNone_13 : decode cX6_isCharacterOrNone 13 = .ok (.goto 4, 3) := by decide +kernel
theorem dX6_isCharacterOrNone_16 : decode cX6_isCharacterOrNone 16 = .ok (.iconst 0, 1) := by decide +kernel
theorem dX6_isCharacterOrNone_17 : decode cX6_isCharacterOrNone 17 = .ok (.ireturn, 1) := by decide +kernel
theorem dX6_isRange_0 : decode cX6_isRange 0 = .ok (.iload_n 0, 1) := by decide +kernel
theorem dX6_isRange_1 : decode cX6_isRange 1 = .ok (.invokestatic 97, 3) := by decide +kernel
theorem dX6_isRange_4 : decode cX6_isRange 4 = .ok (.ifCond .eq 19, 3) := by decide +kernel
theorem dX6_isRange_7 : decode cX6_isRange 7 = .ok (.iload_n 1, 1) := by decide +kernel
theorem dX6_isRange_8 : decode cX6_isRange 8 = .ok (.invokestatic 97, 3) := by decide +kernel
theorem dX6_isRange_11 : decode cX6_isRange 11 = .ok (.ifCond .eq 12, 3) := by decide +kernel
theorem dX6_isRange_14 : decode cX6_isRange 14 = .ok (.iload_n 0, 1) := by decide +kernel
theorem dX6_isRange_15 : decode cX6_isRange 15 = .ok (.iload_n 1, 1) := by decide +kernel
theorem dX6_isRange_16 : decode cX6_isRange 16 = .ok (.if_icmp .gt 7, 3) := by decide +kernel
theorem dX6_isRange_19 : decode cX6_isRange 19 = .ok (.iconst 1, 1) := by decide +kernel
theorem dX6_isRange_20 : decode cX6_isRange 20 = .ok (.goto 4, 3) := by decide +kernel
theorem dX6_isRange_23 : decode cX6_isRange 23 = .ok (.iconst 0, 1) := by decide +kernel
theorem dX6_isRange_24 : decode cX6_isRange 24 = .ok (.ireturn, 1) := by decide +kernel
theorem dX6_pick_0 : decode cX6_pick 0 = .ok (.iload_n 0, 1) := by decide +kernel
theorem dX6_pick_1 : decode cX6_pick 1 = .ok (.tableswitch 40 0 3 #[31, 33, 35, 37], 31) := by decide +kernel
theorem dX6_pick_32 : decode cX6_pick 32 = .ok (.iload_n 1, 1) := by decide +kernel
theorem dX6_pick_33 : decode cX6_pick 33 = .ok (.ireturn, 1) := by decide +kernel
theorem dX6_pick_34 : decode cX6_pick 34 = .ok (.iload_n 2, 1) := by decide +kernel
theorem dX6_pick_35 : decode cX6_pick 35 = .ok (.ireturn, 1) := by decide +kernel
theorem dX6_pick_36 : decode cX6_pick 36 = .ok (.iload_n 3, 1) := by decide +kernel
theorem dX6_pick_37 : decode cX6_pick 37 = .ok (.ireturn, 1) := by decide +kernel
theorem dX6_pick_38 : decode cX6_pick 38 = .ok (.iload 4, 2) := by decide +kernel
theorem dX6_pick_40 : decode cX6_pick 40 = .ok (.ireturn, 1) := by decide +kernel
theorem dX6_pick_41 : decode cX6_pick 41 = .ok (.iload 5, 2) := by decide +kernel
theorem dX6_pick_43 : decode cX6_pick 43 = .ok (.ireturn, 1) := by decide +kernel
theorem dX6_countUpToNone_0 : decode cX6_countUpToNone 0 = .ok (.iconst 0, 1) := by decide +kernel
theorem dX6_countUpToNone_1 : decode cX6_countUpToNone 1 = .ok (.istore 5, 2) := by decide +kernel
theorem dX6_countUpToNone_3 : decode cX6_countUpToNone 3 = .ok (.iload 5, 2) := by decide +kernel
theorem dX6_countUpToNone_5 : decode cX6_countUpToNone 5 = .ok (.iconst 5, 1) := by decide +kernel
theorem dX6_countUpToNone_6 : decode cX6_countUpToNone 6 = .ok (.if_icmp .ge 24, 3) := by decide +kernel
theorem dX6_countUpToNone_9 : decode cX6_countUpToNone 9 = .ok (.iload 5, 2) := by decide +kernel
theorem dX6_countUpToNone_11 : decode cX6_countUpToNone 11 = .ok (.iload_n 0, 1) := by decide +kernel
theorem dX6_countUpToNone_12 : decode cX6_countUpToNone 12 = .ok (.iload_n 1, 1) := by decide +kernel
theorem dX6_countUpToNone_13 : decode cX6_countUpToNone 13 = .ok (.iload_n 2, 1) := by decide +kernel
theorem dX6_countUpToNone_14 : decode cX6_countUpToNone 14 = .ok (.iload_n 3, 1) := by decide +kernel
theorem dX6_countUpToNone_15 : decode cX6_countUpToNone 15 = .ok (.iload 4, 2) := by decide +kernel
theorem dX6_countUpToNone_17 : decode cX6_countUpToNone 17 = .ok (.invokestatic 150, 3) := by decide +kernel
theorem dX6_countUpToNone_20 : decode cX6_countUpToNone 20 = .ok (.iconst (-1), 1) := by decide +kernel
theorem dX6_countUpToNone_21 : decode cX6_countUpToNone 21 = .ok (.if_icmp .eq 9, 3) := by decide +kernel
theorem dX6_countUpToNone_24 : decode cX6_countUpToNone 24 = .ok (.iinc 5 1, 3) := by decide +kernel
theorem dX6_countUpToNone_27 : decode cX6_countUpToNone 27 = .ok (.goto (-24), 3) := by decide +kernel
theorem dX6_countUpToNone_30 : decode cX6_countUpToNone 30 = .ok (.iload 5, 2) := by decide +kernel
theorem dX6_countUpToNone_32 : decode cX6_countUpToNone 32 = .ok (.ireturn, 1) := by decide +kernel
theorem dX6_areCharacters_0 : decode cX6_areCharacters 0 = .ok (.iconst 0, 1) := by decide +kernel
theorem dX6_areCharacters_1 : decode cX6_areCharacters 1 = .ok (.istore 6, 2) := by decide +kernel
theorem dX6_areCharacters_3 : decode cX6_areCharacters 3 = .ok (.iload 6, 2) := by decide +kernel
theorem dX6_areCharacters_5 : decode cX6_areCharacters 5 = .ok (.iload_n 0, 1) := by decide +kernel
theorem dX6_areCharacters_6 : decode cX6_areCharacters 6 = .ok (.if_icmp .ge 29, 3) := by decide +kernel
theorem dX6_areCharacters_9 : decode cX6_areCharacters 9 = .ok (.iload 6, 2) := by decide +kernel
theorem dX6_areCharacters_11 : decode cX6_areCharacters 11 = .ok (.iload_n 1, 1) := by decide +kernel
theorem dX6_areCharacters_12 : decode cX6_areCharacters 12 = .ok (.iload_n 2, 1) := by decide +kernel
theorem dX6_areCharacters_13 : decode cX6_areCharacters 13 = .ok (.iload_n 3, 1) := by decide +kernel
theorem dX6_areCharacters_14 : decode cX6_areCharacters 14 = .ok (.iload 4, 2) := by decide +kernel
theorem dX6_areCharacters_16 : decode cX6_areCharacters 16 = .ok (.iload 5, 2) := by decide +kernel
theorem dX6_areCharacters_18 : decode cX6_areCharacters 18 = .ok (.invokestatic 150, 3) := by decide +kernel
theorem dX6_areCharacters_21 : decode cX6_areCharacters 21 = .ok (.invokestatic 97, 3) := by decide +kernel
theorem dX6_areCharacters_24 : decode cX6_areCharacters 24 = .ok (.ifCond .ne 5, 3) := by decide +kernel
theorem dX6_areCharacters_27 : decode cX6_areCharacters 27 = .ok (.iconst 0, 1) := by decide +kernel
theorem dX6_areCharacters_28 : decode cX6_areCharacters 28 = .ok (.ireturn, 1) := by decide +kernel
theorem dX6_areCharacters_29 : decode cX6_areCharacters 29 = .ok (.iinc 6 1, 3) := by decide +kernel
theorem dX6_areCharacters_32 : decode cX6_areCharacters 32 = .ok (.goto (-29), 3) := by decide +kernel
theorem dX6_areCharacters_35 : decode cX6_areCharacters 35 = .ok (.iconst 1, 1) := by decide +kernel
theorem dX6_areCharacters_36 : decode cX6_areCharacters 36 = .ok (.ireturn, 1) := by decide +kernel
